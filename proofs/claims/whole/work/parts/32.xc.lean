/-! METHODS (printed by wip/whole/emit.py) -/
section METH
variable {p : Program} {l : Launch} {e : Env} {s : State} {m : MethodId} {av : Array Value} {below : List Frame} {meth : Method} {c : Code} {D : va_G} {ad : Nat → Nat} {cs : Nat → ClassId} {ts adK adV : Nat → Nat}
def fX8_isDigit (x0 : Int32) : Int32 :=
  (fX11_within x0 (48 : Int32) (57 : Int32))
set_option maxHeartbeats 2000000 in
set_option maxRecDepth 20000 in
theorem tX8_isDigit {r : Int32} {σ : St} {x0 : Int32} (hf : fX8_isDigit x0 = r) : CI l (XWd D ad cs ts adK adV) yX8_isDigit cX8_isDigit 1 (some .boolean) 1 22 [.int x0] σ r σ := by
  refine CI.of (by decide) (Nat.le_of_ble_eq_true rfl) ?_
  intro p e s m below meth c ls S hr hlk hw hl
  have hl : lv_has ls 1 [(0, .int x0)] := hl
  unfold fX8_isDigit at hf
  refine lv_iload_n S.1 S.2.1 dX8_isDigit_0 rfl (lv_at hl 0 rfl) ?_
  refine lv_bipush (v := 48) S.1 S.2.1 dX8_isDigit_1 (by decide) ?_
  refine lv_bipush (v := 57) S.1 S.2.1 dX8_isDigit_3 (by decide) ?_
  refine g_Ni (rest := []) (XWd_ok D ad cs ts adK adV) S hw (tX11_within (ad := ad) (cs := cs) (ts := ts) (adK := adK) (adV := adV) (σ := σ) rfl) kn_X11_within (x_nw hw 0 rfl) ⟨Nat.le_of_ble_eq_true rfl, Nat.le_of_ble_eq_true rfl⟩ rfl hl.1 rfl (Nat.le_of_ble_eq_true rfl) ⟨Nat.zero_le _, Nat.zero_le _⟩ dX8_isDigit_5 (fun H locs hw => ?_)
  exact g_zret (XWd_ok D ad cs ts adK adV) S hr hlk hw (zzX11_within ..) dX8_isDigit_8 hf rfl
theorem zzX8_isDigit (x0 : Int32) : narrow .boolean (.int (fX8_isDigit x0)) = .int (fX8_isDigit x0) := by
  unfold fX8_isDigit
  repeat' split
  all_goals first | rfl | exact zzX11_within .. | exact zzX12_isIn ..
def fX8_behindDigits_2b (N : Nat) (σ : St) (k2 : Int32 → Option Int32) (x2 : Int32) : Option Int32 :=
  if (σ.1 5) ≤ x2 then (some x2) else (if ix x2 160 = true then if (fX8_isDigit (aR σ 51 x2)) = 0 then (some x2) else (nm (x2 + (1 : Int32)) fun v2 => k2 v2) else none)
set_option maxHeartbeats 2000000 in
set_option maxRecDepth 20000 in
theorem wX8_behindDigits_2b {r : Int32} {N : Nat} {σ : St} (S : CallFix p m c cX8_behindDigits 3 s av BG RX8) (hr : meth.sig.returnType = some .int) (hlk : meth.locks = false) {k2 : Int32 → Option Int32} (hk2 : ∀ (x2 : Int32) (ls : Array Slot) (H : Heap) (locs : List Loc), Hw (XWd D ad cs ts adK adV) s σ H locs → lv_has ls 3 [(0, .ref (ad 5)), (2, .int x2)] → k2 x2 = some r → W p l e (RM 2 42) s m av below meth c H locs 0 0 (QI below (XWd D ad cs ts adK adV) av s r σ) (F0 m 2 ls []))  {x2 : Int32} {ls : Array Slot} {H : Heap} {locs : List Loc} (hw : Hw (XWd D ad cs ts adK adV) s σ H locs) (hl : lv_has ls 3 [(0, .ref (ad 5)), (2, .int x2)]) (hf : fX8_behindDigits_2b N σ k2 x2 = some r) : W p l e (RM 2 42) s m av below meth c H locs 0 0 (QI below (XWd D ad cs ts adK adV) av s r σ) (F0 m 2 ls []) := by
  unfold fX8_behindDigits_2b at hf
  refine lv_iload_n S.1 S.2.1 dX8_behindDigits_2 rfl (lv_at hl 1 rfl) ?_
  refine lv_aload_n S.1 S.2.1 dX8_behindDigits_3 rfl (lv_at hl 0 rfl) ?_
  refine xg_Reader_size S hw kf_X8_27 dX8_behindDigits_4 ?_
  refine lv_icmp_ge (tgt := 28) S.1 S.2.1 dX8_behindDigits_7 (by decide) (fun hc => ?_) (fun hc => ?_)
  · have hf := itt hf hc
    refine lv_iload_n S.1 S.2.1 dX8_behindDigits_28 rfl (lv_at hl 1 rfl) ?_
    exact g_iret (XWd_ok D ad cs ts adK adV) S hr hlk hw dX8_behindDigits_29 (Option.some.inj hf) rfl
  · have hf := itf hf hc
    refine lv_aload_n S.1 S.2.1 dX8_behindDigits_10 rfl (lv_at hl 0 rfl) ?_
    refine xg_Reader_tape S hw kf_X8_9 dX8_behindDigits_11 ?_
    refine lv_iload_n S.1 S.2.1 dX8_behindDigits_14 rfl (lv_at hl 1 rfl) ?_
    obtain ⟨h1, hf⟩ := gd_ix hf
    refine g_iald S hw 51 0 xe_51 rfl h1 dX8_behindDigits_15 ?_
    refine g_Si (rest := []) (XWd_ok D ad cs ts adK adV) S hw (tX8_isDigit (ad := ad) (cs := cs) (ts := ts) (adK := adK) (adV := adV) (σ := σ) rfl) kt_X8_87 ⟨Nat.le_of_ble_eq_true rfl, Nat.le_of_ble_eq_true rfl⟩ rfl hl.1 rfl (Nat.le_of_ble_eq_true rfl) ⟨Nat.zero_le _, Nat.zero_le _⟩ dX8_behindDigits_16 (fun H locs hw => ?_)
    refine lv_if_eq (tgt := 28) S.1 S.2.1 dX8_behindDigits_19 (by decide) (fun hc => ?_) (fun hc => ?_)
    · have hf := itt hf hc
      refine lv_iload_n S.1 S.2.1 dX8_behindDigits_28 rfl (lv_at hl 1 rfl) ?_
      exact g_iret (XWd_ok D ad cs ts adK adV) S hr hlk hw dX8_behindDigits_29 (Option.some.inj hf) rfl
    · have hf := itf hf hc
      obtain ⟨v2, e3⟩ : ∃ z : Int32, z = x2 + (1 : Int32) := ⟨_, rfl⟩
      have hf := nm_s e3 hf
      refine lv_iinc (v := v2) (lv' := [(2, .int v2), (0, .ref (ad 5))]) S.1 S.2.1 dX8_behindDigits_22 hl (k := 1) rfl (by rw [e3]; rfl) (by decide) rfl (fun ls hl => ?_)
      refine lv_goto (tgt := 2) S.1 S.2.1 dX8_behindDigits_25 (by decide) ?_
      exact hk2 v2 _ _ _ hw (lv_sub hl [1, 0] rfl) hf
def fX8_behindDigits_2 (N : Nat) (σ : St) : Nat → Int32 → Option Int32
  | 0 => fun _ => none
  | n + 1 => fX8_behindDigits_2b N σ (fX8_behindDigits_2 N σ n)
theorem wX8_behindDigits_2 {r : Int32} {N : Nat} {σ : St} (S : CallFix p m c cX8_behindDigits 3 s av BG RX8) (hr : meth.sig.returnType = some .int) (hlk : meth.locks = false) : ∀ (n : Nat), ∀ (x2 : Int32) (ls : Array Slot) (H : Heap) (locs : List Loc), Hw (XWd D ad cs ts adK adV) s σ H locs → lv_has ls 3 [(0, .ref (ad 5)), (2, .int x2)] → fX8_behindDigits_2 N σ n x2 = some r → W p l e (RM 2 42) s m av below meth c H locs 0 0 (QI below (XWd D ad cs ts adK adV) av s r σ) (F0 m 2 ls []) := by
  intro n
  induction n with
  | zero => intro _ ls H locs hw hl hf; cases hf
  | succ n ih => intro _ ls H locs hw hl hf; exact wX8_behindDigits_2b S hr hlk ih hw hl hf
def fX8_behindDigits (N : Nat) (σ : St) (x1 : Int32) : Option Int32 :=
  fX8_behindDigits_2 N σ N x1
set_option maxHeartbeats 2000000 in
set_option maxRecDepth 20000 in
theorem tX8_behindDigits {r : Int32} {N : Nat} {σ : St} {x1 : Int32} (hf : fX8_behindDigits N σ x1 = some r) : CI l (XWd D ad cs ts adK adV) yX8_behindDigits cX8_behindDigits 3 (some .int) 2 42 [.ref (ad 5), .int x1] σ r σ := by
  refine CI.of (by decide) (Nat.le_of_ble_eq_true rfl) ?_
  intro p e s m below meth c ls S hr hlk hw hl
  have hl : lv_has ls 3 [(0, .ref (ad 5)), (1, .int x1)] := hl
  unfold fX8_behindDigits at hf
  refine lv_iload_n S.1 S.2.1 dX8_behindDigits_0 rfl (lv_at hl 1 rfl) ?_
  refine lv_istore_n (lv' := [(2, .int x1), (0, .ref (ad 5)), (1, .int x1)]) S.1 S.2.1 dX8_behindDigits_1 rfl hl (by decide) rfl (fun ls hl => ?_)
  exact wX8_behindDigits_2 S hr hlk N x1 _ _ _ hw (lv_sub hl [1, 0] rfl) hf
def fX8_isLetter (x0 : Int32) : Int32 :=
  (fX11_within x0 (97 : Int32) (122 : Int32))
set_option maxHeartbeats 2000000 in
set_option maxRecDepth 20000 in
theorem tX8_isLetter {r : Int32} {σ : St} {x0 : Int32} (hf : fX8_isLetter x0 = r) : CI l (XWd D ad cs ts adK adV) yX8_isLetter cX8_isLetter 1 (some .boolean) 1 22 [.int x0] σ r σ := by
  refine CI.of (by decide) (Nat.le_of_ble_eq_true rfl) ?_
  intro p e s m below meth c ls S hr hlk hw hl
  have hl : lv_has ls 1 [(0, .int x0)] := hl
  unfold fX8_isLetter at hf
  refine lv_iload_n S.1 S.2.1 dX8_isLetter_0 rfl (lv_at hl 0 rfl) ?_
  refine lv_bipush (v := 97) S.1 S.2.1 dX8_isLetter_1 (by decide) ?_
  refine lv_bipush (v := 122) S.1 S.2.1 dX8_isLetter_3 (by decide) ?_
  refine g_Ni (rest := []) (XWd_ok D ad cs ts adK adV) S hw (tX11_within (ad := ad) (cs := cs) (ts := ts) (adK := adK) (adV := adV) (σ := σ) rfl) kn_X11_within (x_nw hw 0 rfl) ⟨Nat.le_of_ble_eq_true rfl, Nat.le_of_ble_eq_true rfl⟩ rfl hl.1 rfl (Nat.le_of_ble_eq_true rfl) ⟨Nat.zero_le _, Nat.zero_le _⟩ dX8_isLetter_5 (fun H locs hw => ?_)
  exact g_zret (XWd_ok D ad cs ts adK adV) S hr hlk hw (zzX11_within ..) dX8_isLetter_8 hf rfl
theorem zzX8_isLetter (x0 : Int32) : narrow .boolean (.int (fX8_isLetter x0)) = .int (fX8_isLetter x0) := by
  unfold fX8_isLetter
  repeat' split
  all_goals first | rfl | exact zzX11_within .. | exact zzX12_isIn ..
def fX8_behindLetters_2b (N : Nat) (σ : St) (k2 : Int32 → Option Int32) (x2 : Int32) : Option Int32 :=
  if (σ.1 5) ≤ x2 then (some x2) else (if ix x2 160 = true then if (fX8_isLetter (aR σ 51 x2)) = 0 then (some x2) else (nm (x2 + (1 : Int32)) fun v2 => k2 v2) else none)
set_option maxHeartbeats 2000000 in
set_option maxRecDepth 20000 in
theorem wX8_behindLetters_2b {r : Int32} {N : Nat} {σ : St} (S : CallFix p m c cX8_behindLetters 3 s av BG RX8) (hr : meth.sig.returnType = some .int) (hlk : meth.locks = false) {k2 : Int32 → Option Int32} (hk2 : ∀ (x2 : Int32) (ls : Array Slot) (H : Heap) (locs : List Loc), Hw (XWd D ad cs ts adK adV) s σ H locs → lv_has ls 3 [(0, .ref (ad 5)), (2, .int x2)] → k2 x2 = some r → W p l e (RM 2 42) s m av below meth c H locs 0 0 (QI below (XWd D ad cs ts adK adV) av s r σ) (F0 m 2 ls []))  {x2 : Int32} {ls : Array Slot} {H : Heap} {locs : List Loc} (hw : Hw (XWd D ad cs ts adK adV) s σ H locs) (hl : lv_has ls 3 [(0, .ref (ad 5)), (2, .int x2)]) (hf : fX8_behindLetters_2b N σ k2 x2 = some r) : W p l e (RM 2 42) s m av below meth c H locs 0 0 (QI below (XWd D ad cs ts adK adV) av s r σ) (F0 m 2 ls []) := by
  unfold fX8_behindLetters_2b at hf
  refine lv_iload_n S.1 S.2.1 dX8_behindLetters_2 rfl (lv_at hl 1 rfl) ?_
  refine lv_aload_n S.1 S.2.1 dX8_behindLetters_3 rfl (lv_at hl 0 rfl) ?_
  refine xg_Reader_size S hw kf_X8_27 dX8_behindLetters_4 ?_
  refine lv_icmp_ge (tgt := 28) S.1 S.2.1 dX8_behindLetters_7 (by decide) (fun hc => ?_) (fun hc => ?_)
  · have hf := itt hf hc
    refine lv_iload_n S.1 S.2.1 dX8_behindLetters_28 rfl (lv_at hl 1 rfl) ?_
    exact g_iret (XWd_ok D ad cs ts adK adV) S hr hlk hw dX8_behindLetters_29 (Option.some.inj hf) rfl
  · have hf := itf hf hc
    refine lv_aload_n S.1 S.2.1 dX8_behindLetters_10 rfl (lv_at hl 0 rfl) ?_
    refine xg_Reader_tape S hw kf_X8_9 dX8_behindLetters_11 ?_
    refine lv_iload_n S.1 S.2.1 dX8_behindLetters_14 rfl (lv_at hl 1 rfl) ?_
    obtain ⟨h1, hf⟩ := gd_ix hf
    refine g_iald S hw 51 0 xe_51 rfl h1 dX8_behindLetters_15 ?_
    refine g_Si (rest := []) (XWd_ok D ad cs ts adK adV) S hw (tX8_isLetter (ad := ad) (cs := cs) (ts := ts) (adK := adK) (adV := adV) (σ := σ) rfl) kt_X8_76 ⟨Nat.le_of_ble_eq_true rfl, Nat.le_of_ble_eq_true rfl⟩ rfl hl.1 rfl (Nat.le_of_ble_eq_true rfl) ⟨Nat.zero_le _, Nat.zero_le _⟩ dX8_behindLetters_16 (fun H locs hw => ?_)
    refine lv_if_eq (tgt := 28) S.1 S.2.1 dX8_behindLetters_19 (by decide) (fun hc => ?_) (fun hc => ?_)
    · have hf := itt hf hc
      refine lv_iload_n S.1 S.2.1 dX8_behindLetters_28 rfl (lv_at hl 1 rfl) ?_
      exact g_iret (XWd_ok D ad cs ts adK adV) S hr hlk hw dX8_behindLetters_29 (Option.some.inj hf) rfl
    · have hf := itf hf hc
      obtain ⟨v2, e3⟩ : ∃ z : Int32, z = x2 + (1 : Int32) := ⟨_, rfl⟩
      have hf := nm_s e3 hf
      refine lv_iinc (v := v2) (lv' := [(2, .int v2), (0, .ref (ad 5))]) S.1 S.2.1 dX8_behindLetters_22 hl (k := 1) rfl (by rw [e3]; rfl) (by decide) rfl (fun ls hl => ?_)
      refine lv_goto (tgt := 2) S.1 S.2.1 dX8_behindLetters_25 (by decide) ?_
      exact hk2 v2 _ _ _ hw (lv_sub hl [1, 0] rfl) hf
def fX8_behindLetters_2 (N : Nat) (σ : St) : Nat → Int32 → Option Int32
  | 0 => fun _ => none
  | n + 1 => fX8_behindLetters_2b N σ (fX8_behindLetters_2 N σ n)
theorem wX8_behindLetters_2 {r : Int32} {N : Nat} {σ : St} (S : CallFix p m c cX8_behindLetters 3 s av BG RX8) (hr : meth.sig.returnType = some .int) (hlk : meth.locks = false) : ∀ (n : Nat), ∀ (x2 : Int32) (ls : Array Slot) (H : Heap) (locs : List Loc), Hw (XWd D ad cs ts adK adV) s σ H locs → lv_has ls 3 [(0, .ref (ad 5)), (2, .int x2)] → fX8_behindLetters_2 N σ n x2 = some r → W p l e (RM 2 42) s m av below meth c H locs 0 0 (QI below (XWd D ad cs ts adK adV) av s r σ) (F0 m 2 ls []) := by
  intro n
  induction n with
  | zero => intro _ ls H locs hw hl hf; cases hf
  | succ n ih => intro _ ls H locs hw hl hf; exact wX8_behindLetters_2b S hr hlk ih hw hl hf
def fX8_behindLetters (N : Nat) (σ : St) (x1 : Int32) : Option Int32 :=
  fX8_behindLetters_2 N σ N x1
set_option maxHeartbeats 2000000 in
set_option maxRecDepth 20000 in
theorem tX8_behindLetters {r : Int32} {N : Nat} {σ : St} {x1 : Int32} (hf : fX8_behindLetters N σ x1 = some r) : CI l (XWd D ad cs ts adK adV) yX8_behindLetters cX8_behindLetters 3 (some .int) 2 42 [.ref (ad 5), .int x1] σ r σ := by
  refine CI.of (by decide) (Nat.le_of_ble_eq_true rfl) ?_
  intro p e s m below meth c ls S hr hlk hw hl
  have hl : lv_has ls 3 [(0, .ref (ad 5)), (1, .int x1)] := hl
  unfold fX8_behindLetters at hf
  refine lv_iload_n S.1 S.2.1 dX8_behindLetters_0 rfl (lv_at hl 1 rfl) ?_
  refine lv_istore_n (lv' := [(2, .int x1), (0, .ref (ad 5)), (1, .int x1)]) S.1 S.2.1 dX8_behindLetters_1 rfl hl (by decide) rfl (fun ls hl => ?_)
  exact wX8_behindLetters_2 S hr hlk N x1 _ _ _ hw (lv_sub hl [1, 0] rfl) hf
def fX8_isSign (x0 : Int32) : Int32 :=
  if (fX11_within x0 (40 : Int32) (43 : Int32)) = 0 then (if x0 = (45 : Int32) then ((1 : Int32)) else (if (fX11_within x0 (59 : Int32) (61 : Int32)) = 0 then ((0 : Int32)) else ((1 : Int32)))) else ((1 : Int32))
set_option maxHeartbeats 2000000 in
set_option maxRecDepth 20000 in
theorem tX8_isSign {r : Int32} {σ : St} {x0 : Int32} (hf : fX8_isSign x0 = r) : CI l (XWd D ad cs ts adK adV) yX8_isSign cX8_isSign 1 (some .boolean) 1 22 [.int x0] σ r σ := by
  refine CI.of (by decide) (Nat.le_of_ble_eq_true rfl) ?_
  intro p e s m below meth c ls S hr hlk hw hl
  have hl : lv_has ls 1 [(0, .int x0)] := hl
  unfold fX8_isSign at hf
  refine lv_iload_n S.1 S.2.1 dX8_isSign_0 rfl (lv_at hl 0 rfl) ?_
  refine lv_bipush (v := 40) S.1 S.2.1 dX8_isSign_1 (by decide) ?_
  refine lv_bipush (v := 43) S.1 S.2.1 dX8_isSign_3 (by decide) ?_
  refine g_Ni (rest := []) (XWd_ok D ad cs ts adK adV) S hw (tX11_within (ad := ad) (cs := cs) (ts := ts) (adK := adK) (adV := adV) (σ := σ) rfl) kn_X11_within (x_nw hw 0 rfl) ⟨Nat.le_of_ble_eq_true rfl, Nat.le_of_ble_eq_true rfl⟩ rfl hl.1 rfl (Nat.le_of_ble_eq_true rfl) ⟨Nat.zero_le _, Nat.zero_le _⟩ dX8_isSign_5 (fun H locs hw => ?_)
  refine lv_if_ne (tgt := 28) S.1 S.2.1 dX8_isSign_8 (by decide) (fun hc => ?_) (fun hc => ?_)
  · have hf := itf hf hc
    refine lv_iconst (v := 1) S.1 S.2.1 dX8_isSign_28 (by decide) ?_
    refine lv_goto (tgt := 33) S.1 S.2.1 dX8_isSign_29 (by decide) ?_
    exact g_zret (XWd_ok D ad cs ts adK adV) S hr hlk hw rfl dX8_isSign_33 hf rfl
  · have hf := itt hf hc
    refine lv_iload_n S.1 S.2.1 dX8_isSign_11 rfl (lv_at hl 0 rfl) ?_
    refine lv_bipush (v := 45) S.1 S.2.1 dX8_isSign_12 (by decide) ?_
    refine lv_icmp_eq (tgt := 28) S.1 S.2.1 dX8_isSign_14 (by decide) (fun hc => ?_) (fun hc => ?_)
    · have hf := itt hf hc
      refine lv_iconst (v := 1) S.1 S.2.1 dX8_isSign_28 (by decide) ?_
      refine lv_goto (tgt := 33) S.1 S.2.1 dX8_isSign_29 (by decide) ?_
      exact g_zret (XWd_ok D ad cs ts adK adV) S hr hlk hw rfl dX8_isSign_33 hf rfl
    · have hf := itf hf hc
      refine lv_iload_n S.1 S.2.1 dX8_isSign_17 rfl (lv_at hl 0 rfl) ?_
      refine lv_bipush (v := 59) S.1 S.2.1 dX8_isSign_18 (by decide) ?_
      refine lv_bipush (v := 61) S.1 S.2.1 dX8_isSign_20 (by decide) ?_
      refine g_Ni (rest := []) (XWd_ok D ad cs ts adK adV) S hw (tX11_within (ad := ad) (cs := cs) (ts := ts) (adK := adK) (adV := adV) (σ := σ) rfl) kn_X11_within (x_nw hw 0 rfl) ⟨Nat.le_of_ble_eq_true rfl, Nat.le_of_ble_eq_true rfl⟩ rfl hl.1 rfl (Nat.le_of_ble_eq_true rfl) ⟨Nat.zero_le _, Nat.zero_le _⟩ dX8_isSign_22 (fun H locs hw => ?_)
      refine lv_if_eq (tgt := 32) S.1 S.2.1 dX8_isSign_25 (by decide) (fun hc => ?_) (fun hc => ?_)
      · have hf := itt hf hc
        refine lv_iconst (v := 0) S.1 S.2.1 dX8_isSign_32 (by decide) ?_
        exact g_zret (XWd_ok D ad cs ts adK adV) S hr hlk hw rfl dX8_isSign_33 hf rfl
      · have hf := itf hf hc
        refine lv_iconst (v := 1) S.1 S.2.1 dX8_isSign_28 (by decide) ?_
        refine lv_goto (tgt := 33) S.1 S.2.1 dX8_isSign_29 (by decide) ?_
        exact g_zret (XWd_ok D ad cs ts adK adV) S hr hlk hw rfl dX8_isSign_33 hf rfl
theorem zzX8_isSign (x0 : Int32) : narrow .boolean (.int (fX8_isSign x0)) = .int (fX8_isSign x0) := by
  unfold fX8_isSign
  repeat' split
  all_goals first | rfl | exact zzX11_within .. | exact zzX12_isIn ..
def fX8_numberAt_5b (N : Nat) (σ : St) (k5 : Int32 → Int32 → Int32 → Option Int32) (x2 : Int32) (x3 : Int32) (x4 : Int32) : Option Int32 :=
  if x2 ≤ x4 then (some x3) else (if ix x4 160 = true then nm ((((10 : Int32) * x3) + (aR σ 51 x4)) - (48 : Int32)) fun v2 => nm (x4 + (1 : Int32)) fun v4 => k5 x2 v2 v4 else none)
set_option maxHeartbeats 2000000 in
set_option maxRecDepth 20000 in
theorem wX8_numberAt_5b {r : Int32} {N : Nat} {σ : St} (S : CallFix p m c cX8_numberAt 5 s av BG RX8) (hr : meth.sig.returnType = some .int) (hlk : meth.locks = false) {k5 : Int32 → Int32 → Int32 → Option Int32} (hk5 : ∀ (x2 : Int32) (x3 : Int32) (x4 : Int32) (ls : Array Slot) (H : Heap) (locs : List Loc), Hw (XWd D ad cs ts adK adV) s σ H locs → lv_has ls 5 [(0, .ref (ad 5)), (2, .int x2), (3, .int x3), (4, .int x4)] → k5 x2 x3 x4 = some r → W p l e (RM 0 0) s m av below meth c H locs 0 0 (QI below (XWd D ad cs ts adK adV) av s r σ) (F0 m 5 ls []))  {x2 : Int32} {x3 : Int32} {x4 : Int32} {ls : Array Slot} {H : Heap} {locs : List Loc} (hw : Hw (XWd D ad cs ts adK adV) s σ H locs) (hl : lv_has ls 5 [(0, .ref (ad 5)), (2, .int x2), (3, .int x3), (4, .int x4)]) (hf : fX8_numberAt_5b N σ k5 x2 x3 x4 = some r) : W p l e (RM 0 0) s m av below meth c H locs 0 0 (QI below (XWd D ad cs ts adK adV) av s r σ) (F0 m 5 ls []) := by
  unfold fX8_numberAt_5b at hf
  refine lv_iload S.1 S.2.1 dX8_numberAt_5 (lv_at hl 3 rfl) ?_
  refine lv_iload_n S.1 S.2.1 dX8_numberAt_7 rfl (lv_at hl 1 rfl) ?_
  refine lv_icmp_ge (tgt := 33) S.1 S.2.1 dX8_numberAt_8 (by decide) (fun hc => ?_) (fun hc => ?_)
  · have hf := itt hf hc
    refine lv_iload_n S.1 S.2.1 dX8_numberAt_33 rfl (lv_at hl 2 rfl) ?_
    exact g_iret (XWd_ok D ad cs ts adK adV) S hr hlk hw dX8_numberAt_34 (Option.some.inj hf) rfl
  · have hf := itf hf hc
    refine lv_bipush (v := 10) S.1 S.2.1 dX8_numberAt_11 (by decide) ?_
    refine lv_iload_n S.1 S.2.1 dX8_numberAt_13 rfl (lv_at hl 2 rfl) ?_
    refine lv_imul S.1 S.2.1 dX8_numberAt_14 ?_
    refine lv_aload_n S.1 S.2.1 dX8_numberAt_15 rfl (lv_at hl 0 rfl) ?_
    refine xg_Reader_tape S hw kf_X8_9 dX8_numberAt_16 ?_
    refine lv_iload S.1 S.2.1 dX8_numberAt_19 (lv_at hl 3 rfl) ?_
    obtain ⟨h1, hf⟩ := gd_ix hf
    refine g_iald S hw 51 0 xe_51 rfl h1 dX8_numberAt_21 ?_
    refine lv_iadd S.1 S.2.1 dX8_numberAt_22 ?_
    refine lv_bipush (v := 48) S.1 S.2.1 dX8_numberAt_23 (by decide) ?_
    refine lv_isub S.1 S.2.1 dX8_numberAt_25 ?_
    refine lv_topi (fun v2 e3 => ?_)
    have hf := nm_s e3 hf
    refine lv_istore_n (lv' := [(3, .int v2), (0, .ref (ad 5)), (2, .int x2), (4, .int x4)]) S.1 S.2.1 dX8_numberAt_26 rfl hl (by decide) rfl (fun ls hl => ?_)
    obtain ⟨v4, e5⟩ : ∃ z : Int32, z = x4 + (1 : Int32) := ⟨_, rfl⟩
    have hf := nm_s e5 hf
    refine lv_iinc (v := v4) (lv' := [(4, .int v4), (3, .int v2), (0, .ref (ad 5)), (2, .int x2)]) S.1 S.2.1 dX8_numberAt_27 hl (k := 3) rfl (by rw [e5]; rfl) (by decide) rfl (fun ls hl => ?_)
    refine lv_goto (tgt := 5) S.1 S.2.1 dX8_numberAt_30 (by decide) ?_
    exact hk5 x2 v2 v4 _ _ _ hw (lv_sub hl [2, 3, 1, 0] rfl) hf
def fX8_numberAt_5 (N : Nat) (σ : St) : Nat → Int32 → Int32 → Int32 → Option Int32
  | 0 => fun _ _ _ => none
  | n + 1 => fX8_numberAt_5b N σ (fX8_numberAt_5 N σ n)
theorem wX8_numberAt_5 {r : Int32} {N : Nat} {σ : St} (S : CallFix p m c cX8_numberAt 5 s av BG RX8) (hr : meth.sig.returnType = some .int) (hlk : meth.locks = false) : ∀ (n : Nat), ∀ (x2 : Int32) (x3 : Int32) (x4 : Int32) (ls : Array Slot) (H : Heap) (locs : List Loc), Hw (XWd D ad cs ts adK adV) s σ H locs → lv_has ls 5 [(0, .ref (ad 5)), (2, .int x2), (3, .int x3), (4, .int x4)] → fX8_numberAt_5 N σ n x2 x3 x4 = some r → W p l e (RM 0 0) s m av below meth c H locs 0 0 (QI below (XWd D ad cs ts adK adV) av s r σ) (F0 m 5 ls []) := by
  intro n
  induction n with
  | zero => intro _ _ _ ls H locs hw hl hf; cases hf
  | succ n ih => intro _ _ _ ls H locs hw hl hf; exact wX8_numberAt_5b S hr hlk ih hw hl hf
def fX8_numberAt (N : Nat) (σ : St) (x1 : Int32) (x2 : Int32) : Option Int32 :=
  fX8_numberAt_5 N σ N x2 (0 : Int32) x1
set_option maxHeartbeats 2000000 in
set_option maxRecDepth 20000 in
theorem tX8_numberAt {r : Int32} {N : Nat} {σ : St} {x1 : Int32} {x2 : Int32} (hf : fX8_numberAt N σ x1 x2 = some r) : CI l (XWd D ad cs ts adK adV) yX8_numberAt cX8_numberAt 5 (some .int) 0 0 [.ref (ad 5), .int x1, .int x2] σ r σ := by
  refine CI.of (by decide) (Nat.le_of_ble_eq_true rfl) ?_
  intro p e s m below meth c ls S hr hlk hw hl
  have hl : lv_has ls 5 [(0, .ref (ad 5)), (1, .int x1), (2, .int x2)] := hl
  unfold fX8_numberAt at hf
  refine lv_iconst (v := 0) S.1 S.2.1 dX8_numberAt_0 (by decide) ?_
  refine lv_istore_n (lv' := [(3, .int (0 : Int32)), (0, .ref (ad 5)), (1, .int x1), (2, .int x2)]) S.1 S.2.1 dX8_numberAt_1 rfl hl (by decide) rfl (fun ls hl => ?_)
  refine lv_iload_n S.1 S.2.1 dX8_numberAt_2 rfl (lv_at hl 2 rfl) ?_
  refine lv_istore (lv' := [(4, .int x1), (3, .int (0 : Int32)), (0, .ref (ad 5)), (1, .int x1), (2, .int x2)]) S.1 S.2.1 dX8_numberAt_3 hl (by decide) rfl (fun ls hl => ?_)
  exact wX8_numberAt_5 S hr hlk N x2 (0 : Int32) x1 _ _ _ hw (lv_sub hl [2, 4, 1, 0] rfl) hf
def fX8_put (N : Nat) (σ : St) (x1 : Int32) (x2 : Int32) (x3 : Int32) : Option (Int32 × St) :=
  if ix (σ.1 6) 161 = true then nm (aW σ 52 (σ.1 6) x1) fun σ2 => if ix (σ2.1 6) 161 = true then nm (aW σ2 53 (σ2.1 6) x2) fun σ5 => nm (sI σ5 6 ((σ5.1 6) + (1 : Int32))) fun σ7 => some (x3, σ7) else none else none
set_option maxHeartbeats 2000000 in
set_option maxRecDepth 20000 in
theorem tX8_put {r : Int32} {σ' : St} {N : Nat} {σ : St} {x1 : Int32} {x2 : Int32} {x3 : Int32} (hf : fX8_put N σ x1 x2 x3 = some (r, σ')) : CI l (XWd D ad cs ts adK adV) yX8_put cX8_put 4 (some .int) 0 0 [.ref (ad 5), .int x1, .int x2, .int x3] σ r σ' := by
  refine CI.of (by decide) (Nat.le_of_ble_eq_true rfl) ?_
  intro p e s m below meth c ls S hr hlk hw hl
  have hl : lv_has ls 4 [(0, .ref (ad 5)), (1, .int x1), (2, .int x2), (3, .int x3)] := hl
  unfold fX8_put at hf
  refine lv_aload_n S.1 S.2.1 dX8_put_0 rfl (lv_at hl 0 rfl) ?_
  refine xg_Reader_tokens S hw kf_X8_15 dX8_put_1 ?_
  refine lv_aload_n S.1 S.2.1 dX8_put_4 rfl (lv_at hl 0 rfl) ?_
  refine xg_Reader_count S hw kf_X8_62 dX8_put_5 ?_
  refine lv_iload_n S.1 S.2.1 dX8_put_8 rfl (lv_at hl 1 rfl) ?_
  obtain ⟨h1, hf⟩ := gd_ix hf
  obtain ⟨σ2, e3⟩ : ∃ z : St, z = aW σ 52 (σ.1 6) x1 := ⟨_, rfl⟩
  have hf := nm_s e3 hf
  refine g_iast (σ' := σ2) S hw 52 0 xe_52 rfl (by rw [e3]; exact xs_52 _) h1 dX8_put_9 (fun H locs hw => ?_)
  refine lv_aload_n S.1 S.2.1 dX8_put_10 rfl (lv_at hl 0 rfl) ?_
  refine xg_Reader_places S hw kf_X8_18 dX8_put_11 ?_
  refine lv_aload_n S.1 S.2.1 dX8_put_14 rfl (lv_at hl 0 rfl) ?_
  refine xg_Reader_count S hw kf_X8_62 dX8_put_15 ?_
  refine lv_iload_n S.1 S.2.1 dX8_put_18 rfl (lv_at hl 2 rfl) ?_
  obtain ⟨h4, hf⟩ := gd_ix hf
  obtain ⟨σ5, e6⟩ : ∃ z : St, z = aW σ2 53 (σ2.1 6) x2 := ⟨_, rfl⟩
  have hf := nm_s e6 hf
  refine g_iast (σ' := σ5) S hw 53 0 xe_53 rfl (by rw [e6]; exact xs_53 _) h4 dX8_put_19 (fun H locs hw => ?_)
  refine lv_aload_n S.1 S.2.1 dX8_put_20 rfl (lv_at hl 0 rfl) ?_
  refine lv_dup S.1 S.2.1 dX8_put_21 rfl ?_
  refine xg_Reader_count S hw kf_X8_62 dX8_put_22 ?_
  refine lv_iconst (v := 1) S.1 S.2.1 dX8_put_25 (by decide) ?_
  refine lv_iadd S.1 S.2.1 dX8_put_26 ?_
  obtain ⟨σ7, e8⟩ : ∃ z : St, z = sI σ5 6 ((σ5.1 6) + (1 : Int32)) := ⟨_, rfl⟩
  have hf := nm_s e8 hf
  refine xp_Reader_count S hw e8 kf_X8_62 dX8_put_27 (fun H locs hw => ?_)
  refine lv_iload_n S.1 S.2.1 dX8_put_30 rfl (lv_at hl 3 rfl) ?_
  exact g_iret (XWd_ok D ad cs ts adK adV) S hr hlk hw dX8_put_31 (Prod.mk.inj (Option.some.inj hf)).1 (Prod.mk.inj (Option.some.inj hf)).2
def fX8_isWord_15b (N : Nat) (σ : St) (k15 : Int32 → Nat → Int32 → Option Int32) (x1 : Int32) (x3 : Nat) (x4 : Int32) : Option Int32 :=
  if x3 < 12 then if (nI (stLen.getD x3 0)) ≤ x4 then (some (1 : Int32)) else (if ix (x1 + x4) 160 = true then if x3 < 12 then if ix x4 (stLen.getD x3 0) = true then if (aR σ 51 (x1 + x4)) = (chS x3 x4) then (nm (x4 + (1 : Int32)) fun v6 => k15 x1 x3 v6) else (some (0 : Int32)) else none else none else none) else none
set_option maxHeartbeats 2000000 in
set_option maxRecDepth 20000 in
theorem wX8_isWord_15b {r : Int32} {N : Nat} {σ : St} (S : CallFix p m c cX8_isWord 5 s av BG RX8) (hr : meth.sig.returnType = some .boolean) (hlk : meth.locks = false) {k15 : Int32 → Nat → Int32 → Option Int32} (hk15 : ∀ (x1 : Int32) (x3 : Nat) (x4 : Int32) (ls : Array Slot) (H : Heap) (locs : List Loc), Hw (XWd D ad cs ts adK adV) s σ H locs → lv_has ls 5 [(0, .ref (ad 5)), (1, .int x1), (3, .ref (adK x3)), (4, .int x4)] → k15 x1 x3 x4 = some r → W p l e (RM 4 85) s m av below meth c H locs 0 0 (QI below (XWd D ad cs ts adK adV) av s r σ) (F0 m 15 ls []))  {x1 : Int32} {x3 : Nat} {x4 : Int32} {ls : Array Slot} {H : Heap} {locs : List Loc} (hw : Hw (XWd D ad cs ts adK adV) s σ H locs) (hl : lv_has ls 5 [(0, .ref (ad 5)), (1, .int x1), (3, .ref (adK x3)), (4, .int x4)]) (hf : fX8_isWord_15b N σ k15 x1 x3 x4 = some r) : W p l e (RM 4 85) s m av below meth c H locs 0 0 (QI below (XWd D ad cs ts adK adV) av s r σ) (F0 m 15 ls []) := by
  unfold fX8_isWord_15b at hf
  refine lv_iload S.1 S.2.1 dX8_isWord_15 (lv_at hl 3 rfl) ?_
  refine lv_aload_n S.1 S.2.1 dX8_isWord_17 rfl (lv_at hl 2 rfl) ?_
  obtain ⟨h2, hf⟩ := gd_t hf
  refine g_Ti (As := []) (rest := [.int x4]) (XWd_ok D ad cs ts adK adV) S hw (t_length (i := x3) h2) kt_X8_33 (x_rc hw h2) ⟨Nat.le_of_ble_eq_true rfl, Nat.le_of_ble_eq_true rfl⟩ rfl hl.1 rfl (Nat.le_of_ble_eq_true rfl) ⟨Nat.zero_le _, Nat.zero_le _⟩ dX8_isWord_18 (fun H locs hw => ?_)
  refine lv_icmp_ge (tgt := 50) S.1 S.2.1 dX8_isWord_21 (by decide) (fun hc => ?_) (fun hc => ?_)
  · have hf := itt hf hc
    refine lv_iconst (v := 1) S.1 S.2.1 dX8_isWord_50 (by decide) ?_
    exact g_zret (XWd_ok D ad cs ts adK adV) S hr hlk hw rfl dX8_isWord_51 (Option.some.inj hf) rfl
  · have hf := itf hf hc
    refine lv_aload_n S.1 S.2.1 dX8_isWord_24 rfl (lv_at hl 0 rfl) ?_
    refine xg_Reader_tape S hw kf_X8_9 dX8_isWord_25 ?_
    refine lv_iload_n S.1 S.2.1 dX8_isWord_28 rfl (lv_at hl 1 rfl) ?_
    refine lv_iload S.1 S.2.1 dX8_isWord_29 (lv_at hl 3 rfl) ?_
    refine lv_iadd S.1 S.2.1 dX8_isWord_31 ?_
    obtain ⟨h3, hf⟩ := gd_ix hf
    refine g_iald S hw 51 0 xe_51 rfl h3 dX8_isWord_32 ?_
    refine lv_aload_n S.1 S.2.1 dX8_isWord_33 rfl (lv_at hl 2 rfl) ?_
    refine lv_iload S.1 S.2.1 dX8_isWord_34 (lv_at hl 3 rfl) ?_
    obtain ⟨h4, hf⟩ := gd_t hf
    obtain ⟨h5, hf⟩ := gd_ix hf
    refine g_Ti (As := [.int x4]) (rest := [.int (aR σ 51 (x1 + x4))]) (XWd_ok D ad cs ts adK adV) S hw (t_charAt (i := x3) h4 h5) kt_X8_39 (x_rc hw h4) ⟨Nat.le_of_ble_eq_true rfl, Nat.le_of_ble_eq_true rfl⟩ rfl hl.1 rfl (Nat.le_of_ble_eq_true rfl) ⟨Nat.zero_le _, Nat.zero_le _⟩ dX8_isWord_36 (fun H locs hw => ?_)
    refine lv_icmp_eq (tgt := 44) S.1 S.2.1 dX8_isWord_39 (by decide) (fun hc => ?_) (fun hc => ?_)
    · have hf := itt hf hc
      obtain ⟨v6, e7⟩ : ∃ z : Int32, z = x4 + (1 : Int32) := ⟨_, rfl⟩
      have hf := nm_s e7 hf
      refine lv_iinc (v := v6) (lv' := [(4, .int v6), (0, .ref (ad 5)), (1, .int x1), (3, .ref (adK x3))]) S.1 S.2.1 dX8_isWord_44 hl (k := 3) rfl (by rw [e7]; rfl) (by decide) rfl (fun ls hl => ?_)
      refine lv_goto (tgt := 15) S.1 S.2.1 dX8_isWord_47 (by decide) ?_
      exact hk15 x1 x3 v6 _ _ _ hw (lv_sub hl [1, 2, 3, 0] rfl) hf
    · have hf := itf hf hc
      refine lv_iconst (v := 0) S.1 S.2.1 dX8_isWord_42 (by decide) ?_
      exact g_zret (XWd_ok D ad cs ts adK adV) S hr hlk hw rfl dX8_isWord_43 (Option.some.inj hf) rfl
def fX8_isWord_15 (N : Nat) (σ : St) : Nat → Int32 → Nat → Int32 → Option Int32
  | 0 => fun _ _ _ => none
  | n + 1 => fX8_isWord_15b N σ (fX8_isWord_15 N σ n)
theorem wX8_isWord_15 {r : Int32} {N : Nat} {σ : St} (S : CallFix p m c cX8_isWord 5 s av BG RX8) (hr : meth.sig.returnType = some .boolean) (hlk : meth.locks = false) : ∀ (n : Nat), ∀ (x1 : Int32) (x3 : Nat) (x4 : Int32) (ls : Array Slot) (H : Heap) (locs : List Loc), Hw (XWd D ad cs ts adK adV) s σ H locs → lv_has ls 5 [(0, .ref (ad 5)), (1, .int x1), (3, .ref (adK x3)), (4, .int x4)] → fX8_isWord_15 N σ n x1 x3 x4 = some r → W p l e (RM 4 85) s m av below meth c H locs 0 0 (QI below (XWd D ad cs ts adK adV) av s r σ) (F0 m 15 ls []) := by
  intro n
  induction n with
  | zero => intro _ _ _ ls H locs hw hl hf; cases hf
  | succ n ih => intro _ _ _ ls H locs hw hl hf; exact wX8_isWord_15b S hr hlk ih hw hl hf
def fX8_isWord (N : Nat) (σ : St) (x1 : Int32) (x2 : Int32) (x3 : Nat) : Option Int32 :=
  if x3 < 12 then if (x2 - x1) = (nI (stLen.getD x3 0)) then (fX8_isWord_15 N σ N x1 x3 (0 : Int32)) else (some (0 : Int32)) else none
set_option maxHeartbeats 2000000 in
set_option maxRecDepth 20000 in
theorem tX8_isWord {r : Int32} {N : Nat} {σ : St} {x1 : Int32} {x2 : Int32} {x3 : Nat} (hf : fX8_isWord N σ x1 x2 x3 = some r) : CI l (XWd D ad cs ts adK adV) yX8_isWord cX8_isWord 5 (some .boolean) 4 85 [.ref (ad 5), .int x1, .int x2, .ref (adK x3)] σ r σ := by
  refine CI.of (by decide) (Nat.le_of_ble_eq_true rfl) ?_
  intro p e s m below meth c ls S hr hlk hw hl
  have hl : lv_has ls 5 [(0, .ref (ad 5)), (1, .int x1), (2, .int x2), (3, .ref (adK x3))] := hl
  unfold fX8_isWord at hf
  refine lv_iload_n S.1 S.2.1 dX8_isWord_0 rfl (lv_at hl 2 rfl) ?_
  refine lv_iload_n S.1 S.2.1 dX8_isWord_1 rfl (lv_at hl 1 rfl) ?_
  refine lv_isub S.1 S.2.1 dX8_isWord_2 ?_
  refine lv_aload_n S.1 S.2.1 dX8_isWord_3 rfl (lv_at hl 3 rfl) ?_
  obtain ⟨h1, hf⟩ := gd_t hf
  refine g_Ti (As := []) (rest := [.int (x2 - x1)]) (XWd_ok D ad cs ts adK adV) S hw (t_length (i := x3) h1) kt_X8_33 (x_rc hw h1) ⟨Nat.le_of_ble_eq_true rfl, Nat.le_of_ble_eq_true rfl⟩ rfl hl.1 rfl (Nat.le_of_ble_eq_true rfl) ⟨Nat.zero_le _, Nat.zero_le _⟩ dX8_isWord_4 (fun H locs hw => ?_)
  refine lv_icmp_eq (tgt := 12) S.1 S.2.1 dX8_isWord_7 (by decide) (fun hc => ?_) (fun hc => ?_)
  · have hf := itt hf hc
    refine lv_iconst (v := 0) S.1 S.2.1 dX8_isWord_12 (by decide) ?_
    refine lv_istore (lv' := [(4, .int (0 : Int32)), (0, .ref (ad 5)), (1, .int x1), (2, .int x2), (3, .ref (adK x3))]) S.1 S.2.1 dX8_isWord_13 hl (by decide) rfl (fun ls hl => ?_)
    exact wX8_isWord_15 S hr hlk N x1 x3 (0 : Int32) _ _ _ hw (lv_sub hl [1, 2, 4, 0] rfl) hf
  · have hf := itf hf hc
    refine lv_iconst (v := 0) S.1 S.2.1 dX8_isWord_10 (by decide) ?_
    exact g_zret (XWd_ok D ad cs ts adK adV) S hr hlk hw rfl dX8_isWord_11 (Option.some.inj hf) rfl
def fX8_wordAt (N : Nat) (σ : St) (x1 : Int32) (x2 : Int32) : Option Int32 :=
  bd (fX8_isWord N σ x1 x2 1) fun r1 => if r1 = 0 then (bd (fX8_isWord N σ x1 x2 2) fun r3 => if r3 = 0 then (bd (fX8_isWord N σ x1 x2 3) fun r5 => if r5 = 0 then (bd (fX8_isWord N σ x1 x2 4) fun r7 => if r7 = 0 then (bd (fX8_isWord N σ x1 x2 5) fun r9 => if r9 = 0 then (bd (fX8_isWord N σ x1 x2 6) fun r11 => if r11 = 0 then (bd (fX8_isWord N σ x1 x2 7) fun r13 => if r13 = 0 then (bd (fX8_isWord N σ x1 x2 8) fun r15 => if r15 = 0 then (bd (fX8_isWord N σ x1 x2 9) fun r17 => if r17 = 0 then (bd (fX8_isWord N σ x1 x2 10) fun r19 => if r19 = 0 then (bd (fX8_isWord N σ x1 x2 11) fun r21 => if r21 = 0 then (some (1 : Int32)) else (some (139 : Int32))) else (some (138 : Int32))) else (some (137 : Int32))) else (some (136 : Int32))) else (some (135 : Int32))) else (some (134 : Int32))) else (some (132 : Int32))) else (some (131 : Int32))) else (some (130 : Int32))) else (some (129 : Int32))) else (some (128 : Int32))
set_option maxHeartbeats 2000000 in
set_option maxRecDepth 20000 in
theorem tX8_wordAt {r : Int32} {N : Nat} {σ : St} {x1 : Int32} {x2 : Int32} (hf : fX8_wordAt N σ x1 x2 = some r) : CI l (XWd D ad cs ts adK adV) yX8_wordAt cX8_wordAt 3 (some .int) 5 109 [.ref (ad 5), .int x1, .int x2] σ r σ := by
  refine CI.of (by decide) (Nat.le_of_ble_eq_true rfl) ?_
  intro p e s m below meth c ls S hr hlk hw hl
  have hl : lv_has ls 3 [(0, .ref (ad 5)), (1, .int x1), (2, .int x2)] := hl
  unfold fX8_wordAt at hf
  refine lv_aload_n S.1 S.2.1 dX8_wordAt_0 rfl (lv_at hl 0 rfl) ?_
  refine lv_iload_n S.1 S.2.1 dX8_wordAt_1 rfl (lv_at hl 1 rfl) ?_
  refine lv_iload_n S.1 S.2.1 dX8_wordAt_2 rfl (lv_at hl 2 rfl) ?_
  refine x_ldcS S hw 1 rfl dX8_wordAt_3 ?_
  obtain ⟨r1, g2, hf⟩ := bd_s hf
  refine g_Vi (rest := []) (XWd_ok D ad cs ts adK adV) S hw (tX8_isWord g2) kt_X8_105 5 xe_5 rfl rfl ⟨Nat.le_of_ble_eq_true rfl, Nat.le_of_ble_eq_true rfl⟩ rfl hl.1 rfl (Nat.le_of_ble_eq_true rfl) ⟨Nat.zero_le _, Nat.zero_le _⟩ dX8_wordAt_5 (fun H locs hw => ?_)
  refine lv_if_eq (tgt := 15) S.1 S.2.1 dX8_wordAt_8 (by decide) (fun hc => ?_) (fun hc => ?_)
  · have hf := itt hf hc
    refine lv_aload_n S.1 S.2.1 dX8_wordAt_15 rfl (lv_at hl 0 rfl) ?_
    refine lv_iload_n S.1 S.2.1 dX8_wordAt_16 rfl (lv_at hl 1 rfl) ?_
    refine lv_iload_n S.1 S.2.1 dX8_wordAt_17 rfl (lv_at hl 2 rfl) ?_
    refine x_ldcS S hw 2 rfl dX8_wordAt_18 ?_
    obtain ⟨r3, g4, hf⟩ := bd_s hf
    refine g_Vi (rest := []) (XWd_ok D ad cs ts adK adV) S hw (tX8_isWord g4) kt_X8_105 5 xe_5 rfl rfl ⟨Nat.le_of_ble_eq_true rfl, Nat.le_of_ble_eq_true rfl⟩ rfl hl.1 rfl (Nat.le_of_ble_eq_true rfl) ⟨Nat.zero_le _, Nat.zero_le _⟩ dX8_wordAt_20 (fun H locs hw => ?_)
    refine lv_if_eq (tgt := 30) S.1 S.2.1 dX8_wordAt_23 (by decide) (fun hc => ?_) (fun hc => ?_)
    · have hf := itt hf hc
      refine lv_aload_n S.1 S.2.1 dX8_wordAt_30 rfl (lv_at hl 0 rfl) ?_
      refine lv_iload_n S.1 S.2.1 dX8_wordAt_31 rfl (lv_at hl 1 rfl) ?_
      refine lv_iload_n S.1 S.2.1 dX8_wordAt_32 rfl (lv_at hl 2 rfl) ?_
      refine x_ldcS S hw 3 rfl dX8_wordAt_33 ?_
      obtain ⟨r5, g6, hf⟩ := bd_s hf
      refine g_Vi (rest := []) (XWd_ok D ad cs ts adK adV) S hw (tX8_isWord g6) kt_X8_105 5 xe_5 rfl rfl ⟨Nat.le_of_ble_eq_true rfl, Nat.le_of_ble_eq_true rfl⟩ rfl hl.1 rfl (Nat.le_of_ble_eq_true rfl) ⟨Nat.zero_le _, Nat.zero_le _⟩ dX8_wordAt_35 (fun H locs hw => ?_)
      refine lv_if_eq (tgt := 45) S.1 S.2.1 dX8_wordAt_38 (by decide) (fun hc => ?_) (fun hc => ?_)
      · have hf := itt hf hc
        refine lv_aload_n S.1 S.2.1 dX8_wordAt_45 rfl (lv_at hl 0 rfl) ?_
        refine lv_iload_n S.1 S.2.1 dX8_wordAt_46 rfl (lv_at hl 1 rfl) ?_
        refine lv_iload_n S.1 S.2.1 dX8_wordAt_47 rfl (lv_at hl 2 rfl) ?_
        refine x_ldcS S hw 4 rfl dX8_wordAt_48 ?_
        obtain ⟨r7, g8, hf⟩ := bd_s hf
        refine g_Vi (rest := []) (XWd_ok D ad cs ts adK adV) S hw (tX8_isWord g8) kt_X8_105 5 xe_5 rfl rfl ⟨Nat.le_of_ble_eq_true rfl, Nat.le_of_ble_eq_true rfl⟩ rfl hl.1 rfl (Nat.le_of_ble_eq_true rfl) ⟨Nat.zero_le _, Nat.zero_le _⟩ dX8_wordAt_50 (fun H locs hw => ?_)
        refine lv_if_eq (tgt := 60) S.1 S.2.1 dX8_wordAt_53 (by decide) (fun hc => ?_) (fun hc => ?_)
        · have hf := itt hf hc
          refine lv_aload_n S.1 S.2.1 dX8_wordAt_60 rfl (lv_at hl 0 rfl) ?_
          refine lv_iload_n S.1 S.2.1 dX8_wordAt_61 rfl (lv_at hl 1 rfl) ?_
          refine lv_iload_n S.1 S.2.1 dX8_wordAt_62 rfl (lv_at hl 2 rfl) ?_
          refine x_ldcS S hw 5 rfl dX8_wordAt_63 ?_
          obtain ⟨r9, g10, hf⟩ := bd_s hf
          refine g_Vi (rest := []) (XWd_ok D ad cs ts adK adV) S hw (tX8_isWord g10) kt_X8_105 5 xe_5 rfl rfl ⟨Nat.le_of_ble_eq_true rfl, Nat.le_of_ble_eq_true rfl⟩ rfl hl.1 rfl (Nat.le_of_ble_eq_true rfl) ⟨Nat.zero_le _, Nat.zero_le _⟩ dX8_wordAt_65 (fun H locs hw => ?_)
          refine lv_if_eq (tgt := 75) S.1 S.2.1 dX8_wordAt_68 (by decide) (fun hc => ?_) (fun hc => ?_)
          · have hf := itt hf hc
            refine lv_aload_n S.1 S.2.1 dX8_wordAt_75 rfl (lv_at hl 0 rfl) ?_
            refine lv_iload_n S.1 S.2.1 dX8_wordAt_76 rfl (lv_at hl 1 rfl) ?_
            refine lv_iload_n S.1 S.2.1 dX8_wordAt_77 rfl (lv_at hl 2 rfl) ?_
            refine x_ldcS S hw 6 rfl dX8_wordAt_78 ?_
            obtain ⟨r11, g12, hf⟩ := bd_s hf
            refine g_Vi (rest := []) (XWd_ok D ad cs ts adK adV) S hw (tX8_isWord g12) kt_X8_105 5 xe_5 rfl rfl ⟨Nat.le_of_ble_eq_true rfl, Nat.le_of_ble_eq_true rfl⟩ rfl hl.1 rfl (Nat.le_of_ble_eq_true rfl) ⟨Nat.zero_le _, Nat.zero_le _⟩ dX8_wordAt_80 (fun H locs hw => ?_)
            refine lv_if_eq (tgt := 90) S.1 S.2.1 dX8_wordAt_83 (by decide) (fun hc => ?_) (fun hc => ?_)
            · have hf := itt hf hc
              refine lv_aload_n S.1 S.2.1 dX8_wordAt_90 rfl (lv_at hl 0 rfl) ?_
              refine lv_iload_n S.1 S.2.1 dX8_wordAt_91 rfl (lv_at hl 1 rfl) ?_
              refine lv_iload_n S.1 S.2.1 dX8_wordAt_92 rfl (lv_at hl 2 rfl) ?_
              refine x_ldcS S hw 7 rfl dX8_wordAt_93 ?_
              obtain ⟨r13, g14, hf⟩ := bd_s hf
              refine g_Vi (rest := []) (XWd_ok D ad cs ts adK adV) S hw (tX8_isWord g14) kt_X8_105 5 xe_5 rfl rfl ⟨Nat.le_of_ble_eq_true rfl, Nat.le_of_ble_eq_true rfl⟩ rfl hl.1 rfl (Nat.le_of_ble_eq_true rfl) ⟨Nat.zero_le _, Nat.zero_le _⟩ dX8_wordAt_95 (fun H locs hw => ?_)
              refine lv_if_eq (tgt := 105) S.1 S.2.1 dX8_wordAt_98 (by decide) (fun hc => ?_) (fun hc => ?_)
              · have hf := itt hf hc
                refine lv_aload_n S.1 S.2.1 dX8_wordAt_105 rfl (lv_at hl 0 rfl) ?_
                refine lv_iload_n S.1 S.2.1 dX8_wordAt_106 rfl (lv_at hl 1 rfl) ?_
                refine lv_iload_n S.1 S.2.1 dX8_wordAt_107 rfl (lv_at hl 2 rfl) ?_
                refine x_ldcS S hw 8 rfl dX8_wordAt_108 ?_
                obtain ⟨r15, g16, hf⟩ := bd_s hf
                refine g_Vi (rest := []) (XWd_ok D ad cs ts adK adV) S hw (tX8_isWord g16) kt_X8_105 5 xe_5 rfl rfl ⟨Nat.le_of_ble_eq_true rfl, Nat.le_of_ble_eq_true rfl⟩ rfl hl.1 rfl (Nat.le_of_ble_eq_true rfl) ⟨Nat.zero_le _, Nat.zero_le _⟩ dX8_wordAt_110 (fun H locs hw => ?_)
                refine lv_if_eq (tgt := 120) S.1 S.2.1 dX8_wordAt_113 (by decide) (fun hc => ?_) (fun hc => ?_)
                · have hf := itt hf hc
                  refine lv_aload_n S.1 S.2.1 dX8_wordAt_120 rfl (lv_at hl 0 rfl) ?_
                  refine lv_iload_n S.1 S.2.1 dX8_wordAt_121 rfl (lv_at hl 1 rfl) ?_
                  refine lv_iload_n S.1 S.2.1 dX8_wordAt_122 rfl (lv_at hl 2 rfl) ?_
                  refine x_ldcS S hw 9 rfl dX8_wordAt_123 ?_
                  obtain ⟨r17, g18, hf⟩ := bd_s hf
                  refine g_Vi (rest := []) (XWd_ok D ad cs ts adK adV) S hw (tX8_isWord g18) kt_X8_105 5 xe_5 rfl rfl ⟨Nat.le_of_ble_eq_true rfl, Nat.le_of_ble_eq_true rfl⟩ rfl hl.1 rfl (Nat.le_of_ble_eq_true rfl) ⟨Nat.zero_le _, Nat.zero_le _⟩ dX8_wordAt_125 (fun H locs hw => ?_)
                  refine lv_if_eq (tgt := 135) S.1 S.2.1 dX8_wordAt_128 (by decide) (fun hc => ?_) (fun hc => ?_)
                  · have hf := itt hf hc
                    refine lv_aload_n S.1 S.2.1 dX8_wordAt_135 rfl (lv_at hl 0 rfl) ?_
                    refine lv_iload_n S.1 S.2.1 dX8_wordAt_136 rfl (lv_at hl 1 rfl) ?_
                    refine lv_iload_n S.1 S.2.1 dX8_wordAt_137 rfl (lv_at hl 2 rfl) ?_
                    refine x_ldcS S hw 10 rfl dX8_wordAt_138 ?_
                    obtain ⟨r19, g20, hf⟩ := bd_s hf
                    refine g_Vi (rest := []) (XWd_ok D ad cs ts adK adV) S hw (tX8_isWord g20) kt_X8_105 5 xe_5 rfl rfl ⟨Nat.le_of_ble_eq_true rfl, Nat.le_of_ble_eq_true rfl⟩ rfl hl.1 rfl (Nat.le_of_ble_eq_true rfl) ⟨Nat.zero_le _, Nat.zero_le _⟩ dX8_wordAt_140 (fun H locs hw => ?_)
                    refine lv_if_eq (tgt := 150) S.1 S.2.1 dX8_wordAt_143 (by decide) (fun hc => ?_) (fun hc => ?_)
                    · have hf := itt hf hc
                      refine lv_aload_n S.1 S.2.1 dX8_wordAt_150 rfl (lv_at hl 0 rfl) ?_
                      refine lv_iload_n S.1 S.2.1 dX8_wordAt_151 rfl (lv_at hl 1 rfl) ?_
                      refine lv_iload_n S.1 S.2.1 dX8_wordAt_152 rfl (lv_at hl 2 rfl) ?_
                      refine x_ldcS S hw 11 rfl dX8_wordAt_153 ?_
                      obtain ⟨r21, g22, hf⟩ := bd_s hf
                      refine g_Vi (rest := []) (XWd_ok D ad cs ts adK adV) S hw (tX8_isWord g22) kt_X8_105 5 xe_5 rfl rfl ⟨Nat.le_of_ble_eq_true rfl, Nat.le_of_ble_eq_true rfl⟩ rfl hl.1 rfl (Nat.le_of_ble_eq_true rfl) ⟨Nat.zero_le _, Nat.zero_le _⟩ dX8_wordAt_155 (fun H locs hw => ?_)
                      refine lv_if_eq (tgt := 165) S.1 S.2.1 dX8_wordAt_158 (by decide) (fun hc => ?_) (fun hc => ?_)
                      · have hf := itt hf hc
                        refine lv_iconst (v := 1) S.1 S.2.1 dX8_wordAt_165 (by decide) ?_
                        exact g_iret (XWd_ok D ad cs ts adK adV) S hr hlk hw dX8_wordAt_166 (Option.some.inj hf) rfl
                      · have hf := itf hf hc
                        refine lv_sipush (v := 139) S.1 S.2.1 dX8_wordAt_161 (by decide) ?_
                        exact g_iret (XWd_ok D ad cs ts adK adV) S hr hlk hw dX8_wordAt_164 (Option.some.inj hf) rfl
                    · have hf := itf hf hc
                      refine lv_sipush (v := 138) S.1 S.2.1 dX8_wordAt_146 (by decide) ?_
                      exact g_iret (XWd_ok D ad cs ts adK adV) S hr hlk hw dX8_wordAt_149 (Option.some.inj hf) rfl
                  · have hf := itf hf hc
                    refine lv_sipush (v := 137) S.1 S.2.1 dX8_wordAt_131 (by decide) ?_
                    exact g_iret (XWd_ok D ad cs ts adK adV) S hr hlk hw dX8_wordAt_134 (Option.some.inj hf) rfl
                · have hf := itf hf hc
                  refine lv_sipush (v := 136) S.1 S.2.1 dX8_wordAt_116 (by decide) ?_
                  exact g_iret (XWd_ok D ad cs ts adK adV) S hr hlk hw dX8_wordAt_119 (Option.some.inj hf) rfl
              · have hf := itf hf hc
                refine lv_sipush (v := 135) S.1 S.2.1 dX8_wordAt_101 (by decide) ?_
                exact g_iret (XWd_ok D ad cs ts adK adV) S hr hlk hw dX8_wordAt_104 (Option.some.inj hf) rfl
            · have hf := itf hf hc
              refine lv_sipush (v := 134) S.1 S.2.1 dX8_wordAt_86 (by decide) ?_
              exact g_iret (XWd_ok D ad cs ts adK adV) S hr hlk hw dX8_wordAt_89 (Option.some.inj hf) rfl
          · have hf := itf hf hc
            refine lv_sipush (v := 132) S.1 S.2.1 dX8_wordAt_71 (by decide) ?_
            exact g_iret (XWd_ok D ad cs ts adK adV) S hr hlk hw dX8_wordAt_74 (Option.some.inj hf) rfl
        · have hf := itf hf hc
          refine lv_sipush (v := 131) S.1 S.2.1 dX8_wordAt_56 (by decide) ?_
          exact g_iret (XWd_ok D ad cs ts adK adV) S hr hlk hw dX8_wordAt_59 (Option.some.inj hf) rfl
      · have hf := itf hf hc
        refine lv_sipush (v := 130) S.1 S.2.1 dX8_wordAt_41 (by decide) ?_
        exact g_iret (XWd_ok D ad cs ts adK adV) S hr hlk hw dX8_wordAt_44 (Option.some.inj hf) rfl
    · have hf := itf hf hc
      refine lv_sipush (v := 129) S.1 S.2.1 dX8_wordAt_26 (by decide) ?_
      exact g_iret (XWd_ok D ad cs ts adK adV) S hr hlk hw dX8_wordAt_29 (Option.some.inj hf) rfl
  · have hf := itf hf hc
    refine lv_sipush (v := 128) S.1 S.2.1 dX8_wordAt_11 (by decide) ?_
    exact g_iret (XWd_ok D ad cs ts adK adV) S hr hlk hw dX8_wordAt_14 (Option.some.inj hf) rfl
def fX8_splitOne (N : Nat) (σ : St) (x1 : Int32) : Option (Int32 × St) :=
  if x1 < (σ.1 5) then (if ix x1 160 = true then nm (aR σ 51 x1) fun v2 => if (fX8_isLetter v2) = 0 then (if (fX8_isDigit v2) = 0 then (if (fX8_isSign v2) = 0 then (bd2 (fX8_put N σ (1 : Int32) x1 (-1 : Int32)) fun r6 σ4 => some (r6, σ4)) else (bd2 (fX8_put N σ v2 x1 (x1 + (1 : Int32))) fun r9 σ7 => some (r9, σ7))) else (bd (fX8_behindDigits N σ x1) fun r10 => if (r10 - x1) ≤ (4 : Int32) then (bd (fX8_numberAt N σ x1 r10) fun r12 => if ix (σ.1 6) 161 = true then nm (aW σ 54 (σ.1 6) r12) fun σ15 => bd2 (fX8_put N σ15 (2 : Int32) x1 r10) fun r19 σ17 => some (r19, σ17) else none) else (bd2 (fX8_put N σ (1 : Int32) x1 (-1 : Int32)) fun r22 σ20 => some (r22, σ20)))) else (bd (fX8_behindLetters N σ x1) fun r23 => bd (fX8_wordAt N σ x1 r23) fun r25 => if r25 = (1 : Int32) then (bd2 (fX8_put N σ r25 x1 (-1 : Int32)) fun r32 σ30 => some (r32, σ30)) else (bd2 (fX8_put N σ r25 x1 r23) fun r29 σ27 => some (r29, σ27))) else none) else (bd2 (fX8_put N σ (0 : Int32) (σ.1 5) (-1 : Int32)) fun r35 σ33 => some (r35, σ33))
set_option maxHeartbeats 2000000 in
set_option maxRecDepth 20000 in
theorem tX8_splitOne {r : Int32} {σ' : St} {N : Nat} {σ : St} {x1 : Int32} (hf : fX8_splitOne N σ x1 = some (r, σ')) : CI l (XWd D ad cs ts adK adV) yX8_splitOne cX8_splitOne 5 (some .int) 6 131 [.ref (ad 5), .int x1] σ r σ' := by
  refine CI.of (by decide) (Nat.le_of_ble_eq_true rfl) ?_
  intro p e s m below meth c ls S hr hlk hw hl
  have hl : lv_has ls 5 [(0, .ref (ad 5)), (1, .int x1)] := hl
  unfold fX8_splitOne at hf
  refine lv_iload_n S.1 S.2.1 dX8_splitOne_0 rfl (lv_at hl 1 rfl) ?_
  refine lv_aload_n S.1 S.2.1 dX8_splitOne_1 rfl (lv_at hl 0 rfl) ?_
  refine xg_Reader_size S hw kf_X8_27 dX8_splitOne_2 ?_
  refine lv_icmp_lt (tgt := 19) S.1 S.2.1 dX8_splitOne_5 (by decide) (fun hc => ?_) (fun hc => ?_)
  · have hf := itt hf hc
    refine lv_aload_n S.1 S.2.1 dX8_splitOne_19 rfl (lv_at hl 0 rfl) ?_
    refine xg_Reader_tape S hw kf_X8_9 dX8_splitOne_20 ?_
    refine lv_iload_n S.1 S.2.1 dX8_splitOne_23 rfl (lv_at hl 1 rfl) ?_
    obtain ⟨h1, hf⟩ := gd_ix hf
    refine g_iald S hw 51 0 xe_51 rfl h1 dX8_splitOne_24 ?_
    refine lv_topi (fun v2 e3 => ?_)
    have hf := nm_s e3 hf
    refine lv_istore_n (lv' := [(2, .int v2), (0, .ref (ad 5)), (1, .int x1)]) S.1 S.2.1 dX8_splitOne_25 rfl hl (by decide) rfl (fun ls hl => ?_)
    refine lv_iload_n S.1 S.2.1 dX8_splitOne_26 rfl (lv_at hl 0 rfl) ?_
    refine g_Si (rest := []) (XWd_ok D ad cs ts adK adV) S hw (tX8_isLetter (ad := ad) (cs := cs) (ts := ts) (adK := adK) (adV := adV) (σ := σ) rfl) kt_X8_76 ⟨Nat.le_of_ble_eq_true rfl, Nat.le_of_ble_eq_true rfl⟩ rfl hl.1 rfl (Nat.le_of_ble_eq_true rfl) ⟨Nat.zero_le _, Nat.zero_le _⟩ dX8_splitOne_27 (fun H locs hw => ?_)
    refine lv_if_eq (tgt := 66) S.1 S.2.1 dX8_splitOne_30 (by decide) (fun hc => ?_) (fun hc => ?_)
    · have hf := itt hf hc
      refine lv_iload_n S.1 S.2.1 dX8_splitOne_66 rfl (lv_at hl 0 rfl) ?_
      refine g_Si (rest := []) (XWd_ok D ad cs ts adK adV) S hw (tX8_isDigit (ad := ad) (cs := cs) (ts := ts) (adK := adK) (adV := adV) (σ := σ) rfl) kt_X8_87 ⟨Nat.le_of_ble_eq_true rfl, Nat.le_of_ble_eq_true rfl⟩ rfl hl.1 rfl (Nat.le_of_ble_eq_true rfl) ⟨Nat.zero_le _, Nat.zero_le _⟩ dX8_splitOne_67 (fun H locs hw => ?_)
      refine lv_if_eq (tgt := 117) S.1 S.2.1 dX8_splitOne_70 (by decide) (fun hc => ?_) (fun hc => ?_)
      · have hf := itt hf hc
        refine lv_iload_n S.1 S.2.1 dX8_splitOne_117 rfl (lv_at hl 0 rfl) ?_
        refine g_Si (rest := []) (XWd_ok D ad cs ts adK adV) S hw (tX8_isSign (ad := ad) (cs := cs) (ts := ts) (adK := adK) (adV := adV) (σ := σ) rfl) kt_X8_96 ⟨Nat.le_of_ble_eq_true rfl, Nat.le_of_ble_eq_true rfl⟩ rfl hl.1 rfl (Nat.le_of_ble_eq_true rfl) ⟨Nat.zero_le _, Nat.zero_le _⟩ dX8_splitOne_118 (fun H locs hw => ?_)
        refine lv_if_eq (tgt := 136) S.1 S.2.1 dX8_splitOne_121 (by decide) (fun hc => ?_) (fun hc => ?_)
        · have hf := itt hf hc
          refine lv_aload_n S.1 S.2.1 dX8_splitOne_136 rfl (lv_at hl 1 rfl) ?_
          refine lv_iconst (v := 1) S.1 S.2.1 dX8_splitOne_137 (by decide) ?_
          refine lv_iload_n S.1 S.2.1 dX8_splitOne_138 rfl (lv_at hl 2 rfl) ?_
          refine lv_iconst (v := -1) S.1 S.2.1 dX8_splitOne_139 (by decide) ?_
          obtain ⟨r6, σ4, g5, hf⟩ := bd2_s hf
          refine g_Vi (rest := []) (XWd_ok D ad cs ts adK adV) S hw (tX8_put g5) kt_X8_72 5 xe_5 rfl rfl ⟨Nat.le_of_ble_eq_true rfl, Nat.le_of_ble_eq_true rfl⟩ rfl hl.1 rfl (Nat.le_of_ble_eq_true rfl) ⟨Nat.zero_le _, Nat.zero_le _⟩ dX8_splitOne_140 (fun H locs hw => ?_)
          exact g_iret (XWd_ok D ad cs ts adK adV) S hr hlk hw dX8_splitOne_143 (Prod.mk.inj (Option.some.inj hf)).1 (Prod.mk.inj (Option.some.inj hf)).2
        · have hf := itf hf hc
          refine lv_aload_n S.1 S.2.1 dX8_splitOne_124 rfl (lv_at hl 1 rfl) ?_
          refine lv_iload_n S.1 S.2.1 dX8_splitOne_125 rfl (lv_at hl 0 rfl) ?_
          refine lv_iload_n S.1 S.2.1 dX8_splitOne_126 rfl (lv_at hl 2 rfl) ?_
          refine lv_iload_n S.1 S.2.1 dX8_splitOne_127 rfl (lv_at hl 2 rfl) ?_
          refine lv_iconst (v := 1) S.1 S.2.1 dX8_splitOne_128 (by decide) ?_
          refine lv_iadd S.1 S.2.1 dX8_splitOne_129 ?_
          obtain ⟨r9, σ7, g8, hf⟩ := bd2_s hf
          refine g_Vi (rest := []) (XWd_ok D ad cs ts adK adV) S hw (tX8_put g8) kt_X8_72 5 xe_5 rfl rfl ⟨Nat.le_of_ble_eq_true rfl, Nat.le_of_ble_eq_true rfl⟩ rfl hl.1 rfl (Nat.le_of_ble_eq_true rfl) ⟨Nat.zero_le _, Nat.zero_le _⟩ dX8_splitOne_130 (fun H locs hw => ?_)
          refine lv_goto (tgt := 143) S.1 S.2.1 dX8_splitOne_133 (by decide) ?_
          exact g_iret (XWd_ok D ad cs ts adK adV) S hr hlk hw dX8_splitOne_143 (Prod.mk.inj (Option.some.inj hf)).1 (Prod.mk.inj (Option.some.inj hf)).2
      · have hf := itf hf hc
        refine lv_aload_n S.1 S.2.1 dX8_splitOne_73 rfl (lv_at hl 1 rfl) ?_
        refine lv_iload_n S.1 S.2.1 dX8_splitOne_74 rfl (lv_at hl 2 rfl) ?_
        obtain ⟨r10, g11, hf⟩ := bd_s hf
        refine g_Vi (rest := []) (XWd_ok D ad cs ts adK adV) S hw (tX8_behindDigits g11) kt_X8_90 5 xe_5 rfl rfl ⟨Nat.le_of_ble_eq_true rfl, Nat.le_of_ble_eq_true rfl⟩ rfl hl.1 rfl (Nat.le_of_ble_eq_true rfl) ⟨Nat.zero_le _, Nat.zero_le _⟩ dX8_splitOne_75 (fun H locs hw => ?_)
        refine lv_istore_n (lv' := [(3, .int r10), (2, .int v2), (0, .ref (ad 5)), (1, .int x1)]) S.1 S.2.1 dX8_splitOne_78 rfl hl (by decide) rfl (fun ls hl => ?_)
        refine lv_iload_n S.1 S.2.1 dX8_splitOne_79 rfl (lv_at hl 0 rfl) ?_
        refine lv_iload_n S.1 S.2.1 dX8_splitOne_80 rfl (lv_at hl 3 rfl) ?_
        refine lv_isub S.1 S.2.1 dX8_splitOne_81 ?_
        refine lv_iconst (v := 4) S.1 S.2.1 dX8_splitOne_82 (by decide) ?_
        refine lv_icmp_le (tgt := 94) S.1 S.2.1 dX8_splitOne_83 (by decide) (fun hc => ?_) (fun hc => ?_)
        · have hf := itt hf hc
          refine lv_aload_n S.1 S.2.1 dX8_splitOne_94 rfl (lv_at hl 2 rfl) ?_
          refine xg_Reader_numbers S hw kf_X8_21 dX8_splitOne_95 ?_
          refine lv_aload_n S.1 S.2.1 dX8_splitOne_98 rfl (lv_at hl 2 rfl) ?_
          refine xg_Reader_count S hw kf_X8_62 dX8_splitOne_99 ?_
          refine lv_aload_n S.1 S.2.1 dX8_splitOne_102 rfl (lv_at hl 2 rfl) ?_
          refine lv_iload_n S.1 S.2.1 dX8_splitOne_103 rfl (lv_at hl 3 rfl) ?_
          refine lv_iload_n S.1 S.2.1 dX8_splitOne_104 rfl (lv_at hl 0 rfl) ?_
          obtain ⟨r12, g13, hf⟩ := bd_s hf
          refine g_Vi (rest := [.int (σ.1 6), .ref (ad 54)]) (XWd_ok D ad cs ts adK adV) S hw (tX8_numberAt g13) kt_X8_93 5 xe_5 rfl rfl ⟨Nat.le_of_ble_eq_true rfl, Nat.le_of_ble_eq_true rfl⟩ rfl hl.1 rfl (Nat.le_of_ble_eq_true rfl) ⟨Nat.zero_le _, Nat.zero_le _⟩ dX8_splitOne_105 (fun H locs hw => ?_)
          obtain ⟨h14, hf⟩ := gd_ix hf
          obtain ⟨σ15, e16⟩ : ∃ z : St, z = aW σ 54 (σ.1 6) r12 := ⟨_, rfl⟩
          have hf := nm_s e16 hf
          refine g_iast (σ' := σ15) S hw 54 0 xe_54 rfl (by rw [e16]; exact xs_54 _) h14 dX8_splitOne_108 (fun H locs hw => ?_)
          refine lv_aload_n S.1 S.2.1 dX8_splitOne_109 rfl (lv_at hl 2 rfl) ?_
          refine lv_iconst (v := 2) S.1 S.2.1 dX8_splitOne_110 (by decide) ?_
          refine lv_iload_n S.1 S.2.1 dX8_splitOne_111 rfl (lv_at hl 3 rfl) ?_
          refine lv_iload_n S.1 S.2.1 dX8_splitOne_112 rfl (lv_at hl 0 rfl) ?_
          obtain ⟨r19, σ17, g18, hf⟩ := bd2_s hf
          refine g_Vi (rest := []) (XWd_ok D ad cs ts adK adV) S hw (tX8_put g18) kt_X8_72 5 xe_5 rfl rfl ⟨Nat.le_of_ble_eq_true rfl, Nat.le_of_ble_eq_true rfl⟩ rfl hl.1 rfl (Nat.le_of_ble_eq_true rfl) ⟨Nat.zero_le _, Nat.zero_le _⟩ dX8_splitOne_113 (fun H locs hw => ?_)
          exact g_iret (XWd_ok D ad cs ts adK adV) S hr hlk hw dX8_splitOne_116 (Prod.mk.inj (Option.some.inj hf)).1 (Prod.mk.inj (Option.some.inj hf)).2
        · have hf := itf hf hc
          refine lv_aload_n S.1 S.2.1 dX8_splitOne_86 rfl (lv_at hl 2 rfl) ?_
          refine lv_iconst (v := 1) S.1 S.2.1 dX8_splitOne_87 (by decide) ?_
          refine lv_iload_n S.1 S.2.1 dX8_splitOne_88 rfl (lv_at hl 3 rfl) ?_
          refine lv_iconst (v := -1) S.1 S.2.1 dX8_splitOne_89 (by decide) ?_
          obtain ⟨r22, σ20, g21, hf⟩ := bd2_s hf
          refine g_Vi (rest := []) (XWd_ok D ad cs ts adK adV) S hw (tX8_put g21) kt_X8_72 5 xe_5 rfl rfl ⟨Nat.le_of_ble_eq_true rfl, Nat.le_of_ble_eq_true rfl⟩ rfl hl.1 rfl (Nat.le_of_ble_eq_true rfl) ⟨Nat.zero_le _, Nat.zero_le _⟩ dX8_splitOne_90 (fun H locs hw => ?_)
          exact g_iret (XWd_ok D ad cs ts adK adV) S hr hlk hw dX8_splitOne_93 (Prod.mk.inj (Option.some.inj hf)).1 (Prod.mk.inj (Option.some.inj hf)).2
    · have hf := itf hf hc
      refine lv_aload_n S.1 S.2.1 dX8_splitOne_33 rfl (lv_at hl 1 rfl) ?_
      refine lv_iload_n S.1 S.2.1 dX8_splitOne_34 rfl (lv_at hl 2 rfl) ?_
      obtain ⟨r23, g24, hf⟩ := bd_s hf
      refine g_Vi (rest := []) (XWd_ok D ad cs ts adK adV) S hw (tX8_behindLetters g24) kt_X8_80 5 xe_5 rfl rfl ⟨Nat.le_of_ble_eq_true rfl, Nat.le_of_ble_eq_true rfl⟩ rfl hl.1 rfl (Nat.le_of_ble_eq_true rfl) ⟨Nat.zero_le _, Nat.zero_le _⟩ dX8_splitOne_35 (fun H locs hw => ?_)
      refine lv_istore_n (lv' := [(3, .int r23), (2, .int v2), (0, .ref (ad 5)), (1, .int x1)]) S.1 S.2.1 dX8_splitOne_38 rfl hl (by decide) rfl (fun ls hl => ?_)
      refine lv_aload_n S.1 S.2.1 dX8_splitOne_39 rfl (lv_at hl 2 rfl) ?_
      refine lv_iload_n S.1 S.2.1 dX8_splitOne_40 rfl (lv_at hl 3 rfl) ?_
      refine lv_iload_n S.1 S.2.1 dX8_splitOne_41 rfl (lv_at hl 0 rfl) ?_
      obtain ⟨r25, g26, hf⟩ := bd_s hf
      refine g_Vi (rest := []) (XWd_ok D ad cs ts adK adV) S hw (tX8_wordAt g26) kt_X8_83 5 xe_5 rfl rfl ⟨Nat.le_of_ble_eq_true rfl, Nat.le_of_ble_eq_true rfl⟩ rfl hl.1 rfl (Nat.le_of_ble_eq_true rfl) ⟨Nat.zero_le _, Nat.zero_le _⟩ dX8_splitOne_42 (fun H locs hw => ?_)
      refine lv_istore (lv' := [(4, .int r25), (3, .int r23), (2, .int v2), (0, .ref (ad 5)), (1, .int x1)]) S.1 S.2.1 dX8_splitOne_45 hl (by decide) rfl (fun ls hl => ?_)
      refine lv_aload_n S.1 S.2.1 dX8_splitOne_47 rfl (lv_at hl 3 rfl) ?_
      refine lv_iload S.1 S.2.1 dX8_splitOne_48 (lv_at hl 0 rfl) ?_
      refine lv_iload_n S.1 S.2.1 dX8_splitOne_50 rfl (lv_at hl 4 rfl) ?_
      refine lv_iload S.1 S.2.1 dX8_splitOne_51 (lv_at hl 0 rfl) ?_
      refine lv_iconst (v := 1) S.1 S.2.1 dX8_splitOne_53 (by decide) ?_
      refine lv_icmp_ne (tgt := 61) S.1 S.2.1 dX8_splitOne_54 (by decide) (fun hc => ?_) (fun hc => ?_)
      · have hf := itf hf hc
        refine lv_iload_n S.1 S.2.1 dX8_splitOne_61 rfl (lv_at hl 1 rfl) ?_
        obtain ⟨r29, σ27, g28, hf⟩ := bd2_s hf
        refine g_Vi (rest := []) (XWd_ok D ad cs ts adK adV) S hw (tX8_put g28) kt_X8_72 5 xe_5 rfl rfl ⟨Nat.le_of_ble_eq_true rfl, Nat.le_of_ble_eq_true rfl⟩ rfl hl.1 rfl (Nat.le_of_ble_eq_true rfl) ⟨Nat.zero_le _, Nat.zero_le _⟩ dX8_splitOne_62 (fun H locs hw => ?_)
        exact g_iret (XWd_ok D ad cs ts adK adV) S hr hlk hw dX8_splitOne_65 (Prod.mk.inj (Option.some.inj hf)).1 (Prod.mk.inj (Option.some.inj hf)).2
      · have hf := itt hf hc
        refine lv_iconst (v := -1) S.1 S.2.1 dX8_splitOne_57 (by decide) ?_
        refine lv_goto (tgt := 62) S.1 S.2.1 dX8_splitOne_58 (by decide) ?_
        obtain ⟨r32, σ30, g31, hf⟩ := bd2_s hf
        refine g_Vi (rest := []) (XWd_ok D ad cs ts adK adV) S hw (tX8_put g31) kt_X8_72 5 xe_5 rfl rfl ⟨Nat.le_of_ble_eq_true rfl, Nat.le_of_ble_eq_true rfl⟩ rfl hl.1 rfl (Nat.le_of_ble_eq_true rfl) ⟨Nat.zero_le _, Nat.zero_le _⟩ dX8_splitOne_62 (fun H locs hw => ?_)
        exact g_iret (XWd_ok D ad cs ts adK adV) S hr hlk hw dX8_splitOne_65 (Prod.mk.inj (Option.some.inj hf)).1 (Prod.mk.inj (Option.some.inj hf)).2
  · have hf := itf hf hc
    refine lv_aload_n S.1 S.2.1 dX8_splitOne_8 rfl (lv_at hl 0 rfl) ?_
    refine lv_iconst (v := 0) S.1 S.2.1 dX8_splitOne_9 (by decide) ?_
    refine lv_aload_n S.1 S.2.1 dX8_splitOne_10 rfl (lv_at hl 0 rfl) ?_
    refine xg_Reader_size S hw kf_X8_27 dX8_splitOne_11 ?_
    refine lv_iconst (v := -1) S.1 S.2.1 dX8_splitOne_14 (by decide) ?_
    obtain ⟨r35, σ33, g34, hf⟩ := bd2_s hf
    refine g_Vi (rest := []) (XWd_ok D ad cs ts adK adV) S hw (tX8_put g34) kt_X8_72 5 xe_5 rfl rfl ⟨Nat.le_of_ble_eq_true rfl, Nat.le_of_ble_eq_true rfl⟩ rfl hl.1 rfl (Nat.le_of_ble_eq_true rfl) ⟨Nat.zero_le _, Nat.zero_le _⟩ dX8_splitOne_15 (fun H locs hw => ?_)
    exact g_iret (XWd_ok D ad cs ts adK adV) S hr hlk hw dX8_splitOne_18 (Prod.mk.inj (Option.some.inj hf)).1 (Prod.mk.inj (Option.some.inj hf)).2
def fX8_splitTape_9b (N : Nat) (k9 : St → Int32 → Int32 → Option St) (σ : St) (x1 : Int32) (x2 : Int32) : Option St :=
  if (160 : Int32) < x2 then (some σ) else (if x1 = (-1 : Int32) then (some σ) else (bd (fX8_behindBlanks N σ x1) fun r3 => bd2 (fX8_splitOne N σ r3) fun r7 σ5 => nm (x2 + (1 : Int32)) fun v8 => k9 σ5 r7 v8))
set_option maxHeartbeats 2000000 in
set_option maxRecDepth 20000 in
theorem wX8_splitTape_9b {σ' : St} {N : Nat} (S : CallFix p m c cX8_splitTape 3 s av BG RX8) (hr : meth.sig.returnType = none) (hlk : meth.locks = false) {k9 : St → Int32 → Int32 → Option St} (hk9 : ∀ (σ : St) (x1 : Int32) (x2 : Int32) (ls : Array Slot) (H : Heap) (locs : List Loc), Hw (XWd D ad cs ts adK adV) s σ H locs → lv_has ls 3 [(0, .ref (ad 5)), (1, .int x1), (2, .int x2)] → k9 σ x1 x2 = some σ' → W p l e (RM 7 155) s m av below meth c H locs 0 0 (QV below (XWd D ad cs ts adK adV) av s σ') (F0 m 9 ls []))  {σ : St} {x1 : Int32} {x2 : Int32} {ls : Array Slot} {H : Heap} {locs : List Loc} (hw : Hw (XWd D ad cs ts adK adV) s σ H locs) (hl : lv_has ls 3 [(0, .ref (ad 5)), (1, .int x1), (2, .int x2)]) (hf : fX8_splitTape_9b N k9 σ x1 x2 = some σ') : W p l e (RM 7 155) s m av below meth c H locs 0 0 (QV below (XWd D ad cs ts adK adV) av s σ') (F0 m 9 ls []) := by
  unfold fX8_splitTape_9b at hf
  refine lv_iload_n S.1 S.2.1 dX8_splitTape_9 rfl (lv_at hl 2 rfl) ?_
  refine lv_sipush (v := 160) S.1 S.2.1 dX8_splitTape_10 (by decide) ?_
  refine lv_icmp_gt (tgt := 37) S.1 S.2.1 dX8_splitTape_13 (by decide) (fun hc => ?_) (fun hc => ?_)
  · have hf := itt hf hc
    exact g_vret (XWd_ok D ad cs ts adK adV) S hr hlk hw dX8_splitTape_37 (Option.some.inj hf)
  · have hf := itf hf hc
    refine lv_iload_n S.1 S.2.1 dX8_splitTape_16 rfl (lv_at hl 1 rfl) ?_
    refine lv_iconst (v := -1) S.1 S.2.1 dX8_splitTape_17 (by decide) ?_
    refine lv_icmp_eq (tgt := 37) S.1 S.2.1 dX8_splitTape_18 (by decide) (fun hc => ?_) (fun hc => ?_)
    · have hf := itt hf hc
      exact g_vret (XWd_ok D ad cs ts adK adV) S hr hlk hw dX8_splitTape_37 (Option.some.inj hf)
    · have hf := itf hf hc
      refine lv_aload_n S.1 S.2.1 dX8_splitTape_21 rfl (lv_at hl 0 rfl) ?_
      refine lv_aload_n S.1 S.2.1 dX8_splitTape_22 rfl (lv_at hl 0 rfl) ?_
      refine lv_iload_n S.1 S.2.1 dX8_splitTape_23 rfl (lv_at hl 1 rfl) ?_
      obtain ⟨r3, g4, hf⟩ := bd_s hf
      refine g_Vi (rest := [.ref (ad 5)]) (XWd_ok D ad cs ts adK adV) S hw (tX8_behindBlanks g4) kt_X8_65 5 xe_5 rfl rfl ⟨Nat.le_of_ble_eq_true rfl, Nat.le_of_ble_eq_true rfl⟩ rfl hl.1 rfl (Nat.le_of_ble_eq_true rfl) ⟨Nat.zero_le _, Nat.zero_le _⟩ dX8_splitTape_24 (fun H locs hw => ?_)
      obtain ⟨r7, σ5, g6, hf⟩ := bd2_s hf
      refine g_Vi (rest := []) (XWd_ok D ad cs ts adK adV) S hw (tX8_splitOne g6) kt_X8_69 5 xe_5 rfl rfl ⟨Nat.le_of_ble_eq_true rfl, Nat.le_of_ble_eq_true rfl⟩ rfl hl.1 rfl (Nat.le_of_ble_eq_true rfl) ⟨Nat.zero_le _, Nat.zero_le _⟩ dX8_splitTape_27 (fun H locs hw => ?_)
      refine lv_istore_n (lv' := [(1, .int r7), (0, .ref (ad 5)), (2, .int x2)]) S.1 S.2.1 dX8_splitTape_30 rfl hl (by decide) rfl (fun ls hl => ?_)
      obtain ⟨v8, e9⟩ : ∃ z : Int32, z = x2 + (1 : Int32) := ⟨_, rfl⟩
      have hf := nm_s e9 hf
      refine lv_iinc (v := v8) (lv' := [(2, .int v8), (1, .int r7), (0, .ref (ad 5))]) S.1 S.2.1 dX8_splitTape_31 hl (k := 2) rfl (by rw [e9]; rfl) (by decide) rfl (fun ls hl => ?_)
      refine lv_goto (tgt := 9) S.1 S.2.1 dX8_splitTape_34 (by decide) ?_
      exact hk9 σ5 r7 v8 _ _ _ hw (lv_sub hl [2, 1, 0] rfl) hf
def fX8_splitTape_9 (N : Nat) : Nat → St → Int32 → Int32 → Option St
  | 0 => fun _ _ _ => none
  | n + 1 => fX8_splitTape_9b N (fX8_splitTape_9 N n)
theorem wX8_splitTape_9 {σ' : St} {N : Nat} (S : CallFix p m c cX8_splitTape 3 s av BG RX8) (hr : meth.sig.returnType = none) (hlk : meth.locks = false) : ∀ (n : Nat), ∀ (σ : St) (x1 : Int32) (x2 : Int32) (ls : Array Slot) (H : Heap) (locs : List Loc), Hw (XWd D ad cs ts adK adV) s σ H locs → lv_has ls 3 [(0, .ref (ad 5)), (1, .int x1), (2, .int x2)] → fX8_splitTape_9 N n σ x1 x2 = some σ' → W p l e (RM 7 155) s m av below meth c H locs 0 0 (QV below (XWd D ad cs ts adK adV) av s σ') (F0 m 9 ls []) := by
  intro n
  induction n with
  | zero => intro _ _ _ ls H locs hw hl hf; cases hf
  | succ n ih => intro _ _ _ ls H locs hw hl hf; exact wX8_splitTape_9b S hr hlk ih hw hl hf
def fX8_splitTape (N : Nat) (σ : St) : Option St :=
  nm (sI σ 6 (0 : Int32)) fun σ1 => fX8_splitTape_9 N N σ1 (0 : Int32) (0 : Int32)
set_option maxHeartbeats 2000000 in
set_option maxRecDepth 20000 in
theorem tX8_splitTape {σ' : St} {N : Nat} {σ : St} (hf : fX8_splitTape N σ = some σ') : CV l (XWd D ad cs ts adK adV) yX8_splitTape cX8_splitTape 3 7 155 [.ref (ad 5)] σ σ' := by
  refine CV.of (by decide) (Nat.le_of_ble_eq_true rfl) ?_
  intro p e s m below meth c ls S hr hlk hw hl
  have hl : lv_has ls 3 [(0, .ref (ad 5))] := hl
  unfold fX8_splitTape at hf
  refine lv_aload_n S.1 S.2.1 dX8_splitTape_0 rfl (lv_at hl 0 rfl) ?_
  refine lv_iconst (v := 0) S.1 S.2.1 dX8_splitTape_1 (by decide) ?_
  obtain ⟨σ1, e2⟩ : ∃ z : St, z = sI σ 6 (0 : Int32) := ⟨_, rfl⟩
  have hf := nm_s e2 hf
  refine xp_Reader_count S hw e2 kf_X8_62 dX8_splitTape_2 (fun H locs hw => ?_)
  refine lv_iconst (v := 0) S.1 S.2.1 dX8_splitTape_5 (by decide) ?_
  refine lv_istore_n (lv' := [(1, .int (0 : Int32)), (0, .ref (ad 5))]) S.1 S.2.1 dX8_splitTape_6 rfl hl (by decide) rfl (fun ls hl => ?_)
  refine lv_iconst (v := 0) S.1 S.2.1 dX8_splitTape_7 (by decide) ?_
  refine lv_istore_n (lv' := [(2, .int (0 : Int32)), (1, .int (0 : Int32)), (0, .ref (ad 5))]) S.1 S.2.1 dX8_splitTape_8 rfl hl (by decide) rfl (fun ls hl => ?_)
  exact wX8_splitTape_9 S hr hlk N σ1 (0 : Int32) (0 : Int32) _ _ _ hw (lv_sub hl [2, 1, 0] rfl) hf
def fX8_readTape (N : Nat) (σ : St) : Option (Int32 × St) :=
  bd (fX8_splitTape N σ) fun σ1 => nm (sI σ1 7 (0 : Int32)) fun σ3 => nm (sI σ3 8 (0 : Int32)) fun σ5 => nm (sI σ5 9 (0 : Int32)) fun σ7 => bd2 (fX8_readParts N σ7) fun r11 σ9 => nm (sI σ9 5 (0 : Int32)) fun σ12 => if r11 = 0 then (if ix (σ12.1 7) 161 = true then some ((aR σ12 53 (σ12.1 7)), σ12) else none) else (some ((-1 : Int32), σ12))
set_option maxHeartbeats 2000000 in
set_option maxRecDepth 20000 in
theorem tX8_readTape {r : Int32} {σ' : St} {N : Nat} {σ : St} (hf : fX8_readTape N σ = some (r, σ')) : CI l (XWd D ad cs ts adK adV) yX8_readTape cX8_readTape 2 (some .int) 184 6105 [.ref (ad 5)] σ r σ' := by
  refine CI.of (by decide) (Nat.le_of_ble_eq_true rfl) ?_
  intro p e s m below meth c ls S hr hlk hw hl
  have hl : lv_has ls 2 [(0, .ref (ad 5))] := hl
  unfold fX8_readTape at hf
  refine lv_aload_n S.1 S.2.1 dX8_readTape_0 rfl (lv_at hl 0 rfl) ?_
  obtain ⟨σ1, g2, hf⟩ := bd_s hf
  refine g_Vv (rest := []) (XWd_ok D ad cs ts adK adV) S hw (tX8_splitTape g2) kt_X8_47 5 xe_5 rfl rfl ⟨Nat.le_of_ble_eq_true rfl, Nat.le_of_ble_eq_true rfl⟩ rfl hl.1 rfl (Nat.le_of_ble_eq_true rfl) ⟨Nat.zero_le _, Nat.zero_le _⟩ dX8_readTape_1 (fun H locs hw => ?_)
  refine lv_aload_n S.1 S.2.1 dX8_readTape_4 rfl (lv_at hl 0 rfl) ?_
  refine lv_iconst (v := 0) S.1 S.2.1 dX8_readTape_5 (by decide) ?_
  obtain ⟨σ3, e4⟩ : ∃ z : St, z = sI σ1 7 (0 : Int32) := ⟨_, rfl⟩
  have hf := nm_s e4 hf
  refine xp_Reader_at S hw e4 kf_X8_50 dX8_readTape_6 (fun H locs hw => ?_)
  refine lv_aload_n S.1 S.2.1 dX8_readTape_9 rfl (lv_at hl 0 rfl) ?_
  refine lv_iconst (v := 0) S.1 S.2.1 dX8_readTape_10 (by decide) ?_
  obtain ⟨σ5, e6⟩ : ∃ z : St, z = sI σ3 8 (0 : Int32) := ⟨_, rfl⟩
  have hf := nm_s e6 hf
  refine xp_Reader_length S hw e6 kf_X8_53 dX8_readTape_11 (fun H locs hw => ?_)
  refine lv_aload_n S.1 S.2.1 dX8_readTape_14 rfl (lv_at hl 0 rfl) ?_
  refine lv_iconst (v := 0) S.1 S.2.1 dX8_readTape_15 (by decide) ?_
  obtain ⟨σ7, e8⟩ : ∃ z : St, z = sI σ5 9 (0 : Int32) := ⟨_, rfl⟩
  have hf := nm_s e8 hf
  refine xp_Reader_middle S hw e8 kf_X8_55 dX8_readTape_16 (fun H locs hw => ?_)
  refine lv_aload_n S.1 S.2.1 dX8_readTape_19 rfl (lv_at hl 0 rfl) ?_
  obtain ⟨r11, σ9, g10, hf⟩ := bd2_s hf
  refine g_Vi (rest := []) (XWd_ok D ad cs ts adK adV) S hw (tX8_readParts g10) kt_X8_58 5 xe_5 rfl rfl ⟨Nat.le_of_ble_eq_true rfl, Nat.le_of_ble_eq_true rfl⟩ rfl hl.1 rfl (Nat.le_of_ble_eq_true rfl) ⟨Nat.zero_le _, Nat.zero_le _⟩ dX8_readTape_20 (fun H locs hw => ?_)
  refine lv_istore_n (lv' := [(1, .int r11), (0, .ref (ad 5))]) S.1 S.2.1 dX8_readTape_23 rfl hl (by decide) rfl (fun ls hl => ?_)
  refine lv_aload_n S.1 S.2.1 dX8_readTape_24 rfl (lv_at hl 1 rfl) ?_
  refine lv_iconst (v := 0) S.1 S.2.1 dX8_readTape_25 (by decide) ?_
  obtain ⟨σ12, e13⟩ : ∃ z : St, z = sI σ9 5 (0 : Int32) := ⟨_, rfl⟩
  have hf := nm_s e13 hf
  refine xp_Reader_size S hw e13 kf_X8_27 dX8_readTape_26 (fun H locs hw => ?_)
  refine lv_iload_n S.1 S.2.1 dX8_readTape_29 rfl (lv_at hl 0 rfl) ?_
  refine lv_if_eq (tgt := 37) S.1 S.2.1 dX8_readTape_30 (by decide) (fun hc => ?_) (fun hc => ?_)
  · have hf := itt hf hc
    refine lv_aload_n S.1 S.2.1 dX8_readTape_37 rfl (lv_at hl 1 rfl) ?_
    refine xg_Reader_places S hw kf_X8_18 dX8_readTape_38 ?_
    refine lv_aload_n S.1 S.2.1 dX8_readTape_41 rfl (lv_at hl 1 rfl) ?_
    refine xg_Reader_at S hw kf_X8_50 dX8_readTape_42 ?_
    obtain ⟨h14, hf⟩ := gd_ix hf
    refine g_iald S hw 53 0 xe_53 rfl h14 dX8_readTape_45 ?_
    exact g_iret (XWd_ok D ad cs ts adK adV) S hr hlk hw dX8_readTape_46 (Prod.mk.inj (Option.some.inj hf)).1 (Prod.mk.inj (Option.some.inj hf)).2
  · have hf := itf hf hc
    refine lv_iconst (v := -1) S.1 S.2.1 dX8_readTape_33 (by decide) ?_
    refine lv_goto (tgt := 46) S.1 S.2.1 dX8_readTape_34 (by decide) ?_
    exact g_iret (XWd_ok D ad cs ts adK adV) S hr hlk hw dX8_readTape_46 (Prod.mk.inj (Option.some.inj hf)).1 (Prod.mk.inj (Option.some.inj hf)).2
def fX9_isSheet (x1 : Int32) : Int32 :=
  (fX11_within x1 (0 : Int32) (3 : Int32))
set_option maxHeartbeats 2000000 in
set_option maxRecDepth 20000 in
theorem tX9_isSheet {r : Int32} {σ : St} {x1 : Int32} (hf : fX9_isSheet x1 = r) : CI l (XWd D ad cs ts adK adV) yX9_isSheet cX9_isSheet 2 (some .boolean) 1 22 [.ref (ad 11), .int x1] σ r σ := by
  refine CI.of (by decide) (Nat.le_of_ble_eq_true rfl) ?_
  intro p e s m below meth c ls S hr hlk hw hl
  have hl : lv_has ls 2 [(0, .ref (ad 11)), (1, .int x1)] := hl
  unfold fX9_isSheet at hf
  refine lv_iload_n S.1 S.2.1 dX9_isSheet_0 rfl (lv_at hl 1 rfl) ?_
  refine lv_iconst (v := 0) S.1 S.2.1 dX9_isSheet_1 (by decide) ?_
  refine lv_iconst (v := 3) S.1 S.2.1 dX9_isSheet_2 (by decide) ?_
  refine g_Ni (rest := []) (XWd_ok D ad cs ts adK adV) S hw (tX11_within (ad := ad) (cs := cs) (ts := ts) (adK := adK) (adV := adV) (σ := σ) rfl) kn_X11_within (x_nw hw 7 rfl) ⟨Nat.le_of_ble_eq_true rfl, Nat.le_of_ble_eq_true rfl⟩ rfl hl.1 rfl (Nat.le_of_ble_eq_true rfl) ⟨Nat.zero_le _, Nat.zero_le _⟩ dX9_isSheet_3 (fun H locs hw => ?_)
  exact g_zret (XWd_ok D ad cs ts adK adV) S hr hlk hw (zzX11_within ..) dX9_isSheet_6 hf rfl
theorem zzX9_isSheet (x1 : Int32) : narrow .boolean (.int (fX9_isSheet x1)) = .int (fX9_isSheet x1) := by
  unfold fX9_isSheet
  repeat' split
  all_goals first | rfl | exact zzX11_within .. | exact zzX12_isIn ..
def fX9_isMissing (N : Nat) (σ : St) (x1 : Int32) : Option Int32 :=
  if ix x1 4 = true then if (aR σ 78 x1) = (-1 : Int32) then (some (1 : Int32)) else (some (0 : Int32)) else none
set_option maxHeartbeats 2000000 in
set_option maxRecDepth 20000 in
theorem tX9_isMissing {r : Int32} {N : Nat} {σ : St} {x1 : Int32} (hf : fX9_isMissing N σ x1 = some r) : CI l (XWd D ad cs ts adK adV) yX9_isMissing cX9_isMissing 2 (some .boolean) 0 0 [.ref (ad 11), .int x1] σ r σ := by
  refine CI.of (by decide) (Nat.le_of_ble_eq_true rfl) ?_
  intro p e s m below meth c ls S hr hlk hw hl
  have hl : lv_has ls 2 [(0, .ref (ad 11)), (1, .int x1)] := hl
  unfold fX9_isMissing at hf
  refine lv_aload_n S.1 S.2.1 dX9_isMissing_0 rfl (lv_at hl 0 rfl) ?_
  refine xg_Sheets_sorts S hw kf_X9_11 dX9_isMissing_1 ?_
  refine lv_iload_n S.1 S.2.1 dX9_isMissing_4 rfl (lv_at hl 1 rfl) ?_
  obtain ⟨h1, hf⟩ := gd_ix hf
  refine g_iald S hw 78 0 xe_78 rfl h1 dX9_isMissing_5 ?_
  refine lv_iconst (v := -1) S.1 S.2.1 dX9_isMissing_6 (by decide) ?_
  refine lv_icmp_ne (tgt := 14) S.1 S.2.1 dX9_isMissing_7 (by decide) (fun hc => ?_) (fun hc => ?_)
  · have hf := itf hf hc
    refine lv_iconst (v := 0) S.1 S.2.1 dX9_isMissing_14 (by decide) ?_
    exact g_zret (XWd_ok D ad cs ts adK adV) S hr hlk hw rfl dX9_isMissing_15 (Option.some.inj hf) rfl
  · have hf := itt hf hc
    refine lv_iconst (v := 1) S.1 S.2.1 dX9_isMissing_10 (by decide) ?_
    refine lv_goto (tgt := 15) S.1 S.2.1 dX9_isMissing_11 (by decide) ?_
    exact g_zret (XWd_ok D ad cs ts adK adV) S hr hlk hw rfl dX9_isMissing_15 (Option.some.inj hf) rfl
def fX9_hasPlaces (N : Nat) (σ : St) (x1 : Int32) (x2 : Int32) (x3 : Int32) : Option Int32 :=
  if x2 < 0 then (some (0 : Int32)) else (if x3 < 0 then (some (0 : Int32)) else (if ix x1 4 = true then if ((aR σ 79 x1) - x2) < x3 then (some (0 : Int32)) else (some (1 : Int32)) else none))
set_option maxHeartbeats 2000000 in
set_option maxRecDepth 20000 in
theorem tX9_hasPlaces {r : Int32} {N : Nat} {σ : St} {x1 : Int32} {x2 : Int32} {x3 : Int32} (hf : fX9_hasPlaces N σ x1 x2 x3 = some r) : CI l (XWd D ad cs ts adK adV) yX9_hasPlaces cX9_hasPlaces 4 (some .boolean) 0 0 [.ref (ad 11), .int x1, .int x2, .int x3] σ r σ := by
  refine CI.of (by decide) (Nat.le_of_ble_eq_true rfl) ?_
  intro p e s m below meth c ls S hr hlk hw hl
  have hl : lv_has ls 4 [(0, .ref (ad 11)), (1, .int x1), (2, .int x2), (3, .int x3)] := hl
  unfold fX9_hasPlaces at hf
  refine lv_iload_n S.1 S.2.1 dX9_hasPlaces_0 rfl (lv_at hl 2 rfl) ?_
  refine lv_if_lt (tgt := 24) S.1 S.2.1 dX9_hasPlaces_1 (by decide) (fun hc => ?_) (fun hc => ?_)
  · have hf := itt hf hc
    refine lv_iconst (v := 0) S.1 S.2.1 dX9_hasPlaces_24 (by decide) ?_
    exact g_zret (XWd_ok D ad cs ts adK adV) S hr hlk hw rfl dX9_hasPlaces_25 (Option.some.inj hf) rfl
  · have hf := itf hf hc
    refine lv_iload_n S.1 S.2.1 dX9_hasPlaces_4 rfl (lv_at hl 3 rfl) ?_
    refine lv_if_lt (tgt := 24) S.1 S.2.1 dX9_hasPlaces_5 (by decide) (fun hc => ?_) (fun hc => ?_)
    · have hf := itt hf hc
      refine lv_iconst (v := 0) S.1 S.2.1 dX9_hasPlaces_24 (by decide) ?_
      exact g_zret (XWd_ok D ad cs ts adK adV) S hr hlk hw rfl dX9_hasPlaces_25 (Option.some.inj hf) rfl
    · have hf := itf hf hc
      refine lv_iload_n S.1 S.2.1 dX9_hasPlaces_8 rfl (lv_at hl 3 rfl) ?_
      refine lv_aload_n S.1 S.2.1 dX9_hasPlaces_9 rfl (lv_at hl 0 rfl) ?_
      refine xg_Sheets_sizes S hw kf_X9_15 dX9_hasPlaces_10 ?_
      refine lv_iload_n S.1 S.2.1 dX9_hasPlaces_13 rfl (lv_at hl 1 rfl) ?_
      obtain ⟨h1, hf⟩ := gd_ix hf
      refine g_iald S hw 79 0 xe_79 rfl h1 dX9_hasPlaces_14 ?_
      refine lv_iload_n S.1 S.2.1 dX9_hasPlaces_15 rfl (lv_at hl 2 rfl) ?_
      refine lv_isub S.1 S.2.1 dX9_hasPlaces_16 ?_
      refine lv_icmp_gt (tgt := 24) S.1 S.2.1 dX9_hasPlaces_17 (by decide) (fun hc => ?_) (fun hc => ?_)
      · have hf := itt hf hc
        refine lv_iconst (v := 0) S.1 S.2.1 dX9_hasPlaces_24 (by decide) ?_
        exact g_zret (XWd_ok D ad cs ts adK adV) S hr hlk hw rfl dX9_hasPlaces_25 (Option.some.inj hf) rfl
      · have hf := itf hf hc
        refine lv_iconst (v := 1) S.1 S.2.1 dX9_hasPlaces_20 (by decide) ?_
        refine lv_goto (tgt := 25) S.1 S.2.1 dX9_hasPlaces_21 (by decide) ?_
        exact g_zret (XWd_ok D ad cs ts adK adV) S hr hlk hw rfl dX9_hasPlaces_25 (Option.some.inj hf) rfl
def fX9_remove (N : Nat) (σ : St) (x1 : Int32) : Option (Int32 × St) :=
  if ix x1 4 = true then nm (aW σ 78 x1 (-1 : Int32)) fun σ2 => if ix x1 4 = true then nm (aW σ2 79 x1 (0 : Int32)) fun σ5 => some ((1 : Int32), σ5) else none else none
set_option maxHeartbeats 2000000 in
set_option maxRecDepth 20000 in
theorem tX9_remove {r : Int32} {σ' : St} {N : Nat} {σ : St} {x1 : Int32} (hf : fX9_remove N σ x1 = some (r, σ')) : CI l (XWd D ad cs ts adK adV) yX9_remove cX9_remove 2 (some .int) 0 0 [.ref (ad 11), .int x1] σ r σ' := by
  refine CI.of (by decide) (Nat.le_of_ble_eq_true rfl) ?_
  intro p e s m below meth c ls S hr hlk hw hl
  have hl : lv_has ls 2 [(0, .ref (ad 11)), (1, .int x1)] := hl
  unfold fX9_remove at hf
  refine lv_aload_n S.1 S.2.1 dX9_remove_0 rfl (lv_at hl 0 rfl) ?_
  refine xg_Sheets_sorts S hw kf_X9_11 dX9_remove_1 ?_
  refine lv_iload_n S.1 S.2.1 dX9_remove_4 rfl (lv_at hl 1 rfl) ?_
  refine lv_iconst (v := -1) S.1 S.2.1 dX9_remove_5 (by decide) ?_
  obtain ⟨h1, hf⟩ := gd_ix hf
  obtain ⟨σ2, e3⟩ : ∃ z : St, z = aW σ 78 x1 (-1 : Int32) := ⟨_, rfl⟩
  have hf := nm_s e3 hf
  refine g_iast (σ' := σ2) S hw 78 0 xe_78 rfl (by rw [e3]; exact xs_78 _) h1 dX9_remove_6 (fun H locs hw => ?_)
  refine lv_aload_n S.1 S.2.1 dX9_remove_7 rfl (lv_at hl 0 rfl) ?_
  refine xg_Sheets_sizes S hw kf_X9_15 dX9_remove_8 ?_
  refine lv_iload_n S.1 S.2.1 dX9_remove_11 rfl (lv_at hl 1 rfl) ?_
  refine lv_iconst (v := 0) S.1 S.2.1 dX9_remove_12 (by decide) ?_
  obtain ⟨h4, hf⟩ := gd_ix hf
  obtain ⟨σ5, e6⟩ : ∃ z : St, z = aW σ2 79 x1 (0 : Int32) := ⟨_, rfl⟩
  have hf := nm_s e6 hf
  refine g_iast (σ' := σ5) S hw 79 0 xe_79 rfl (by rw [e6]; exact xs_79 _) h4 dX9_remove_13 (fun H locs hw => ?_)
  refine lv_iconst (v := 1) S.1 S.2.1 dX9_remove_14 (by decide) ?_
  exact g_iret (XWd_ok D ad cs ts adK adV) S hr hlk hw dX9_remove_15 (Prod.mk.inj (Option.some.inj hf)).1 (Prod.mk.inj (Option.some.inj hf)).2
def fX9_lay (N : Nat) (σ : St) (x1 : Int32) (x2 : Int32) (x3 : Int32) : Option (Int32 × St) :=
  if ix x1 4 = true then nm (aW σ 78 x1 x2) fun σ2 => if ix x1 4 = true then nm (aW σ2 79 x1 x3) fun σ5 => if ix x1 4 = true then nm (sA σ5 (81 + (x1).toNatClampNeg) (flI (σ5.2.1 (81 + (x1).toNatClampNeg)) 40 (0 : Int32))) fun σ8 => some ((1 : Int32), σ8) else none else none else none
set_option maxHeartbeats 2000000 in
set_option maxRecDepth 20000 in
theorem tX9_lay {r : Int32} {σ' : St} {N : Nat} {σ : St} {x1 : Int32} {x2 : Int32} {x3 : Int32} (hf : fX9_lay N σ x1 x2 x3 = some (r, σ')) : CI l (XWd D ad cs ts adK adV) yX9_lay cX9_lay 4 (some .int) 1 23 [.ref (ad 11), .int x1, .int x2, .int x3] σ r σ' := by
  refine CI.of (by decide) (Nat.le_of_ble_eq_true rfl) ?_
  intro p e s m below meth c ls S hr hlk hw hl
  have hl : lv_has ls 4 [(0, .ref (ad 11)), (1, .int x1), (2, .int x2), (3, .int x3)] := hl
  unfold fX9_lay at hf
  refine lv_aload_n S.1 S.2.1 dX9_lay_0 rfl (lv_at hl 0 rfl) ?_
  refine xg_Sheets_sorts S hw kf_X9_11 dX9_lay_1 ?_
  refine lv_iload_n S.1 S.2.1 dX9_lay_4 rfl (lv_at hl 1 rfl) ?_
  refine lv_iload_n S.1 S.2.1 dX9_lay_5 rfl (lv_at hl 2 rfl) ?_
  obtain ⟨h1, hf⟩ := gd_ix hf
  obtain ⟨σ2, e3⟩ : ∃ z : St, z = aW σ 78 x1 x2 := ⟨_, rfl⟩
  have hf := nm_s e3 hf
  refine g_iast (σ' := σ2) S hw 78 0 xe_78 rfl (by rw [e3]; exact xs_78 _) h1 dX9_lay_6 (fun H locs hw => ?_)
  refine lv_aload_n S.1 S.2.1 dX9_lay_7 rfl (lv_at hl 0 rfl) ?_
  refine xg_Sheets_sizes S hw kf_X9_15 dX9_lay_8 ?_
  refine lv_iload_n S.1 S.2.1 dX9_lay_11 rfl (lv_at hl 1 rfl) ?_
  refine lv_iload_n S.1 S.2.1 dX9_lay_12 rfl (lv_at hl 3 rfl) ?_
  obtain ⟨h4, hf⟩ := gd_ix hf
  obtain ⟨σ5, e6⟩ : ∃ z : St, z = aW σ2 79 x1 x3 := ⟨_, rfl⟩
  have hf := nm_s e6 hf
  refine g_iast (σ' := σ5) S hw 79 0 xe_79 rfl (by rw [e6]; exact xs_79 _) h4 dX9_lay_13 (fun H locs hw => ?_)
  refine lv_aload_n S.1 S.2.1 dX9_lay_14 rfl (lv_at hl 0 rfl) ?_
  refine xg_Sheets_rows S hw kf_X9_20 dX9_lay_15 ?_
  refine lv_iload_n S.1 S.2.1 dX9_lay_18 rfl (lv_at hl 1 rfl) ?_
  obtain ⟨h7, hf⟩ := gd_ix hf
  refine g_aald S hw 80 3 xe_80 rfl h7 dX9_lay_19 ?_
  refine lv_iconst (v := 0) S.1 S.2.1 dX9_lay_20 (by decide) ?_
  obtain ⟨σ8, e9⟩ : ∃ z : St, z = sA σ5 (81 + (x1).toNatClampNeg) (flI (σ5.2.1 (81 + (x1).toNatClampNeg)) 40 (0 : Int32)) := ⟨_, rfl⟩
  have hf := nm_s e9 hf
  refine g_Sv (σ' := σ8) (rest := []) (XWd_ok D ad cs ts adK adV) S hw (by rw [e9]; exact tfillI (b := ad (81 + (x1).toNatClampNeg)) (XWd_ok D ad cs ts adK adV) (81 + (x1).toNatClampNeg) (fun f => by rw [x2_81 (vp_lt h7)]; simp [sA, va_up]) (fun f g => by rw [xt_81 (vp_lt h7)]; simp [sA, vz_up_up]) rfl (by decide)) kt_X9_27 ⟨Nat.le_of_ble_eq_true rfl, Nat.le_of_ble_eq_true rfl⟩ rfl hl.1 rfl (Nat.le_of_ble_eq_true rfl) ⟨Nat.zero_le _, Nat.zero_le _⟩ dX9_lay_21 (fun H locs hw => ?_)
  refine lv_iconst (v := 1) S.1 S.2.1 dX9_lay_24 (by decide) ?_
  exact g_iret (XWd_ok D ad cs ts adK adV) S hr hlk hw dX9_lay_25 (Prod.mk.inj (Option.some.inj hf)).1 (Prod.mk.inj (Option.some.inj hf)).2
def fX9_narrowed (x0 : Int32) (x1 : Int32) : Int32 :=
  if x0 = (0 : Int32) then ((x1).toInt8.toInt32) else (if x0 = (1 : Int32) then ((x1).toInt16.toInt32) else (x1))
set_option maxHeartbeats 2000000 in
set_option maxRecDepth 20000 in
theorem tX9_narrowed {r : Int32} {σ : St} {x0 : Int32} {x1 : Int32} (hf : fX9_narrowed x0 x1 = r) : CI l (XWd D ad cs ts adK adV) yX9_narrowed cX9_narrowed 2 (some .int) 0 0 [.int x0, .int x1] σ r σ := by
  refine CI.of (by decide) (Nat.le_of_ble_eq_true rfl) ?_
  intro p e s m below meth c ls S hr hlk hw hl
  have hl : lv_has ls 2 [(0, .int x0), (1, .int x1)] := hl
  unfold fX9_narrowed at hf
  refine lv_iload_n S.1 S.2.1 dX9_narrowed_0 rfl (lv_at hl 0 rfl) ?_
  by_cases h1 : x0 = (0 : Int32)
  · have hf := itt hf h1
    refine lv_lookup (off := 27) (tgt := 28) S.1 S.2.1 dX9_narrowed_1 (by decide) (by rw [h1]; rfl) (by decide) ?_
    refine lv_iload_n S.1 S.2.1 dX9_narrowed_28 rfl (lv_at hl 1 rfl) ?_
    refine lv_i2b S.1 S.2.1 dX9_narrowed_29 rfl ?_
    exact g_iret (XWd_ok D ad cs ts adK adV) S hr hlk hw dX9_narrowed_30 hf rfl
  have hf := itf hf h1
  by_cases h2 : x0 = (1 : Int32)
  · have hf := itt hf h2
    refine lv_lookup (off := 30) (tgt := 31) S.1 S.2.1 dX9_narrowed_1 (by decide) (by rw [h2]; rfl) (by decide) ?_
    refine lv_iload_n S.1 S.2.1 dX9_narrowed_31 rfl (lv_at hl 1 rfl) ?_
    refine lv_i2s S.1 S.2.1 dX9_narrowed_32 rfl ?_
    exact g_iret (XWd_ok D ad cs ts adK adV) S hr hlk hw dX9_narrowed_33 hf rfl
  have hf := itf hf h2
  refine lv_lookup (off := 33) (tgt := 34) S.1 S.2.1 dX9_narrowed_1 (by decide) ((lv_osw h1 (a := 0) (by decide)).trans ((lv_osw h2 (a := 1) (by decide)).trans (rfl))) (by decide) ?_
  refine lv_iload_n S.1 S.2.1 dX9_narrowed_34 rfl (lv_at hl 1 rfl) ?_
  exact g_iret (XWd_ok D ad cs ts adK adV) S hr hlk hw dX9_narrowed_35 hf rfl
def fX9_write (N : Nat) (σ : St) (x1 : Int32) (x2 : Int32) (x3 : Int32) : Option (Int32 × St) :=
  if ix x1 4 = true then if ix x1 4 = true then if ix x2 40 = true then nm (aW σ (81 + (x1).toNatClampNeg) x2 (fX9_narrowed (aR σ 78 x1) x3)) fun σ4 => some ((1 : Int32), σ4) else none else none else none
set_option maxHeartbeats 2000000 in
set_option maxRecDepth 20000 in
theorem tX9_write {r : Int32} {σ' : St} {N : Nat} {σ : St} {x1 : Int32} {x2 : Int32} {x3 : Int32} (hf : fX9_write N σ x1 x2 x3 = some (r, σ')) : CI l (XWd D ad cs ts adK adV) yX9_write cX9_write 4 (some .int) 1 21 [.ref (ad 11), .int x1, .int x2, .int x3] σ r σ' := by
  refine CI.of (by decide) (Nat.le_of_ble_eq_true rfl) ?_
  intro p e s m below meth c ls S hr hlk hw hl
  have hl : lv_has ls 4 [(0, .ref (ad 11)), (1, .int x1), (2, .int x2), (3, .int x3)] := hl
  unfold fX9_write at hf
  refine lv_aload_n S.1 S.2.1 dX9_write_0 rfl (lv_at hl 0 rfl) ?_
  refine xg_Sheets_rows S hw kf_X9_20 dX9_write_1 ?_
  refine lv_iload_n S.1 S.2.1 dX9_write_4 rfl (lv_at hl 1 rfl) ?_
  obtain ⟨h1, hf⟩ := gd_ix hf
  refine g_aald S hw 80 3 xe_80 rfl h1 dX9_write_5 ?_
  refine lv_iload_n S.1 S.2.1 dX9_write_6 rfl (lv_at hl 2 rfl) ?_
  refine lv_aload_n S.1 S.2.1 dX9_write_7 rfl (lv_at hl 0 rfl) ?_
  refine xg_Sheets_sorts S hw kf_X9_11 dX9_write_8 ?_
  refine lv_iload_n S.1 S.2.1 dX9_write_11 rfl (lv_at hl 1 rfl) ?_
  obtain ⟨h2, hf⟩ := gd_ix hf
  refine g_iald S hw 78 0 xe_78 rfl h2 dX9_write_12 ?_
  refine lv_iload_n S.1 S.2.1 dX9_write_13 rfl (lv_at hl 3 rfl) ?_
  refine g_Si (rest := [.int x2, .ref (ad (81 + (x1).toNatClampNeg))]) (XWd_ok D ad cs ts adK adV) S hw (tX9_narrowed (ad := ad) (cs := cs) (ts := ts) (adK := adK) (adV := adV) (σ := σ) rfl) kt_X9_37 ⟨Nat.le_of_ble_eq_true rfl, Nat.le_of_ble_eq_true rfl⟩ rfl hl.1 rfl (Nat.le_of_ble_eq_true rfl) ⟨Nat.zero_le _, Nat.zero_le _⟩ dX9_write_14 (fun H locs hw => ?_)
  obtain ⟨h3, hf⟩ := gd_ix hf
  obtain ⟨σ4, e5⟩ : ∃ z : St, z = aW σ (81 + (x1).toNatClampNeg) x2 (fX9_narrowed (aR σ 78 x1) x3) := ⟨_, rfl⟩
  have hf := nm_s e5 hf
  refine g_iast (σ' := σ4) S hw (81 + (x1).toNatClampNeg) 0 (x2_81 (vp_lt h1)) rfl (by rw [e5]; exact xt_81 (vp_lt h1) _) h3 dX9_write_17 (fun H locs hw => ?_)
  refine lv_iconst (v := 1) S.1 S.2.1 dX9_write_18 (by decide) ?_
  exact g_iret (XWd_ok D ad cs ts adK adV) S hr hlk hw dX9_write_19 (Prod.mk.inj (Option.some.inj hf)).1 (Prod.mk.inj (Option.some.inj hf)).2
def fX11_isPlot (x0 : Int32) : Int32 :=
  (fX11_within x0 (0 : Int32) (47 : Int32))
set_option maxHeartbeats 2000000 in
set_option maxRecDepth 20000 in
theorem tX11_isPlot {r : Int32} {σ : St} {x0 : Int32} (hf : fX11_isPlot x0 = r) : CI l (XWd D ad cs ts adK adV) yX11_isPlot cX11_isPlot 1 (some .boolean) 1 22 [.int x0] σ r σ := by
  refine CI.of (by decide) (Nat.le_of_ble_eq_true rfl) ?_
  intro p e s m below meth c ls S hr hlk hw hl
  have hl : lv_has ls 1 [(0, .int x0)] := hl
  unfold fX11_isPlot at hf
  refine lv_iload_n S.1 S.2.1 dX11_isPlot_0 rfl (lv_at hl 0 rfl) ?_
  refine lv_iconst (v := 0) S.1 S.2.1 dX11_isPlot_1 (by decide) ?_
  refine lv_bipush (v := 47) S.1 S.2.1 dX11_isPlot_2 (by decide) ?_
  refine g_Si (rest := []) (XWd_ok D ad cs ts adK adV) S hw (tX11_within (ad := ad) (cs := cs) (ts := ts) (adK := adK) (adV := adV) (σ := σ) rfl) kt_X11_107 ⟨Nat.le_of_ble_eq_true rfl, Nat.le_of_ble_eq_true rfl⟩ rfl hl.1 rfl (Nat.le_of_ble_eq_true rfl) ⟨Nat.zero_le _, Nat.zero_le _⟩ dX11_isPlot_4 (fun H locs hw => ?_)
  exact g_zret (XWd_ok D ad cs ts adK adV) S hr hlk hw (zzX11_within ..) dX11_isPlot_7 hf rfl
theorem zzX11_isPlot (x0 : Int32) : narrow .boolean (.int (fX11_isPlot x0)) = .int (fX11_isPlot x0) := by
  unfold fX11_isPlot
  repeat' split
  all_goals first | rfl | exact zzX11_within .. | exact zzX12_isIn ..
def fX9_tellCosts_88 (N : Nat) (k6 : St → Int32 → Int32 → Int32 → Int32 → Int32 → Int32 → Option (Int32 × St)) (σ : St) (x1 : Int32) (x2 : Int32) (x3 : Int32) (x4 : Int32) (x5 : Int32) (x6 : Int32) : Option (Int32 × St) :=
  nm (x6 + (1 : Int32)) fun v14 => k6 σ x1 x2 x3 x4 x5 v14
set_option maxHeartbeats 2000000 in
set_option maxRecDepth 20000 in
theorem wX9_tellCosts_88 {r : Int32} {σ' : St} {N : Nat} (S : CallFix p m c cX9_tellCosts 8 s av BG RX9) (hr : meth.sig.returnType = some .int) (hlk : meth.locks = false) {k6 : St → Int32 → Int32 → Int32 → Int32 → Int32 → Int32 → Option (Int32 × St)} (hk6 : ∀ (σ : St) (x1 : Int32) (x2 : Int32) (x3 : Int32) (x4 : Int32) (x5 : Int32) (x6 : Int32) (ls : Array Slot) (H : Heap) (locs : List Loc), Hw (XWd D ad cs ts adK adV) s σ H locs → lv_has ls 8 [(0, .ref (ad 11)), (1, .int x1), (2, .int x2), (3, .int x3), (4, .int x4), (5, .int x5), (6, .int x6)] → k6 σ x1 x2 x3 x4 x5 x6 = some (r, σ') → W p l e (RM 2 42) s m av below meth c H locs 0 0 (QI below (XWd D ad cs ts adK adV) av s r σ') (F0 m 6 ls []))  {σ : St} {x1 : Int32} {x2 : Int32} {x3 : Int32} {x4 : Int32} {x5 : Int32} {x6 : Int32} {ls : Array Slot} {H : Heap} {locs : List Loc} (hw : Hw (XWd D ad cs ts adK adV) s σ H locs) (hl : lv_has ls 8 [(0, .ref (ad 11)), (1, .int x1), (2, .int x2), (3, .int x3), (4, .int x4), (5, .int x5), (6, .int x6)]) (hf : fX9_tellCosts_88 N k6 σ x1 x2 x3 x4 x5 x6 = some (r, σ')) : W p l e (RM 2 42) s m av below meth c H locs 0 0 (QI below (XWd D ad cs ts adK adV) av s r σ') (F0 m 88 ls []) := by
  unfold fX9_tellCosts_88 at hf
  obtain ⟨v14, e15⟩ : ∃ z : Int32, z = x6 + (1 : Int32) := ⟨_, rfl⟩
  have hf := nm_s e15 hf
  refine lv_iinc (v := v14) (lv' := [(6, .int v14), (0, .ref (ad 11)), (1, .int x1), (2, .int x2), (3, .int x3), (4, .int x4), (5, .int x5)]) S.1 S.2.1 dX9_tellCosts_88 hl (k := 6) rfl (by rw [e15]; rfl) (by decide) rfl (fun ls hl => ?_)
  refine lv_goto (tgt := 6) S.1 S.2.1 dX9_tellCosts_91 (by decide) ?_
  exact hk6 σ x1 x2 x3 x4 x5 v14 _ _ _ hw (lv_sub hl [1, 2, 3, 4, 5, 6, 0] rfl) hf
def fX9_tellCosts_6b (N : Nat) (k6 : St → Int32 → Int32 → Int32 → Int32 → Int32 → Int32 → Option (Int32 × St)) (σ : St) (x1 : Int32) (x2 : Int32) (x3 : Int32) (x4 : Int32) (x5 : Int32) (x6 : Int32) : Option (Int32 × St) :=
  if x4 ≤ x6 then (some (x5, σ)) else (bd (fX9_hasPlaces N σ x2 (x3 + x6) (1 : Int32)) fun r1 => if r1 = 0 then (some ((-12 : Int32), σ)) else (if ix x2 4 = true then if ix (x3 + x6) 40 = true then nm (aR σ (81 + (x2).toNatClampNeg) (x3 + x6)) fun v5 => if (fX11_isPlot (x1 + x6)) = 0 then (fX9_tellCosts_88 N k6 σ x1 x2 x3 x4 x5 x6) else (if ix (2 : Int32) 4 = true then if ix (2 : Int32) 4 = true then if (fX11_within v5 (stT 0 ((2 : Int32)).toNatClampNeg) (stT 1 ((2 : Int32)).toNatClampNeg)) = 0 then (fX9_tellCosts_88 N k6 σ x1 x2 x3 x4 x5 x6) else (bd2 (fX4_tell N σ (x1 + x6) (2 : Int32) v5) fun r11 σ9 => nm (x5 + (1 : Int32)) fun v12 => fX9_tellCosts_88 N k6 σ9 x1 x2 x3 x4 v12 x6) else none else none) else none else none))
set_option maxHeartbeats 2000000 in
set_option maxRecDepth 20000 in
theorem wX9_tellCosts_6b {r : Int32} {σ' : St} {N : Nat} (S : CallFix p m c cX9_tellCosts 8 s av BG RX9) (hr : meth.sig.returnType = some .int) (hlk : meth.locks = false) {k6 : St → Int32 → Int32 → Int32 → Int32 → Int32 → Int32 → Option (Int32 × St)} (hk6 : ∀ (σ : St) (x1 : Int32) (x2 : Int32) (x3 : Int32) (x4 : Int32) (x5 : Int32) (x6 : Int32) (ls : Array Slot) (H : Heap) (locs : List Loc), Hw (XWd D ad cs ts adK adV) s σ H locs → lv_has ls 8 [(0, .ref (ad 11)), (1, .int x1), (2, .int x2), (3, .int x3), (4, .int x4), (5, .int x5), (6, .int x6)] → k6 σ x1 x2 x3 x4 x5 x6 = some (r, σ') → W p l e (RM 2 42) s m av below meth c H locs 0 0 (QI below (XWd D ad cs ts adK adV) av s r σ') (F0 m 6 ls []))  {σ : St} {x1 : Int32} {x2 : Int32} {x3 : Int32} {x4 : Int32} {x5 : Int32} {x6 : Int32} {ls : Array Slot} {H : Heap} {locs : List Loc} (hw : Hw (XWd D ad cs ts adK adV) s σ H locs) (hl : lv_has ls 8 [(0, .ref (ad 11)), (1, .int x1), (2, .int x2), (3, .int x3), (4, .int x4), (5, .int x5), (6, .int x6)]) (hf : fX9_tellCosts_6b N k6 σ x1 x2 x3 x4 x5 x6 = some (r, σ')) : W p l e (RM 2 42) s m av below meth c H locs 0 0 (QI below (XWd D ad cs ts adK adV) av s r σ') (F0 m 6 ls []) := by
  unfold fX9_tellCosts_6b at hf
  refine lv_iload S.1 S.2.1 dX9_tellCosts_6 (lv_at hl 6 rfl) ?_
  refine lv_iload S.1 S.2.1 dX9_tellCosts_8 (lv_at hl 4 rfl) ?_
  refine lv_icmp_ge (tgt := 94) S.1 S.2.1 dX9_tellCosts_10 (by decide) (fun hc => ?_) (fun hc => ?_)
  · have hf := itt hf hc
    refine lv_iload S.1 S.2.1 dX9_tellCosts_94 (lv_at hl 5 rfl) ?_
    exact g_iret (XWd_ok D ad cs ts adK adV) S hr hlk hw dX9_tellCosts_96 (Prod.mk.inj (Option.some.inj hf)).1 (Prod.mk.inj (Option.some.inj hf)).2
  · have hf := itf hf hc
    refine lv_aload_n S.1 S.2.1 dX9_tellCosts_13 rfl (lv_at hl 0 rfl) ?_
    refine lv_iload_n S.1 S.2.1 dX9_tellCosts_14 rfl (lv_at hl 2 rfl) ?_
    refine lv_iload_n S.1 S.2.1 dX9_tellCosts_15 rfl (lv_at hl 3 rfl) ?_
    refine lv_iload S.1 S.2.1 dX9_tellCosts_16 (lv_at hl 6 rfl) ?_
    refine lv_iadd S.1 S.2.1 dX9_tellCosts_18 ?_
    refine lv_iconst (v := 1) S.1 S.2.1 dX9_tellCosts_19 (by decide) ?_
    obtain ⟨r1, g2, hf⟩ := bd_s hf
    refine g_Vi (rest := []) (XWd_ok D ad cs ts adK adV) S hw (tX9_hasPlaces g2) kt_X9_41 11 xe_11 rfl rfl ⟨Nat.le_of_ble_eq_true rfl, Nat.le_of_ble_eq_true rfl⟩ rfl hl.1 rfl (Nat.le_of_ble_eq_true rfl) ⟨Nat.zero_le _, Nat.zero_le _⟩ dX9_tellCosts_20 (fun H locs hw => ?_)
    refine lv_if_ne (tgt := 29) S.1 S.2.1 dX9_tellCosts_23 (by decide) (fun hc => ?_) (fun hc => ?_)
    · have hf := itf hf hc
      refine lv_aload_n S.1 S.2.1 dX9_tellCosts_29 rfl (lv_at hl 0 rfl) ?_
      refine xg_Sheets_rows S hw kf_X9_20 dX9_tellCosts_30 ?_
      refine lv_iload_n S.1 S.2.1 dX9_tellCosts_33 rfl (lv_at hl 2 rfl) ?_
      obtain ⟨h3, hf⟩ := gd_ix hf
      refine g_aald S hw 80 3 xe_80 rfl h3 dX9_tellCosts_34 ?_
      refine lv_iload_n S.1 S.2.1 dX9_tellCosts_35 rfl (lv_at hl 3 rfl) ?_
      refine lv_iload S.1 S.2.1 dX9_tellCosts_36 (lv_at hl 6 rfl) ?_
      refine lv_iadd S.1 S.2.1 dX9_tellCosts_38 ?_
      obtain ⟨h4, hf⟩ := gd_ix hf
      refine g_iald S hw (81 + (x2).toNatClampNeg) 0 (x2_81 (vp_lt h3)) rfl h4 dX9_tellCosts_39 ?_
      refine lv_topi (fun v5 e6 => ?_)
      have hf := nm_s e6 hf
      refine lv_istore (lv' := [(7, .int v5), (0, .ref (ad 11)), (1, .int x1), (2, .int x2), (3, .int x3), (4, .int x4), (5, .int x5), (6, .int x6)]) S.1 S.2.1 dX9_tellCosts_40 hl (by decide) rfl (fun ls hl => ?_)
      refine lv_iload_n S.1 S.2.1 dX9_tellCosts_42 rfl (lv_at hl 2 rfl) ?_
      refine lv_iload S.1 S.2.1 dX9_tellCosts_43 (lv_at hl 7 rfl) ?_
      refine lv_iadd S.1 S.2.1 dX9_tellCosts_45 ?_
      refine g_Ni (rest := []) (XWd_ok D ad cs ts adK adV) S hw (tX11_isPlot (ad := ad) (cs := cs) (ts := ts) (adK := adK) (adV := adV) (σ := σ) rfl) kn_X11_isPlot (x_nw hw 8 rfl) ⟨Nat.le_of_ble_eq_true rfl, Nat.le_of_ble_eq_true rfl⟩ rfl hl.1 rfl (Nat.le_of_ble_eq_true rfl) ⟨Nat.zero_le _, Nat.zero_le _⟩ dX9_tellCosts_46 (fun H locs hw => ?_)
      refine lv_if_eq (tgt := 88) S.1 S.2.1 dX9_tellCosts_49 (by decide) (fun hc => ?_) (fun hc => ?_)
      · have hf := itt hf hc
        exact wX9_tellCosts_88 S hr hlk hk6 hw (lv_sub hl [1, 2, 3, 4, 5, 6, 7] rfl) hf
      · have hf := itf hf hc
        refine lv_iload S.1 S.2.1 dX9_tellCosts_52 (lv_at hl 0 rfl) ?_
        refine x_gn S hw 0 (by decide) 2 rfl dX9_tellCosts_54 ?_
        refine lv_iconst (v := 2) S.1 S.2.1 dX9_tellCosts_57 (by decide) ?_
        obtain ⟨h7, hf⟩ := gd_ix hf
        refine x_ti S hw 0 (by decide) h7 dX9_tellCosts_58 ?_
        refine x_gn S hw 1 (by decide) 3 rfl dX9_tellCosts_59 ?_
        refine lv_iconst (v := 2) S.1 S.2.1 dX9_tellCosts_62 (by decide) ?_
        obtain ⟨h8, hf⟩ := gd_ix hf
        refine x_ti S hw 1 (by decide) h8 dX9_tellCosts_63 ?_
        refine g_Ni (rest := []) (XWd_ok D ad cs ts adK adV) S hw (tX11_within (ad := ad) (cs := cs) (ts := ts) (adK := adK) (adV := adV) (σ := σ) rfl) kn_X11_within (x_nw hw 7 rfl) ⟨Nat.le_of_ble_eq_true rfl, Nat.le_of_ble_eq_true rfl⟩ rfl hl.1 rfl (Nat.le_of_ble_eq_true rfl) ⟨Nat.zero_le _, Nat.zero_le _⟩ dX9_tellCosts_64 (fun H locs hw => ?_)
        refine lv_if_eq (tgt := 88) S.1 S.2.1 dX9_tellCosts_67 (by decide) (fun hc => ?_) (fun hc => ?_)
        · have hf := itt hf hc
          exact wX9_tellCosts_88 S hr hlk hk6 hw (lv_sub hl [1, 2, 3, 4, 5, 6, 7] rfl) hf
        · have hf := itf hf hc
          refine lv_aload_n S.1 S.2.1 dX9_tellCosts_70 rfl (lv_at hl 1 rfl) ?_
          refine xg_Sheets_land S hw kf_X9_23 dX9_tellCosts_71 ?_
          refine lv_iload_n S.1 S.2.1 dX9_tellCosts_74 rfl (lv_at hl 2 rfl) ?_
          refine lv_iload S.1 S.2.1 dX9_tellCosts_75 (lv_at hl 7 rfl) ?_
          refine lv_iadd S.1 S.2.1 dX9_tellCosts_77 ?_
          refine lv_iconst (v := 2) S.1 S.2.1 dX9_tellCosts_78 (by decide) ?_
          refine lv_iload S.1 S.2.1 dX9_tellCosts_79 (lv_at hl 0 rfl) ?_
          obtain ⟨r11, σ9, g10, hf⟩ := bd2_s hf
          refine g_Vi (rest := []) (XWd_ok D ad cs ts adK adV) S hw (tX4_tell g10) kt_X9_54 1 xe_1 rfl rfl ⟨Nat.le_of_ble_eq_true rfl, Nat.le_of_ble_eq_true rfl⟩ rfl hl.1 rfl (Nat.le_of_ble_eq_true rfl) ⟨Nat.zero_le _, Nat.zero_le _⟩ dX9_tellCosts_81 (fun H locs hw => ?_)
          refine lv_pop S.1 S.2.1 dX9_tellCosts_84 rfl ?_
          obtain ⟨v12, e13⟩ : ∃ z : Int32, z = x5 + (1 : Int32) := ⟨_, rfl⟩
          have hf := nm_s e13 hf
          refine lv_iinc (v := v12) (lv' := [(5, .int v12), (7, .int v5), (0, .ref (ad 11)), (1, .int x1), (2, .int x2), (3, .int x3), (4, .int x4), (6, .int x6)]) S.1 S.2.1 dX9_tellCosts_85 hl (k := 6) rfl (by rw [e13]; rfl) (by decide) rfl (fun ls hl => ?_)
          exact wX9_tellCosts_88 S hr hlk hk6 hw (lv_sub hl [2, 3, 4, 5, 6, 0, 7] rfl) hf
    · have hf := itt hf hc
      refine lv_bipush (v := -12) S.1 S.2.1 dX9_tellCosts_26 (by decide) ?_
      exact g_iret (XWd_ok D ad cs ts adK adV) S hr hlk hw dX9_tellCosts_28 (Prod.mk.inj (Option.some.inj hf)).1 (Prod.mk.inj (Option.some.inj hf)).2
def fX9_tellCosts_6 (N : Nat) : Nat → St → Int32 → Int32 → Int32 → Int32 → Int32 → Int32 → Option (Int32 × St)
  | 0 => fun _ _ _ _ _ _ _ => none
  | n + 1 => fX9_tellCosts_6b N (fX9_tellCosts_6 N n)
theorem wX9_tellCosts_6 {r : Int32} {σ' : St} {N : Nat} (S : CallFix p m c cX9_tellCosts 8 s av BG RX9) (hr : meth.sig.returnType = some .int) (hlk : meth.locks = false) : ∀ (n : Nat), ∀ (σ : St) (x1 : Int32) (x2 : Int32) (x3 : Int32) (x4 : Int32) (x5 : Int32) (x6 : Int32) (ls : Array Slot) (H : Heap) (locs : List Loc), Hw (XWd D ad cs ts adK adV) s σ H locs → lv_has ls 8 [(0, .ref (ad 11)), (1, .int x1), (2, .int x2), (3, .int x3), (4, .int x4), (5, .int x5), (6, .int x6)] → fX9_tellCosts_6 N n σ x1 x2 x3 x4 x5 x6 = some (r, σ') → W p l e (RM 2 42) s m av below meth c H locs 0 0 (QI below (XWd D ad cs ts adK adV) av s r σ') (F0 m 6 ls []) := by
  intro n
  induction n with
  | zero => intro _ _ _ _ _ _ _ ls H locs hw hl hf; cases hf
  | succ n ih => intro _ _ _ _ _ _ _ ls H locs hw hl hf; exact wX9_tellCosts_6b S hr hlk ih hw hl hf
def fX9_tellCosts (N : Nat) (σ : St) (x1 : Int32) (x2 : Int32) (x3 : Int32) (x4 : Int32) : Option (Int32 × St) :=
  fX9_tellCosts_6 N N σ x1 x2 x3 x4 (0 : Int32) (0 : Int32)
set_option maxHeartbeats 2000000 in
set_option maxRecDepth 20000 in
theorem tX9_tellCosts {r : Int32} {σ' : St} {N : Nat} {σ : St} {x1 : Int32} {x2 : Int32} {x3 : Int32} {x4 : Int32} (hf : fX9_tellCosts N σ x1 x2 x3 x4 = some (r, σ')) : CI l (XWd D ad cs ts adK adV) yX9_tellCosts cX9_tellCosts 8 (some .int) 2 42 [.ref (ad 11), .int x1, .int x2, .int x3, .int x4] σ r σ' := by
  refine CI.of (by decide) (Nat.le_of_ble_eq_true rfl) ?_
  intro p e s m below meth c ls S hr hlk hw hl
  have hl : lv_has ls 8 [(0, .ref (ad 11)), (1, .int x1), (2, .int x2), (3, .int x3), (4, .int x4)] := hl
  unfold fX9_tellCosts at hf
  refine lv_iconst (v := 0) S.1 S.2.1 dX9_tellCosts_0 (by decide) ?_
  refine lv_istore (lv' := [(5, .int (0 : Int32)), (0, .ref (ad 11)), (1, .int x1), (2, .int x2), (3, .int x3), (4, .int x4)]) S.1 S.2.1 dX9_tellCosts_1 hl (by decide) rfl (fun ls hl => ?_)
  refine lv_iconst (v := 0) S.1 S.2.1 dX9_tellCosts_3 (by decide) ?_
  refine lv_istore (lv' := [(6, .int (0 : Int32)), (5, .int (0 : Int32)), (0, .ref (ad 11)), (1, .int x1), (2, .int x2), (3, .int x3), (4, .int x4)]) S.1 S.2.1 dX9_tellCosts_4 hl (by decide) rfl (fun ls hl => ?_)
  exact wX9_tellCosts_6 S hr hlk N σ x1 x2 x3 x4 (0 : Int32) (0 : Int32) _ _ _ hw (lv_sub hl [2, 3, 4, 5, 6, 1, 0] rfl) hf
def fX10_beside (x0 : Int32) (x1 : Int32) : Int32 :=
  nm (x0 - x0 / (8 : Int32) * (8 : Int32)) fun v1 => if x1 = (0 : Int32) then (if x0 < (8 : Int32) then ((-1 : Int32)) else ((x0 - (8 : Int32)))) else (if x1 = (1 : Int32) then (if v1 ≤ 0 then ((-1 : Int32)) else ((x0 - (1 : Int32)))) else (if x1 = (2 : Int32) then (if (7 : Int32) ≤ v1 then ((-1 : Int32)) else ((x0 + (1 : Int32)))) else (if (40 : Int32) ≤ x0 then ((-1 : Int32)) else ((x0 + (8 : Int32))))))
set_option maxHeartbeats 2000000 in
set_option maxRecDepth 20000 in
theorem tX10_beside {r : Int32} {σ : St} {x0 : Int32} {x1 : Int32} (hf : fX10_beside x0 x1 = r) : CI l (XWd D ad cs ts adK adV) yX10_beside cX10_beside 3 (some .int) 0 0 [.int x0, .int x1] σ r σ := by
  refine CI.of (by decide) (Nat.le_of_ble_eq_true rfl) ?_
  intro p e s m below meth c ls S hr hlk hw hl
  have hl : lv_has ls 3 [(0, .int x0), (1, .int x1)] := hl
  unfold fX10_beside at hf
  refine lv_iload_n S.1 S.2.1 dX10_beside_0 rfl (lv_at hl 0 rfl) ?_
  refine lv_bipush (v := 8) S.1 S.2.1 dX10_beside_1 (by decide) ?_
  refine lv_irem S.1 S.2.1 dX10_beside_3 (by decide) ?_
  refine lv_topi (fun v1 e2 => ?_)
  have hf := nm_s e2 hf
  refine lv_istore_n (lv' := [(2, .int v1), (0, .int x0), (1, .int x1)]) S.1 S.2.1 dX10_beside_4 rfl hl (by decide) rfl (fun ls hl => ?_)
  refine lv_iload_n S.1 S.2.1 dX10_beside_5 rfl (lv_at hl 2 rfl) ?_
  by_cases h3 : x1 = (0 : Int32)
  · have hf := itt hf h3
    refine lv_tableIn (off := 26) (tgt := 32) S.1 S.2.1 dX10_beside_6 (by rw [h3]; decide) (by rw [h3]; decide) (by rw [h3]; rfl) (by decide) ?_
    refine lv_iload_n S.1 S.2.1 dX10_beside_32 rfl (lv_at hl 1 rfl) ?_
    refine lv_bipush (v := 8) S.1 S.2.1 dX10_beside_33 (by decide) ?_
    refine lv_icmp_lt (tgt := 45) S.1 S.2.1 dX10_beside_35 (by decide) (fun hc => ?_) (fun hc => ?_)
    · have hf := itt hf hc
      refine lv_iconst (v := -1) S.1 S.2.1 dX10_beside_45 (by decide) ?_
      exact g_iret (XWd_ok D ad cs ts adK adV) S hr hlk hw dX10_beside_46 hf rfl
    · have hf := itf hf hc
      refine lv_iload_n S.1 S.2.1 dX10_beside_38 rfl (lv_at hl 1 rfl) ?_
      refine lv_bipush (v := 8) S.1 S.2.1 dX10_beside_39 (by decide) ?_
      refine lv_isub S.1 S.2.1 dX10_beside_41 ?_
      refine lv_goto (tgt := 46) S.1 S.2.1 dX10_beside_42 (by decide) ?_
      exact g_iret (XWd_ok D ad cs ts adK adV) S hr hlk hw dX10_beside_46 hf rfl
  have hf := itf hf h3
  by_cases h4 : x1 = (1 : Int32)
  · have hf := itt hf h4
    refine lv_tableIn (off := 41) (tgt := 47) S.1 S.2.1 dX10_beside_6 (by rw [h4]; decide) (by rw [h4]; decide) (by rw [h4]; rfl) (by decide) ?_
    refine lv_iload_n S.1 S.2.1 dX10_beside_47 rfl (lv_at hl 0 rfl) ?_
    refine lv_if_le (tgt := 57) S.1 S.2.1 dX10_beside_48 (by decide) (fun hc => ?_) (fun hc => ?_)
    · have hf := itt hf hc
      refine lv_iconst (v := -1) S.1 S.2.1 dX10_beside_57 (by decide) ?_
      exact g_iret (XWd_ok D ad cs ts adK adV) S hr hlk hw dX10_beside_58 hf rfl
    · have hf := itf hf hc
      refine lv_iload_n S.1 S.2.1 dX10_beside_51 rfl (lv_at hl 1 rfl) ?_
      refine lv_iconst (v := 1) S.1 S.2.1 dX10_beside_52 (by decide) ?_
      refine lv_isub S.1 S.2.1 dX10_beside_53 ?_
      refine lv_goto (tgt := 58) S.1 S.2.1 dX10_beside_54 (by decide) ?_
      exact g_iret (XWd_ok D ad cs ts adK adV) S hr hlk hw dX10_beside_58 hf rfl
  have hf := itf hf h4
  by_cases h5 : x1 = (2 : Int32)
  · have hf := itt hf h5
    refine lv_tableIn (off := 53) (tgt := 59) S.1 S.2.1 dX10_beside_6 (by rw [h5]; decide) (by rw [h5]; decide) (by rw [h5]; rfl) (by decide) ?_
    refine lv_iload_n S.1 S.2.1 dX10_beside_59 rfl (lv_at hl 0 rfl) ?_
    refine lv_bipush (v := 7) S.1 S.2.1 dX10_beside_60 (by decide) ?_
    refine lv_icmp_ge (tgt := 71) S.1 S.2.1 dX10_beside_62 (by decide) (fun hc => ?_) (fun hc => ?_)
    · have hf := itt hf hc
      refine lv_iconst (v := -1) S.1 S.2.1 dX10_beside_71 (by decide) ?_
      exact g_iret (XWd_ok D ad cs ts adK adV) S hr hlk hw dX10_beside_72 hf rfl
    · have hf := itf hf hc
      refine lv_iload_n S.1 S.2.1 dX10_beside_65 rfl (lv_at hl 1 rfl) ?_
      refine lv_iconst (v := 1) S.1 S.2.1 dX10_beside_66 (by decide) ?_
      refine lv_iadd S.1 S.2.1 dX10_beside_67 ?_
      refine lv_goto (tgt := 72) S.1 S.2.1 dX10_beside_68 (by decide) ?_
      exact g_iret (XWd_ok D ad cs ts adK adV) S hr hlk hw dX10_beside_72 hf rfl
  have hf := itf hf h5
  refine lv_tableOut (tgt := 73) S.1 S.2.1 dX10_beside_6 (by have h3 := lv_neT h3 (a := 0) (by decide); have h4 := lv_neT h4 (a := 1) (by decide); have h5 := lv_neT h5 (a := 2) (by decide); omega) (by decide) ?_
  refine lv_iload_n S.1 S.2.1 dX10_beside_73 rfl (lv_at hl 1 rfl) ?_
  refine lv_bipush (v := 40) S.1 S.2.1 dX10_beside_74 (by decide) ?_
  refine lv_icmp_ge (tgt := 86) S.1 S.2.1 dX10_beside_76 (by decide) (fun hc => ?_) (fun hc => ?_)
  · have hf := itt hf hc
    refine lv_iconst (v := -1) S.1 S.2.1 dX10_beside_86 (by decide) ?_
    exact g_iret (XWd_ok D ad cs ts adK adV) S hr hlk hw dX10_beside_87 hf rfl
  · have hf := itf hf hc
    refine lv_iload_n S.1 S.2.1 dX10_beside_79 rfl (lv_at hl 1 rfl) ?_
    refine lv_bipush (v := 8) S.1 S.2.1 dX10_beside_80 (by decide) ?_
    refine lv_iadd S.1 S.2.1 dX10_beside_82 ?_
    refine lv_goto (tgt := 87) S.1 S.2.1 dX10_beside_83 (by decide) ?_
    exact g_iret (XWd_ok D ad cs ts adK adV) S hr hlk hw dX10_beside_87 hf rfl
def fX10_lessen_47 (N : Nat) (k17 : St → Int32 → Int32 → Int32 → Option (Int32 × St)) (σ : St) (x1 : Int32) (x2 : Int32) (x3 : Int32) : Option (Int32 × St) :=
  nm (x3 + (1 : Int32)) fun v13 => k17 σ x1 x2 v13
set_option maxHeartbeats 2000000 in
set_option maxRecDepth 20000 in
theorem wX10_lessen_47 {r : Int32} {σ' : St} {N : Nat} (S : CallFix p m c cX10_lessen 5 s av BG RX10) (hr : meth.sig.returnType = some .boolean) (hlk : meth.locks = false) {k17 : St → Int32 → Int32 → Int32 → Option (Int32 × St)} (hk17 : ∀ (σ : St) (x1 : Int32) (x2 : Int32) (x3 : Int32) (ls : Array Slot) (H : Heap) (locs : List Loc), Hw (XWd D ad cs ts adK adV) s σ H locs → lv_has ls 5 [(0, .ref (ad 9)), (1, .int x1), (2, .int x2), (3, .int x3)] → k17 σ x1 x2 x3 = some (r, σ') → W p l e (RM 1 22) s m av below meth c H locs 0 0 (QI below (XWd D ad cs ts adK adV) av s r σ') (F0 m 17 ls []))  {σ : St} {x1 : Int32} {x2 : Int32} {x3 : Int32} {ls : Array Slot} {H : Heap} {locs : List Loc} (hw : Hw (XWd D ad cs ts adK adV) s σ H locs) (hl : lv_has ls 5 [(0, .ref (ad 9)), (1, .int x1), (2, .int x2), (3, .int x3)]) (hf : fX10_lessen_47 N k17 σ x1 x2 x3 = some (r, σ')) : W p l e (RM 1 22) s m av below meth c H locs 0 0 (QI below (XWd D ad cs ts adK adV) av s r σ') (F0 m 47 ls []) := by
  unfold fX10_lessen_47 at hf
  obtain ⟨v13, e14⟩ : ∃ z : Int32, z = x3 + (1 : Int32) := ⟨_, rfl⟩
  have hf := nm_s e14 hf
  refine lv_iinc (v := v13) (lv' := [(3, .int v13), (0, .ref (ad 9)), (1, .int x1), (2, .int x2)]) S.1 S.2.1 dX10_lessen_47 hl (k := 3) rfl (by rw [e14]; rfl) (by decide) rfl (fun ls hl => ?_)
  refine lv_goto (tgt := 17) S.1 S.2.1 dX10_lessen_50 (by decide) ?_
  exact hk17 σ x1 x2 v13 _ _ _ hw (lv_sub hl [1, 2, 3, 0] rfl) hf
def fX10_lessen_17b (N : Nat) (k17 : St → Int32 → Int32 → Int32 → Option (Int32 × St)) (σ : St) (x1 : Int32) (x2 : Int32) (x3 : Int32) : Option (Int32 × St) :=
  if (4 : Int32) ≤ x3 then (if x2 = (2147483647 : Int32) then (some ((0 : Int32), σ)) else (if ix x1 48 = true then if ix x1 48 = true then if (x2 + (aR σ 72 x1)) < (aR σ 73 x1) then (if ix x1 48 = true then if ix x1 48 = true then nm (aW σ 73 x1 (x2 + (aR σ 72 x1))) fun σ6 => some ((1 : Int32), σ6) else none else none) else (some ((0 : Int32), σ)) else none else none)) else (nm (fX10_beside x1 x3) fun v8 => if v8 = (-1 : Int32) then (fX10_lessen_47 N k17 σ x1 x2 x3) else (if ix v8 48 = true then nm (if (aR σ 73 v8) < x2 then (aR σ 73 v8) else x2) fun v11 => fX10_lessen_47 N k17 σ x1 v11 x3 else none))
set_option maxHeartbeats 2000000 in
set_option maxRecDepth 20000 in
theorem wX10_lessen_17b {r : Int32} {σ' : St} {N : Nat} (S : CallFix p m c cX10_lessen 5 s av BG RX10) (hr : meth.sig.returnType = some .boolean) (hlk : meth.locks = false) {k17 : St → Int32 → Int32 → Int32 → Option (Int32 × St)} (hk17 : ∀ (σ : St) (x1 : Int32) (x2 : Int32) (x3 : Int32) (ls : Array Slot) (H : Heap) (locs : List Loc), Hw (XWd D ad cs ts adK adV) s σ H locs → lv_has ls 5 [(0, .ref (ad 9)), (1, .int x1), (2, .int x2), (3, .int x3)] → k17 σ x1 x2 x3 = some (r, σ') → W p l e (RM 1 22) s m av below meth c H locs 0 0 (QI below (XWd D ad cs ts adK adV) av s r σ') (F0 m 17 ls []))  {σ : St} {x1 : Int32} {x2 : Int32} {x3 : Int32} {ls : Array Slot} {H : Heap} {locs : List Loc} (hw : Hw (XWd D ad cs ts adK adV) s σ H locs) (hl : lv_has ls 5 [(0, .ref (ad 9)), (1, .int x1), (2, .int x2), (3, .int x3)]) (hf : fX10_lessen_17b N k17 σ x1 x2 x3 = some (r, σ')) : W p l e (RM 1 22) s m av below meth c H locs 0 0 (QI below (XWd D ad cs ts adK adV) av s r σ') (F0 m 17 ls []) := by
  unfold fX10_lessen_17b at hf
  refine lv_iload_n S.1 S.2.1 dX10_lessen_17 rfl (lv_at hl 3 rfl) ?_
  refine lv_iconst (v := 4) S.1 S.2.1 dX10_lessen_18 (by decide) ?_
  refine lv_icmp_ge (tgt := 53) S.1 S.2.1 dX10_lessen_19 (by decide) (fun hc => ?_) (fun hc => ?_)
  · have hf := itt hf hc
    refine lv_iload_n S.1 S.2.1 dX10_lessen_53 rfl (lv_at hl 2 rfl) ?_
    refine lv_ldc S.1 S.2.1 S.2.2.2.1 (S.2.2.2.2 _ kc_X10_30) dX10_lessen_54 ?_
    refine lv_icmp_eq (tgt := 76) S.1 S.2.1 dX10_lessen_56 (by decide) (fun hc => ?_) (fun hc => ?_)
    · have hf := itt hf hc
      refine lv_iconst (v := 0) S.1 S.2.1 dX10_lessen_76 (by decide) ?_
      exact g_zret (XWd_ok D ad cs ts adK adV) S hr hlk hw rfl dX10_lessen_77 (Prod.mk.inj (Option.some.inj hf)).1 (Prod.mk.inj (Option.some.inj hf)).2
    · have hf := itf hf hc
      refine lv_iload_n S.1 S.2.1 dX10_lessen_59 rfl (lv_at hl 2 rfl) ?_
      refine lv_aload_n S.1 S.2.1 dX10_lessen_60 rfl (lv_at hl 0 rfl) ?_
      refine xg_Ways_weights S hw kf_X10_9 dX10_lessen_61 ?_
      refine lv_iload_n S.1 S.2.1 dX10_lessen_64 rfl (lv_at hl 1 rfl) ?_
      obtain ⟨h2, hf⟩ := gd_ix hf
      refine g_iald S hw 72 0 xe_72 rfl h2 dX10_lessen_65 ?_
      refine lv_iadd S.1 S.2.1 dX10_lessen_66 ?_
      refine lv_aload_n S.1 S.2.1 dX10_lessen_67 rfl (lv_at hl 0 rfl) ?_
      refine xg_Ways_totals S hw kf_X10_15 dX10_lessen_68 ?_
      refine lv_iload_n S.1 S.2.1 dX10_lessen_71 rfl (lv_at hl 1 rfl) ?_
      obtain ⟨h3, hf⟩ := gd_ix hf
      refine g_iald S hw 73 0 xe_73 rfl h3 dX10_lessen_72 ?_
      refine lv_icmp_lt (tgt := 78) S.1 S.2.1 dX10_lessen_73 (by decide) (fun hc => ?_) (fun hc => ?_)
      · have hf := itt hf hc
        refine lv_aload_n S.1 S.2.1 dX10_lessen_78 rfl (lv_at hl 0 rfl) ?_
        refine xg_Ways_totals S hw kf_X10_15 dX10_lessen_79 ?_
        refine lv_iload_n S.1 S.2.1 dX10_lessen_82 rfl (lv_at hl 1 rfl) ?_
        refine lv_iload_n S.1 S.2.1 dX10_lessen_83 rfl (lv_at hl 2 rfl) ?_
        refine lv_aload_n S.1 S.2.1 dX10_lessen_84 rfl (lv_at hl 0 rfl) ?_
        refine xg_Ways_weights S hw kf_X10_9 dX10_lessen_85 ?_
        refine lv_iload_n S.1 S.2.1 dX10_lessen_88 rfl (lv_at hl 1 rfl) ?_
        obtain ⟨h4, hf⟩ := gd_ix hf
        refine g_iald S hw 72 0 xe_72 rfl h4 dX10_lessen_89 ?_
        refine lv_iadd S.1 S.2.1 dX10_lessen_90 ?_
        obtain ⟨h5, hf⟩ := gd_ix hf
        obtain ⟨σ6, e7⟩ : ∃ z : St, z = aW σ 73 x1 (x2 + (aR σ 72 x1)) := ⟨_, rfl⟩
        have hf := nm_s e7 hf
        refine g_iast (σ' := σ6) S hw 73 0 xe_73 rfl (by rw [e7]; exact xs_73 _) h5 dX10_lessen_91 (fun H locs hw => ?_)
        refine lv_iconst (v := 1) S.1 S.2.1 dX10_lessen_92 (by decide) ?_
        exact g_zret (XWd_ok D ad cs ts adK adV) S hr hlk hw rfl dX10_lessen_93 (Prod.mk.inj (Option.some.inj hf)).1 (Prod.mk.inj (Option.some.inj hf)).2
      · have hf := itf hf hc
        refine lv_iconst (v := 0) S.1 S.2.1 dX10_lessen_76 (by decide) ?_
        exact g_zret (XWd_ok D ad cs ts adK adV) S hr hlk hw rfl dX10_lessen_77 (Prod.mk.inj (Option.some.inj hf)).1 (Prod.mk.inj (Option.some.inj hf)).2
  · have hf := itf hf hc
    refine lv_iload_n S.1 S.2.1 dX10_lessen_22 rfl (lv_at hl 1 rfl) ?_
    refine lv_iload_n S.1 S.2.1 dX10_lessen_23 rfl (lv_at hl 3 rfl) ?_
    refine g_Si (rest := []) (XWd_ok D ad cs ts adK adV) S hw (tX10_beside (ad := ad) (cs := cs) (ts := ts) (adK := adK) (adV := adV) (σ := σ) rfl) kt_X10_58 ⟨Nat.le_of_ble_eq_true rfl, Nat.le_of_ble_eq_true rfl⟩ rfl hl.1 rfl (Nat.le_of_ble_eq_true rfl) ⟨Nat.zero_le _, Nat.zero_le _⟩ dX10_lessen_24 (fun H locs hw => ?_)
    refine lv_topi (fun v8 e9 => ?_)
    have hf := nm_s e9 hf
    refine lv_istore (lv' := [(4, .int v8), (0, .ref (ad 9)), (1, .int x1), (2, .int x2), (3, .int x3)]) S.1 S.2.1 dX10_lessen_27 hl (by decide) rfl (fun ls hl => ?_)
    refine lv_iload S.1 S.2.1 dX10_lessen_29 (lv_at hl 0 rfl) ?_
    refine lv_iconst (v := -1) S.1 S.2.1 dX10_lessen_31 (by decide) ?_
    refine lv_icmp_eq (tgt := 47) S.1 S.2.1 dX10_lessen_32 (by decide) (fun hc => ?_) (fun hc => ?_)
    · have hf := itt hf hc
      exact wX10_lessen_47 S hr hlk hk17 hw (lv_sub hl [1, 2, 3, 4] rfl) hf
    · have hf := itf hf hc
      refine lv_iload_n S.1 S.2.1 dX10_lessen_35 rfl (lv_at hl 3 rfl) ?_
      refine lv_aload_n S.1 S.2.1 dX10_lessen_36 rfl (lv_at hl 1 rfl) ?_
      refine xg_Ways_totals S hw kf_X10_15 dX10_lessen_37 ?_
      refine lv_iload S.1 S.2.1 dX10_lessen_40 (lv_at hl 0 rfl) ?_
      obtain ⟨h10, hf⟩ := gd_ix hf
      refine g_iald S hw 73 0 xe_73 rfl h10 dX10_lessen_42 ?_
      refine g_mmin S hl.1 kt_X10_61 (Nat.le_of_ble_eq_true rfl) (Nat.le_of_ble_eq_true rfl) (Nat.zero_le _) (Nat.zero_le _) dX10_lessen_43 ?_
      refine lv_topi (fun v11 e12 => ?_)
      have hf := nm_s e12 hf
      refine lv_istore_n (lv' := [(2, .int v11), (4, .int v8), (0, .ref (ad 9)), (1, .int x1), (3, .int x3)]) S.1 S.2.1 dX10_lessen_46 rfl hl (by decide) rfl (fun ls hl => ?_)
      exact wX10_lessen_47 S hr hlk hk17 hw (lv_sub hl [2, 3, 0, 4] rfl) hf
def fX10_lessen_17 (N : Nat) : Nat → St → Int32 → Int32 → Int32 → Option (Int32 × St)
  | 0 => fun _ _ _ _ => none
  | n + 1 => fX10_lessen_17b N (fX10_lessen_17 N n)
theorem wX10_lessen_17 {r : Int32} {σ' : St} {N : Nat} (S : CallFix p m c cX10_lessen 5 s av BG RX10) (hr : meth.sig.returnType = some .boolean) (hlk : meth.locks = false) : ∀ (n : Nat), ∀ (σ : St) (x1 : Int32) (x2 : Int32) (x3 : Int32) (ls : Array Slot) (H : Heap) (locs : List Loc), Hw (XWd D ad cs ts adK adV) s σ H locs → lv_has ls 5 [(0, .ref (ad 9)), (1, .int x1), (2, .int x2), (3, .int x3)] → fX10_lessen_17 N n σ x1 x2 x3 = some (r, σ') → W p l e (RM 1 22) s m av below meth c H locs 0 0 (QI below (XWd D ad cs ts adK adV) av s r σ') (F0 m 17 ls []) := by
  intro n
  induction n with
  | zero => intro _ _ _ _ ls H locs hw hl hf; cases hf
  | succ n ih => intro _ _ _ _ ls H locs hw hl hf; exact wX10_lessen_17b S hr hlk ih hw hl hf
def fX10_lessen (N : Nat) (σ : St) (x1 : Int32) : Option (Int32 × St) :=
  if ix x1 48 = true then if (aR σ 72 x1) = (-1 : Int32) then (some ((0 : Int32), σ)) else (fX10_lessen_17 N N σ x1 (2147483647 : Int32) (0 : Int32)) else none
set_option maxHeartbeats 2000000 in
set_option maxRecDepth 20000 in
theorem tX10_lessen {r : Int32} {σ' : St} {N : Nat} {σ : St} {x1 : Int32} (hf : fX10_lessen N σ x1 = some (r, σ')) : CI l (XWd D ad cs ts adK adV) yX10_lessen cX10_lessen 5 (some .boolean) 1 22 [.ref (ad 9), .int x1] σ r σ' := by
  refine CI.of (by decide) (Nat.le_of_ble_eq_true rfl) ?_
  intro p e s m below meth c ls S hr hlk hw hl
  have hl : lv_has ls 5 [(0, .ref (ad 9)), (1, .int x1)] := hl
  unfold fX10_lessen at hf
  refine lv_aload_n S.1 S.2.1 dX10_lessen_0 rfl (lv_at hl 0 rfl) ?_
  refine xg_Ways_weights S hw kf_X10_9 dX10_lessen_1 ?_
  refine lv_iload_n S.1 S.2.1 dX10_lessen_4 rfl (lv_at hl 1 rfl) ?_
  obtain ⟨h1, hf⟩ := gd_ix hf
  refine g_iald S hw 72 0 xe_72 rfl h1 dX10_lessen_5 ?_
  refine lv_iconst (v := -1) S.1 S.2.1 dX10_lessen_6 (by decide) ?_
  refine lv_icmp_ne (tgt := 12) S.1 S.2.1 dX10_lessen_7 (by decide) (fun hc => ?_) (fun hc => ?_)
  · have hf := itf hf hc
    refine lv_ldc S.1 S.2.1 S.2.2.2.1 (S.2.2.2.2 _ kc_X10_30) dX10_lessen_12 ?_
    refine lv_istore_n (lv' := [(2, .int (2147483647 : Int32)), (0, .ref (ad 9)), (1, .int x1)]) S.1 S.2.1 dX10_lessen_14 rfl hl (by decide) rfl (fun ls hl => ?_)
    refine lv_iconst (v := 0) S.1 S.2.1 dX10_lessen_15 (by decide) ?_
    refine lv_istore_n (lv' := [(3, .int (0 : Int32)), (2, .int (2147483647 : Int32)), (0, .ref (ad 9)), (1, .int x1)]) S.1 S.2.1 dX10_lessen_16 rfl hl (by decide) rfl (fun ls hl => ?_)
    exact wX10_lessen_17 S hr hlk N σ x1 (2147483647 : Int32) (0 : Int32) _ _ _ hw (lv_sub hl [2, 3, 1, 0] rfl) hf
  · have hf := itt hf hc
    refine lv_iconst (v := 0) S.1 S.2.1 dX10_lessen_10 (by decide) ?_
    exact g_zret (XWd_ok D ad cs ts adK adV) S hr hlk hw rfl dX10_lessen_11 (Prod.mk.inj (Option.some.inj hf)).1 (Prod.mk.inj (Option.some.inj hf)).2
def fX10_spreadFrom_83 (N : Nat) (k36 : St → Int32 → Int32 → Option St) (k51 : St → Int32 → Int32 → Int32 → Option St) (σ : St) (x2 : Int32) (x3 : Int32) (x4 : Int32) : Option St :=
  nm (x4 + (1 : Int32)) fun v13 => k51 σ x2 x3 v13
set_option maxHeartbeats 2000000 in
set_option maxRecDepth 20000 in
theorem wX10_spreadFrom_83 {σ' : St} {N : Nat} (S : CallFix p m c cX10_spreadFrom 5 s av BG RX10) (hr : meth.sig.returnType = none) (hlk : meth.locks = false) {k36 : St → Int32 → Int32 → Option St} {k51 : St → Int32 → Int32 → Int32 → Option St} (hk36 : ∀ (σ : St) (x2 : Int32) (x3 : Int32) (ls : Array Slot) (H : Heap) (locs : List Loc), Hw (XWd D ad cs ts adK adV) s σ H locs → lv_has ls 5 [(0, .ref (ad 9)), (2, .int x2), (3, .int x3)] → k36 σ x2 x3 = some σ' → W p l e (RM 2 46) s m av below meth c H locs 0 0 (QV below (XWd D ad cs ts adK adV) av s σ') (F0 m 36 ls [])) (hk51 : ∀ (σ : St) (x2 : Int32) (x3 : Int32) (x4 : Int32) (ls : Array Slot) (H : Heap) (locs : List Loc), Hw (XWd D ad cs ts adK adV) s σ H locs → lv_has ls 5 [(0, .ref (ad 9)), (2, .int x2), (3, .int x3), (4, .int x4)] → k51 σ x2 x3 x4 = some σ' → W p l e (RM 2 46) s m av below meth c H locs 0 0 (QV below (XWd D ad cs ts adK adV) av s σ') (F0 m 51 ls []))  {σ : St} {x2 : Int32} {x3 : Int32} {x4 : Int32} {ls : Array Slot} {H : Heap} {locs : List Loc} (hw : Hw (XWd D ad cs ts adK adV) s σ H locs) (hl : lv_has ls 5 [(0, .ref (ad 9)), (2, .int x2), (3, .int x3), (4, .int x4)]) (hf : fX10_spreadFrom_83 N k36 k51 σ x2 x3 x4 = some σ') : W p l e (RM 2 46) s m av below meth c H locs 0 0 (QV below (XWd D ad cs ts adK adV) av s σ') (F0 m 83 ls []) := by
  unfold fX10_spreadFrom_83 at hf
  obtain ⟨v13, e14⟩ : ∃ z : Int32, z = x4 + (1 : Int32) := ⟨_, rfl⟩
  have hf := nm_s e14 hf
  refine lv_iinc (v := v13) (lv' := [(4, .int v13), (0, .ref (ad 9)), (2, .int x2), (3, .int x3)]) S.1 S.2.1 dX10_spreadFrom_83 hl (k := 3) rfl (by rw [e14]; rfl) (by decide) rfl (fun ls hl => ?_)
  refine lv_goto (tgt := 51) S.1 S.2.1 dX10_spreadFrom_86 (by decide) ?_
  exact hk51 σ x2 x3 v13 _ _ _ hw (lv_sub hl [1, 2, 3, 0] rfl) hf
def fX10_spreadFrom_75 (N : Nat) (k36 : St → Int32 → Int32 → Option St) (k51 : St → Int32 → Int32 → Int32 → Option St) (σ : St) (x2 : Int32) (x3 : Int32) (x4 : Int32) (y1 : Int32) : Option St :=
  bd2 (fX10_lessen N σ y1) fun r12 σ10 => if r12 = 0 then (fX10_spreadFrom_83 N k36 k51 σ10 x2 x3 x4) else (fX10_spreadFrom_83 N k36 k51 σ10 (1 : Int32) x3 x4)
set_option maxHeartbeats 2000000 in
set_option maxRecDepth 20000 in
theorem wX10_spreadFrom_75 {σ' : St} {N : Nat} (S : CallFix p m c cX10_spreadFrom 5 s av BG RX10) (hr : meth.sig.returnType = none) (hlk : meth.locks = false) {k36 : St → Int32 → Int32 → Option St} {k51 : St → Int32 → Int32 → Int32 → Option St} (hk36 : ∀ (σ : St) (x2 : Int32) (x3 : Int32) (ls : Array Slot) (H : Heap) (locs : List Loc), Hw (XWd D ad cs ts adK adV) s σ H locs → lv_has ls 5 [(0, .ref (ad 9)), (2, .int x2), (3, .int x3)] → k36 σ x2 x3 = some σ' → W p l e (RM 2 46) s m av below meth c H locs 0 0 (QV below (XWd D ad cs ts adK adV) av s σ') (F0 m 36 ls [])) (hk51 : ∀ (σ : St) (x2 : Int32) (x3 : Int32) (x4 : Int32) (ls : Array Slot) (H : Heap) (locs : List Loc), Hw (XWd D ad cs ts adK adV) s σ H locs → lv_has ls 5 [(0, .ref (ad 9)), (2, .int x2), (3, .int x3), (4, .int x4)] → k51 σ x2 x3 x4 = some σ' → W p l e (RM 2 46) s m av below meth c H locs 0 0 (QV below (XWd D ad cs ts adK adV) av s σ') (F0 m 51 ls []))  {σ : St} {x2 : Int32} {x3 : Int32} {x4 : Int32} {y1 : Int32} {ls : Array Slot} {H : Heap} {locs : List Loc} (hw : Hw (XWd D ad cs ts adK adV) s σ H locs) (hl : lv_has ls 5 [(0, .ref (ad 9)), (2, .int x2), (3, .int x3), (4, .int x4)]) (hf : fX10_spreadFrom_75 N k36 k51 σ x2 x3 x4 y1 = some σ') : W p l e (RM 2 46) s m av below meth c H locs 0 0 (QV below (XWd D ad cs ts adK adV) av s σ') (F0 m 75 ls [.int y1, .ref (ad 9)]) := by
  unfold fX10_spreadFrom_75 at hf
  obtain ⟨r12, σ10, g11, hf⟩ := bd2_s hf
  refine g_Vi (rest := []) (XWd_ok D ad cs ts adK adV) S hw (tX10_lessen g11) kt_X10_54 9 xe_9 rfl rfl ⟨Nat.le_of_ble_eq_true rfl, Nat.le_of_ble_eq_true rfl⟩ rfl hl.1 rfl (Nat.le_of_ble_eq_true rfl) ⟨Nat.zero_le _, Nat.zero_le _⟩ dX10_spreadFrom_75 (fun H locs hw => ?_)
  refine lv_if_eq (tgt := 83) S.1 S.2.1 dX10_spreadFrom_78 (by decide) (fun hc => ?_) (fun hc => ?_)
  · have hf := itt hf hc
    exact wX10_spreadFrom_83 S hr hlk hk36 hk51 hw (lv_sub hl [0, 1, 2, 3] rfl) hf
  · have hf := itf hf hc
    refine lv_iconst (v := 1) S.1 S.2.1 dX10_spreadFrom_81 (by decide) ?_
    refine lv_istore_n (lv' := [(2, .int (1 : Int32)), (0, .ref (ad 9)), (3, .int x3), (4, .int x4)]) S.1 S.2.1 dX10_spreadFrom_82 rfl hl (by decide) rfl (fun ls hl => ?_)
    exact wX10_spreadFrom_83 S hr hlk hk36 hk51 hw (lv_sub hl [1, 0, 2, 3] rfl) hf
def fX10_spreadFrom_51b (N : Nat) (k36 : St → Int32 → Int32 → Option St) (k51 : St → Int32 → Int32 → Int32 → Option St) (σ : St) (x2 : Int32) (x3 : Int32) (x4 : Int32) : Option St :=
  if (48 : Int32) ≤ x4 then (nm (x3 + (1 : Int32)) fun v8 => k36 σ x2 v8) else (if (x3 - x3 / (2 : Int32) * (2 : Int32)) = 0 then (fX10_spreadFrom_75 N k36 k51 σ x2 x3 x4 x4) else (fX10_spreadFrom_75 N k36 k51 σ x2 x3 x4 ((47 : Int32) - x4)))
set_option maxHeartbeats 2000000 in
set_option maxRecDepth 20000 in
theorem wX10_spreadFrom_51b {σ' : St} {N : Nat} (S : CallFix p m c cX10_spreadFrom 5 s av BG RX10) (hr : meth.sig.returnType = none) (hlk : meth.locks = false) {k36 : St → Int32 → Int32 → Option St} {k51 : St → Int32 → Int32 → Int32 → Option St} (hk36 : ∀ (σ : St) (x2 : Int32) (x3 : Int32) (ls : Array Slot) (H : Heap) (locs : List Loc), Hw (XWd D ad cs ts adK adV) s σ H locs → lv_has ls 5 [(0, .ref (ad 9)), (2, .int x2), (3, .int x3)] → k36 σ x2 x3 = some σ' → W p l e (RM 2 46) s m av below meth c H locs 0 0 (QV below (XWd D ad cs ts adK adV) av s σ') (F0 m 36 ls [])) (hk51 : ∀ (σ : St) (x2 : Int32) (x3 : Int32) (x4 : Int32) (ls : Array Slot) (H : Heap) (locs : List Loc), Hw (XWd D ad cs ts adK adV) s σ H locs → lv_has ls 5 [(0, .ref (ad 9)), (2, .int x2), (3, .int x3), (4, .int x4)] → k51 σ x2 x3 x4 = some σ' → W p l e (RM 2 46) s m av below meth c H locs 0 0 (QV below (XWd D ad cs ts adK adV) av s σ') (F0 m 51 ls []))  {σ : St} {x2 : Int32} {x3 : Int32} {x4 : Int32} {ls : Array Slot} {H : Heap} {locs : List Loc} (hw : Hw (XWd D ad cs ts adK adV) s σ H locs) (hl : lv_has ls 5 [(0, .ref (ad 9)), (2, .int x2), (3, .int x3), (4, .int x4)]) (hf : fX10_spreadFrom_51b N k36 k51 σ x2 x3 x4 = some σ') : W p l e (RM 2 46) s m av below meth c H locs 0 0 (QV below (XWd D ad cs ts adK adV) av s σ') (F0 m 51 ls []) := by
  unfold fX10_spreadFrom_51b at hf
  refine lv_iload S.1 S.2.1 dX10_spreadFrom_51 (lv_at hl 3 rfl) ?_
  refine lv_bipush (v := 48) S.1 S.2.1 dX10_spreadFrom_53 (by decide) ?_
  refine lv_icmp_ge (tgt := 89) S.1 S.2.1 dX10_spreadFrom_55 (by decide) (fun hc => ?_) (fun hc => ?_)
  · have hf := itt hf hc
    obtain ⟨v8, e9⟩ : ∃ z : Int32, z = x3 + (1 : Int32) := ⟨_, rfl⟩
    have hf := nm_s e9 hf
    refine lv_iinc (v := v8) (lv' := [(3, .int v8), (0, .ref (ad 9)), (2, .int x2), (4, .int x4)]) S.1 S.2.1 dX10_spreadFrom_89 hl (k := 2) rfl (by rw [e9]; rfl) (by decide) rfl (fun ls hl => ?_)
    refine lv_goto (tgt := 36) S.1 S.2.1 dX10_spreadFrom_92 (by decide) ?_
    exact hk36 σ x2 v8 _ _ _ hw (lv_sub hl [1, 2, 0] rfl) hf
  · have hf := itf hf hc
    refine lv_aload_n S.1 S.2.1 dX10_spreadFrom_58 rfl (lv_at hl 0 rfl) ?_
    refine lv_iload_n S.1 S.2.1 dX10_spreadFrom_59 rfl (lv_at hl 2 rfl) ?_
    refine lv_iconst (v := 2) S.1 S.2.1 dX10_spreadFrom_60 (by decide) ?_
    refine lv_irem S.1 S.2.1 dX10_spreadFrom_61 (by decide) ?_
    refine lv_if_ne (tgt := 70) S.1 S.2.1 dX10_spreadFrom_62 (by decide) (fun hc => ?_) (fun hc => ?_)
    · have hf := itf hf hc
      refine lv_bipush (v := 47) S.1 S.2.1 dX10_spreadFrom_70 (by decide) ?_
      refine lv_iload S.1 S.2.1 dX10_spreadFrom_72 (lv_at hl 3 rfl) ?_
      refine lv_isub S.1 S.2.1 dX10_spreadFrom_74 ?_
      exact wX10_spreadFrom_75 S hr hlk hk36 hk51 hw (lv_sub hl [0, 1, 2, 3] rfl) hf
    · have hf := itt hf hc
      refine lv_iload S.1 S.2.1 dX10_spreadFrom_65 (lv_at hl 3 rfl) ?_
      refine lv_goto (tgt := 75) S.1 S.2.1 dX10_spreadFrom_67 (by decide) ?_
      exact wX10_spreadFrom_75 S hr hlk hk36 hk51 hw (lv_sub hl [0, 1, 2, 3] rfl) hf
def fX10_spreadFrom_51 (N : Nat) (k36 : St → Int32 → Int32 → Option St) : Nat → St → Int32 → Int32 → Int32 → Option St
  | 0 => fun _ _ _ _ => none
  | n + 1 => fX10_spreadFrom_51b N k36 (fX10_spreadFrom_51 N k36 n)
theorem wX10_spreadFrom_51 {σ' : St} {N : Nat} (S : CallFix p m c cX10_spreadFrom 5 s av BG RX10) (hr : meth.sig.returnType = none) (hlk : meth.locks = false) {k36 : St → Int32 → Int32 → Option St} (hk36 : ∀ (σ : St) (x2 : Int32) (x3 : Int32) (ls : Array Slot) (H : Heap) (locs : List Loc), Hw (XWd D ad cs ts adK adV) s σ H locs → lv_has ls 5 [(0, .ref (ad 9)), (2, .int x2), (3, .int x3)] → k36 σ x2 x3 = some σ' → W p l e (RM 2 46) s m av below meth c H locs 0 0 (QV below (XWd D ad cs ts adK adV) av s σ') (F0 m 36 ls [])) : ∀ (n : Nat), ∀ (σ : St) (x2 : Int32) (x3 : Int32) (x4 : Int32) (ls : Array Slot) (H : Heap) (locs : List Loc), Hw (XWd D ad cs ts adK adV) s σ H locs → lv_has ls 5 [(0, .ref (ad 9)), (2, .int x2), (3, .int x3), (4, .int x4)] → fX10_spreadFrom_51 N k36 n σ x2 x3 x4 = some σ' → W p l e (RM 2 46) s m av below meth c H locs 0 0 (QV below (XWd D ad cs ts adK adV) av s σ') (F0 m 51 ls []) := by
  intro n
  induction n with
  | zero => intro _ _ _ _ ls H locs hw hl hf; cases hf
  | succ n ih => intro _ _ _ _ ls H locs hw hl hf; exact wX10_spreadFrom_51b S hr hlk hk36 ih hw hl hf
def fX10_spreadFrom_36b (N : Nat) (k36 : St → Int32 → Int32 → Option St) (σ : St) (x2 : Int32) (x3 : Int32) : Option St :=
  if (48 : Int32) ≤ x3 then (some σ) else (if x2 = 0 then (some σ) else (fX10_spreadFrom_51 N k36 N σ (0 : Int32) x3 (0 : Int32)))
set_option maxHeartbeats 2000000 in
set_option maxRecDepth 20000 in
theorem wX10_spreadFrom_36b {σ' : St} {N : Nat} (S : CallFix p m c cX10_spreadFrom 5 s av BG RX10) (hr : meth.sig.returnType = none) (hlk : meth.locks = false) {k36 : St → Int32 → Int32 → Option St} (hk36 : ∀ (σ : St) (x2 : Int32) (x3 : Int32) (ls : Array Slot) (H : Heap) (locs : List Loc), Hw (XWd D ad cs ts adK adV) s σ H locs → lv_has ls 5 [(0, .ref (ad 9)), (2, .int x2), (3, .int x3)] → k36 σ x2 x3 = some σ' → W p l e (RM 2 46) s m av below meth c H locs 0 0 (QV below (XWd D ad cs ts adK adV) av s σ') (F0 m 36 ls []))  {σ : St} {x2 : Int32} {x3 : Int32} {ls : Array Slot} {H : Heap} {locs : List Loc} (hw : Hw (XWd D ad cs ts adK adV) s σ H locs) (hl : lv_has ls 5 [(0, .ref (ad 9)), (2, .int x2), (3, .int x3)]) (hf : fX10_spreadFrom_36b N k36 σ x2 x3 = some σ') : W p l e (RM 2 46) s m av below meth c H locs 0 0 (QV below (XWd D ad cs ts adK adV) av s σ') (F0 m 36 ls []) := by
  unfold fX10_spreadFrom_36b at hf
  refine lv_iload_n S.1 S.2.1 dX10_spreadFrom_36 rfl (lv_at hl 2 rfl) ?_
  refine lv_bipush (v := 48) S.1 S.2.1 dX10_spreadFrom_37 (by decide) ?_
  refine lv_icmp_ge (tgt := 95) S.1 S.2.1 dX10_spreadFrom_39 (by decide) (fun hc => ?_) (fun hc => ?_)
  · have hf := itt hf hc
    exact g_vret (XWd_ok D ad cs ts adK adV) S hr hlk hw dX10_spreadFrom_95 (Option.some.inj hf)
  · have hf := itf hf hc
    refine lv_iload_n S.1 S.2.1 dX10_spreadFrom_42 rfl (lv_at hl 1 rfl) ?_
    refine lv_if_eq (tgt := 95) S.1 S.2.1 dX10_spreadFrom_43 (by decide) (fun hc => ?_) (fun hc => ?_)
    · have hf := itt hf hc
      exact g_vret (XWd_ok D ad cs ts adK adV) S hr hlk hw dX10_spreadFrom_95 (Option.some.inj hf)
    · have hf := itf hf hc
      refine lv_iconst (v := 0) S.1 S.2.1 dX10_spreadFrom_46 (by decide) ?_
      refine lv_istore_n (lv' := [(2, .int (0 : Int32)), (0, .ref (ad 9)), (3, .int x3)]) S.1 S.2.1 dX10_spreadFrom_47 rfl hl (by decide) rfl (fun ls hl => ?_)
      refine lv_iconst (v := 0) S.1 S.2.1 dX10_spreadFrom_48 (by decide) ?_
      refine lv_istore (lv' := [(4, .int (0 : Int32)), (2, .int (0 : Int32)), (0, .ref (ad 9)), (3, .int x3)]) S.1 S.2.1 dX10_spreadFrom_49 hl (by decide) rfl (fun ls hl => ?_)
      exact wX10_spreadFrom_51 S hr hlk hk36 N σ (0 : Int32) x3 (0 : Int32) _ _ _ hw (lv_sub hl [2, 1, 3, 0] rfl) hf
def fX10_spreadFrom_36 (N : Nat) : Nat → St → Int32 → Int32 → Option St
  | 0 => fun _ _ _ => none
  | n + 1 => fX10_spreadFrom_36b N (fX10_spreadFrom_36 N n)
theorem wX10_spreadFrom_36 {σ' : St} {N : Nat} (S : CallFix p m c cX10_spreadFrom 5 s av BG RX10) (hr : meth.sig.returnType = none) (hlk : meth.locks = false) : ∀ (n : Nat), ∀ (σ : St) (x2 : Int32) (x3 : Int32) (ls : Array Slot) (H : Heap) (locs : List Loc), Hw (XWd D ad cs ts adK adV) s σ H locs → lv_has ls 5 [(0, .ref (ad 9)), (2, .int x2), (3, .int x3)] → fX10_spreadFrom_36 N n σ x2 x3 = some σ' → W p l e (RM 2 46) s m av below meth c H locs 0 0 (QV below (XWd D ad cs ts adK adV) av s σ') (F0 m 36 ls []) := by
  intro n
  induction n with
  | zero => intro _ _ _ ls H locs hw hl hf; cases hf
  | succ n ih => intro _ _ _ ls H locs hw hl hf; exact wX10_spreadFrom_36b S hr hlk ih hw hl hf
def fX10_spreadFrom (N : Nat) (σ : St) (x1 : Int32) : Option St :=
  nm (sA σ 73 (flI (σ.2.1 73) 48 (2147483647 : Int32))) fun σ1 => if ix x1 48 = true then if (aR σ1 72 x1) = (-1 : Int32) then (some σ1) else (if ix x1 48 = true then if ix x1 48 = true then nm (aW σ1 73 x1 (aR σ1 72 x1)) fun σ6 => fX10_spreadFrom_36 N N σ6 (1 : Int32) (0 : Int32) else none else none) else none
set_option maxHeartbeats 2000000 in
set_option maxRecDepth 20000 in
theorem tX10_spreadFrom {σ' : St} {N : Nat} {σ : St} {x1 : Int32} (hf : fX10_spreadFrom N σ x1 = some σ') : CV l (XWd D ad cs ts adK adV) yX10_spreadFrom cX10_spreadFrom 5 2 46 [.ref (ad 9), .int x1] σ σ' := by
  refine CV.of (by decide) (Nat.le_of_ble_eq_true rfl) ?_
  intro p e s m below meth c ls S hr hlk hw hl
  have hl : lv_has ls 5 [(0, .ref (ad 9)), (1, .int x1)] := hl
  unfold fX10_spreadFrom at hf
  refine lv_aload_n S.1 S.2.1 dX10_spreadFrom_0 rfl (lv_at hl 0 rfl) ?_
  refine xg_Ways_totals S hw kf_X10_15 dX10_spreadFrom_1 ?_
  refine lv_ldc S.1 S.2.1 S.2.2.2.1 (S.2.2.2.2 _ kc_X10_30) dX10_spreadFrom_4 ?_
  obtain ⟨σ1, e2⟩ : ∃ z : St, z = sA σ 73 (flI (σ.2.1 73) 48 (2147483647 : Int32)) := ⟨_, rfl⟩
  have hf := nm_s e2 hf
  refine g_Sv (σ' := σ1) (rest := []) (XWd_ok D ad cs ts adK adV) S hw (by rw [e2]; exact tfillI (b := ad 73) (XWd_ok D ad cs ts adK adV) 73 (fun f => rfl) (fun f g => rfl) rfl (by decide)) kt_X10_48 ⟨Nat.le_of_ble_eq_true rfl, Nat.le_of_ble_eq_true rfl⟩ rfl hl.1 rfl (Nat.le_of_ble_eq_true rfl) ⟨Nat.zero_le _, Nat.zero_le _⟩ dX10_spreadFrom_6 (fun H locs hw => ?_)
  refine lv_aload_n S.1 S.2.1 dX10_spreadFrom_9 rfl (lv_at hl 0 rfl) ?_
  refine xg_Ways_weights S hw kf_X10_9 dX10_spreadFrom_10 ?_
  refine lv_iload_n S.1 S.2.1 dX10_spreadFrom_13 rfl (lv_at hl 1 rfl) ?_
  obtain ⟨h3, hf⟩ := gd_ix hf
  refine g_iald S hw 72 0 xe_72 rfl h3 dX10_spreadFrom_14 ?_
  refine lv_iconst (v := -1) S.1 S.2.1 dX10_spreadFrom_15 (by decide) ?_
  refine lv_icmp_ne (tgt := 20) S.1 S.2.1 dX10_spreadFrom_16 (by decide) (fun hc => ?_) (fun hc => ?_)
  · have hf := itf hf hc
    refine lv_aload_n S.1 S.2.1 dX10_spreadFrom_20 rfl (lv_at hl 0 rfl) ?_
    refine xg_Ways_totals S hw kf_X10_15 dX10_spreadFrom_21 ?_
    refine lv_iload_n S.1 S.2.1 dX10_spreadFrom_24 rfl (lv_at hl 1 rfl) ?_
    refine lv_aload_n S.1 S.2.1 dX10_spreadFrom_25 rfl (lv_at hl 0 rfl) ?_
    refine xg_Ways_weights S hw kf_X10_9 dX10_spreadFrom_26 ?_
    refine lv_iload_n S.1 S.2.1 dX10_spreadFrom_29 rfl (lv_at hl 1 rfl) ?_
    obtain ⟨h4, hf⟩ := gd_ix hf
    refine g_iald S hw 72 0 xe_72 rfl h4 dX10_spreadFrom_30 ?_
    obtain ⟨h5, hf⟩ := gd_ix hf
    obtain ⟨σ6, e7⟩ : ∃ z : St, z = aW σ1 73 x1 (aR σ1 72 x1) := ⟨_, rfl⟩
    have hf := nm_s e7 hf
    refine g_iast (σ' := σ6) S hw 73 0 xe_73 rfl (by rw [e7]; exact xs_73 _) h5 dX10_spreadFrom_31 (fun H locs hw => ?_)
    refine lv_iconst (v := 1) S.1 S.2.1 dX10_spreadFrom_32 (by decide) ?_
    refine lv_istore_n (lv' := [(2, .int (1 : Int32)), (0, .ref (ad 9)), (1, .int x1)]) S.1 S.2.1 dX10_spreadFrom_33 rfl hl (by decide) rfl (fun ls hl => ?_)
    refine lv_iconst (v := 0) S.1 S.2.1 dX10_spreadFrom_34 (by decide) ?_
    refine lv_istore_n (lv' := [(3, .int (0 : Int32)), (2, .int (1 : Int32)), (0, .ref (ad 9)), (1, .int x1)]) S.1 S.2.1 dX10_spreadFrom_35 rfl hl (by decide) rfl (fun ls hl => ?_)
    exact wX10_spreadFrom_36 S hr hlk N σ6 (1 : Int32) (0 : Int32) _ _ _ hw (lv_sub hl [2, 1, 0] rfl) hf
  · have hf := itt hf hc
    exact g_vret (XWd_ok D ad cs ts adK adV) S hr hlk hw dX10_spreadFrom_19 (Option.some.inj hf)
def fX10_weightOf_60 (N : Nat) (σ : St) (x1 : Int32) (y0 : Int32) : Option Int32 :=
  if ix (2 : Int32) 4 = true then if ix x1 48 = true then some ((((aR σ (17 + ((2 : Int32)).toNatClampNeg) x1) + y0) * (64 : Int32)) + (1 : Int32)) else none else none
set_option maxHeartbeats 2000000 in
set_option maxRecDepth 20000 in
theorem wX10_weightOf_60 {r : Int32} {N : Nat} {σ : St} (S : CallFix p m c cX10_weightOf 6 s av BG RX10) (hr : meth.sig.returnType = some .int) (hlk : meth.locks = false)  {x1 : Int32} {y0 : Int32} {ls : Array Slot} {H : Heap} {locs : List Loc} (hw : Hw (XWd D ad cs ts adK adV) s σ H locs) (hl : lv_has ls 6 [(0, .ref (ad 9)), (1, .int x1)]) (hf : fX10_weightOf_60 N σ x1 y0 = some r) : W p l e (RM 1 25) s m av below meth c H locs 0 0 (QI below (XWd D ad cs ts adK adV) av s r σ) (F0 m 60 ls [.int y0]) := by
  unfold fX10_weightOf_60 at hf
  refine lv_istore (lv' := [(5, .int y0), (0, .ref (ad 9)), (1, .int x1)]) S.1 S.2.1 dX10_weightOf_60 hl (by decide) rfl (fun ls hl => ?_)
  refine lv_aload_n S.1 S.2.1 dX10_weightOf_62 rfl (lv_at hl 1 rfl) ?_
  refine xg_Ways_land S hw kf_X10_18 dX10_weightOf_63 ?_
  refine xg_Land_told S hw kf_X10_41 dX10_weightOf_66 ?_
  refine lv_iconst (v := 2) S.1 S.2.1 dX10_weightOf_69 (by decide) ?_
  obtain ⟨h6, hf⟩ := gd_ix hf
  refine g_aald S hw 16 3 xe_16 rfl h6 dX10_weightOf_70 ?_
  refine lv_iload_n S.1 S.2.1 dX10_weightOf_71 rfl (lv_at hl 2 rfl) ?_
  obtain ⟨h7, hf⟩ := gd_ix hf
  refine g_iald S hw (17 + ((2 : Int32)).toNatClampNeg) 0 (x2_17 (vp_lt h6)) rfl h7 dX10_weightOf_72 ?_
  refine lv_iload S.1 S.2.1 dX10_weightOf_73 (lv_at hl 0 rfl) ?_
  refine lv_iadd S.1 S.2.1 dX10_weightOf_75 ?_
  refine lv_bipush (v := 64) S.1 S.2.1 dX10_weightOf_76 (by decide) ?_
  refine lv_imul S.1 S.2.1 dX10_weightOf_78 ?_
  refine lv_iconst (v := 1) S.1 S.2.1 dX10_weightOf_79 (by decide) ?_
  refine lv_iadd S.1 S.2.1 dX10_weightOf_80 ?_
  exact g_iret (XWd_ok D ad cs ts adK adV) S hr hlk hw dX10_weightOf_81 (Option.some.inj hf) rfl
def fX10_weightOf (N : Nat) (σ : St) (x1 : Int32) (x2 : Int32) (x3 : Int32) : Option Int32 :=
  bd (fX4_ownerOn N σ x1 (σ.1 0)) fun r1 => if ix (3 : Int32) 4 = true then if ix x1 48 = true then if (aR σ (17 + ((3 : Int32)).toNatClampNeg) x1) = (1 : Int32) then (some (-1 : Int32)) else (if r1 = x3 then (some (-1 : Int32)) else (if r1 = x2 then (fX10_weightOf_60 N σ x1 (0 : Int32)) else (if ix r1 10 = true then fX10_weightOf_60 N σ x1 (aR σ 15 r1) else none))) else none else none
set_option maxHeartbeats 2000000 in
set_option maxRecDepth 20000 in
theorem tX10_weightOf {r : Int32} {N : Nat} {σ : St} {x1 : Int32} {x2 : Int32} {x3 : Int32} (hf : fX10_weightOf N σ x1 x2 x3 = some r) : CI l (XWd D ad cs ts adK adV) yX10_weightOf cX10_weightOf 6 (some .int) 1 25 [.ref (ad 9), .int x1, .int x2, .int x3] σ r σ := by
  refine CI.of (by decide) (Nat.le_of_ble_eq_true rfl) ?_
  intro p e s m below meth c ls S hr hlk hw hl
  have hl : lv_has ls 6 [(0, .ref (ad 9)), (1, .int x1), (2, .int x2), (3, .int x3)] := hl
  unfold fX10_weightOf at hf
  refine lv_aload_n S.1 S.2.1 dX10_weightOf_0 rfl (lv_at hl 0 rfl) ?_
  refine xg_Ways_land S hw kf_X10_18 dX10_weightOf_1 ?_
  refine lv_iload_n S.1 S.2.1 dX10_weightOf_4 rfl (lv_at hl 1 rfl) ?_
  refine lv_aload_n S.1 S.2.1 dX10_weightOf_5 rfl (lv_at hl 0 rfl) ?_
  refine xg_Ways_land S hw kf_X10_18 dX10_weightOf_6 ?_
  refine xg_Land_day S hw kf_X10_31 dX10_weightOf_9 ?_
  obtain ⟨r1, g2, hf⟩ := bd_s hf
  refine g_Vi (rest := []) (XWd_ok D ad cs ts adK adV) S hw (tX4_ownerOn g2) kt_X10_37 1 xe_1 rfl rfl ⟨Nat.le_of_ble_eq_true rfl, Nat.le_of_ble_eq_true rfl⟩ rfl hl.1 rfl (Nat.le_of_ble_eq_true rfl) ⟨Nat.zero_le _, Nat.zero_le _⟩ dX10_weightOf_12 (fun H locs hw => ?_)
  refine lv_istore (lv' := [(4, .int r1), (0, .ref (ad 9)), (1, .int x1), (2, .int x2), (3, .int x3)]) S.1 S.2.1 dX10_weightOf_15 hl (by decide) rfl (fun ls hl => ?_)
  refine lv_aload_n S.1 S.2.1 dX10_weightOf_17 rfl (lv_at hl 1 rfl) ?_
  refine xg_Ways_land S hw kf_X10_18 dX10_weightOf_18 ?_
  refine xg_Land_told S hw kf_X10_41 dX10_weightOf_21 ?_
  refine lv_iconst (v := 3) S.1 S.2.1 dX10_weightOf_24 (by decide) ?_
  obtain ⟨h3, hf⟩ := gd_ix hf
  refine g_aald S hw 16 3 xe_16 rfl h3 dX10_weightOf_25 ?_
  refine lv_iload_n S.1 S.2.1 dX10_weightOf_26 rfl (lv_at hl 2 rfl) ?_
  obtain ⟨h4, hf⟩ := gd_ix hf
  refine g_iald S hw (17 + ((3 : Int32)).toNatClampNeg) 0 (x2_17 (vp_lt h3)) rfl h4 dX10_weightOf_27 ?_
  refine lv_iconst (v := 1) S.1 S.2.1 dX10_weightOf_28 (by decide) ?_
  refine lv_icmp_eq (tgt := 38) S.1 S.2.1 dX10_weightOf_29 (by decide) (fun hc => ?_) (fun hc => ?_)
  · have hf := itt hf hc
    refine lv_iconst (v := -1) S.1 S.2.1 dX10_weightOf_38 (by decide) ?_
    exact g_iret (XWd_ok D ad cs ts adK adV) S hr hlk hw dX10_weightOf_39 (Option.some.inj hf) rfl
  · have hf := itf hf hc
    refine lv_iload S.1 S.2.1 dX10_weightOf_32 (lv_at hl 0 rfl) ?_
    refine lv_iload_n S.1 S.2.1 dX10_weightOf_34 rfl (lv_at hl 4 rfl) ?_
    refine lv_icmp_ne (tgt := 40) S.1 S.2.1 dX10_weightOf_35 (by decide) (fun hc => ?_) (fun hc => ?_)
    · have hf := itf hf hc
      refine lv_iload S.1 S.2.1 dX10_weightOf_40 (lv_at hl 0 rfl) ?_
      refine lv_iload_n S.1 S.2.1 dX10_weightOf_42 rfl (lv_at hl 3 rfl) ?_
      refine lv_icmp_ne (tgt := 50) S.1 S.2.1 dX10_weightOf_43 (by decide) (fun hc => ?_) (fun hc => ?_)
      · have hf := itf hf hc
        refine lv_aload_n S.1 S.2.1 dX10_weightOf_50 rfl (lv_at hl 1 rfl) ?_
        refine xg_Ways_land S hw kf_X10_18 dX10_weightOf_51 ?_
        refine xg_Land_holds S hw kf_X10_45 dX10_weightOf_54 ?_
        refine lv_iload S.1 S.2.1 dX10_weightOf_57 (lv_at hl 0 rfl) ?_
        obtain ⟨h5, hf⟩ := gd_ix hf
        refine g_iald S hw 15 0 xe_15 rfl h5 dX10_weightOf_59 ?_
        exact wX10_weightOf_60 S hr hlk hw (lv_sub hl [1, 2] rfl) hf
      · have hf := itt hf hc
        refine lv_iconst (v := 0) S.1 S.2.1 dX10_weightOf_46 (by decide) ?_
        refine lv_goto (tgt := 60) S.1 S.2.1 dX10_weightOf_47 (by decide) ?_
        exact wX10_weightOf_60 S hr hlk hw (lv_sub hl [1, 2] rfl) hf
    · have hf := itt hf hc
      refine lv_iconst (v := -1) S.1 S.2.1 dX10_weightOf_38 (by decide) ?_
      exact g_iret (XWd_ok D ad cs ts adK adV) S hr hlk hw dX10_weightOf_39 (Option.some.inj hf) rfl
def fX10_leastCost_3b (N : Nat) (k3 : St → Int32 → Int32 → Int32 → Int32 → Int32 → Option (Int32 × St)) (σ : St) (x1 : Int32) (x2 : Int32) (x3 : Int32) (x4 : Int32) (x5 : Int32) : Option (Int32 × St) :=
  if (48 : Int32) ≤ x5 then (bd (fX10_spreadFrom N σ x2) fun σ1 => if ix x1 48 = true then if (aR σ1 73 x1) = (2147483647 : Int32) then (some ((-1 : Int32), σ1)) else (if ix x1 48 = true then some (((aR σ1 73 x1) / (64 : Int32)), σ1) else none) else none) else (bd (fX10_weightOf N σ x5 x3 x4) fun r5 => if ix x5 48 = true then nm (aW σ 72 x5 r5) fun σ8 => nm (x5 + (1 : Int32)) fun v10 => k3 σ8 x1 x2 x3 x4 v10 else none)
set_option maxHeartbeats 2000000 in
set_option maxRecDepth 20000 in
theorem wX10_leastCost_3b {r : Int32} {σ' : St} {N : Nat} (S : CallFix p m c cX10_leastCost 6 s av BG RX10) (hr : meth.sig.returnType = some .int) (hlk : meth.locks = false) {k3 : St → Int32 → Int32 → Int32 → Int32 → Int32 → Option (Int32 × St)} (hk3 : ∀ (σ : St) (x1 : Int32) (x2 : Int32) (x3 : Int32) (x4 : Int32) (x5 : Int32) (ls : Array Slot) (H : Heap) (locs : List Loc), Hw (XWd D ad cs ts adK adV) s σ H locs → lv_has ls 6 [(0, .ref (ad 9)), (1, .int x1), (2, .int x2), (3, .int x3), (4, .int x4), (5, .int x5)] → k3 σ x1 x2 x3 x4 x5 = some (r, σ') → W p l e (RM 3 70) s m av below meth c H locs 0 0 (QI below (XWd D ad cs ts adK adV) av s r σ') (F0 m 3 ls []))  {σ : St} {x1 : Int32} {x2 : Int32} {x3 : Int32} {x4 : Int32} {x5 : Int32} {ls : Array Slot} {H : Heap} {locs : List Loc} (hw : Hw (XWd D ad cs ts adK adV) s σ H locs) (hl : lv_has ls 6 [(0, .ref (ad 9)), (1, .int x1), (2, .int x2), (3, .int x3), (4, .int x4), (5, .int x5)]) (hf : fX10_leastCost_3b N k3 σ x1 x2 x3 x4 x5 = some (r, σ')) : W p l e (RM 3 70) s m av below meth c H locs 0 0 (QI below (XWd D ad cs ts adK adV) av s r σ') (F0 m 3 ls []) := by
  unfold fX10_leastCost_3b at hf
  refine lv_iload S.1 S.2.1 dX10_leastCost_3 (lv_at hl 5 rfl) ?_
  refine lv_bipush (v := 48) S.1 S.2.1 dX10_leastCost_5 (by decide) ?_
  refine lv_icmp_ge (tgt := 32) S.1 S.2.1 dX10_leastCost_7 (by decide) (fun hc => ?_) (fun hc => ?_)
  · have hf := itt hf hc
    refine lv_aload_n S.1 S.2.1 dX10_leastCost_32 rfl (lv_at hl 0 rfl) ?_
    refine lv_iload_n S.1 S.2.1 dX10_leastCost_33 rfl (lv_at hl 2 rfl) ?_
    obtain ⟨σ1, g2, hf⟩ := bd_s hf
    refine g_Vv (rest := []) (XWd_ok D ad cs ts adK adV) S hw (tX10_spreadFrom g2) kt_X10_26 9 xe_9 rfl rfl ⟨Nat.le_of_ble_eq_true rfl, Nat.le_of_ble_eq_true rfl⟩ rfl hl.1 rfl (Nat.le_of_ble_eq_true rfl) ⟨Nat.zero_le _, Nat.zero_le _⟩ dX10_leastCost_34 (fun H locs hw => ?_)
    refine lv_aload_n S.1 S.2.1 dX10_leastCost_37 rfl (lv_at hl 0 rfl) ?_
    refine xg_Ways_totals S hw kf_X10_15 dX10_leastCost_38 ?_
    refine lv_iload_n S.1 S.2.1 dX10_leastCost_41 rfl (lv_at hl 1 rfl) ?_
    obtain ⟨h3, hf⟩ := gd_ix hf
    refine g_iald S hw 73 0 xe_73 rfl h3 dX10_leastCost_42 ?_
    refine lv_ldc S.1 S.2.1 S.2.2.2.1 (S.2.2.2.2 _ kc_X10_30) dX10_leastCost_43 ?_
    refine lv_icmp_ne (tgt := 52) S.1 S.2.1 dX10_leastCost_45 (by decide) (fun hc => ?_) (fun hc => ?_)
    · have hf := itf hf hc
      refine lv_aload_n S.1 S.2.1 dX10_leastCost_52 rfl (lv_at hl 0 rfl) ?_
      refine xg_Ways_totals S hw kf_X10_15 dX10_leastCost_53 ?_
      refine lv_iload_n S.1 S.2.1 dX10_leastCost_56 rfl (lv_at hl 1 rfl) ?_
      obtain ⟨h4, hf⟩ := gd_ix hf
      refine g_iald S hw 73 0 xe_73 rfl h4 dX10_leastCost_57 ?_
      refine lv_bipush (v := 64) S.1 S.2.1 dX10_leastCost_58 (by decide) ?_
      refine lv_idiv S.1 S.2.1 dX10_leastCost_60 (by decide) ?_
      exact g_iret (XWd_ok D ad cs ts adK adV) S hr hlk hw dX10_leastCost_61 (Prod.mk.inj (Option.some.inj hf)).1 (Prod.mk.inj (Option.some.inj hf)).2
    · have hf := itt hf hc
      refine lv_iconst (v := -1) S.1 S.2.1 dX10_leastCost_48 (by decide) ?_
      refine lv_goto (tgt := 61) S.1 S.2.1 dX10_leastCost_49 (by decide) ?_
      exact g_iret (XWd_ok D ad cs ts adK adV) S hr hlk hw dX10_leastCost_61 (Prod.mk.inj (Option.some.inj hf)).1 (Prod.mk.inj (Option.some.inj hf)).2
  · have hf := itf hf hc
    refine lv_aload_n S.1 S.2.1 dX10_leastCost_10 rfl (lv_at hl 0 rfl) ?_
    refine xg_Ways_weights S hw kf_X10_9 dX10_leastCost_11 ?_
    refine lv_iload S.1 S.2.1 dX10_leastCost_14 (lv_at hl 5 rfl) ?_
    refine lv_aload_n S.1 S.2.1 dX10_leastCost_16 rfl (lv_at hl 0 rfl) ?_
    refine lv_iload S.1 S.2.1 dX10_leastCost_17 (lv_at hl 5 rfl) ?_
    refine lv_iload_n S.1 S.2.1 dX10_leastCost_19 rfl (lv_at hl 3 rfl) ?_
    refine lv_iload S.1 S.2.1 dX10_leastCost_20 (lv_at hl 4 rfl) ?_
    obtain ⟨r5, g6, hf⟩ := bd_s hf
    refine g_Vi (rest := [.int x5, .ref (ad 72)]) (XWd_ok D ad cs ts adK adV) S hw (tX10_weightOf g6) kt_X10_22 9 xe_9 rfl rfl ⟨Nat.le_of_ble_eq_true rfl, Nat.le_of_ble_eq_true rfl⟩ rfl hl.1 rfl (Nat.le_of_ble_eq_true rfl) ⟨Nat.zero_le _, Nat.zero_le _⟩ dX10_leastCost_22 (fun H locs hw => ?_)
    obtain ⟨h7, hf⟩ := gd_ix hf
    obtain ⟨σ8, e9⟩ : ∃ z : St, z = aW σ 72 x5 r5 := ⟨_, rfl⟩
    have hf := nm_s e9 hf
    refine g_iast (σ' := σ8) S hw 72 0 xe_72 rfl (by rw [e9]; exact xs_72 _) h7 dX10_leastCost_25 (fun H locs hw => ?_)
    obtain ⟨v10, e11⟩ : ∃ z : Int32, z = x5 + (1 : Int32) := ⟨_, rfl⟩
    have hf := nm_s e11 hf
    refine lv_iinc (v := v10) (lv' := [(5, .int v10), (0, .ref (ad 9)), (1, .int x1), (2, .int x2), (3, .int x3), (4, .int x4)]) S.1 S.2.1 dX10_leastCost_26 hl (k := 5) rfl (by rw [e11]; rfl) (by decide) rfl (fun ls hl => ?_)
    refine lv_goto (tgt := 3) S.1 S.2.1 dX10_leastCost_29 (by decide) ?_
    exact hk3 σ8 x1 x2 x3 x4 v10 _ _ _ hw (lv_sub hl [1, 2, 3, 4, 5, 0] rfl) hf
def fX10_leastCost_3 (N : Nat) : Nat → St → Int32 → Int32 → Int32 → Int32 → Int32 → Option (Int32 × St)
  | 0 => fun _ _ _ _ _ _ => none
  | n + 1 => fX10_leastCost_3b N (fX10_leastCost_3 N n)
theorem wX10_leastCost_3 {r : Int32} {σ' : St} {N : Nat} (S : CallFix p m c cX10_leastCost 6 s av BG RX10) (hr : meth.sig.returnType = some .int) (hlk : meth.locks = false) : ∀ (n : Nat), ∀ (σ : St) (x1 : Int32) (x2 : Int32) (x3 : Int32) (x4 : Int32) (x5 : Int32) (ls : Array Slot) (H : Heap) (locs : List Loc), Hw (XWd D ad cs ts adK adV) s σ H locs → lv_has ls 6 [(0, .ref (ad 9)), (1, .int x1), (2, .int x2), (3, .int x3), (4, .int x4), (5, .int x5)] → fX10_leastCost_3 N n σ x1 x2 x3 x4 x5 = some (r, σ') → W p l e (RM 3 70) s m av below meth c H locs 0 0 (QI below (XWd D ad cs ts adK adV) av s r σ') (F0 m 3 ls []) := by
  intro n
  induction n with
  | zero => intro _ _ _ _ _ _ ls H locs hw hl hf; cases hf
  | succ n ih => intro _ _ _ _ _ _ ls H locs hw hl hf; exact wX10_leastCost_3b S hr hlk ih hw hl hf
def fX10_leastCost (N : Nat) (σ : St) (x1 : Int32) (x2 : Int32) (x3 : Int32) (x4 : Int32) : Option (Int32 × St) :=
  fX10_leastCost_3 N N σ x1 x2 x3 x4 (0 : Int32)
set_option maxHeartbeats 2000000 in
set_option maxRecDepth 20000 in
theorem tX10_leastCost {r : Int32} {σ' : St} {N : Nat} {σ : St} {x1 : Int32} {x2 : Int32} {x3 : Int32} {x4 : Int32} (hf : fX10_leastCost N σ x1 x2 x3 x4 = some (r, σ')) : CI l (XWd D ad cs ts adK adV) yX10_leastCost cX10_leastCost 6 (some .int) 3 70 [.ref (ad 9), .int x1, .int x2, .int x3, .int x4] σ r σ' := by
  refine CI.of (by decide) (Nat.le_of_ble_eq_true rfl) ?_
  intro p e s m below meth c ls S hr hlk hw hl
  have hl : lv_has ls 6 [(0, .ref (ad 9)), (1, .int x1), (2, .int x2), (3, .int x3), (4, .int x4)] := hl
  unfold fX10_leastCost at hf
  refine lv_iconst (v := 0) S.1 S.2.1 dX10_leastCost_0 (by decide) ?_
  refine lv_istore (lv' := [(5, .int (0 : Int32)), (0, .ref (ad 9)), (1, .int x1), (2, .int x2), (3, .int x3), (4, .int x4)]) S.1 S.2.1 dX10_leastCost_1 hl (by decide) rfl (fun ls hl => ?_)
  exact wX10_leastCost_3 S hr hlk N σ x1 x2 x3 x4 (0 : Int32) _ _ _ hw (lv_sub hl [1, 2, 3, 4, 5, 0] rfl) hf
def fX10_nextOn_48 (N : Nat) (σ : St) (k16 : Int32 → Int32 → Int32 → Option Int32) (x1 : Int32) (x2 : Int32) (x3 : Int32) : Option Int32 :=
  nm (x3 + (1 : Int32)) fun v8 => k16 x1 x2 v8
set_option maxHeartbeats 2000000 in
set_option maxRecDepth 20000 in
theorem wX10_nextOn_48 {r : Int32} {N : Nat} {σ : St} (S : CallFix p m c cX10_nextOn 5 s av BG RX10) (hr : meth.sig.returnType = some .int) (hlk : meth.locks = false) {k16 : Int32 → Int32 → Int32 → Option Int32} (hk16 : ∀ (x1 : Int32) (x2 : Int32) (x3 : Int32) (ls : Array Slot) (H : Heap) (locs : List Loc), Hw (XWd D ad cs ts adK adV) s σ H locs → lv_has ls 5 [(0, .ref (ad 9)), (1, .int x1), (2, .int x2), (3, .int x3)] → k16 x1 x2 x3 = some r → W p l e (RM 1 22) s m av below meth c H locs 0 0 (QI below (XWd D ad cs ts adK adV) av s r σ) (F0 m 16 ls []))  {x1 : Int32} {x2 : Int32} {x3 : Int32} {ls : Array Slot} {H : Heap} {locs : List Loc} (hw : Hw (XWd D ad cs ts adK adV) s σ H locs) (hl : lv_has ls 5 [(0, .ref (ad 9)), (1, .int x1), (2, .int x2), (3, .int x3)]) (hf : fX10_nextOn_48 N σ k16 x1 x2 x3 = some r) : W p l e (RM 1 22) s m av below meth c H locs 0 0 (QI below (XWd D ad cs ts adK adV) av s r σ) (F0 m 48 ls []) := by
  unfold fX10_nextOn_48 at hf
  obtain ⟨v8, e9⟩ : ∃ z : Int32, z = x3 + (1 : Int32) := ⟨_, rfl⟩
  have hf := nm_s e9 hf
  refine lv_iinc (v := v8) (lv' := [(3, .int v8), (0, .ref (ad 9)), (1, .int x1), (2, .int x2)]) S.1 S.2.1 dX10_nextOn_48 hl (k := 3) rfl (by rw [e9]; rfl) (by decide) rfl (fun ls hl => ?_)
  refine lv_goto (tgt := 16) S.1 S.2.1 dX10_nextOn_51 (by decide) ?_
  exact hk16 x1 x2 v8 _ _ _ hw (lv_sub hl [1, 2, 3, 0] rfl) hf
def fX10_nextOn_16b (N : Nat) (σ : St) (k16 : Int32 → Int32 → Int32 → Option Int32) (x1 : Int32) (x2 : Int32) (x3 : Int32) : Option Int32 :=
  if (4 : Int32) ≤ x3 then (some (-1 : Int32)) else (nm (fX10_beside x1 x3) fun v5 => if v5 = (-1 : Int32) then (fX10_nextOn_48 N σ k16 x1 x2 x3) else (if ix v5 48 = true then if (aR σ 73 v5) = x2 then (some v5) else (fX10_nextOn_48 N σ k16 x1 x2 x3) else none))
set_option maxHeartbeats 2000000 in
set_option maxRecDepth 20000 in
theorem wX10_nextOn_16b {r : Int32} {N : Nat} {σ : St} (S : CallFix p m c cX10_nextOn 5 s av BG RX10) (hr : meth.sig.returnType = some .int) (hlk : meth.locks = false) {k16 : Int32 → Int32 → Int32 → Option Int32} (hk16 : ∀ (x1 : Int32) (x2 : Int32) (x3 : Int32) (ls : Array Slot) (H : Heap) (locs : List Loc), Hw (XWd D ad cs ts adK adV) s σ H locs → lv_has ls 5 [(0, .ref (ad 9)), (1, .int x1), (2, .int x2), (3, .int x3)] → k16 x1 x2 x3 = some r → W p l e (RM 1 22) s m av below meth c H locs 0 0 (QI below (XWd D ad cs ts adK adV) av s r σ) (F0 m 16 ls []))  {x1 : Int32} {x2 : Int32} {x3 : Int32} {ls : Array Slot} {H : Heap} {locs : List Loc} (hw : Hw (XWd D ad cs ts adK adV) s σ H locs) (hl : lv_has ls 5 [(0, .ref (ad 9)), (1, .int x1), (2, .int x2), (3, .int x3)]) (hf : fX10_nextOn_16b N σ k16 x1 x2 x3 = some r) : W p l e (RM 1 22) s m av below meth c H locs 0 0 (QI below (XWd D ad cs ts adK adV) av s r σ) (F0 m 16 ls []) := by
  unfold fX10_nextOn_16b at hf
  refine lv_iload_n S.1 S.2.1 dX10_nextOn_16 rfl (lv_at hl 3 rfl) ?_
  refine lv_iconst (v := 4) S.1 S.2.1 dX10_nextOn_17 (by decide) ?_
  refine lv_icmp_ge (tgt := 54) S.1 S.2.1 dX10_nextOn_18 (by decide) (fun hc => ?_) (fun hc => ?_)
  · have hf := itt hf hc
    refine lv_iconst (v := -1) S.1 S.2.1 dX10_nextOn_54 (by decide) ?_
    exact g_iret (XWd_ok D ad cs ts adK adV) S hr hlk hw dX10_nextOn_55 (Option.some.inj hf) rfl
  · have hf := itf hf hc
    refine lv_iload_n S.1 S.2.1 dX10_nextOn_21 rfl (lv_at hl 1 rfl) ?_
    refine lv_iload_n S.1 S.2.1 dX10_nextOn_22 rfl (lv_at hl 3 rfl) ?_
    refine g_Si (rest := []) (XWd_ok D ad cs ts adK adV) S hw (tX10_beside (ad := ad) (cs := cs) (ts := ts) (adK := adK) (adV := adV) (σ := σ) rfl) kt_X10_58 ⟨Nat.le_of_ble_eq_true rfl, Nat.le_of_ble_eq_true rfl⟩ rfl hl.1 rfl (Nat.le_of_ble_eq_true rfl) ⟨Nat.zero_le _, Nat.zero_le _⟩ dX10_nextOn_23 (fun H locs hw => ?_)
    refine lv_topi (fun v5 e6 => ?_)
    have hf := nm_s e6 hf
    refine lv_istore (lv' := [(4, .int v5), (0, .ref (ad 9)), (1, .int x1), (2, .int x2), (3, .int x3)]) S.1 S.2.1 dX10_nextOn_26 hl (by decide) rfl (fun ls hl => ?_)
    refine lv_iload S.1 S.2.1 dX10_nextOn_28 (lv_at hl 0 rfl) ?_
    refine lv_iconst (v := -1) S.1 S.2.1 dX10_nextOn_30 (by decide) ?_
    refine lv_icmp_eq (tgt := 48) S.1 S.2.1 dX10_nextOn_31 (by decide) (fun hc => ?_) (fun hc => ?_)
    · have hf := itt hf hc
      exact wX10_nextOn_48 S hr hlk hk16 hw (lv_sub hl [1, 2, 3, 4] rfl) hf
    · have hf := itf hf hc
      refine lv_aload_n S.1 S.2.1 dX10_nextOn_34 rfl (lv_at hl 1 rfl) ?_
      refine xg_Ways_totals S hw kf_X10_15 dX10_nextOn_35 ?_
      refine lv_iload S.1 S.2.1 dX10_nextOn_38 (lv_at hl 0 rfl) ?_
      obtain ⟨h7, hf⟩ := gd_ix hf
      refine g_iald S hw 73 0 xe_73 rfl h7 dX10_nextOn_40 ?_
      refine lv_iload_n S.1 S.2.1 dX10_nextOn_41 rfl (lv_at hl 3 rfl) ?_
      refine lv_icmp_ne (tgt := 48) S.1 S.2.1 dX10_nextOn_42 (by decide) (fun hc => ?_) (fun hc => ?_)
      · have hf := itf hf hc
        exact wX10_nextOn_48 S hr hlk hk16 hw (lv_sub hl [1, 2, 3, 4] rfl) hf
      · have hf := itt hf hc
        refine lv_iload S.1 S.2.1 dX10_nextOn_45 (lv_at hl 0 rfl) ?_
        exact g_iret (XWd_ok D ad cs ts adK adV) S hr hlk hw dX10_nextOn_47 (Option.some.inj hf) rfl
def fX10_nextOn_16 (N : Nat) (σ : St) : Nat → Int32 → Int32 → Int32 → Option Int32
  | 0 => fun _ _ _ => none
  | n + 1 => fX10_nextOn_16b N σ (fX10_nextOn_16 N σ n)
theorem wX10_nextOn_16 {r : Int32} {N : Nat} {σ : St} (S : CallFix p m c cX10_nextOn 5 s av BG RX10) (hr : meth.sig.returnType = some .int) (hlk : meth.locks = false) : ∀ (n : Nat), ∀ (x1 : Int32) (x2 : Int32) (x3 : Int32) (ls : Array Slot) (H : Heap) (locs : List Loc), Hw (XWd D ad cs ts adK adV) s σ H locs → lv_has ls 5 [(0, .ref (ad 9)), (1, .int x1), (2, .int x2), (3, .int x3)] → fX10_nextOn_16 N σ n x1 x2 x3 = some r → W p l e (RM 1 22) s m av below meth c H locs 0 0 (QI below (XWd D ad cs ts adK adV) av s r σ) (F0 m 16 ls []) := by
  intro n
  induction n with
  | zero => intro _ _ _ ls H locs hw hl hf; cases hf
  | succ n ih => intro _ _ _ ls H locs hw hl hf; exact wX10_nextOn_16b S hr hlk ih hw hl hf
def fX10_nextOn (N : Nat) (σ : St) (x1 : Int32) : Option Int32 :=
  if ix x1 48 = true then if ix x1 48 = true then nm ((aR σ 73 x1) - (aR σ 72 x1)) fun v3 => fX10_nextOn_16 N σ N x1 v3 (0 : Int32) else none else none
set_option maxHeartbeats 2000000 in
set_option maxRecDepth 20000 in
theorem tX10_nextOn {r : Int32} {N : Nat} {σ : St} {x1 : Int32} (hf : fX10_nextOn N σ x1 = some r) : CI l (XWd D ad cs ts adK adV) yX10_nextOn cX10_nextOn 5 (some .int) 1 22 [.ref (ad 9), .int x1] σ r σ := by
  refine CI.of (by decide) (Nat.le_of_ble_eq_true rfl) ?_
  intro p e s m below meth c ls S hr hlk hw hl
  have hl : lv_has ls 5 [(0, .ref (ad 9)), (1, .int x1)] := hl
  unfold fX10_nextOn at hf
  refine lv_aload_n S.1 S.2.1 dX10_nextOn_0 rfl (lv_at hl 0 rfl) ?_
  refine xg_Ways_totals S hw kf_X10_15 dX10_nextOn_1 ?_
  refine lv_iload_n S.1 S.2.1 dX10_nextOn_4 rfl (lv_at hl 1 rfl) ?_
  obtain ⟨h1, hf⟩ := gd_ix hf
  refine g_iald S hw 73 0 xe_73 rfl h1 dX10_nextOn_5 ?_
  refine lv_aload_n S.1 S.2.1 dX10_nextOn_6 rfl (lv_at hl 0 rfl) ?_
  refine xg_Ways_weights S hw kf_X10_9 dX10_nextOn_7 ?_
  refine lv_iload_n S.1 S.2.1 dX10_nextOn_10 rfl (lv_at hl 1 rfl) ?_
  obtain ⟨h2, hf⟩ := gd_ix hf
  refine g_iald S hw 72 0 xe_72 rfl h2 dX10_nextOn_11 ?_
  refine lv_isub S.1 S.2.1 dX10_nextOn_12 ?_
  refine lv_topi (fun v3 e4 => ?_)
  have hf := nm_s e4 hf
  refine lv_istore_n (lv' := [(2, .int v3), (0, .ref (ad 9)), (1, .int x1)]) S.1 S.2.1 dX10_nextOn_13 rfl hl (by decide) rfl (fun ls hl => ?_)
  refine lv_iconst (v := 0) S.1 S.2.1 dX10_nextOn_14 (by decide) ?_
  refine lv_istore_n (lv' := [(3, .int (0 : Int32)), (2, .int v3), (0, .ref (ad 9)), (1, .int x1)]) S.1 S.2.1 dX10_nextOn_15 rfl hl (by decide) rfl (fun ls hl => ?_)
  exact wX10_nextOn_16 S hr hlk N x1 v3 (0 : Int32) _ _ _ hw (lv_sub hl [2, 3, 1, 0] rfl) hf
def fX10_plotAt_26b (N : Nat) (σ : St) (k26 : Int32 → Int32 → Int32 → Option Int32) (x2 : Int32) (x3 : Int32) (x4 : Int32) : Option Int32 :=
  if x2 ≤ x4 then (some x3) else (if x3 = (-1 : Int32) then (some x3) else (bd (fX10_nextOn N σ x3) fun r2 => nm (x4 + (1 : Int32)) fun v4 => k26 x2 r2 v4))
set_option maxHeartbeats 2000000 in
set_option maxRecDepth 20000 in
theorem wX10_plotAt_26b {r : Int32} {N : Nat} {σ : St} (S : CallFix p m c cX10_plotAt 5 s av BG RX10) (hr : meth.sig.returnType = some .int) (hlk : meth.locks = false) {k26 : Int32 → Int32 → Int32 → Option Int32} (hk26 : ∀ (x2 : Int32) (x3 : Int32) (x4 : Int32) (ls : Array Slot) (H : Heap) (locs : List Loc), Hw (XWd D ad cs ts adK adV) s σ H locs → lv_has ls 5 [(0, .ref (ad 9)), (2, .int x2), (3, .int x3), (4, .int x4)] → k26 x2 x3 x4 = some r → W p l e (RM 2 46) s m av below meth c H locs 0 0 (QI below (XWd D ad cs ts adK adV) av s r σ) (F0 m 26 ls []))  {x2 : Int32} {x3 : Int32} {x4 : Int32} {ls : Array Slot} {H : Heap} {locs : List Loc} (hw : Hw (XWd D ad cs ts adK adV) s σ H locs) (hl : lv_has ls 5 [(0, .ref (ad 9)), (2, .int x2), (3, .int x3), (4, .int x4)]) (hf : fX10_plotAt_26b N σ k26 x2 x3 x4 = some r) : W p l e (RM 2 46) s m av below meth c H locs 0 0 (QI below (XWd D ad cs ts adK adV) av s r σ) (F0 m 26 ls []) := by
  unfold fX10_plotAt_26b at hf
  refine lv_iload S.1 S.2.1 dX10_plotAt_26 (lv_at hl 3 rfl) ?_
  refine lv_iload_n S.1 S.2.1 dX10_plotAt_28 rfl (lv_at hl 1 rfl) ?_
  refine lv_icmp_ge (tgt := 49) S.1 S.2.1 dX10_plotAt_29 (by decide) (fun hc => ?_) (fun hc => ?_)
  · have hf := itt hf hc
    refine lv_iload_n S.1 S.2.1 dX10_plotAt_49 rfl (lv_at hl 2 rfl) ?_
    exact g_iret (XWd_ok D ad cs ts adK adV) S hr hlk hw dX10_plotAt_50 (Option.some.inj hf) rfl
  · have hf := itf hf hc
    refine lv_iload_n S.1 S.2.1 dX10_plotAt_32 rfl (lv_at hl 2 rfl) ?_
    refine lv_iconst (v := -1) S.1 S.2.1 dX10_plotAt_33 (by decide) ?_
    refine lv_icmp_eq (tgt := 49) S.1 S.2.1 dX10_plotAt_34 (by decide) (fun hc => ?_) (fun hc => ?_)
    · have hf := itt hf hc
      refine lv_iload_n S.1 S.2.1 dX10_plotAt_49 rfl (lv_at hl 2 rfl) ?_
      exact g_iret (XWd_ok D ad cs ts adK adV) S hr hlk hw dX10_plotAt_50 (Option.some.inj hf) rfl
    · have hf := itf hf hc
      refine lv_aload_n S.1 S.2.1 dX10_plotAt_37 rfl (lv_at hl 0 rfl) ?_
      refine lv_iload_n S.1 S.2.1 dX10_plotAt_38 rfl (lv_at hl 2 rfl) ?_
      obtain ⟨r2, g3, hf⟩ := bd_s hf
      refine g_Vi (rest := []) (XWd_ok D ad cs ts adK adV) S hw (tX10_nextOn g3) kt_X10_70 9 xe_9 rfl rfl ⟨Nat.le_of_ble_eq_true rfl, Nat.le_of_ble_eq_true rfl⟩ rfl hl.1 rfl (Nat.le_of_ble_eq_true rfl) ⟨Nat.zero_le _, Nat.zero_le _⟩ dX10_plotAt_39 (fun H locs hw => ?_)
      refine lv_istore_n (lv' := [(3, .int r2), (0, .ref (ad 9)), (2, .int x2), (4, .int x4)]) S.1 S.2.1 dX10_plotAt_42 rfl hl (by decide) rfl (fun ls hl => ?_)
      obtain ⟨v4, e5⟩ : ∃ z : Int32, z = x4 + (1 : Int32) := ⟨_, rfl⟩
      have hf := nm_s e5 hf
      refine lv_iinc (v := v4) (lv' := [(4, .int v4), (3, .int r2), (0, .ref (ad 9)), (2, .int x2)]) S.1 S.2.1 dX10_plotAt_43 hl (k := 3) rfl (by rw [e5]; rfl) (by decide) rfl (fun ls hl => ?_)
      refine lv_goto (tgt := 26) S.1 S.2.1 dX10_plotAt_46 (by decide) ?_
      exact hk26 x2 r2 v4 _ _ _ hw (lv_sub hl [2, 3, 1, 0] rfl) hf
def fX10_plotAt_26 (N : Nat) (σ : St) : Nat → Int32 → Int32 → Int32 → Option Int32
  | 0 => fun _ _ _ => none
  | n + 1 => fX10_plotAt_26b N σ (fX10_plotAt_26 N σ n)
theorem wX10_plotAt_26 {r : Int32} {N : Nat} {σ : St} (S : CallFix p m c cX10_plotAt 5 s av BG RX10) (hr : meth.sig.returnType = some .int) (hlk : meth.locks = false) : ∀ (n : Nat), ∀ (x2 : Int32) (x3 : Int32) (x4 : Int32) (ls : Array Slot) (H : Heap) (locs : List Loc), Hw (XWd D ad cs ts adK adV) s σ H locs → lv_has ls 5 [(0, .ref (ad 9)), (2, .int x2), (3, .int x3), (4, .int x4)] → fX10_plotAt_26 N σ n x2 x3 x4 = some r → W p l e (RM 2 46) s m av below meth c H locs 0 0 (QI below (XWd D ad cs ts adK adV) av s r σ) (F0 m 26 ls []) := by
  intro n
  induction n with
  | zero => intro _ _ _ ls H locs hw hl hf; cases hf
  | succ n ih => intro _ _ _ ls H locs hw hl hf; exact wX10_plotAt_26b S hr hlk ih hw hl hf
def fX10_plotAt (N : Nat) (σ : St) (x1 : Int32) (x2 : Int32) : Option Int32 :=
  if ix x1 48 = true then if (fX11_within x2 (0 : Int32) (((aR σ 73 x1) - (aR σ 73 x1) / (64 : Int32) * (64 : Int32)) - (1 : Int32))) = 0 then (some (-1 : Int32)) else (fX10_plotAt_26 N σ N x2 x1 (0 : Int32)) else none
set_option maxHeartbeats 2000000 in
set_option maxRecDepth 20000 in
theorem tX10_plotAt {r : Int32} {N : Nat} {σ : St} {x1 : Int32} {x2 : Int32} (hf : fX10_plotAt N σ x1 x2 = some r) : CI l (XWd D ad cs ts adK adV) yX10_plotAt cX10_plotAt 5 (some .int) 2 46 [.ref (ad 9), .int x1, .int x2] σ r σ := by
  refine CI.of (by decide) (Nat.le_of_ble_eq_true rfl) ?_
  intro p e s m below meth c ls S hr hlk hw hl
  have hl : lv_has ls 5 [(0, .ref (ad 9)), (1, .int x1), (2, .int x2)] := hl
  unfold fX10_plotAt at hf
  refine lv_iload_n S.1 S.2.1 dX10_plotAt_0 rfl (lv_at hl 2 rfl) ?_
  refine lv_iconst (v := 0) S.1 S.2.1 dX10_plotAt_1 (by decide) ?_
  refine lv_aload_n S.1 S.2.1 dX10_plotAt_2 rfl (lv_at hl 0 rfl) ?_
  refine xg_Ways_totals S hw kf_X10_15 dX10_plotAt_3 ?_
  refine lv_iload_n S.1 S.2.1 dX10_plotAt_6 rfl (lv_at hl 1 rfl) ?_
  obtain ⟨h1, hf⟩ := gd_ix hf
  refine g_iald S hw 73 0 xe_73 rfl h1 dX10_plotAt_7 ?_
  refine lv_bipush (v := 64) S.1 S.2.1 dX10_plotAt_8 (by decide) ?_
  refine lv_irem S.1 S.2.1 dX10_plotAt_10 (by decide) ?_
  refine lv_iconst (v := 1) S.1 S.2.1 dX10_plotAt_11 (by decide) ?_
  refine lv_isub S.1 S.2.1 dX10_plotAt_12 ?_
  refine g_Ni (rest := []) (XWd_ok D ad cs ts adK adV) S hw (tX11_within (ad := ad) (cs := cs) (ts := ts) (adK := adK) (adV := adV) (σ := σ) rfl) kn_X11_within (x_nw hw 5 rfl) ⟨Nat.le_of_ble_eq_true rfl, Nat.le_of_ble_eq_true rfl⟩ rfl hl.1 rfl (Nat.le_of_ble_eq_true rfl) ⟨Nat.zero_le _, Nat.zero_le _⟩ dX10_plotAt_13 (fun H locs hw => ?_)
  refine lv_if_ne (tgt := 21) S.1 S.2.1 dX10_plotAt_16 (by decide) (fun hc => ?_) (fun hc => ?_)
  · have hf := itf hf hc
    refine lv_iload_n S.1 S.2.1 dX10_plotAt_21 rfl (lv_at hl 1 rfl) ?_
    refine lv_istore_n (lv' := [(3, .int x1), (0, .ref (ad 9)), (1, .int x1), (2, .int x2)]) S.1 S.2.1 dX10_plotAt_22 rfl hl (by decide) rfl (fun ls hl => ?_)
    refine lv_iconst (v := 0) S.1 S.2.1 dX10_plotAt_23 (by decide) ?_
    refine lv_istore (lv' := [(4, .int (0 : Int32)), (3, .int x1), (0, .ref (ad 9)), (1, .int x1), (2, .int x2)]) S.1 S.2.1 dX10_plotAt_24 hl (by decide) rfl (fun ls hl => ?_)
    exact wX10_plotAt_26 S hr hlk N x2 x1 (0 : Int32) _ _ _ hw (lv_sub hl [2, 4, 1, 0] rfl) hf
  · have hf := itt hf hc
    refine lv_iconst (v := -1) S.1 S.2.1 dX10_plotAt_19 (by decide) ?_
    exact g_iret (XWd_ok D ad cs ts adK adV) S hr hlk hw dX10_plotAt_20 (Option.some.inj hf) rfl
def fX11_isDay (x0 : Int32) : Int32 :=
  (fX11_within x0 (0 : Int32) (9999 : Int32))
set_option maxHeartbeats 2000000 in
set_option maxRecDepth 20000 in
theorem tX11_isDay {r : Int32} {σ : St} {x0 : Int32} (hf : fX11_isDay x0 = r) : CI l (XWd D ad cs ts adK adV) yX11_isDay cX11_isDay 1 (some .boolean) 1 22 [.int x0] σ r σ := by
  refine CI.of (by decide) (Nat.le_of_ble_eq_true rfl) ?_
  intro p e s m below meth c ls S hr hlk hw hl
  have hl : lv_has ls 1 [(0, .int x0)] := hl
  unfold fX11_isDay at hf
  refine lv_iload_n S.1 S.2.1 dX11_isDay_0 rfl (lv_at hl 0 rfl) ?_
  refine lv_iconst (v := 0) S.1 S.2.1 dX11_isDay_1 (by decide) ?_
  refine lv_sipush (v := 9999) S.1 S.2.1 dX11_isDay_2 (by decide) ?_
  refine g_Si (rest := []) (XWd_ok D ad cs ts adK adV) S hw (tX11_within (ad := ad) (cs := cs) (ts := ts) (adK := adK) (adV := adV) (σ := σ) rfl) kt_X11_107 ⟨Nat.le_of_ble_eq_true rfl, Nat.le_of_ble_eq_true rfl⟩ rfl hl.1 rfl (Nat.le_of_ble_eq_true rfl) ⟨Nat.zero_le _, Nat.zero_le _⟩ dX11_isDay_5 (fun H locs hw => ?_)
  exact g_zret (XWd_ok D ad cs ts adK adV) S hr hlk hw (zzX11_within ..) dX11_isDay_8 hf rfl
theorem zzX11_isDay (x0 : Int32) : narrow .boolean (.int (fX11_isDay x0)) = .int (fX11_isDay x0) := by
  unfold fX11_isDay
  repeat' split
  all_goals first | rfl | exact zzX11_within .. | exact zzX12_isIn ..
def fX11_isOwner (x0 : Int32) : Int32 :=
  (fX11_within x0 (0 : Int32) (9 : Int32))
set_option maxHeartbeats 2000000 in
set_option maxRecDepth 20000 in
theorem tX11_isOwner {r : Int32} {σ : St} {x0 : Int32} (hf : fX11_isOwner x0 = r) : CI l (XWd D ad cs ts adK adV) yX11_isOwner cX11_isOwner 1 (some .boolean) 1 22 [.int x0] σ r σ := by
  refine CI.of (by decide) (Nat.le_of_ble_eq_true rfl) ?_
  intro p e s m below meth c ls S hr hlk hw hl
  have hl : lv_has ls 1 [(0, .int x0)] := hl
  unfold fX11_isOwner at hf
  refine lv_iload_n S.1 S.2.1 dX11_isOwner_0 rfl (lv_at hl 0 rfl) ?_
  refine lv_iconst (v := 0) S.1 S.2.1 dX11_isOwner_1 (by decide) ?_
  refine lv_bipush (v := 9) S.1 S.2.1 dX11_isOwner_2 (by decide) ?_
  refine g_Si (rest := []) (XWd_ok D ad cs ts adK adV) S hw (tX11_within (ad := ad) (cs := cs) (ts := ts) (adK := adK) (adV := adV) (σ := σ) rfl) kt_X11_107 ⟨Nat.le_of_ble_eq_true rfl, Nat.le_of_ble_eq_true rfl⟩ rfl hl.1 rfl (Nat.le_of_ble_eq_true rfl) ⟨Nat.zero_le _, Nat.zero_le _⟩ dX11_isOwner_4 (fun H locs hw => ?_)
  exact g_zret (XWd_ok D ad cs ts adK adV) S hr hlk hw (zzX11_within ..) dX11_isOwner_7 hf rfl
theorem zzX11_isOwner (x0 : Int32) : narrow .boolean (.int (fX11_isOwner x0)) = .int (fX11_isOwner x0) := by
  unfold fX11_isOwner
  repeat' split
  all_goals first | rfl | exact zzX11_within .. | exact zzX12_isIn ..
def fX11_pass (N : Nat) (σ : St) (x1 : Int32) : Option (Int32 × St) :=
  if (fX11_within x1 (1 : Int32) (2000 : Int32)) = 0 then (some ((-2 : Int32), σ)) else (if ((σ.1 0) + x1) ≤ (9999 : Int32) then (nm (sI σ 0 ((σ.1 0) + x1)) fun σ1 => some ((σ1.1 0), σ1)) else (some ((-4 : Int32), σ)))
set_option maxHeartbeats 2000000 in
set_option maxRecDepth 20000 in
theorem tX11_pass {r : Int32} {σ' : St} {N : Nat} {σ : St} {x1 : Int32} (hf : fX11_pass N σ x1 = some (r, σ')) : CI l (XWd D ad cs ts adK adV) yX11_pass cX11_pass 2 (some .int) 1 22 [.ref (ad 0), .int x1] σ r σ' := by
  refine CI.of (by decide) (Nat.le_of_ble_eq_true rfl) ?_
  intro p e s m below meth c ls S hr hlk hw hl
  have hl : lv_has ls 2 [(0, .ref (ad 0)), (1, .int x1)] := hl
  unfold fX11_pass at hf
  refine lv_iload_n S.1 S.2.1 dX11_pass_0 rfl (lv_at hl 1 rfl) ?_
  refine lv_iconst (v := 1) S.1 S.2.1 dX11_pass_1 (by decide) ?_
  refine lv_sipush (v := 2000) S.1 S.2.1 dX11_pass_2 (by decide) ?_
  refine g_Si (rest := []) (XWd_ok D ad cs ts adK adV) S hw (tX11_within (ad := ad) (cs := cs) (ts := ts) (adK := adK) (adV := adV) (σ := σ) rfl) kt_X11_107 ⟨Nat.le_of_ble_eq_true rfl, Nat.le_of_ble_eq_true rfl⟩ rfl hl.1 rfl (Nat.le_of_ble_eq_true rfl) ⟨Nat.zero_le _, Nat.zero_le _⟩ dX11_pass_5 (fun H locs hw => ?_)
  refine lv_if_ne (tgt := 14) S.1 S.2.1 dX11_pass_8 (by decide) (fun hc => ?_) (fun hc => ?_)
  · have hf := itf hf hc
    refine lv_aload_n S.1 S.2.1 dX11_pass_14 rfl (lv_at hl 0 rfl) ?_
    refine xg_WayLeaves_land S hw kf_X11_10 dX11_pass_15 ?_
    refine xg_Land_day S hw kf_X11_111 dX11_pass_18 ?_
    refine lv_iload_n S.1 S.2.1 dX11_pass_21 rfl (lv_at hl 1 rfl) ?_
    refine lv_iadd S.1 S.2.1 dX11_pass_22 ?_
    refine lv_sipush (v := 9999) S.1 S.2.1 dX11_pass_23 (by decide) ?_
    refine lv_icmp_le (tgt := 32) S.1 S.2.1 dX11_pass_26 (by decide) (fun hc => ?_) (fun hc => ?_)
    · have hf := itt hf hc
      refine lv_aload_n S.1 S.2.1 dX11_pass_32 rfl (lv_at hl 0 rfl) ?_
      refine xg_WayLeaves_land S hw kf_X11_10 dX11_pass_33 ?_
      refine lv_dup S.1 S.2.1 dX11_pass_36 rfl ?_
      refine xg_Land_day S hw kf_X11_111 dX11_pass_37 ?_
      refine lv_iload_n S.1 S.2.1 dX11_pass_40 rfl (lv_at hl 1 rfl) ?_
      refine lv_iadd S.1 S.2.1 dX11_pass_41 ?_
      obtain ⟨σ1, e2⟩ : ∃ z : St, z = sI σ 0 ((σ.1 0) + x1) := ⟨_, rfl⟩
      have hf := nm_s e2 hf
      refine xp_Land_day S hw e2 kf_X11_111 dX11_pass_42 (fun H locs hw => ?_)
      refine lv_aload_n S.1 S.2.1 dX11_pass_45 rfl (lv_at hl 0 rfl) ?_
      refine xg_WayLeaves_land S hw kf_X11_10 dX11_pass_46 ?_
      refine xg_Land_day S hw kf_X11_111 dX11_pass_49 ?_
      exact g_iret (XWd_ok D ad cs ts adK adV) S hr hlk hw dX11_pass_52 (Prod.mk.inj (Option.some.inj hf)).1 (Prod.mk.inj (Option.some.inj hf)).2
    · have hf := itf hf hc
      refine lv_bipush (v := -4) S.1 S.2.1 dX11_pass_29 (by decide) ?_
      exact g_iret (XWd_ok D ad cs ts adK adV) S hr hlk hw dX11_pass_31 (Prod.mk.inj (Option.some.inj hf)).1 (Prod.mk.inj (Option.some.inj hf)).2
  · have hf := itt hf hc
    refine lv_bipush (v := -2) S.1 S.2.1 dX11_pass_11 (by decide) ?_
    exact g_iret (XWd_ok D ad cs ts adK adV) S hr hlk hw dX11_pass_13 (Prod.mk.inj (Option.some.inj hf)).1 (Prod.mk.inj (Option.some.inj hf)).2
def fX11_sell (N : Nat) (σ : St) (x1 : Int32) (x2 : Int32) (x3 : Int32) : Option (Int32 × St) :=
  if (fX11_isPlot x1) = 0 then (some ((-2 : Int32), σ)) else (if (fX11_isOwner x2) = 0 then (some ((-2 : Int32), σ)) else (if (fX4_isStillToCome σ x3) = 0 then (some ((-2 : Int32), σ)) else (if (σ.1 1) < (40 : Int32) then (bd2 (fX4_addSale N σ x1 x2 x3) fun r3 σ1 => some (r3, σ1)) else (some ((-4 : Int32), σ)))))
set_option maxHeartbeats 2000000 in
set_option maxRecDepth 20000 in
theorem tX11_sell {r : Int32} {σ' : St} {N : Nat} {σ : St} {x1 : Int32} {x2 : Int32} {x3 : Int32} (hf : fX11_sell N σ x1 x2 x3 = some (r, σ')) : CI l (XWd D ad cs ts adK adV) yX11_sell cX11_sell 4 (some .int) 2 43 [.ref (ad 0), .int x1, .int x2, .int x3] σ r σ' := by
  refine CI.of (by decide) (Nat.le_of_ble_eq_true rfl) ?_
  intro p e s m below meth c ls S hr hlk hw hl
  have hl : lv_has ls 4 [(0, .ref (ad 0)), (1, .int x1), (2, .int x2), (3, .int x3)] := hl
  unfold fX11_sell at hf
  refine lv_iload_n S.1 S.2.1 dX11_sell_0 rfl (lv_at hl 1 rfl) ?_
  refine g_Si (rest := []) (XWd_ok D ad cs ts adK adV) S hw (tX11_isPlot (ad := ad) (cs := cs) (ts := ts) (adK := adK) (adV := adV) (σ := σ) rfl) kt_X11_115 ⟨Nat.le_of_ble_eq_true rfl, Nat.le_of_ble_eq_true rfl⟩ rfl hl.1 rfl (Nat.le_of_ble_eq_true rfl) ⟨Nat.zero_le _, Nat.zero_le _⟩ dX11_sell_1 (fun H locs hw => ?_)
  refine lv_if_eq (tgt := 25) S.1 S.2.1 dX11_sell_4 (by decide) (fun hc => ?_) (fun hc => ?_)
  · have hf := itt hf hc
    refine lv_bipush (v := -2) S.1 S.2.1 dX11_sell_25 (by decide) ?_
    exact g_iret (XWd_ok D ad cs ts adK adV) S hr hlk hw dX11_sell_27 (Prod.mk.inj (Option.some.inj hf)).1 (Prod.mk.inj (Option.some.inj hf)).2
  · have hf := itf hf hc
    refine lv_iload_n S.1 S.2.1 dX11_sell_7 rfl (lv_at hl 2 rfl) ?_
    refine g_Si (rest := []) (XWd_ok D ad cs ts adK adV) S hw (tX11_isOwner (ad := ad) (cs := cs) (ts := ts) (adK := adK) (adV := adV) (σ := σ) rfl) kt_X11_119 ⟨Nat.le_of_ble_eq_true rfl, Nat.le_of_ble_eq_true rfl⟩ rfl hl.1 rfl (Nat.le_of_ble_eq_true rfl) ⟨Nat.zero_le _, Nat.zero_le _⟩ dX11_sell_8 (fun H locs hw => ?_)
    refine lv_if_eq (tgt := 25) S.1 S.2.1 dX11_sell_11 (by decide) (fun hc => ?_) (fun hc => ?_)
    · have hf := itt hf hc
      refine lv_bipush (v := -2) S.1 S.2.1 dX11_sell_25 (by decide) ?_
      exact g_iret (XWd_ok D ad cs ts adK adV) S hr hlk hw dX11_sell_27 (Prod.mk.inj (Option.some.inj hf)).1 (Prod.mk.inj (Option.some.inj hf)).2
    · have hf := itf hf hc
      refine lv_aload_n S.1 S.2.1 dX11_sell_14 rfl (lv_at hl 0 rfl) ?_
      refine xg_WayLeaves_land S hw kf_X11_10 dX11_sell_15 ?_
      refine lv_iload_n S.1 S.2.1 dX11_sell_18 rfl (lv_at hl 3 rfl) ?_
      refine g_Vi (rest := []) (XWd_ok D ad cs ts adK adV) S hw (tX4_isStillToCome (ad := ad) (cs := cs) (ts := ts) (adK := adK) (adV := adV) (σ := σ) rfl) kt_X11_122 1 xe_1 rfl rfl ⟨Nat.le_of_ble_eq_true rfl, Nat.le_of_ble_eq_true rfl⟩ rfl hl.1 rfl (Nat.le_of_ble_eq_true rfl) ⟨Nat.zero_le _, Nat.zero_le _⟩ dX11_sell_19 (fun H locs hw => ?_)
      refine lv_if_ne (tgt := 28) S.1 S.2.1 dX11_sell_22 (by decide) (fun hc => ?_) (fun hc => ?_)
      · have hf := itf hf hc
        refine lv_aload_n S.1 S.2.1 dX11_sell_28 rfl (lv_at hl 0 rfl) ?_
        refine xg_WayLeaves_land S hw kf_X11_10 dX11_sell_29 ?_
        refine xg_Land_sales S hw kf_X11_125 dX11_sell_32 ?_
        refine lv_bipush (v := 40) S.1 S.2.1 dX11_sell_35 (by decide) ?_
        refine lv_icmp_lt (tgt := 43) S.1 S.2.1 dX11_sell_37 (by decide) (fun hc => ?_) (fun hc => ?_)
        · have hf := itt hf hc
          refine lv_aload_n S.1 S.2.1 dX11_sell_43 rfl (lv_at hl 0 rfl) ?_
          refine xg_WayLeaves_land S hw kf_X11_10 dX11_sell_44 ?_
          refine lv_iload_n S.1 S.2.1 dX11_sell_47 rfl (lv_at hl 1 rfl) ?_
          refine lv_iload_n S.1 S.2.1 dX11_sell_48 rfl (lv_at hl 2 rfl) ?_
          refine lv_iload_n S.1 S.2.1 dX11_sell_49 rfl (lv_at hl 3 rfl) ?_
          obtain ⟨r3, σ1, g2, hf⟩ := bd2_s hf
          refine g_Vi (rest := []) (XWd_ok D ad cs ts adK adV) S hw (tX4_addSale g2) kt_X11_128 1 xe_1 rfl rfl ⟨Nat.le_of_ble_eq_true rfl, Nat.le_of_ble_eq_true rfl⟩ rfl hl.1 rfl (Nat.le_of_ble_eq_true rfl) ⟨Nat.zero_le _, Nat.zero_le _⟩ dX11_sell_50 (fun H locs hw => ?_)
          exact g_iret (XWd_ok D ad cs ts adK adV) S hr hlk hw dX11_sell_53 (Prod.mk.inj (Option.some.inj hf)).1 (Prod.mk.inj (Option.some.inj hf)).2
        · have hf := itf hf hc
          refine lv_bipush (v := -4) S.1 S.2.1 dX11_sell_40 (by decide) ?_
          exact g_iret (XWd_ok D ad cs ts adK adV) S hr hlk hw dX11_sell_42 (Prod.mk.inj (Option.some.inj hf)).1 (Prod.mk.inj (Option.some.inj hf)).2
      · have hf := itt hf hc
        refine lv_bipush (v := -2) S.1 S.2.1 dX11_sell_25 (by decide) ?_
        exact g_iret (XWd_ok D ad cs ts adK adV) S hr hlk hw dX11_sell_27 (Prod.mk.inj (Option.some.inj hf)).1 (Prod.mk.inj (Option.some.inj hf)).2
def fX11_owner (N : Nat) (σ : St) (x1 : Int32) (x2 : Int32) : Option Int32 :=
  if (fX11_isPlot x1) = 0 then (some (-2 : Int32)) else (if (fX11_isDay x2) = 0 then (some (-2 : Int32)) else (bd (fX4_ownerOn N σ x1 x2) fun r1 => some r1))
set_option maxHeartbeats 2000000 in
set_option maxRecDepth 20000 in
theorem tX11_owner {r : Int32} {N : Nat} {σ : St} {x1 : Int32} {x2 : Int32} (hf : fX11_owner N σ x1 x2 = some r) : CI l (XWd D ad cs ts adK adV) yX11_owner cX11_owner 3 (some .int) 2 42 [.ref (ad 0), .int x1, .int x2] σ r σ := by
  refine CI.of (by decide) (Nat.le_of_ble_eq_true rfl) ?_
  intro p e s m below meth c ls S hr hlk hw hl
  have hl : lv_has ls 3 [(0, .ref (ad 0)), (1, .int x1), (2, .int x2)] := hl
  unfold fX11_owner at hf
  refine lv_iload_n S.1 S.2.1 dX11_owner_0 rfl (lv_at hl 1 rfl) ?_
  refine g_Si (rest := []) (XWd_ok D ad cs ts adK adV) S hw (tX11_isPlot (ad := ad) (cs := cs) (ts := ts) (adK := adK) (adV := adV) (σ := σ) rfl) kt_X11_115 ⟨Nat.le_of_ble_eq_true rfl, Nat.le_of_ble_eq_true rfl⟩ rfl hl.1 rfl (Nat.le_of_ble_eq_true rfl) ⟨Nat.zero_le _, Nat.zero_le _⟩ dX11_owner_1 (fun H locs hw => ?_)
  refine lv_if_eq (tgt := 14) S.1 S.2.1 dX11_owner_4 (by decide) (fun hc => ?_) (fun hc => ?_)
  · have hf := itt hf hc
    refine lv_bipush (v := -2) S.1 S.2.1 dX11_owner_14 (by decide) ?_
    exact g_iret (XWd_ok D ad cs ts adK adV) S hr hlk hw dX11_owner_16 (Option.some.inj hf) rfl
  · have hf := itf hf hc
    refine lv_iload_n S.1 S.2.1 dX11_owner_7 rfl (lv_at hl 2 rfl) ?_
    refine g_Si (rest := []) (XWd_ok D ad cs ts adK adV) S hw (tX11_isDay (ad := ad) (cs := cs) (ts := ts) (adK := adK) (adV := adV) (σ := σ) rfl) kt_X11_132 ⟨Nat.le_of_ble_eq_true rfl, Nat.le_of_ble_eq_true rfl⟩ rfl hl.1 rfl (Nat.le_of_ble_eq_true rfl) ⟨Nat.zero_le _, Nat.zero_le _⟩ dX11_owner_8 (fun H locs hw => ?_)
    refine lv_if_ne (tgt := 17) S.1 S.2.1 dX11_owner_11 (by decide) (fun hc => ?_) (fun hc => ?_)
    · have hf := itf hf hc
      refine lv_aload_n S.1 S.2.1 dX11_owner_17 rfl (lv_at hl 0 rfl) ?_
      refine xg_WayLeaves_land S hw kf_X11_10 dX11_owner_18 ?_
      refine lv_iload_n S.1 S.2.1 dX11_owner_21 rfl (lv_at hl 1 rfl) ?_
      refine lv_iload_n S.1 S.2.1 dX11_owner_22 rfl (lv_at hl 2 rfl) ?_
      obtain ⟨r1, g2, hf⟩ := bd_s hf
      refine g_Vi (rest := []) (XWd_ok D ad cs ts adK adV) S hw (tX4_ownerOn g2) kt_X11_135 1 xe_1 rfl rfl ⟨Nat.le_of_ble_eq_true rfl, Nat.le_of_ble_eq_true rfl⟩ rfl hl.1 rfl (Nat.le_of_ble_eq_true rfl) ⟨Nat.zero_le _, Nat.zero_le _⟩ dX11_owner_23 (fun H locs hw => ?_)
      exact g_iret (XWd_ok D ad cs ts adK adV) S hr hlk hw dX11_owner_26 (Option.some.inj hf) rfl
    · have hf := itt hf hc
      refine lv_bipush (v := -2) S.1 S.2.1 dX11_owner_14 (by decide) ?_
      exact g_iret (XWd_ok D ad cs ts adK adV) S hr hlk hw dX11_owner_16 (Option.some.inj hf) rfl
def fX11_heir (N : Nat) (σ : St) (x1 : Int32) (x2 : Int32) (x3 : Int32) : Option (Int32 × St) :=
  if (fX11_isOwner x1) = 0 then (some ((-2 : Int32), σ)) else (if (fX11_isOwner x2) = 0 then (some ((-2 : Int32), σ)) else (if x1 = x2 then (some ((-2 : Int32), σ)) else (if (fX11_within x3 (0 : Int32) (99 : Int32)) = 0 then (some ((-2 : Int32), σ)) else (bd2 (fX3_giveShares N σ x1 x2 x3) fun r3 σ1 => some (r3, σ1)))))
set_option maxHeartbeats 2000000 in
set_option maxRecDepth 20000 in
theorem tX11_heir {r : Int32} {σ' : St} {N : Nat} {σ : St} {x1 : Int32} {x2 : Int32} {x3 : Int32} (hf : fX11_heir N σ x1 x2 x3 = some (r, σ')) : CI l (XWd D ad cs ts adK adV) yX11_heir cX11_heir 4 (some .int) 2 42 [.ref (ad 0), .int x1, .int x2, .int x3] σ r σ' := by
  refine CI.of (by decide) (Nat.le_of_ble_eq_true rfl) ?_
  intro p e s m below meth c ls S hr hlk hw hl
  have hl : lv_has ls 4 [(0, .ref (ad 0)), (1, .int x1), (2, .int x2), (3, .int x3)] := hl
  unfold fX11_heir at hf
  refine lv_iload_n S.1 S.2.1 dX11_heir_0 rfl (lv_at hl 1 rfl) ?_
  refine g_Si (rest := []) (XWd_ok D ad cs ts adK adV) S hw (tX11_isOwner (ad := ad) (cs := cs) (ts := ts) (adK := adK) (adV := adV) (σ := σ) rfl) kt_X11_119 ⟨Nat.le_of_ble_eq_true rfl, Nat.le_of_ble_eq_true rfl⟩ rfl hl.1 rfl (Nat.le_of_ble_eq_true rfl) ⟨Nat.zero_le _, Nat.zero_le _⟩ dX11_heir_1 (fun H locs hw => ?_)
  refine lv_if_eq (tgt := 29) S.1 S.2.1 dX11_heir_4 (by decide) (fun hc => ?_) (fun hc => ?_)
  · have hf := itt hf hc
    refine lv_bipush (v := -2) S.1 S.2.1 dX11_heir_29 (by decide) ?_
    exact g_iret (XWd_ok D ad cs ts adK adV) S hr hlk hw dX11_heir_31 (Prod.mk.inj (Option.some.inj hf)).1 (Prod.mk.inj (Option.some.inj hf)).2
  · have hf := itf hf hc
    refine lv_iload_n S.1 S.2.1 dX11_heir_7 rfl (lv_at hl 2 rfl) ?_
    refine g_Si (rest := []) (XWd_ok D ad cs ts adK adV) S hw (tX11_isOwner (ad := ad) (cs := cs) (ts := ts) (adK := adK) (adV := adV) (σ := σ) rfl) kt_X11_119 ⟨Nat.le_of_ble_eq_true rfl, Nat.le_of_ble_eq_true rfl⟩ rfl hl.1 rfl (Nat.le_of_ble_eq_true rfl) ⟨Nat.zero_le _, Nat.zero_le _⟩ dX11_heir_8 (fun H locs hw => ?_)
    refine lv_if_eq (tgt := 29) S.1 S.2.1 dX11_heir_11 (by decide) (fun hc => ?_) (fun hc => ?_)
    · have hf := itt hf hc
      refine lv_bipush (v := -2) S.1 S.2.1 dX11_heir_29 (by decide) ?_
      exact g_iret (XWd_ok D ad cs ts adK adV) S hr hlk hw dX11_heir_31 (Prod.mk.inj (Option.some.inj hf)).1 (Prod.mk.inj (Option.some.inj hf)).2
    · have hf := itf hf hc
      refine lv_iload_n S.1 S.2.1 dX11_heir_14 rfl (lv_at hl 1 rfl) ?_
      refine lv_iload_n S.1 S.2.1 dX11_heir_15 rfl (lv_at hl 2 rfl) ?_
      refine lv_icmp_eq (tgt := 29) S.1 S.2.1 dX11_heir_16 (by decide) (fun hc => ?_) (fun hc => ?_)
      · have hf := itt hf hc
        refine lv_bipush (v := -2) S.1 S.2.1 dX11_heir_29 (by decide) ?_
        exact g_iret (XWd_ok D ad cs ts adK adV) S hr hlk hw dX11_heir_31 (Prod.mk.inj (Option.some.inj hf)).1 (Prod.mk.inj (Option.some.inj hf)).2
      · have hf := itf hf hc
        refine lv_iload_n S.1 S.2.1 dX11_heir_19 rfl (lv_at hl 3 rfl) ?_
        refine lv_iconst (v := 0) S.1 S.2.1 dX11_heir_20 (by decide) ?_
        refine lv_bipush (v := 99) S.1 S.2.1 dX11_heir_21 (by decide) ?_
        refine g_Si (rest := []) (XWd_ok D ad cs ts adK adV) S hw (tX11_within (ad := ad) (cs := cs) (ts := ts) (adK := adK) (adV := adV) (σ := σ) rfl) kt_X11_107 ⟨Nat.le_of_ble_eq_true rfl, Nat.le_of_ble_eq_true rfl⟩ rfl hl.1 rfl (Nat.le_of_ble_eq_true rfl) ⟨Nat.zero_le _, Nat.zero_le _⟩ dX11_heir_23 (fun H locs hw => ?_)
        refine lv_if_ne (tgt := 32) S.1 S.2.1 dX11_heir_26 (by decide) (fun hc => ?_) (fun hc => ?_)
        · have hf := itf hf hc
          refine lv_aload_n S.1 S.2.1 dX11_heir_32 rfl (lv_at hl 0 rfl) ?_
          refine xg_WayLeaves_heirs S hw kf_X11_19 dX11_heir_33 ?_
          refine lv_iload_n S.1 S.2.1 dX11_heir_36 rfl (lv_at hl 1 rfl) ?_
          refine lv_iload_n S.1 S.2.1 dX11_heir_37 rfl (lv_at hl 2 rfl) ?_
          refine lv_iload_n S.1 S.2.1 dX11_heir_38 rfl (lv_at hl 3 rfl) ?_
          obtain ⟨r3, σ1, g2, hf⟩ := bd2_s hf
          refine g_Vi (rest := []) (XWd_ok D ad cs ts adK adV) S hw (tX3_giveShares g2) kt_X11_139 2 xe_2 rfl rfl ⟨Nat.le_of_ble_eq_true rfl, Nat.le_of_ble_eq_true rfl⟩ rfl hl.1 rfl (Nat.le_of_ble_eq_true rfl) ⟨Nat.zero_le _, Nat.zero_le _⟩ dX11_heir_39 (fun H locs hw => ?_)
          exact g_iret (XWd_ok D ad cs ts adK adV) S hr hlk hw dX11_heir_42 (Prod.mk.inj (Option.some.inj hf)).1 (Prod.mk.inj (Option.some.inj hf)).2
        · have hf := itt hf hc
          refine lv_bipush (v := -2) S.1 S.2.1 dX11_heir_29 (by decide) ?_
          exact g_iret (XWd_ok D ad cs ts adK adV) S hr hlk hw dX11_heir_31 (Prod.mk.inj (Option.some.inj hf)).1 (Prod.mk.inj (Option.some.inj hf)).2
def fX11_set (N : Nat) (σ : St) (x1 : Int32) (x2 : Int32) (x3 : Int32) : Option (Int32 × St) :=
  if (fX11_isPlot x1) = 0 then (some ((-2 : Int32), σ)) else (if (fX11_within x2 (0 : Int32) (3 : Int32)) = 0 then (some ((-2 : Int32), σ)) else (if ix x2 4 = true then if ix x2 4 = true then if (fX11_within x3 (stT 0 (x2).toNatClampNeg) (stT 1 (x2).toNatClampNeg)) = 0 then (some ((-2 : Int32), σ)) else (bd2 (fX4_tell N σ x1 x2 x3) fun r5 σ3 => some (r5, σ3)) else none else none))
set_option maxHeartbeats 2000000 in
set_option maxRecDepth 20000 in
theorem tX11_set {r : Int32} {σ' : St} {N : Nat} {σ : St} {x1 : Int32} {x2 : Int32} {x3 : Int32} (hf : fX11_set N σ x1 x2 x3 = some (r, σ')) : CI l (XWd D ad cs ts adK adV) yX11_set cX11_set 4 (some .int) 2 42 [.ref (ad 0), .int x1, .int x2, .int x3] σ r σ' := by
  refine CI.of (by decide) (Nat.le_of_ble_eq_true rfl) ?_
  intro p e s m below meth c ls S hr hlk hw hl
  have hl : lv_has ls 4 [(0, .ref (ad 0)), (1, .int x1), (2, .int x2), (3, .int x3)] := hl
  unfold fX11_set at hf
  refine lv_iload_n S.1 S.2.1 dX11_set_0 rfl (lv_at hl 1 rfl) ?_
  refine g_Si (rest := []) (XWd_ok D ad cs ts adK adV) S hw (tX11_isPlot (ad := ad) (cs := cs) (ts := ts) (adK := adK) (adV := adV) (σ := σ) rfl) kt_X11_115 ⟨Nat.le_of_ble_eq_true rfl, Nat.le_of_ble_eq_true rfl⟩ rfl hl.1 rfl (Nat.le_of_ble_eq_true rfl) ⟨Nat.zero_le _, Nat.zero_le _⟩ dX11_set_1 (fun H locs hw => ?_)
  refine lv_if_eq (tgt := 16) S.1 S.2.1 dX11_set_4 (by decide) (fun hc => ?_) (fun hc => ?_)
  · have hf := itt hf hc
    refine lv_bipush (v := -2) S.1 S.2.1 dX11_set_16 (by decide) ?_
    exact g_iret (XWd_ok D ad cs ts adK adV) S hr hlk hw dX11_set_18 (Prod.mk.inj (Option.some.inj hf)).1 (Prod.mk.inj (Option.some.inj hf)).2
  · have hf := itf hf hc
    refine lv_iload_n S.1 S.2.1 dX11_set_7 rfl (lv_at hl 2 rfl) ?_
    refine lv_iconst (v := 0) S.1 S.2.1 dX11_set_8 (by decide) ?_
    refine lv_iconst (v := 3) S.1 S.2.1 dX11_set_9 (by decide) ?_
    refine g_Si (rest := []) (XWd_ok D ad cs ts adK adV) S hw (tX11_within (ad := ad) (cs := cs) (ts := ts) (adK := adK) (adV := adV) (σ := σ) rfl) kt_X11_107 ⟨Nat.le_of_ble_eq_true rfl, Nat.le_of_ble_eq_true rfl⟩ rfl hl.1 rfl (Nat.le_of_ble_eq_true rfl) ⟨Nat.zero_le _, Nat.zero_le _⟩ dX11_set_10 (fun H locs hw => ?_)
    refine lv_if_ne (tgt := 19) S.1 S.2.1 dX11_set_13 (by decide) (fun hc => ?_) (fun hc => ?_)
    · have hf := itf hf hc
      refine lv_iload_n S.1 S.2.1 dX11_set_19 rfl (lv_at hl 3 rfl) ?_
      refine x_gs S hw 0 (by decide) kf_X11_142 dX11_set_20 ?_
      refine lv_iload_n S.1 S.2.1 dX11_set_23 rfl (lv_at hl 2 rfl) ?_
      obtain ⟨h1, hf⟩ := gd_ix hf
      refine x_ti S hw 0 (by decide) h1 dX11_set_24 ?_
      refine x_gs S hw 1 (by decide) kf_X11_146 dX11_set_25 ?_
      refine lv_iload_n S.1 S.2.1 dX11_set_28 rfl (lv_at hl 2 rfl) ?_
      obtain ⟨h2, hf⟩ := gd_ix hf
      refine x_ti S hw 1 (by decide) h2 dX11_set_29 ?_
      refine g_Si (rest := []) (XWd_ok D ad cs ts adK adV) S hw (tX11_within (ad := ad) (cs := cs) (ts := ts) (adK := adK) (adV := adV) (σ := σ) rfl) kt_X11_107 ⟨Nat.le_of_ble_eq_true rfl, Nat.le_of_ble_eq_true rfl⟩ rfl hl.1 rfl (Nat.le_of_ble_eq_true rfl) ⟨Nat.zero_le _, Nat.zero_le _⟩ dX11_set_30 (fun H locs hw => ?_)
      refine lv_if_ne (tgt := 39) S.1 S.2.1 dX11_set_33 (by decide) (fun hc => ?_) (fun hc => ?_)
      · have hf := itf hf hc
        refine lv_aload_n S.1 S.2.1 dX11_set_39 rfl (lv_at hl 0 rfl) ?_
        refine xg_WayLeaves_land S hw kf_X11_10 dX11_set_40 ?_
        refine lv_iload_n S.1 S.2.1 dX11_set_43 rfl (lv_at hl 1 rfl) ?_
        refine lv_iload_n S.1 S.2.1 dX11_set_44 rfl (lv_at hl 2 rfl) ?_
        refine lv_iload_n S.1 S.2.1 dX11_set_45 rfl (lv_at hl 3 rfl) ?_
        obtain ⟨r5, σ3, g4, hf⟩ := bd2_s hf
        refine g_Vi (rest := []) (XWd_ok D ad cs ts adK adV) S hw (tX4_tell g4) kt_X11_149 1 xe_1 rfl rfl ⟨Nat.le_of_ble_eq_true rfl, Nat.le_of_ble_eq_true rfl⟩ rfl hl.1 rfl (Nat.le_of_ble_eq_true rfl) ⟨Nat.zero_le _, Nat.zero_le _⟩ dX11_set_46 (fun H locs hw => ?_)
        exact g_iret (XWd_ok D ad cs ts adK adV) S hr hlk hw dX11_set_49 (Prod.mk.inj (Option.some.inj hf)).1 (Prod.mk.inj (Option.some.inj hf)).2
      · have hf := itt hf hc
        refine lv_bipush (v := -2) S.1 S.2.1 dX11_set_36 (by decide) ?_
        exact g_iret (XWd_ok D ad cs ts adK adV) S hr hlk hw dX11_set_38 (Prod.mk.inj (Option.some.inj hf)).1 (Prod.mk.inj (Option.some.inj hf)).2
    · have hf := itt hf hc
      refine lv_bipush (v := -2) S.1 S.2.1 dX11_set_16 (by decide) ?_
      exact g_iret (XWd_ok D ad cs ts adK adV) S hr hlk hw dX11_set_18 (Prod.mk.inj (Option.some.inj hf)).1 (Prod.mk.inj (Option.some.inj hf)).2
def fX11_trees (N : Nat) (σ : St) (x1 : Int32) (x2 : Int32) (x3 : Int32) : Option (Int32 × St) :=
  if (fX11_isPlot x1) = 0 then (some ((-2 : Int32), σ)) else (if (fX11_within x2 (0 : Int32) (40 : Int32)) = 0 then (some ((-2 : Int32), σ)) else (if (fX11_within x3 (0 : Int32) (9 : Int32)) = 0 then (some ((-2 : Int32), σ)) else (bd2 (fX4_plant N σ x1 x2 x3) fun r3 σ1 => some (r3, σ1))))
set_option maxHeartbeats 2000000 in
set_option maxRecDepth 20000 in
theorem tX11_trees {r : Int32} {σ' : St} {N : Nat} {σ : St} {x1 : Int32} {x2 : Int32} {x3 : Int32} (hf : fX11_trees N σ x1 x2 x3 = some (r, σ')) : CI l (XWd D ad cs ts adK adV) yX11_trees cX11_trees 4 (some .int) 2 45 [.ref (ad 0), .int x1, .int x2, .int x3] σ r σ' := by
  refine CI.of (by decide) (Nat.le_of_ble_eq_true rfl) ?_
  intro p e s m below meth c ls S hr hlk hw hl
  have hl : lv_has ls 4 [(0, .ref (ad 0)), (1, .int x1), (2, .int x2), (3, .int x3)] := hl
  unfold fX11_trees at hf
  refine lv_iload_n S.1 S.2.1 dX11_trees_0 rfl (lv_at hl 1 rfl) ?_
  refine g_Si (rest := []) (XWd_ok D ad cs ts adK adV) S hw (tX11_isPlot (ad := ad) (cs := cs) (ts := ts) (adK := adK) (adV := adV) (σ := σ) rfl) kt_X11_115 ⟨Nat.le_of_ble_eq_true rfl, Nat.le_of_ble_eq_true rfl⟩ rfl hl.1 rfl (Nat.le_of_ble_eq_true rfl) ⟨Nat.zero_le _, Nat.zero_le _⟩ dX11_trees_1 (fun H locs hw => ?_)
  refine lv_if_eq (tgt := 27) S.1 S.2.1 dX11_trees_4 (by decide) (fun hc => ?_) (fun hc => ?_)
  · have hf := itt hf hc
    refine lv_bipush (v := -2) S.1 S.2.1 dX11_trees_27 (by decide) ?_
    exact g_iret (XWd_ok D ad cs ts adK adV) S hr hlk hw dX11_trees_29 (Prod.mk.inj (Option.some.inj hf)).1 (Prod.mk.inj (Option.some.inj hf)).2
  · have hf := itf hf hc
    refine lv_iload_n S.1 S.2.1 dX11_trees_7 rfl (lv_at hl 2 rfl) ?_
    refine lv_iconst (v := 0) S.1 S.2.1 dX11_trees_8 (by decide) ?_
    refine lv_bipush (v := 40) S.1 S.2.1 dX11_trees_9 (by decide) ?_
    refine g_Si (rest := []) (XWd_ok D ad cs ts adK adV) S hw (tX11_within (ad := ad) (cs := cs) (ts := ts) (adK := adK) (adV := adV) (σ := σ) rfl) kt_X11_107 ⟨Nat.le_of_ble_eq_true rfl, Nat.le_of_ble_eq_true rfl⟩ rfl hl.1 rfl (Nat.le_of_ble_eq_true rfl) ⟨Nat.zero_le _, Nat.zero_le _⟩ dX11_trees_11 (fun H locs hw => ?_)
    refine lv_if_eq (tgt := 27) S.1 S.2.1 dX11_trees_14 (by decide) (fun hc => ?_) (fun hc => ?_)
    · have hf := itt hf hc
      refine lv_bipush (v := -2) S.1 S.2.1 dX11_trees_27 (by decide) ?_
      exact g_iret (XWd_ok D ad cs ts adK adV) S hr hlk hw dX11_trees_29 (Prod.mk.inj (Option.some.inj hf)).1 (Prod.mk.inj (Option.some.inj hf)).2
    · have hf := itf hf hc
      refine lv_iload_n S.1 S.2.1 dX11_trees_17 rfl (lv_at hl 3 rfl) ?_
      refine lv_iconst (v := 0) S.1 S.2.1 dX11_trees_18 (by decide) ?_
      refine lv_bipush (v := 9) S.1 S.2.1 dX11_trees_19 (by decide) ?_
      refine g_Si (rest := []) (XWd_ok D ad cs ts adK adV) S hw (tX11_within (ad := ad) (cs := cs) (ts := ts) (adK := adK) (adV := adV) (σ := σ) rfl) kt_X11_107 ⟨Nat.le_of_ble_eq_true rfl, Nat.le_of_ble_eq_true rfl⟩ rfl hl.1 rfl (Nat.le_of_ble_eq_true rfl) ⟨Nat.zero_le _, Nat.zero_le _⟩ dX11_trees_21 (fun H locs hw => ?_)
      refine lv_if_ne (tgt := 30) S.1 S.2.1 dX11_trees_24 (by decide) (fun hc => ?_) (fun hc => ?_)
      · have hf := itf hf hc
        refine lv_aload_n S.1 S.2.1 dX11_trees_30 rfl (lv_at hl 0 rfl) ?_
        refine xg_WayLeaves_land S hw kf_X11_10 dX11_trees_31 ?_
        refine lv_iload_n S.1 S.2.1 dX11_trees_34 rfl (lv_at hl 1 rfl) ?_
        refine lv_iload_n S.1 S.2.1 dX11_trees_35 rfl (lv_at hl 2 rfl) ?_
        refine lv_iload_n S.1 S.2.1 dX11_trees_36 rfl (lv_at hl 3 rfl) ?_
        obtain ⟨r3, σ1, g2, hf⟩ := bd2_s hf
        refine g_Vi (rest := []) (XWd_ok D ad cs ts adK adV) S hw (tX4_plant g2) kt_X11_152 1 xe_1 rfl rfl ⟨Nat.le_of_ble_eq_true rfl, Nat.le_of_ble_eq_true rfl⟩ rfl hl.1 rfl (Nat.le_of_ble_eq_true rfl) ⟨Nat.zero_le _, Nat.zero_le _⟩ dX11_trees_37 (fun H locs hw => ?_)
        exact g_iret (XWd_ok D ad cs ts adK adV) S hr hlk hw dX11_trees_40 (Prod.mk.inj (Option.some.inj hf)).1 (Prod.mk.inj (Option.some.inj hf)).2
      · have hf := itt hf hc
        refine lv_bipush (v := -2) S.1 S.2.1 dX11_trees_27 (by decide) ?_
        exact g_iret (XWd_ok D ad cs ts adK adV) S hr hlk hw dX11_trees_29 (Prod.mk.inj (Option.some.inj hf)).1 (Prod.mk.inj (Option.some.inj hf)).2
def fX11_high (N : Nat) (σ : St) (x1 : Int32) : Option Int32 :=
  if (fX11_isPlot x1) = 0 then (some (-2 : Int32)) else (bd (fX4_treesNow N σ x1) fun r1 => some r1)
set_option maxHeartbeats 2000000 in
set_option maxRecDepth 20000 in
theorem tX11_high {r : Int32} {N : Nat} {σ : St} {x1 : Int32} (hf : fX11_high N σ x1 = some r) : CI l (XWd D ad cs ts adK adV) yX11_high cX11_high 2 (some .int) 2 42 [.ref (ad 0), .int x1] σ r σ := by
  refine CI.of (by decide) (Nat.le_of_ble_eq_true rfl) ?_
  intro p e s m below meth c ls S hr hlk hw hl
  have hl : lv_has ls 2 [(0, .ref (ad 0)), (1, .int x1)] := hl
  unfold fX11_high at hf
  refine lv_iload_n S.1 S.2.1 dX11_high_0 rfl (lv_at hl 1 rfl) ?_
  refine g_Si (rest := []) (XWd_ok D ad cs ts adK adV) S hw (tX11_isPlot (ad := ad) (cs := cs) (ts := ts) (adK := adK) (adV := adV) (σ := σ) rfl) kt_X11_115 ⟨Nat.le_of_ble_eq_true rfl, Nat.le_of_ble_eq_true rfl⟩ rfl hl.1 rfl (Nat.le_of_ble_eq_true rfl) ⟨Nat.zero_le _, Nat.zero_le _⟩ dX11_high_1 (fun H locs hw => ?_)
  refine lv_if_ne (tgt := 10) S.1 S.2.1 dX11_high_4 (by decide) (fun hc => ?_) (fun hc => ?_)
  · have hf := itf hf hc
    refine lv_aload_n S.1 S.2.1 dX11_high_10 rfl (lv_at hl 0 rfl) ?_
    refine xg_WayLeaves_land S hw kf_X11_10 dX11_high_11 ?_
    refine lv_iload_n S.1 S.2.1 dX11_high_14 rfl (lv_at hl 1 rfl) ?_
    obtain ⟨r1, g2, hf⟩ := bd_s hf
    refine g_Vi (rest := []) (XWd_ok D ad cs ts adK adV) S hw (tX4_treesNow g2) kt_X11_155 1 xe_1 rfl rfl ⟨Nat.le_of_ble_eq_true rfl, Nat.le_of_ble_eq_true rfl⟩ rfl hl.1 rfl (Nat.le_of_ble_eq_true rfl) ⟨Nat.zero_le _, Nat.zero_le _⟩ dX11_high_15 (fun H locs hw => ?_)
    exact g_iret (XWd_ok D ad cs ts adK adV) S hr hlk hw dX11_high_18 (Option.some.inj hf) rfl
  · have hf := itt hf hc
    refine lv_bipush (v := -2) S.1 S.2.1 dX11_high_7 (by decide) ?_
    exact g_iret (XWd_ok D ad cs ts adK adV) S hr hlk hw dX11_high_9 (Option.some.inj hf) rfl
def fX11_tower (N : Nat) (σ : St) (x1 : Int32) (x2 : Int32) : Option (Int32 × St) :=
  if (fX11_isPlot x1) = 0 then (some ((-2 : Int32), σ)) else (if (fX11_within x2 (10 : Int32) (90 : Int32)) = 0 then (some ((-2 : Int32), σ)) else (if (σ.1 2) < (16 : Int32) then (bd2 (fX6_addTower N σ x2) fun r3 σ1 => some (r3, σ1)) else (some ((-4 : Int32), σ))))
set_option maxHeartbeats 2000000 in
set_option maxRecDepth 20000 in
theorem tX11_tower {r : Int32} {σ' : St} {N : Nat} {σ : St} {x1 : Int32} {x2 : Int32} (hf : fX11_tower N σ x1 x2 = some (r, σ')) : CI l (XWd D ad cs ts adK adV) yX11_tower cX11_tower 3 (some .int) 2 42 [.ref (ad 0), .int x1, .int x2] σ r σ' := by
  refine CI.of (by decide) (Nat.le_of_ble_eq_true rfl) ?_
  intro p e s m below meth c ls S hr hlk hw hl
  have hl : lv_has ls 3 [(0, .ref (ad 0)), (1, .int x1), (2, .int x2)] := hl
  unfold fX11_tower at hf
  refine lv_iload_n S.1 S.2.1 dX11_tower_0 rfl (lv_at hl 1 rfl) ?_
  refine g_Si (rest := []) (XWd_ok D ad cs ts adK adV) S hw (tX11_isPlot (ad := ad) (cs := cs) (ts := ts) (adK := adK) (adV := adV) (σ := σ) rfl) kt_X11_115 ⟨Nat.le_of_ble_eq_true rfl, Nat.le_of_ble_eq_true rfl⟩ rfl hl.1 rfl (Nat.le_of_ble_eq_true rfl) ⟨Nat.zero_le _, Nat.zero_le _⟩ dX11_tower_1 (fun H locs hw => ?_)
  refine lv_if_eq (tgt := 18) S.1 S.2.1 dX11_tower_4 (by decide) (fun hc => ?_) (fun hc => ?_)
  · have hf := itt hf hc
    refine lv_bipush (v := -2) S.1 S.2.1 dX11_tower_18 (by decide) ?_
    exact g_iret (XWd_ok D ad cs ts adK adV) S hr hlk hw dX11_tower_20 (Prod.mk.inj (Option.some.inj hf)).1 (Prod.mk.inj (Option.some.inj hf)).2
  · have hf := itf hf hc
    refine lv_iload_n S.1 S.2.1 dX11_tower_7 rfl (lv_at hl 2 rfl) ?_
    refine lv_bipush (v := 10) S.1 S.2.1 dX11_tower_8 (by decide) ?_
    refine lv_bipush (v := 90) S.1 S.2.1 dX11_tower_10 (by decide) ?_
    refine g_Si (rest := []) (XWd_ok D ad cs ts adK adV) S hw (tX11_within (ad := ad) (cs := cs) (ts := ts) (adK := adK) (adV := adV) (σ := σ) rfl) kt_X11_107 ⟨Nat.le_of_ble_eq_true rfl, Nat.le_of_ble_eq_true rfl⟩ rfl hl.1 rfl (Nat.le_of_ble_eq_true rfl) ⟨Nat.zero_le _, Nat.zero_le _⟩ dX11_tower_12 (fun H locs hw => ?_)
    refine lv_if_ne (tgt := 21) S.1 S.2.1 dX11_tower_15 (by decide) (fun hc => ?_) (fun hc => ?_)
    · have hf := itf hf hc
      refine lv_aload_n S.1 S.2.1 dX11_tower_21 rfl (lv_at hl 0 rfl) ?_
      refine xg_WayLeaves_line S hw kf_X11_28 dX11_tower_22 ?_
      refine xg_Line_towers S hw kf_X11_159 dX11_tower_25 ?_
      refine lv_bipush (v := 16) S.1 S.2.1 dX11_tower_28 (by decide) ?_
      refine lv_icmp_lt (tgt := 36) S.1 S.2.1 dX11_tower_30 (by decide) (fun hc => ?_) (fun hc => ?_)
      · have hf := itt hf hc
        refine lv_aload_n S.1 S.2.1 dX11_tower_36 rfl (lv_at hl 0 rfl) ?_
        refine xg_WayLeaves_line S hw kf_X11_28 dX11_tower_37 ?_
        refine lv_iload_n S.1 S.2.1 dX11_tower_40 rfl (lv_at hl 2 rfl) ?_
        obtain ⟨r3, σ1, g2, hf⟩ := bd2_s hf
        refine g_Vi (rest := []) (XWd_ok D ad cs ts adK adV) S hw (tX6_addTower g2) kt_X11_162 3 xe_3 rfl rfl ⟨Nat.le_of_ble_eq_true rfl, Nat.le_of_ble_eq_true rfl⟩ rfl hl.1 rfl (Nat.le_of_ble_eq_true rfl) ⟨Nat.zero_le _, Nat.zero_le _⟩ dX11_tower_41 (fun H locs hw => ?_)
        exact g_iret (XWd_ok D ad cs ts adK adV) S hr hlk hw dX11_tower_44 (Prod.mk.inj (Option.some.inj hf)).1 (Prod.mk.inj (Option.some.inj hf)).2
      · have hf := itf hf hc
        refine lv_bipush (v := -4) S.1 S.2.1 dX11_tower_33 (by decide) ?_
        exact g_iret (XWd_ok D ad cs ts adK adV) S hr hlk hw dX11_tower_35 (Prod.mk.inj (Option.some.inj hf)).1 (Prod.mk.inj (Option.some.inj hf)).2
    · have hf := itt hf hc
      refine lv_bipush (v := -2) S.1 S.2.1 dX11_tower_18 (by decide) ?_
      exact g_iret (XWd_ok D ad cs ts adK adV) S hr hlk hw dX11_tower_20 (Prod.mk.inj (Option.some.inj hf)).1 (Prod.mk.inj (Option.some.inj hf)).2
def fX11_span (N : Nat) (σ : St) (x1 : Int32) (x2 : Int32) (x3 : Int32) (x4 : Int32) : Option (Int32 × St) :=
  if (fX6_isTower σ x1) = 0 then (some ((-2 : Int32), σ)) else (if (fX6_isTower σ x2) = 0 then (some ((-2 : Int32), σ)) else (if x1 = x2 then (some ((-2 : Int32), σ)) else (if (fX11_isPlot x3) = 0 then (some ((-2 : Int32), σ)) else (if (fX11_within x4 (50 : Int32) (600 : Int32)) = 0 then (some ((-2 : Int32), σ)) else (if (σ.1 3) < (16 : Int32) then (bd2 (fX6_addSpan N σ x1 x2 x3 x4) fun r3 σ1 => some (r3, σ1)) else (some ((-4 : Int32), σ)))))))
set_option maxHeartbeats 2000000 in
set_option maxRecDepth 20000 in
theorem tX11_span {r : Int32} {σ' : St} {N : Nat} {σ : St} {x1 : Int32} {x2 : Int32} {x3 : Int32} {x4 : Int32} (hf : fX11_span N σ x1 x2 x3 x4 = some (r, σ')) : CI l (XWd D ad cs ts adK adV) yX11_span cX11_span 5 (some .int) 2 45 [.ref (ad 0), .int x1, .int x2, .int x3, .int x4] σ r σ' := by
  refine CI.of (by decide) (Nat.le_of_ble_eq_true rfl) ?_
  intro p e s m below meth c ls S hr hlk hw hl
  have hl : lv_has ls 5 [(0, .ref (ad 0)), (1, .int x1), (2, .int x2), (3, .int x3), (4, .int x4)] := hl
  unfold fX11_span at hf
  refine lv_aload_n S.1 S.2.1 dX11_span_0 rfl (lv_at hl 0 rfl) ?_
  refine xg_WayLeaves_line S hw kf_X11_28 dX11_span_1 ?_
  refine lv_iload_n S.1 S.2.1 dX11_span_4 rfl (lv_at hl 1 rfl) ?_
  refine g_Vi (rest := []) (XWd_ok D ad cs ts adK adV) S hw (tX6_isTower (ad := ad) (cs := cs) (ts := ts) (adK := adK) (adV := adV) (σ := σ) rfl) kt_X11_165 3 xe_3 rfl rfl ⟨Nat.le_of_ble_eq_true rfl, Nat.le_of_ble_eq_true rfl⟩ rfl hl.1 rfl (Nat.le_of_ble_eq_true rfl) ⟨Nat.zero_le _, Nat.zero_le _⟩ dX11_span_5 (fun H locs hw => ?_)
  refine lv_if_eq (tgt := 27) S.1 S.2.1 dX11_span_8 (by decide) (fun hc => ?_) (fun hc => ?_)
  · have hf := itt hf hc
    refine lv_bipush (v := -2) S.1 S.2.1 dX11_span_27 (by decide) ?_
    exact g_iret (XWd_ok D ad cs ts adK adV) S hr hlk hw dX11_span_29 (Prod.mk.inj (Option.some.inj hf)).1 (Prod.mk.inj (Option.some.inj hf)).2
  · have hf := itf hf hc
    refine lv_aload_n S.1 S.2.1 dX11_span_11 rfl (lv_at hl 0 rfl) ?_
    refine xg_WayLeaves_line S hw kf_X11_28 dX11_span_12 ?_
    refine lv_iload_n S.1 S.2.1 dX11_span_15 rfl (lv_at hl 2 rfl) ?_
    refine g_Vi (rest := []) (XWd_ok D ad cs ts adK adV) S hw (tX6_isTower (ad := ad) (cs := cs) (ts := ts) (adK := adK) (adV := adV) (σ := σ) rfl) kt_X11_165 3 xe_3 rfl rfl ⟨Nat.le_of_ble_eq_true rfl, Nat.le_of_ble_eq_true rfl⟩ rfl hl.1 rfl (Nat.le_of_ble_eq_true rfl) ⟨Nat.zero_le _, Nat.zero_le _⟩ dX11_span_16 (fun H locs hw => ?_)
    refine lv_if_eq (tgt := 27) S.1 S.2.1 dX11_span_19 (by decide) (fun hc => ?_) (fun hc => ?_)
    · have hf := itt hf hc
      refine lv_bipush (v := -2) S.1 S.2.1 dX11_span_27 (by decide) ?_
      exact g_iret (XWd_ok D ad cs ts adK adV) S hr hlk hw dX11_span_29 (Prod.mk.inj (Option.some.inj hf)).1 (Prod.mk.inj (Option.some.inj hf)).2
    · have hf := itf hf hc
      refine lv_iload_n S.1 S.2.1 dX11_span_22 rfl (lv_at hl 1 rfl) ?_
      refine lv_iload_n S.1 S.2.1 dX11_span_23 rfl (lv_at hl 2 rfl) ?_
      refine lv_icmp_ne (tgt := 30) S.1 S.2.1 dX11_span_24 (by decide) (fun hc => ?_) (fun hc => ?_)
      · have hf := itf hf hc
        refine lv_iload_n S.1 S.2.1 dX11_span_30 rfl (lv_at hl 3 rfl) ?_
        refine g_Si (rest := []) (XWd_ok D ad cs ts adK adV) S hw (tX11_isPlot (ad := ad) (cs := cs) (ts := ts) (adK := adK) (adV := adV) (σ := σ) rfl) kt_X11_115 ⟨Nat.le_of_ble_eq_true rfl, Nat.le_of_ble_eq_true rfl⟩ rfl hl.1 rfl (Nat.le_of_ble_eq_true rfl) ⟨Nat.zero_le _, Nat.zero_le _⟩ dX11_span_31 (fun H locs hw => ?_)
        refine lv_if_eq (tgt := 50) S.1 S.2.1 dX11_span_34 (by decide) (fun hc => ?_) (fun hc => ?_)
        · have hf := itt hf hc
          refine lv_bipush (v := -2) S.1 S.2.1 dX11_span_50 (by decide) ?_
          exact g_iret (XWd_ok D ad cs ts adK adV) S hr hlk hw dX11_span_52 (Prod.mk.inj (Option.some.inj hf)).1 (Prod.mk.inj (Option.some.inj hf)).2
        · have hf := itf hf hc
          refine lv_iload S.1 S.2.1 dX11_span_37 (lv_at hl 4 rfl) ?_
          refine lv_bipush (v := 50) S.1 S.2.1 dX11_span_39 (by decide) ?_
          refine lv_sipush (v := 600) S.1 S.2.1 dX11_span_41 (by decide) ?_
          refine g_Si (rest := []) (XWd_ok D ad cs ts adK adV) S hw (tX11_within (ad := ad) (cs := cs) (ts := ts) (adK := adK) (adV := adV) (σ := σ) rfl) kt_X11_107 ⟨Nat.le_of_ble_eq_true rfl, Nat.le_of_ble_eq_true rfl⟩ rfl hl.1 rfl (Nat.le_of_ble_eq_true rfl) ⟨Nat.zero_le _, Nat.zero_le _⟩ dX11_span_44 (fun H locs hw => ?_)
          refine lv_if_ne (tgt := 53) S.1 S.2.1 dX11_span_47 (by decide) (fun hc => ?_) (fun hc => ?_)
          · have hf := itf hf hc
            refine lv_aload_n S.1 S.2.1 dX11_span_53 rfl (lv_at hl 0 rfl) ?_
            refine xg_WayLeaves_line S hw kf_X11_28 dX11_span_54 ?_
            refine xg_Line_spans S hw kf_X11_168 dX11_span_57 ?_
            refine lv_bipush (v := 16) S.1 S.2.1 dX11_span_60 (by decide) ?_
            refine lv_icmp_lt (tgt := 68) S.1 S.2.1 dX11_span_62 (by decide) (fun hc => ?_) (fun hc => ?_)
            · have hf := itt hf hc
              refine lv_aload_n S.1 S.2.1 dX11_span_68 rfl (lv_at hl 0 rfl) ?_
              refine xg_WayLeaves_line S hw kf_X11_28 dX11_span_69 ?_
              refine lv_iload_n S.1 S.2.1 dX11_span_72 rfl (lv_at hl 1 rfl) ?_
              refine lv_iload_n S.1 S.2.1 dX11_span_73 rfl (lv_at hl 2 rfl) ?_
              refine lv_iload_n S.1 S.2.1 dX11_span_74 rfl (lv_at hl 3 rfl) ?_
              refine lv_iload S.1 S.2.1 dX11_span_75 (lv_at hl 4 rfl) ?_
              obtain ⟨r3, σ1, g2, hf⟩ := bd2_s hf
              refine g_Vi (rest := []) (XWd_ok D ad cs ts adK adV) S hw (tX6_addSpan g2) kt_X11_171 3 xe_3 rfl rfl ⟨Nat.le_of_ble_eq_true rfl, Nat.le_of_ble_eq_true rfl⟩ rfl hl.1 rfl (Nat.le_of_ble_eq_true rfl) ⟨Nat.zero_le _, Nat.zero_le _⟩ dX11_span_77 (fun H locs hw => ?_)
              exact g_iret (XWd_ok D ad cs ts adK adV) S hr hlk hw dX11_span_80 (Prod.mk.inj (Option.some.inj hf)).1 (Prod.mk.inj (Option.some.inj hf)).2
            · have hf := itf hf hc
              refine lv_bipush (v := -4) S.1 S.2.1 dX11_span_65 (by decide) ?_
              exact g_iret (XWd_ok D ad cs ts adK adV) S hr hlk hw dX11_span_67 (Prod.mk.inj (Option.some.inj hf)).1 (Prod.mk.inj (Option.some.inj hf)).2
          · have hf := itt hf hc
            refine lv_bipush (v := -2) S.1 S.2.1 dX11_span_50 (by decide) ?_
            exact g_iret (XWd_ok D ad cs ts adK adV) S hr hlk hw dX11_span_52 (Prod.mk.inj (Option.some.inj hf)).1 (Prod.mk.inj (Option.some.inj hf)).2
      · have hf := itt hf hc
        refine lv_bipush (v := -2) S.1 S.2.1 dX11_span_27 (by decide) ?_
        exact g_iret (XWd_ok D ad cs ts adK adV) S hr hlk hw dX11_span_29 (Prod.mk.inj (Option.some.inj hf)).1 (Prod.mk.inj (Option.some.inj hf)).2
end METH
