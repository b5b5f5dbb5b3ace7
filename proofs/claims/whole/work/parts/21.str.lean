/-! arraycopy, and the texts' length and charAt -/
def cpok (sp dp n : Int32) (n0 n1 : Nat) : Bool := decide ((¬ sp < 0) ∧ (¬ dp < 0) ∧ (¬ n < 0) ∧ sp.toNatClampNeg + n.toNatClampNeg ≤ n0 ∧ dp.toNatClampNeg + n.toNatClampNeg ≤ n1)
theorem gd_cp {α : Type} {sp dp n : Int32} {n0 n1 : Nat} {a : Option α} {x : α} (h : (if cpok sp dp n n0 n1 = true then a else none) = some x) : ((¬ sp < 0) ∧ (¬ dp < 0) ∧ (¬ n < 0) ∧ sp.toNatClampNeg + n.toNatClampNeg ≤ n0 ∧ dp.toNatClampNeg + n.toNatClampNeg ≤ n1) ∧ a = some x := ⟨of_decide_eq_true (gd_t h).1, (gd_t h).2⟩
theorem kcp_X0 : Cond.methodLink RX0 46 arraycopyName ∈ BG := BG_tb (i := 554) (by decide +kernel) rfl
theorem kcp_X11 : Cond.methodLink RX11 348 arraycopyName ∈ BG := BG_tb (i := 1074) (by decide +kernel) rfl
theorem kcp_nat : Cond.native arraycopyName ∈ BG := BG_tb (i := 556) (by decide +kernel) rfl
theorem kcp_sta : Cond.static arraycopyName ∈ BG := BG_tb (i := 555) (by decide +kernel) rfl
theorem kcp_ini : Cond.initialized "java/lang/System" ∈ BG := BG_tb (i := 18) (by decide +kernel) rfl
def chS (i : Nat) (k : Int32) : Int32 := ((stByt.getD i []).getD k.toNatClampNeg 0 &&& 255).toUInt32 % 65536 |>.toInt32
section STR
variable {p : Program} {l : Launch} {e : Env} {R : Room} {s : State} {m : MethodId} {av : Array Value} {below : List Frame} {meth : Method} {c : Code} {H : Heap} {locs : List Loc} {cells slots : Nat} {Q : State → Prop}
variable {cc : ByteArray} {nL pc index : Nat} {own : String} {ls : Array Slot} {rest : List Value} {σ σ' : St} {D : va_G} {ad : Nat → Nat} {cs : Nat → ClassId} {ts adK adV : Nat → Nat} {w : Wl}
theorem g_cpy (S : CallFix p m c cc nL s av BG own) (hsz : ls.size = nL) (hlink : Cond.methodLink own index arraycopyName ∈ BG) (hw : Hw w s σ H locs) (q0 q1 : Nat) {a0 a1 : Nat} {cA : ClassId} {n0 n1 : Nat} {f g : Nat → Int32} (ha0 : (w.2.1 σ)[q0]? = some (a0, .inl (cA, n0, .inl f))) (ha1 : (w.2.1 σ)[q1]? = some (a1, .inl (cA, n1, .inl g))) (ht : w.2.2.1[0]? = some (cA, .int)) {sp dp n : Int32} (h : (¬ sp < 0) ∧ (¬ dp < 0) ∧ (¬ n < 0) ∧ sp.toNatClampNeg + n.toNatClampNeg ≤ n0 ∧ dp.toNatClampNeg + n.toNatClampNeg ≤ n1) (hset : (w.2.1 σ).set q1 (a1, .inl (cA, n1, .inl (va_cpy f g sp.toNatClampNeg dp.toNatClampNeg n.toNatClampNeg))) = w.2.1 σ') (hfr : 1 ≤ R.frames) (hlo : (rest.map fun v => v.category).sum + (nativeFrameWords "java/lang/System" "arraycopy" 5 + 11) ≤ R.locals) (hdg : decode cc pc = .ok (.invokestatic index, 3)) (kk : ∀ (H : Heap) (locs : List Loc), Hw w s σ' H locs → W p l e R s m av below meth c H locs cells slots Q (F0 m (pc + 3) ls rest)) : W p l e R s m av below meth c H locs cells slots Q (F0 m pc ls (.int n :: .int dp :: .ref a1 :: .int sp :: .ref a0 :: rest)) :=
  va_copyi S.1 S.2.1 (S.2.2.1.trans hsz.symm) S.2.2.2.1 (S.2.2.2.2 _ hlink) (S.2.2.2.2 _ kcp_nat) (S.2.2.2.2 _ kcp_sta) (S.2.2.2.2 _ kcp_ini) hw.2.2.2.1 hw.1 hw.2.1 hw.2.2.1 q0 q1 0 0 ha0 ha1 ht ht rfl h.1 h.2.1 h.2.2.1 h.2.2.2.1 h.2.2.2.2 (fun _ _ => rfl) hfr hlo hdg (fun H1 locs1 hP hD hS => kk H1 locs1 ⟨hset ▸ hP, hset ▸ hD, hS, hw.2.2.2⟩)
theorem x_ldcS (S : CallFix p m c cc nL s av BG RX8) (hw : Hw (XWd D ad cs ts adK adV) s σ H locs) (i : Nat) {x : Nat × String} (hi : stK.zipIdx[i]? = some (x, i)) (hdg : decode cc pc = .ok (.ldc x.1, 2)) (kk : W p l e R s m av below meth c H locs cells slots Q (F0 m (pc + 2) ls (.ref (adK i) :: rest))) : W p l e R s m av below meth c H locs cells slots Q (F0 m pc ls rest) := va_ldcS S.1 S.2.1 S.2.2.2.1 (hw.2.2.2.2.2.2.2.1 (x, i) (List.mem_of_getElem? hi)) hdg kk
variable {y : MethodName} {bytes : ByteArray} {maxL n fr lc : Nat} {ret : Option FieldType} {As : List Value} {b : Nat}
/-- a call whose receiver is a text -/
theorem g_Ti (hok : Wok w) (S : CallFix p m c cc nL s av BG own) (hw : Hw w s σ H locs) {r : Int32} (hM : CI l w y bytes maxL ret fr lc (.ref b :: As) σ r σ') (h : TV own index y bytes maxL ret n) (hrc : ∃ cell : Cell, H[b]? = some cell ∧ cell.vm.isStatics = false ∧ s.vm.findClass y.cls = some cell.cls) (hR : fr + 1 ≤ R.frames ∧ 8 + (maxL + 11) + lc ≤ R.locals) {st : List Value} (hn : As.length = n) (hsize : ls.size = nL) (hstack : st = As.reverse ++ .ref b :: rest) (hcat : (rest.map fun v => v.category).sum ≤ 8) (hf : cells ≤ R.cells ∧ slots ≤ R.slots) (hdg : decode cc pc = .ok (.invokevirtual index, 3)) (kk : ∀ (H : Heap) (locs : List Loc), Hw w s σ' H locs → W p l e R s m av below meth c H locs cells slots Q (F0 m (pc + 3) ls (.int r :: rest))) : W p l e R s m av below meth c H locs cells slots Q (F0 m pc ls st) :=
  va_calli (va_runV (g := F0 m pc ls st) (As := As) (rest := rest) S hM (TV.cw S h hR) ⟨Bw.blind hok _, hrc, Hw.pre hok hw⟩ rfl hn hsize hstack (lv_room hcat) hdg hf) hw.2.2.1 (fun q _ h => h) (fun q h => h) (fun r1 u t H1 locs1 ht hvm hp hB hz hk hS => by obtain ⟨rfl, rfl⟩ := hp; exact kk H1 locs1 (Hw.back hw hB ht hS))
theorem x_rc (hw : Hw (XWd D ad cs ts adK adV) s σ H locs) {i : Nat} (hi : i < 12) : ∃ cell : Cell, H[adK i]? = some cell ∧ cell.vm.isStatics = false ∧ s.vm.findClass "java/lang/String" = some cell.cls := vk_recv hw.2.2.2.2.2.2.2.2.1 hi hw.2.2.1
theorem x_value (S : CallFix p m c cc nL s av BG RJ0) (hw : Hw (XWd D ad cs ts adK adV) s σ H locs) {i : Nat} (hi : i < 12) (hdg : decode cc pc = .ok (.getfield 9, 3)) (kk : W p l e R s m av below meth c H locs cells slots Q (F0 m (pc + 3) ls (.ref (adV i) :: rest))) : W p l e R s m av below meth c H locs cells slots Q (F0 m pc ls (.ref (adK i) :: rest)) := vk_getf S.1 S.2.1 (hw.2.2.2.2.2.2.2.2.1.1 i hi).2.2.1 hw.2.2.1 S.2.2.2.1 (S.2.2.2.2 _ kf_J0_9) (fun _ h => h) hdg kk
theorem x_coder (S : CallFix p m c cc nL s av BG RJ0) (hw : Hw (XWd D ad cs ts adK adV) s σ H locs) {i : Nat} (hi : i < 12) (hdg : decode cc pc = .ok (.getfield 15, 3)) (kk : W p l e R s m av below meth c H locs cells slots Q (F0 m (pc + 3) ls (.int 0 :: rest))) : W p l e R s m av below meth c H locs cells slots Q (F0 m pc ls (.ref (adK i) :: rest)) := vk_getf S.1 S.2.1 (hw.2.2.2.2.2.2.2.2.1.1 i hi).2.1 hw.2.2.1 S.2.2.2.1 (S.2.2.2.2 _ kf_J0_15) (fun _ h => h) hdg kk
theorem x_compact (S : CallFix p m c cc nL s av BG RJ0) (hw : Hw (XWd D ad cs ts adK adV) s σ H locs) (hdg : decode cc pc = .ok (.getstatic 38, 3)) (kk : W p l e R s m av below meth c H locs cells slots Q (F0 m (pc + 3) ls (.int 1 :: rest))) : W p l e R s m av below meth c H locs cells slots Q (F0 m pc ls rest) := va_gets S.1 S.2.1 hw.2.2.2.2.2.2.2.2.2.1 hw.2.2.1 S.2.2.2.1 (S.2.2.2.2 _ kf_J0_38) (fun _ h => h) hdg kk
theorem t_coder {i : Nat} (hi : i < 12) : CI l (XWd D ad cs ts adK adV) yJ0_coder_7d493 cJ0_coder_7d493 1 (some .byte) 0 0 [.ref (adK i)] σ 0 σ := by
  refine CI.of (by decide) (Nat.le_of_ble_eq_true rfl) ?_
  intro p e s m below meth c ls S hr hlk hw hl
  have hl : lv_has ls 1 [(0, .ref (adK i))] := hl
  refine x_compact S hw dJ0_coder_7d493_0 ?_
  refine lv_if_eq (tgt := 13) S.1 S.2.1 dJ0_coder_7d493_3 (by decide) (fun hc => absurd hc (by decide)) (fun hc => ?_)
  refine lv_aload_n S.1 S.2.1 dJ0_coder_7d493_6 rfl (lv_at hl 0 rfl) ?_
  refine x_coder S hw hi dJ0_coder_7d493_7 ?_
  refine lv_goto (tgt := 14) S.1 S.2.1 dJ0_coder_7d493_10 (by decide) ?_
  exact g_zret (XWd_ok D ad cs ts adK adV) S hr hlk hw rfl dJ0_coder_7d493_14 rfl rfl
theorem t_isLatin1 {i : Nat} (hi : i < 12) : CI l (XWd D ad cs ts adK adV) yJ0_isLatin1_aae02 cJ0_isLatin1_aae02 1 (some .boolean) 0 0 [.ref (adK i)] σ 1 σ := by
  refine CI.of (by decide) (Nat.le_of_ble_eq_true rfl) ?_
  intro p e s m below meth c ls S hr hlk hw hl
  have hl : lv_has ls 1 [(0, .ref (adK i))] := hl
  refine x_compact S hw dJ0_isLatin1_aae02_0 ?_
  refine lv_if_eq (tgt := 17) S.1 S.2.1 dJ0_isLatin1_aae02_3 (by decide) (fun hc => absurd hc (by decide)) (fun hc => ?_)
  refine lv_aload_n S.1 S.2.1 dJ0_isLatin1_aae02_6 rfl (lv_at hl 0 rfl) ?_
  refine x_coder S hw hi dJ0_isLatin1_aae02_7 ?_
  refine lv_if_ne (tgt := 17) S.1 S.2.1 dJ0_isLatin1_aae02_10 (by decide) (fun hc => absurd rfl hc) (fun hc => ?_)
  refine lv_iconst (v := 1) S.1 S.2.1 dJ0_isLatin1_aae02_13 (by decide) ?_
  refine lv_goto (tgt := 18) S.1 S.2.1 dJ0_isLatin1_aae02_14 (by decide) ?_
  exact g_zret (XWd_ok D ad cs ts adK adV) S hr hlk hw rfl dJ0_isLatin1_aae02_18 rfl rfl
theorem stL_lt : ∀ i, i < 12 → stLen.getD i 0 < 2 ^ 31 ∧ nI (stLen.getD i 0) >>> ((0 : Int32) &&& 31) = nI (stLen.getD i 0) := by decide +kernel
theorem t_length {i : Nat} (hi : i < 12) : CI l (XWd D ad cs ts adK adV) yJ0_length_8abf5 cJ0_length_8abf5 1 (some .int) 1 20 [.ref (adK i)] σ (nI (stLen.getD i 0)) σ := by
  refine CI.of (by decide) (Nat.le_of_ble_eq_true rfl) ?_
  intro p e s m below meth c ls S hr hlk hw hl
  have hl : lv_has ls 1 [(0, .ref (adK i))] := hl
  refine lv_aload_n S.1 S.2.1 dJ0_length_8abf5_0 rfl (lv_at hl 0 rfl) ?_
  refine x_value S hw hi dJ0_length_8abf5_1 ?_
  refine va_tlen (v := nI (stLen.getD i 0)) S.1 S.2.1 (hw.2.2.2.2.2.2.2.2.1.1 i hi).2.2.2 hw.2.2.1 rfl dJ0_length_8abf5_4 ?_
  refine lv_aload_n S.1 S.2.1 dJ0_length_8abf5_5 rfl (lv_at hl 0 rfl) ?_
  refine g_Ti (As := []) (rest := [.int (nI (stLen.getD i 0))]) (XWd_ok D ad cs ts adK adV) S hw (t_coder hi) kt_J0_335 (x_rc hw hi) ⟨Nat.le_of_ble_eq_true rfl, Nat.le_of_ble_eq_true rfl⟩ rfl hl.1 rfl (Nat.le_of_ble_eq_true rfl) ⟨Nat.zero_le _, Nat.zero_le _⟩ dJ0_length_8abf5_6 (fun H locs hw => ?_)
  refine lv_ishr S.1 S.2.1 dJ0_length_8abf5_9 ?_
  exact g_iret (XWd_ok D ad cs ts adK adV) S hr hlk hw dJ0_length_8abf5_10 (stL_lt i hi).2 rfl
theorem t_pcheck {k n : Int32} {v : Value} (hv : v = .null ∨ ∃ q, v = .ref q) (h1 : ¬ k < 0) (h2 : k < n) : CI l (XWd D ad cs ts adK adV) yJ3_checkIndex_8e157 cJ3_checkIndex_8e157 3 (some .int) 0 0 [.int k, .int n, v] σ k σ := by
  refine CI.of (by decide) (by rcases hv with rfl | ⟨q, rfl⟩ <;> exact Nat.le_of_ble_eq_true rfl) ?_
  intro p e s m below meth c ls S hr hlk hw hl
  have hl : lv_has ls 3 [(0, .int k), (1, .int n)] := by
    rcases hv with rfl | ⟨q, rfl⟩
    · exact lv_sub (l := [(0, .int k), (1, .int n), (2, .null)]) hl [0, 1] rfl
    · exact lv_sub (l := [(0, .int k), (1, .int n), (2, .ref q)]) hl [0, 1] rfl
  refine lv_iload_n S.1 S.2.1 dJ3_checkIndex_8e157_0 rfl (lv_at hl 0 rfl) ?_
  refine lv_if_lt (tgt := 9) S.1 S.2.1 dJ3_checkIndex_8e157_1 (by decide) (fun hc => absurd hc h1) (fun hc => ?_)
  refine lv_iload_n S.1 S.2.1 dJ3_checkIndex_8e157_4 rfl (lv_at hl 0 rfl) ?_
  refine lv_iload_n S.1 S.2.1 dJ3_checkIndex_8e157_5 rfl (lv_at hl 1 rfl) ?_
  refine lv_icmp_lt (tgt := 16) S.1 S.2.1 dJ3_checkIndex_8e157_6 (by decide) (fun hc => ?_) (fun hc => absurd h2 hc)
  refine lv_iload_n S.1 S.2.1 dJ3_checkIndex_8e157_16 rfl (lv_at hl 0 rfl) ?_
  exact g_iret (XWd_ok D ad cs ts adK adV) S hr hlk hw dJ3_checkIndex_8e157_17 rfl rfl
theorem t_scheck {k n : Int32} (h1 : ¬ k < 0) (h2 : k < n) : CV l (XWd D ad cs ts adK adV) yJ0_checkIndex_df160 cJ0_checkIndex_df160 2 1 22 [.int k, .int n] σ σ := by
  refine CV.of (by decide) (Nat.le_of_ble_eq_true rfl) ?_
  intro p e s m below meth c ls S hr hlk hw hl
  have hl : lv_has ls 2 [(0, .int k), (1, .int n)] := hl
  refine lv_iload_n S.1 S.2.1 dJ0_checkIndex_df160_0 rfl (lv_at hl 0 rfl) ?_
  refine lv_iload_n S.1 S.2.1 dJ0_checkIndex_df160_1 rfl (lv_at hl 1 rfl) ?_
  have go : ∀ v : Value, (v = .null ∨ ∃ q, v = .ref q) → W p l e (RM 1 22) s m [Value.int k, .int n].toArray below meth c s.heap [] 0 0 (QV below (XWd D ad cs ts adK adV) [Value.int k, .int n].toArray s σ) (F0 m 5 ls [v, .int n, .int k]) := by
    intro v hv
    refine g_Si (As := [.int k, .int n, v]) (rest := []) (XWd_ok D ad cs ts adK adV) S hw (t_pcheck hv h1 h2) kt_J0_1059 ⟨Nat.le_of_ble_eq_true rfl, Nat.le_of_ble_eq_true rfl⟩ rfl hl.1 rfl (Nat.le_of_ble_eq_true rfl) ⟨Nat.zero_le _, Nat.zero_le _⟩ dJ0_checkIndex_df160_5 (fun H locs hw => ?_)
    refine lv_pop S.1 S.2.1 dJ0_checkIndex_df160_8 rfl ?_
    exact g_vret (XWd_ok D ad cs ts adK adV) S hr hlk hw dJ0_checkIndex_df160_9 rfl
  rcases hw.2.2.2.2.2.2.2.2.2.2 with hz | ⟨q, hz⟩
  · exact va_gets S.1 S.2.1 hz hw.2.2.1 S.2.2.2.1 (S.2.2.2.2 _ kf_J0_1053) (fun _ h => h) dJ0_checkIndex_df160_2 (go _ (Or.inl rfl))
  · exact va_gets S.1 S.2.1 hz hw.2.2.1 S.2.2.2.1 (S.2.2.2.2 _ kf_J0_1053) (fun _ h => h) dJ0_checkIndex_df160_2 (go _ (Or.inr ⟨q, rfl⟩))
theorem t_lcharAt {i : Nat} (hi : i < 12) {k : Int32} (hk : vp_in k (stLen.getD i 0)) : CI l (XWd D ad cs ts adK adV) yJ1_charAt_3b067 cJ1_charAt_3b067 2 (some .char) 2 43 [.ref (adV i), .int k] σ (chS i k) σ := by
  refine CI.of (by decide) (Nat.le_of_ble_eq_true rfl) ?_
  intro p e s m below meth c ls S hr hlk hw hl
  have hl : lv_has ls 2 [(0, .ref (adV i)), (1, .int k)] := hl
  have hb := (vp_in_iff.mp hk)
  have hT := (hw.2.2.2.2.2.2.2.2.1.1 i hi).2.2.2
  refine lv_iload_n S.1 S.2.1 dJ1_charAt_3b067_0 rfl (lv_at hl 1 rfl) ?_
  refine lv_aload_n S.1 S.2.1 dJ1_charAt_3b067_1 rfl (lv_at hl 0 rfl) ?_
  refine va_tlen (v := nI (stLen.getD i 0)) S.1 S.2.1 hT hw.2.2.1 rfl dJ1_charAt_3b067_2 ?_
  refine g_Sv (rest := []) (XWd_ok D ad cs ts adK adV) S hw (t_scheck (k := k) (n := nI (stLen.getD i 0)) (fun q => hk (Or.inl q)) (by rw [Int32.lt_iff_toInt_lt, nI_toInt (stL_lt i hi).1]; exact hb.2)) kt_J1_9 ⟨Nat.le_of_ble_eq_true rfl, Nat.le_of_ble_eq_true rfl⟩ rfl hl.1 rfl (Nat.le_of_ble_eq_true rfl) ⟨Nat.zero_le _, Nat.zero_le _⟩ dJ1_charAt_3b067_3 (fun H locs hw => ?_)
  refine lv_aload_n S.1 S.2.1 dJ1_charAt_3b067_6 rfl (lv_at hl 0 rfl) ?_
  refine lv_iload_n S.1 S.2.1 dJ1_charAt_3b067_7 rfl (lv_at hl 1 rfl) ?_
  refine va_tb S.1 S.2.1 hT hw.2.2.1 hk rfl dJ1_charAt_3b067_8 ?_
  refine lv_sipush (v := 255) S.1 S.2.1 dJ1_charAt_3b067_9 (by decide) ?_
  refine lv_iand S.1 S.2.1 dJ1_charAt_3b067_12 ?_
  refine lv_i2c S.1 S.2.1 dJ1_charAt_3b067_13 rfl ?_
  exact g_zret (XWd_ok D ad cs ts adK adV) S hr hlk hw (pk_nc _) dJ1_charAt_3b067_14 rfl rfl
theorem t_charAt {i : Nat} (hi : i < 12) {k : Int32} (hk : vp_in k (stLen.getD i 0)) : CI l (XWd D ad cs ts adK adV) yJ0_charAt_5068e cJ0_charAt_5068e 2 (some .char) 3 64 [.ref (adK i), .int k] σ (chS i k) σ := by
  refine CI.of (by decide) (Nat.le_of_ble_eq_true rfl) ?_
  intro p e s m below meth c ls S hr hlk hw hl
  have hl : lv_has ls 2 [(0, .ref (adK i)), (1, .int k)] := hl
  refine lv_aload_n S.1 S.2.1 dJ0_charAt_5068e_0 rfl (lv_at hl 0 rfl) ?_
  refine g_Ti (As := []) (rest := []) (XWd_ok D ad cs ts adK adV) S hw (t_isLatin1 hi) kt_J0_492 (x_rc hw hi) ⟨Nat.le_of_ble_eq_true rfl, Nat.le_of_ble_eq_true rfl⟩ rfl hl.1 rfl (Nat.le_of_ble_eq_true rfl) ⟨Nat.zero_le _, Nat.zero_le _⟩ dJ0_charAt_5068e_1 (fun H locs hw => ?_)
  refine lv_if_eq (tgt := 16) S.1 S.2.1 dJ0_charAt_5068e_4 (by decide) (fun hc => absurd hc (by decide)) (fun hc => ?_)
  refine lv_aload_n S.1 S.2.1 dJ0_charAt_5068e_7 rfl (lv_at hl 0 rfl) ?_
  refine x_value S hw hi dJ0_charAt_5068e_8 ?_
  refine lv_iload_n S.1 S.2.1 dJ0_charAt_5068e_11 rfl (lv_at hl 1 rfl) ?_
  refine g_Si (As := [.ref (adV i), .int k]) (rest := []) (XWd_ok D ad cs ts adK adV) S hw (t_lcharAt hi hk) kt_J0_495 ⟨Nat.le_of_ble_eq_true rfl, Nat.le_of_ble_eq_true rfl⟩ rfl hl.1 rfl (Nat.le_of_ble_eq_true rfl) ⟨Nat.zero_le _, Nat.zero_le _⟩ dJ0_charAt_5068e_12 (fun H locs hw => ?_)
  exact g_zret (XWd_ok D ad cs ts adK adV) S hr hlk hw (pk_nc _) dJ0_charAt_5068e_15 rfl rfl
end STR
