/-! THE LAW FROM ITS ENTRY: what is fixed, the two constructors, then the loop -/
theorem df_X12 : ∀ j, j < 76 → defaultValue (tyX12 j) = vp_V [.int 0, .int 0, .null, .null, .null, .null, .null, .null, .null, .null, .null, .null, .null, .int 0, .null, .null, .int 0, .null, .null, .null, .null, .null, .null, .null, .null, .int 0, .null, .null, .null, .null, .null, .null, .null, .null, .null, .null, .int 0, .int 0, .int 0, .null, .null, .int 0, .int 0, .int 0, .int 0, .null, .null, .null, .int 0, .int 0, .int 0, .null, .int 0, .int 0, .null, .int 0, .null, .null, .null, .int 0, .null, .null, .null, .null, .null, .null, .null, .null, .null, .null, .int 0, .int 0, .null, .null, .null, .null] j := by
  intro j hj
  match j, hj with
  | 0, _ => rfl
  | 1, _ => rfl
  | 2, _ => rfl
  | 3, _ => rfl
  | 4, _ => rfl
  | 5, _ => rfl
  | 6, _ => rfl
  | 7, _ => rfl
  | 8, _ => rfl
  | 9, _ => rfl
  | 10, _ => rfl
  | 11, _ => rfl
  | 12, _ => rfl
  | 13, _ => rfl
  | 14, _ => rfl
  | 15, _ => rfl
  | 16, _ => rfl
  | 17, _ => rfl
  | 18, _ => rfl
  | 19, _ => rfl
  | 20, _ => rfl
  | 21, _ => rfl
  | 22, _ => rfl
  | 23, _ => rfl
  | 24, _ => rfl
  | 25, _ => rfl
  | 26, _ => rfl
  | 27, _ => rfl
  | 28, _ => rfl
  | 29, _ => rfl
  | 30, _ => rfl
  | 31, _ => rfl
  | 32, _ => rfl
  | 33, _ => rfl
  | 34, _ => rfl
  | 35, _ => rfl
  | 36, _ => rfl
  | 37, _ => rfl
  | 38, _ => rfl
  | 39, _ => rfl
  | 40, _ => rfl
  | 41, _ => rfl
  | 42, _ => rfl
  | 43, _ => rfl
  | 44, _ => rfl
  | 45, _ => rfl
  | 46, _ => rfl
  | 47, _ => rfl
  | 48, _ => rfl
  | 49, _ => rfl
  | 50, _ => rfl
  | 51, _ => rfl
  | 52, _ => rfl
  | 53, _ => rfl
  | 54, _ => rfl
  | 55, _ => rfl
  | 56, _ => rfl
  | 57, _ => rfl
  | 58, _ => rfl
  | 59, _ => rfl
  | 60, _ => rfl
  | 61, _ => rfl
  | 62, _ => rfl
  | 63, _ => rfl
  | 64, _ => rfl
  | 65, _ => rfl
  | 66, _ => rfl
  | 67, _ => rfl
  | 68, _ => rfl
  | 69, _ => rfl
  | 70, _ => rfl
  | 71, _ => rfl
  | 72, _ => rfl
  | 73, _ => rfl
  | 74, _ => rfl
  | 75, _ => rfl
  | k + 76, h => exact absurd h (by omega)
abbrev fN : List Cond := flatC (Jvm.Cond.and given_1 narrow_1)
def sTm (i : Nat) : Term := .string "WayLeaves$Reader" (stK.getD i (0, "")).1
theorem q_ex : ∀ i, i < 12 → Cond.exactly (sTm i) "java/lang/String" ∈ fN := by decide +kernel
theorem q_co : ∀ i, i < 12 → Cond.eq (.field (sTm i) "java/lang/String" "coder" "B") (.int 0) ∈ fN := by decide +kernel
theorem q_ar : ∀ i, i < 12 → Cond.arrayOf (.field (sTm i) "java/lang/String" "value" "[B") .byte ∈ fN := by decide +kernel
theorem q_le : ∀ i, i < 12 → Cond.eq (.length (.field (sTm i) "java/lang/String" "value" "[B")) (.int (Int32.ofNat (stLen.getD i 0))) ∈ fN := by decide +kernel
theorem q_el : ∀ i, i < 12 → ∀ j, j < stLen.getD i 0 → Cond.eq (.elem (.field (sTm i) "java/lang/String" "value" "[B") (.int (Int32.ofNat j))) (.int ((stByt.getD i []).getD j 0)) ∈ fN := by decide +kernel
theorem q_ne : ∀ i, i < 12 → ∀ j, j < 12 → i ≠ j → Cond.not (Cond.eq (sTm i) (sTm j)) ∈ fN ∨ Cond.not (Cond.eq (sTm j) (sTm i)) ∈ fN := by decide +kernel
theorem q_sa : ∀ j, j < 5 → Cond.arrayOf (.static "WayLeaves" (stN j) "[I") .int ∈ fN := by decide +kernel
theorem q_sl : ∀ j, j < 5 → Cond.eq (.length (.static "WayLeaves" (stN j) "[I")) (.int (Int32.ofNat (stL j))) ∈ fN := by decide +kernel
theorem q_se : ∀ j, j < 5 → ∀ i, i < stL j → Cond.eq (.elem (.static "WayLeaves" (stN j) "[I") (.int (Int32.ofNat i))) (.int (stT j i)) ∈ fN := by decide +kernel
theorem q_cp : Cond.eq (.static "java/lang/String" "COMPACT_STRINGS" "Z") (.int 1) ∈ fN := by decide +kernel
theorem q_fo : Cond.isRef (.static "jdk/internal/util/Preconditions" "SIOOBE_FORMATTER" "Ljava/util/function/BiFunction;") ∈ fN := by decide +kernel
theorem q_ls : ∀ j, j < 5 → Cond.laysStatic "WayLeaves" (stN j) "[I" ∈ lw_tbl := by decide +kernel
theorem q_l1 : Cond.laysStatic "java/lang/String" "COMPACT_STRINGS" "Z" ∈ lw_tbl := by decide +kernel
theorem q_l2 : Cond.laysStatic "jdk/internal/util/Preconditions" "SIOOBE_FORMATTER" "Ljava/util/function/BiFunction;" ∈ lw_tbl := by decide +kernel
theorem q_i0 : Cond.initialized "WayLeaves" ∈ lw_tbl := by decide +kernel
theorem q_i1 : Cond.initialized "java/lang/String" ∈ lw_tbl := by decide +kernel
theorem q_i2 : Cond.initialized "jdk/internal/util/Preconditions" ∈ lw_tbl := by decide +kernel
theorem q_nM : ∀ x ∈ nwM, Cond.methodLinkNest x.1 x.2.1 x.2.2.1 x.2.2.2 ∈ lw_tbl := by decide +kernel
theorem q_nI : ∀ x ∈ nwI, Cond.methodLinkNest x.1 x.2.1 x.2.2.1 x.2.2.2 ∈ lw_tbl := by decide +kernel
theorem q_nF : ∀ x ∈ nwF, Cond.fieldLinkNest x.1 x.2.1 x.2.2.1 x.2.2.2.1 x.2.2.2.2.1 x.2.2.2.2.2 ∈ lw_tbl := by decide +kernel
theorem q_sr : ∀ x ∈ stK.zipIdx, Cond.stringRef "WayLeaves$Reader" x.1.1 x.1.2 ∈ lw_tbl := by decide +kernel
theorem q_sx : ∀ x ∈ stK.zipIdx, x.2 < 12 ∧ (stK.getD x.2 (0, "")).1 = x.1.1 := by decide +kernel
theorem q_aO : Cond.arrayOver (.array .int) ∈ lw_tbl := by decide +kernel
theorem x_fixed {p : Program} {s : State} {m : MethodId} {meth : Method} {c : Code} {b L : Nat} {xs : Nat → Int32} (C0 : lw_At p s m meth c b L xs) : ∃ ts adK adV : Nat → Nat, xFP ts adK adV (fun q => s.heap.size ≤ q) s := by
  obtain ⟨hx, hb, hr, hml, hown, hts, hX0, hbl, hlocks, hgv⟩ := C0
  have hs : ∀ w ∈ fN, w.before #[Value.ref b] s = true := flat_of_before _ hgv
  have hA : ∀ a : Nat, a < s.heap.size → ¬ (fun q : Nat => s.heap.size ≤ q) a := fun a h => Nat.not_le.mpr h
  have h0 : ∀ j : Nat, ∃ t : Nat, j < 5 → (Term.static "WayLeaves" (stN j) "[I").eval #[Value.ref b] s none [] s = some (.ref t) ∧ va_T .int t (stL j) (fun i => .int (stT j i)) (fun q => s.heap.size ≤ q) s s.heap := by
    intro j
    by_cases hj : j < 5
    · obtain ⟨t, h1, h2⟩ := va_Tof (N := stL j) (f := fun i => .int (stT j i)) (A := fun q : Nat => s.heap.size ≤ q) (by revert j; decide) (hs _ (q_sa j hj)) (va_eqt (hs _ (q_sl j hj))) (fun i hi => va_eqt (hs _ (q_se j hj i hi))) hA
      exact ⟨t, fun _ => ⟨h1, h2⟩⟩
    · exact ⟨0, fun h => absurd h hj⟩
  obtain ⟨ts, hT⟩ := Classical.axiomOfChoice h0
  obtain ⟨adK, adV, hS, hE⟩ := vk_Sof (N := 12) (tm := sTm) (len := stLen) (byt := stByt) (A := fun q : Nat => s.heap.size ≤ q) (fun i hi => (stL_lt i hi).1) (fun i hi => hs _ (q_ex i hi)) (fun i hi => hs _ (q_co i hi)) (fun i hi => hs _ (q_ar i hi)) (fun i hi => hs _ (q_le i hi)) (fun i hi j hj => hs _ (q_el i hi j hj)) (fun i j hi hj hij => (q_ne i hi j hj hij).imp (hs _) (hs _)) hA
  refine ⟨ts, adK, adV, fun x hx => va_Nw.of rfl (hts _ (q_nM x hx)), fun x hx => va_Nw.of rfl (hts _ (q_nF x hx)), fun j hj => ⟨va_Zref (hts _ (q_ls j hj)) (hts _ q_i0) (hT j hj).1 hA, (hT j hj).2⟩, fun x hx => ?_, hS, va_Zof (hts _ q_l1) (hts _ q_i1) (va_eqt (hs _ q_cp)) hA, va_Zqof (hts _ q_l2) (hts _ q_i2) (hs _ q_fo) hA⟩
  have h1 := q_sx x hx
  have h2 := hE x.2 h1.1
  unfold sTm at h2
  rw [h1.2] at h2
  exact vk_R.of (hts _ (q_sr x hx)) h2
theorem x_classes {s : State} {av : Array Value} (hts : ∀ w ∈ lw_tbl, w.before av s = true) : ∃ (D : va_G) (cs : Nat → ClassId), va_K D vwCl (tyl cs) s := by
  have hB : ∀ w ∈ BG, w.before av s = true := fun w hw => hts w (List.mem_filter.mp hw).1
  have h0 : ∀ k : Nat, ∃ d : ClassId × (Nat → Nat), ∀ q : vw_C, vwCl[k]? = some q → u_Kn s q.1 q.2.1 q.2.2 d.1 d.2 := by
    intro k
    match k with
    | 0 =>
      obtain ⟨cC, iS, h⟩ := u_known (C := RX0) (T := TX0) (N := 9) (n := 9) hB wi_X0 (hB _ (BG_c2 (i := 0) rfl rfl))
      exact ⟨(cC, iS), fun q hq => by cases hq; exact h⟩
    | 1 =>
      obtain ⟨cC, iS, h⟩ := u_known (C := RX1) (T := TX1) (N := 8) (n := 8) hB wi_X1 (hB _ (BG_c2 (i := 109) rfl rfl))
      exact ⟨(cC, iS), fun q hq => by cases hq; exact h⟩
    | 2 =>
      obtain ⟨cC, iS, h⟩ := u_known (C := RX2) (T := TX2) (N := 9) (n := 9) hB wi_X2 (hB _ (BG_c2 (i := 37) rfl rfl))
      exact ⟨(cC, iS), fun q hq => by cases hq; exact h⟩
    | 3 =>
      obtain ⟨cC, iS, h⟩ := u_known (C := RX3) (T := TX3) (N := 2) (n := 2) hB wi_X3 (hB _ (BG_c1 (i := 86) rfl rfl))
      exact ⟨(cC, iS), fun q hq => by cases hq; exact h⟩
    | 4 =>
      obtain ⟨cC, iS, h⟩ := u_known (C := RX4) (T := TX4) (N := 10) (n := 10) hB wi_X4 (hB _ (BG_c1 (i := 31) rfl rfl))
      exact ⟨(cC, iS), fun q hq => by cases hq; exact h⟩
    | 5 =>
      obtain ⟨cC, iS, h⟩ := u_known (C := RX5) (T := TX5) (N := 13) (n := 13) hB wi_X5 (hB _ (BG_c1 (i := 145) rfl rfl))
      exact ⟨(cC, iS), fun q hq => by cases hq; exact h⟩
    | 6 =>
      obtain ⟨cC, iS, h⟩ := u_known (C := RX6) (T := TX6) (N := 9) (n := 9) hB wi_X6 (hB _ (BG_c1 (i := 101) rfl rfl))
      exact ⟨(cC, iS), fun q hq => by cases hq; exact h⟩
    | 7 =>
      obtain ⟨cC, iS, h⟩ := u_known (C := RX7) (T := TX7) (N := 4) (n := 4) hB wi_X7 (hB _ (BG_c2 (i := 73) rfl rfl))
      exact ⟨(cC, iS), fun q hq => by cases hq; exact h⟩
    | 8 =>
      obtain ⟨cC, iS, h⟩ := u_known (C := RX8) (T := TX8) (N := 10) (n := 10) hB wi_X8 (hB _ (BG_c1 (i := 199) rfl rfl))
      exact ⟨(cC, iS), fun q hq => by cases hq; exact h⟩
    | 9 =>
      obtain ⟨cC, iS, h⟩ := u_known (C := RX9) (T := TX9) (N := 4) (n := 4) hB wi_X9 (hB _ (BG_c2 (i := 140) rfl rfl))
      exact ⟨(cC, iS), fun q hq => by cases hq; exact h⟩
    | 10 =>
      obtain ⟨cC, iS, h⟩ := u_known (C := RX10) (T := TX10) (N := 3) (n := 3) hB wi_X10 (hB _ (BG_c2 (i := 93) rfl rfl))
      exact ⟨(cC, iS), fun q hq => by cases hq; exact h⟩
    | 11 =>
      obtain ⟨cC, iS, h⟩ := u_known (C := RX11) (T := TX11) (N := 11) (n := 11) hB wi_X11 (hB _ (BG_c1 (i := 23) rfl rfl))
      exact ⟨(cC, iS), fun q hq => by cases hq; exact h⟩
    | 12 =>
      obtain ⟨cC, iS, h⟩ := u_known (C := RX12) (T := TX12) (N := 76) (n := 76) hB wi_X12 (hB _ (BG_c5 (i := 169) rfl rfl))
      exact ⟨(cC, iS), fun q hq => by cases hq; exact h⟩
    | k + 13 => exact ⟨(0, fun _ => 0), fun q hq => by simp [vwCl] at hq⟩
  obtain ⟨d, hd⟩ := Classical.axiomOfChoice h0
  have ar : ∀ ty : FieldType, Cond.arrayClass ty ∈ BG → ∃ cA : ClassId, ArrOfT s cA ty ∧ s.vm.findClass ("[" ++ ty.toString) = some cA := by
    intro ty h
    obtain ⟨cA, kA, comp, h1, h2, h3⟩ := Cond.arrayClass_spec (hB _ h)
    exact ⟨cA, fun n z => ⟨fun k h => (by cases h), kA, h2, comp, h3⟩, h1⟩
  obtain ⟨c0, a0, f0⟩ := ar .int kac_int
  obtain ⟨c1, a1, f1⟩ := ar .long kac_long
  obtain ⟨c2, a2, f2⟩ := ar .boolean kac_boolean
  obtain ⟨c4, a4, f4⟩ := ar .byte kac_byte
  obtain ⟨c5, a5, f5⟩ := ar .char kac_char
  obtain ⟨comp, c3, k3, -, h2, h3, f3⟩ := Cond.arrayOver_specA (hts _ q_aO)
  have a3 : ArrOfT s c3 (.array .int) := fun n z => ⟨fun k h => (by cases h), k3, h2, comp, h3⟩
  refine ⟨(fun k => (d k).1, fun k => (d k).2), fun k => ([c0, c1, c2, c3, c4, c5] : List ClassId).getD k 0, fun k q hq => hd k q hq, fun k q hq => ?_⟩
  match k, hq with
  | 0, hq => cases hq; exact ⟨a0, f0⟩
  | 1, hq => cases hq; exact ⟨a1, f1⟩
  | 2, hq => cases hq; exact ⟨a2, f2⟩
  | 3, hq => cases hq; exact ⟨a3, f3⟩
  | 4, hq => cases hq; exact ⟨a4, f4⟩
  | 5, hq => cases hq; exact ⟨a5, f5⟩
  | k + 6, hq => simp [tyl] at hq
set_option maxHeartbeats 4000000 in
set_option maxRecDepth 20000 in
/-- from the entry, over any invariant that holds at the start and is kept by each pair of calls -/
theorem whole_open {p : Program} {e : Env} {s : State} {m : MethodId} {below : List Frame} {meth : Method} {c : Code} (l : Launch) {b L : Nat} {xs : Nat → Int32} (hL : L ≤ 3072) (C0 : lw_At p s m meth c b L xs) {Inv : St → St → Prop} {N N1 : Nat} (hst : SPall Inv N) {σ1 σ2 σ3 : St} {r1 r2 : Int32} (hf1 : fX8_takeTheAct N1 σx00 = some σ1) (hf2 : fX8_readTape N1 σ1 = some (r1, σ2)) (hf3 : fX0_keep N1 σ2 = some (r2, σ3)) (hI : Inv σ3 σm0) : W p l e room_1 s m #[Value.ref b] below meth c s.heap [] 0 0 (lw_Z below #[Value.ref b] s) (entryFrame m ([Value.ref b] : List Value).toArray 4) := by
  obtain ⟨hx, hb, hr, hml, hown, hts, hX0, hbl, hlocks, hgv⟩ := id C0
  have S : CallFix p m c cL_law 4 s #[Value.ref b] BG RL := ⟨hx, hb, hml, hown, fun w hw => hts w (List.mem_filter.mp hw).1⟩
  obtain ⟨ts, adK, adV, hFP⟩ := x_fixed C0
  obtain ⟨D, cs, hK⟩ := x_classes hts
  have hO : va_AOA .int s := va_AOA.of (hts _ q_aO)
  have h : Hc D cs (fun q => s.heap.size ≤ q) s [] s.heap [] := ⟨fun k q h => by simp at h, ⟨fun i j p q h => by simp at h, fun k q h => by simp at h⟩, va_S.rf, hK, fun q h => h, hO⟩
  have hl := lv_entry ([.ref b]) (n := 4) (Nat.le_of_ble_eq_true rfl)
  rw [lg_entry_eq]
  generalize (lg_sl ([.ref b]) ++ List.replicate (4 - (lg_sl ([.ref b])).length) Slot.unset).toArray = ls at hl ⊢
  have hl : lv_has ls 4 [(0, .ref b)] := hl
  refine n_new (ci := 11) S h wi_X11 tyX11 tyX11_ok (BG_c1 (i := 22) rfl rfl) (BG_c1 (i := 23) rfl rfl) (BG_c1 (i := 1) rfl rfl) rfl df_X11 (Nat.le_of_ble_eq_true rfl) (Nat.le_of_ble_eq_true rfl) dL_law_0 (fun q0 H h => ?_)
  refine lv_dup S.1 S.2.1 dL_law_3 rfl ?_
  have h : Hc D cs (fun q => s.heap.size ≤ q) s ([] ++ [eX0 q0]) H [] := h
  have hsub : ∀ q, va_A [eX0 q0] H.size q → s.heap.size ≤ q := Hc.sub h
  refine va_callv (va_runI (n := 0) (g := F0 m 4 ls [.ref q0, .ref q0]) (As := []) (rest := [.ref q0]) S (iX11_init (D := D) (cs := cs) (ts := ts) (adK := adK) (adV := adV) q0 H.size hf1 hf2 hf3) ⟨callB_of 0 S.2.2.2.2 (BG_cons (BG_c1 (i := 26) rfl rfl)) rfl rfl rfl (S.2.2.2.2 _ (BG_c1 (i := 1) rfl rfl)) (S.2.2.2.2 _ (BG_c1 (i := 24) rfl rfl)) ⟨by decide +kernel, by decide +kernel, by decide +kernel⟩ ⟨Nat.le_of_ble_eq_true rfl, Nat.le_of_ble_eq_true rfl⟩, rfl, S.2.2.2.2 _ (BG_c1 (i := 25) rfl rfl)⟩ ⟨?_, fun U hU hW => ⟨rfl, ?_⟩⟩ rfl rfl hl.1 rfl (lv_room (Nat.le_of_ble_eq_true rfl)) dL_law_4 ⟨Nat.le_of_ble_eq_true rfl, Nat.le_of_ble_eq_true rfl⟩) h.2.2.1 (fun q _ hq => hsub q hq) (fun q hq => hsub q hq) (fun ax t H1 locs1 ht hvm hp hB hz hk hS => ?_)
  · exact fun a U g mk q => ⟨q.1, q.2.1, q.2.2.1, va_K.moved (u := U) (U := U.calling g mk a) (Vm.Alike.refl U.vm) q.2.2.2.1, q.2.2.2.2.1, va_AOA.moved (u := U) (U := U.calling g mk a) (Vm.Alike.refl U.vm) q.2.2.2.2.2.1, fun x hx => va_Nw.same rfl (u := U) rfl (q.2.2.2.2.2.2.1 x hx), xFP.call q.2.2.2.2.2.2.2⟩
  · have hp := Hc.pre h U hU hW
    refine ⟨hp.1, hp.2.1, hp.2.2.1, hp.2.2.2.1, hp.2.2.2.2, fun x hx => va_Nw.warmM hW (va_Nw.of rfl (hts _ (q_nI x hx))), ?_⟩
    exact xFP.narrow (xFP.warm hFP (fun q h1 h2 => by rw [hU]; exact h.2.2.1.2.1 q h1 h2) hW) hsub
  have hx1 : Hc D cs (fun q => s.heap.size ≤ q) s ([] ++ xl ax cs σ3) H1 locs1 := Hc.back h ht hB hk hS
  have hx1 : Hc D cs (fun q => s.heap.size ≤ q) s (xl ax cs σ3) H1 locs1 := hx1
  subst hp
  clear h
  refine lv_astore_n (lv' := [(1, .ref (ax 0)), (0, .ref b)]) S.1 S.2.1 dL_law_7 rfl hl (by decide) rfl (fun ls hl => ?_)
  refine n_new (ci := 12) S hx1 wi_X12 tyX12 tyX12_ok (BG_c6 (i := 149) rfl rfl) (BG_c5 (i := 169) rfl rfl) (BG_c1 (i := 19) rfl rfl) rfl df_X12 (Nat.le_of_ble_eq_true rfl) (Nat.le_of_ble_eq_true rfl) dL_law_8 (fun q1 H h => ?_)
  refine lv_dup S.1 S.2.1 dL_law_11 rfl ?_
  refine n_callI (n := 0) (As := []) (rest := [.ref q1]) S h (iX12_init q1) (BG_c6 (i := 152) rfl rfl) (BG_c1 (i := 19) rfl rfl) (BG_c6 (i := 150) rfl rfl) (BG_c6 (i := 151) rfl rfl) rfl ⟨by decide +kernel, by decide +kernel, by decide +kernel⟩ ⟨Nat.le_of_ble_eq_true rfl, Nat.le_of_ble_eq_true rfl⟩ rfl hl.1 rfl (Nat.le_of_ble_eq_true rfl) ⟨Nat.le_of_ble_eq_true rfl, Nat.le_of_ble_eq_true rfl⟩ dL_law_12 (fun u H2 locs2 hp hh => ?_)
  obtain ⟨am, hq1, rfl⟩ : ∃ am : Nat → Nat, am 0 = q1 ∧ u = ml am cs σm0 := by
    obtain ⟨w1, w2, w3, w4, w5, w6, w7, w8, w9, w10, w11, w12, w13, w14, w15, w16, w17, w18, w19, w20, w21, w22, w23, w24, w25, w26, w27, w28, w29, w30, w31, w32, w33, w34, w35, w36, w37, w38, w39, w40, w41, w42, w43, w44, w45, w46, w47, w48, w49, w50, w51, w52, w53, w54, w55, hu⟩ := hp
    exact ⟨_, rfl, hu⟩
  subst hq1
  refine lv_astore_n (lv' := [(2, .ref (am 0)), (1, .ref (ax 0)), (0, .ref b)]) S.1 S.2.1 dL_law_15 rfl hl (by decide) rfl (fun ls hl => ?_)
  refine lv_iconst (v := 0) S.1 S.2.1 dL_law_16 (by decide) ?_
  refine lv_istore_n (lv' := [(3, .int 0), (2, .ref (am 0)), (1, .ref (ax 0)), (0, .ref b)]) S.1 S.2.1 dL_law_17 rfl hl (by decide) rfl (fun ls hl => ?_)
  have hPx : va_P D vwCl (xl ax cs σ3) H2 := P_mem.mpr (fun x hx => P_mem.mp hh.1 x (List.mem_append_left _ hx))
  have hPm : va_P D vwCl (ml am cs σm0) H2 := P_mem.mpr (fun x hx => P_mem.mp hh.1 x (List.mem_append_right _ hx))
  have gl : ∀ (k : Nat) (q : Nat × va_E), (xl ax cs σ3)[k]? = some q → (xl ax cs σ3 ++ ml am cs σm0)[k]? = some q := fun k q hq => by rw [List.getElem?_append_left (List.getElem?_eq_some_iff.mp hq).1]; exact hq
  have gr : ∀ (k : Nat) (q : Nat × va_E), (ml am cs σm0)[k]? = some q → (xl ax cs σ3 ++ ml am cs σm0)[(xl ax cs σ3).length + k]? = some q := fun k q hq => by rw [List.getElem?_append_right (by omega), Nat.add_sub_cancel_left]; exact hq
  have hDx : va_D (fun q => s.heap.size ≤ q) (xl ax cs σ3) := ⟨fun i j x y hi hj hxy => hh.2.1.1 i j x y (gl i x hi) (gl j y hj) hxy, fun k q hq => hh.2.1.2 k q (gl k q hq)⟩
  have hDm : va_D (fun q => s.heap.size ≤ q) (ml am cs σm0) := ⟨fun i j x y hi hj hxy => by have := hh.2.1.1 _ _ x y (gr i x hi) (gr j y hj) hxy; omega, fun k q hq => hh.2.1.2 _ q (gr k q hq)⟩
  have mx : ∀ q, q ∈ xad ax → ∃ (k : Nat) (x : Nat × va_E), (xl ax cs σ3)[k]? = some x ∧ x.1 = q := fun q hq => by
    rw [← xl_fst ax cs σ3] at hq
    obtain ⟨x, hx, rfl⟩ := List.mem_map.mp hq
    obtain ⟨k, hk⟩ := List.getElem?_of_mem hx
    exact ⟨k, x, hk, rfl⟩
  have mm : ∀ q, q ∈ mad am → ∃ (k : Nat) (x : Nat × va_E), (ml am cs σm0)[k]? = some x ∧ x.1 = q := fun q hq => by
    rw [← ml_fst am cs σm0] at hq
    obtain ⟨x, hx, rfl⟩ := List.mem_map.mp hq
    obtain ⟨k, hk⟩ := List.getElem?_of_mem hx
    exact ⟨k, x, hk, rfl⟩
  have hxn : ∀ q, q ∈ xad ax → s.heap.size ≤ q := fun q hq => by obtain ⟨k, x, hk, rfl⟩ := mx q hq; exact hDx.2 k x hk
  have hmn : ∀ q, q ∈ mad am → s.heap.size ≤ q := fun q hq => by obtain ⟨k, x, hk, rfl⟩ := mm q hq; exact hDm.2 k x hk
  have hdis : ∀ q, q ∈ xad ax → ¬ q ∈ mad am := fun q hq hq2 => by
    obtain ⟨k, x, hk, rfl⟩ := mx q hq
    obtain ⟨k2, x2, hk2, he⟩ := mm _ hq2
    have := hh.2.1.1 _ _ x x2 (gl k x hk) (gr k2 x2 hk2) he.symm
    have := (List.getElem?_eq_some_iff.mp hk).1
    omega
  have F : LF D ax am cs ts adK adV s := ⟨hK, xFP.narrow hFP hxn, hxn, hmn, hdis⟩
  have hLH : LH D ax am cs s σ3 σm0 H2 locs2 := ⟨hPx, D_in hDx (xl_fst ax cs σ3), hPm, D_in hDm (ml_fst am cs σm0), hh.2.2.1⟩
  exact lw_loop hL C0 F (Nat.le_of_ble_eq_true rfl) (Nat.le_of_ble_eq_true rfl) hst (L + 1) 0 0 (by omega) (by omega) rfl σ3 σm0 ls H2 locs2 hI hLH (lv_sub hl [3, 2, 1, 0] rfl)
