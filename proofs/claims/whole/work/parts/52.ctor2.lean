/-! CONSTRUCTORS: int[][], fill, new and the call of a constructor -/
theorem outer_eq (c : ClassId) (N' : Nat) (r : Nat → Nat) : vp_cell c (N', .inr (.inr (.inr (.inr (fun i => if i < N' then some (r i) else none))))) = vp_cell c (N', .inr (.inr (.inr (.inr (fun i => some (r i)))))) := by
  rw [vp_cell_q, vp_cell_q]
  unfold arrV
  congr 1
  congr 1
  funext j
  simp [j.isLt]
theorem kac_int : Cond.arrayClass .int ∈ BG := BG_tb (i := 84) (by decide +kernel) rfl
theorem kac_long : Cond.arrayClass .long ∈ BG := BG_tb (i := 99) (by decide +kernel) rfl
theorem kac_boolean : Cond.arrayClass .boolean ∈ BG := BG_tb (i := 197) (by decide +kernel) rfl
theorem kac_byte : Cond.arrayClass .byte ∈ BG := BG_tb (i := 591) (by decide +kernel) rfl
theorem kac_char : Cond.arrayClass .char ∈ BG := BG_tb (i := 1583) (by decide +kernel) rfl
section CTOR2
variable {p : Program} {l : Launch} {e : Env} {R : Room} {s : State} {m : MethodId} {args : Array Value} {below : List Frame} {meth : Method} {c : Code} {H : Heap} {locs : List Loc} {cells slots : Nat} {Q : State → Prop}
variable {cc : ByteArray} {nL pc index : Nat} {own : String} {ls : Array Slot} {rest : List Value} {D : va_G} {cs : Nat → ClassId} {A : Nat → Prop} {ws : va_W} {a : Nat}
theorem n_newI (S : CallFix p m c cc nL s args BG own) (h : Hc D cs A s ws H locs) {n : Int32} (N' : Nat) (hn : ¬ n < 0) (hN : n.toNatClampNeg = N') (hb : N' * 4 ≤ 536870912) (hcells : cells + 1 ≤ R.cells) (hslots : slots + N' ≤ R.slots) (hdg : decode cc pc = .ok (.newarray .int, 2)) (kk : ∀ (q : Nat) (H : Heap), Hc D cs A s (ws ++ [(q, .inl (cs 0, N', .inl (fun _ => 0)))]) H locs → W p l e R s m args below meth c H locs (cells + 1) (slots + N') Q (F0 m (pc + 2) ls (.ref q :: rest))) : W p l e R s m args below meth c H locs cells slots Q (F0 m pc ls (.int n :: rest)) := n_newa (atype := .int) (ty := .int) 0 S h kac_int rfl rfl (fun c1 c2 h1 h2 => Option.some.inj (h1.symm.trans h2)) (fun cA => rfl) hn hN hb hcells hslots hdg kk
theorem n_newZ (S : CallFix p m c cc nL s args BG own) (h : Hc D cs A s ws H locs) {n : Int32} (N' : Nat) (hn : ¬ n < 0) (hN : n.toNatClampNeg = N') (hb : N' * 4 ≤ 536870912) (hcells : cells + 1 ≤ R.cells) (hslots : slots + N' ≤ R.slots) (hdg : decode cc pc = .ok (.newarray .boolean, 2)) (kk : ∀ (q : Nat) (H : Heap), Hc D cs A s (ws ++ [(q, .inl (cs 2, N', .inl (fun _ => 0)))]) H locs → W p l e R s m args below meth c H locs (cells + 1) (slots + N') Q (F0 m (pc + 2) ls (.ref q :: rest))) : W p l e R s m args below meth c H locs cells slots Q (F0 m pc ls (.int n :: rest)) := n_newa (atype := .boolean) (ty := .boolean) 2 S h kac_boolean rfl rfl (fun c1 c2 h1 h2 => Option.some.inj (h1.symm.trans h2)) (fun cA => rfl) hn hN (by show N' * 1 ≤ _; omega) hcells hslots hdg kk
theorem n_newB (S : CallFix p m c cc nL s args BG own) (h : Hc D cs A s ws H locs) {n : Int32} (N' : Nat) (hn : ¬ n < 0) (hN : n.toNatClampNeg = N') (hb : N' * 4 ≤ 536870912) (hcells : cells + 1 ≤ R.cells) (hslots : slots + N' ≤ R.slots) (hdg : decode cc pc = .ok (.newarray .byte, 2)) (kk : ∀ (q : Nat) (H : Heap), Hc D cs A s (ws ++ [(q, .inl (cs 4, N', .inl (fun _ => 0)))]) H locs → W p l e R s m args below meth c H locs (cells + 1) (slots + N') Q (F0 m (pc + 2) ls (.ref q :: rest))) : W p l e R s m args below meth c H locs cells slots Q (F0 m pc ls (.int n :: rest)) := n_newa (atype := .byte) (ty := .byte) 4 S h kac_byte rfl rfl (fun c1 c2 h1 h2 => Option.some.inj (h1.symm.trans h2)) (fun cA => rfl) hn hN (by show N' * 1 ≤ _; omega) hcells hslots hdg kk
theorem n_newC (S : CallFix p m c cc nL s args BG own) (h : Hc D cs A s ws H locs) {n : Int32} (N' : Nat) (hn : ¬ n < 0) (hN : n.toNatClampNeg = N') (hb : N' * 4 ≤ 536870912) (hcells : cells + 1 ≤ R.cells) (hslots : slots + N' ≤ R.slots) (hdg : decode cc pc = .ok (.newarray .char, 2)) (kk : ∀ (q : Nat) (H : Heap), Hc D cs A s (ws ++ [(q, .inl (cs 5, N', .inl (fun _ => 0)))]) H locs → W p l e R s m args below meth c H locs (cells + 1) (slots + N') Q (F0 m (pc + 2) ls (.ref q :: rest))) : W p l e R s m args below meth c H locs cells slots Q (F0 m pc ls (.int n :: rest)) := n_newa (atype := .char) (ty := .char) 5 S h kac_char rfl rfl (fun c1 c2 h1 h2 => Option.some.inj (h1.symm.trans h2)) (fun cA => rfl) hn hN (by show N' * 2 ≤ _; omega) hcells hslots hdg kk
theorem n_newJ (S : CallFix p m c cc nL s args BG own) (h : Hc D cs A s ws H locs) {n : Int32} (N' : Nat) (hn : ¬ n < 0) (hN : n.toNatClampNeg = N') (hb : N' * 8 ≤ 536870912) (hcells : cells + 1 ≤ R.cells) (hslots : slots + N' ≤ R.slots) (hdg : decode cc pc = .ok (.newarray .long, 2)) (kk : ∀ (q : Nat) (H : Heap), Hc D cs A s (ws ++ [(q, .inl (cs 1, N', .inr (.inl (fun _ => 0))))]) H locs → W p l e R s m args below meth c H locs (cells + 1) (slots + N') Q (F0 m (pc + 2) ls (.ref q :: rest))) : W p l e R s m args below meth c H locs cells slots Q (F0 m pc ls (.int n :: rest)) := n_newa (atype := .long) (ty := .long) 1 S h kac_long rfl rfl (fun c1 c2 h1 h2 => Option.some.inj (h1.symm.trans h2)) (fun cA => rfl) hn hN hb hcells hslots hdg kk
theorem n_mna (S : CallFix p m c cc nL s args BG own) (h : Hc D cs A s ws H locs) (hcl : Cond.classLink own index ("[" ++ (FieldType.array .int).toString) ∈ BG) {n k : Int32} (N' K' : Nat) (hn : ¬ n < 0) (hk : ¬ k < 0) (hN : n.toNatClampNeg = N') (hM : k.toNatClampNeg = K') (hb1 : N' * 4 ≤ 536870912) (hb2 : K' * 4 ≤ 536870912) (hcells : cells + (1 + N') ≤ R.cells) (hslots : slots + (N' + N' * K') ≤ R.slots) (hdg : decode cc pc = .ok (.multianewarray index 2, 4)) (kk : ∀ (q : Nat) (r : Nat → Nat) (H : Heap), Hc D cs A s ((ws ++ [(q, .inl (cs 3, N', .inr (.inr (.inr (.inr (fun i => some (r i)))))))]) ++ (List.range N').map (fun i => (r i, .inl (cs 0, K', .inl (fun _ => 0))))) H locs → W p l e R s m args below meth c H locs (cells + 1 + N') (slots + N' + N' * K') Q (F0 m (pc + 4) ls (.ref q :: rest))) : W p l e R s m args below meth c H locs cells slots Q (F0 m pc ls (.int k :: .int n :: rest)) := by
  have hcy : s.vm.findClass (FieldType.array .int).toString = some (cs 0) := (h.2.2.2.1.2 0 (cs 0, .int) rfl).2
  refine va_mna (X := ws) (L := []) (f := fun _ => .inr (0, [])) (z := (K', .inl (fun _ => 0))) S.1 S.2.1 S.2.2.2.1 (S.2.2.2.2 _ hcl) h.2.2.2.2.2 (S.2.2.2.2 _ kac_int) hcy h.2.2.2.1 (by simpa [va_pl] using h.1) (by simpa [va_pl] using h.2.1) h.2.2.1 h.2.2.2.2.1 hn hk hN hM hb1 hb2 (by omega) rfl rfl hcells hslots (fun c => ?_) hdg (fun q r cA H1 hinj hnin hK hP hD hS => ?_)
  · exact arrV_new c K' (.int 0)
  have e : cA = cs 3 := Option.some.inj (((hK.2 6 (cA, .array .int) rfl).2).symm.trans (h.2.2.2.1.2 3 (cs 3, .array .int) rfl).2)
  subst e
  have hrow : va_pl ([] ++ (List.range N').map r) (vr_up (fun _ => .inr (0, [])) ((List.range N').map r) (.inl (cs 0, K', .inl (fun _ => 0)))) = (List.range N').map (fun i => (r i, .inl (cs 0, K', .inl (fun _ => 0)))) := by
    unfold va_pl
    rw [List.nil_append, List.map_map]
    apply List.map_congr_left
    intro i hi
    show (r i, _) = (r i, _)
    rw [vr_up_in (List.mem_map_of_mem hi)]
  rw [hrow] at hP hD
  refine kk q r H1 ⟨P_mem.mpr (fun x hx => ?_), D_map hD (by simp), hS, h.2.2.2⟩
  have hm := P_mem.mp hP
  rcases List.mem_append.mp hx with hx | hx
  · rcases List.mem_append.mp hx with hx | hx
    · exact hm x (List.mem_append_left _ (List.mem_append_left _ hx))
    · have hq := hm _ (List.mem_append_left _ (List.mem_append_right _ (List.mem_singleton.mpr rfl)))
      rw [List.mem_singleton.mp hx]
      show H1[q]? = some (vp_cell (cs 3) _)
      rw [← outer_eq]
      exact hq
  · exact hm x (List.mem_append_right _ hx)
theorem n_fill (S : CallFix p m c cc nL s args BG own) (h : Hc D cs A s ws H locs) (q0 : Nat) {b n : Nat} {f : Nat → Int32} (he : ws[q0]? = some (b, .inl (cs 0, n, .inl f))) (hn : n < 2 ^ 31) {v : Int32} (hT : TS own index yJ7_fill_53178 cJ7_fill_53178 4 none 2) (hR : 0 + 1 ≤ R.frames ∧ 8 + (4 + 11) + 0 ≤ R.locals) (hsize : ls.size = nL) (hcat : (rest.map fun v => v.category).sum ≤ 8) (hf : cells ≤ R.cells ∧ slots ≤ R.slots) (hdg : decode cc pc = .ok (.invokestatic index, 3)) (kk : ∀ (H : Heap) (locs : List Loc), Hc D cs A s (ws.set q0 (b, .inl (cs 0, n, .inl (flI f n v)))) H locs → W p l e R s m args below meth c H locs cells slots Q (F0 m (pc + 3) ls rest)) : W p l e R s m args below meth c H locs cells slots Q (F0 m pc ls (.int v :: .ref b :: rest)) := by
  have hok : Wok ((D, fun σ => [(b, .inl (cs 0, n, .inl (σ.2.1 0)))], tyl cs, fun _ => True, [b]) : Wl) := ⟨fun _ _ _ _ _ => trivial, fun _ _ _ _ _ => trivial⟩
  have hM := tfillI (l := l) hok (σ := ((fun _ => 0), (fun _ => f), fun _ _ => 0)) (b := b) (cA := cs 0) (n := n) 0 (fun f => rfl) (fun f g => rfl) rfl hn (v := v)
  have hAb : A b := h.2.1.2 q0 _ he
  refine va_callv (va_runS (g := F0 m pc ls (.int v :: .ref b :: rest)) (As := [.ref b, .int v]) (rest := rest) S hM (TS.cw S hT hR) ⟨Bw.blind hok _, fun U hU hW => ⟨rfl, ?_, ?_, va_K.moved hW.alike h.2.2.2.1, trivial⟩⟩ rfl rfl hsize rfl (lv_room hcat) hdg hf) h.2.2.1 (fun q _ hq => by rw [List.mem_singleton.mp hq]; exact hAb) (fun q hq => by rw [List.mem_singleton.mp hq]; exact hAb) (fun u t H1 locs1 ht hvm hp hB hz hk hS => ?_)
  · refine P_mem.mpr (fun x hx => ?_)
    rw [List.mem_singleton.mp hx, hU]
    exact h.1 q0 _ he
  · refine ⟨fun i j x y hi hj _ => ?_, fun k q hq => ?_⟩
    · have h1 := (List.getElem?_eq_some_iff.mp hi).1
      have h2 := (List.getElem?_eq_some_iff.mp hj).1
      simp at h1 h2
      omega
    · have := List.mem_of_getElem? hq
      rw [List.mem_singleton.mp this]
      exact List.mem_singleton.mpr rfl
  subst hp
  have hl := (List.getElem?_eq_some_iff.mp he).1
  have hcell := hB.1 0 _ rfl
  rw [ht] at hcell
  refine kk H1 locs1 ⟨fun k x hx => ?_, h.2.1.set he, hS, h.2.2.2⟩
  by_cases hkq : k = q0
  · subst hkq
    rw [List.getElem?_set_self hl] at hx
    cases hx
    exact hcell
  · rw [List.getElem?_set_ne (Ne.symm hkq)] at hx
    exact (h.1 k x hx).kept (hk x.1 (h.1 k x hx).lt (fun z => hkq (h.2.1.1 k q0 x _ hx he (List.mem_singleton.mp z))))
theorem n_new {C : String} {T : u_T} {N ci : Nat} (S : CallFix p m c cc nL s args BG own) (h : Hc D cs A s ws H locs) (hin : ∀ x ∈ u_ws C T N, x ∈ BG) (ty : Nat → FieldType) (hty : ∀ k, k < N → parseFieldDescriptor (T k).2.2.1 = some (ty k)) (hcl : Cond.classLink own index C ∈ BG) (hinst : Cond.instantiable C N ∈ BG) (hini : Cond.initialized C ∈ BG) (hc : vwCl[ci]? = some (C, T, N)) {fs : List Value} (hfs : ∀ j, j < N → defaultValue (ty j) = vp_V fs j) (hcells : cells + 1 ≤ R.cells) (hslots : slots + N ≤ R.slots) (hdg : decode cc pc = .ok (.new index, 3)) (kk : ∀ (q : Nat) (H : Heap), Hc D cs A s (ws ++ [(q, .inr (ci, fs))]) H locs → W p l e R s m args below meth c H locs (cells + 1) (slots + N) Q (F0 m (pc + 3) ls (.ref q :: rest))) : W p l e R s m args below meth c H locs cells slots Q (F0 m pc ls rest) :=
  va_new S.1 S.2.1 S.2.2.2.2 hin ty hty S.2.2.2.1 (S.2.2.2.2 _ hcl) (S.2.2.2.2 _ hinst) (S.2.2.2.2 _ hini) h.2.2.2.1 h.1 h.2.1 h.2.2.1 h.2.2.2.2.1 hc hfs hcells hslots hdg (fun q H1 hP hD hS => kk q H1 ⟨hP, hD, hS, h.2.2.2⟩)
variable {y : MethodName} {bytes : ByteArray} {maxL n fr mc ms lc : Nat} {As : List Value} {W0 : va_W} {e0 : Nat × va_E} {post : va_W → Prop}
/-- what comes back of a constructor -/
theorem Hc.back {t : State} {H1 : Heap} {locs1 : List Loc} {u : va_W} (h : Hc D cs A s (W0 ++ [e0]) H locs) (ht : t.heap = H1) (hB : va_P D vwCl u t.heap ∧ va_D (va_A [e0] H.size) u) (hk : ∀ q : Nat, q < H.size → ¬ va_A [e0] H.size q → H1[q]? = H[q]?) (hS : va_S A s.heap H1 locs1) : Hc D cs A s (W0 ++ u) H1 locs1 := by
  have hlast : (W0 ++ [e0])[W0.length]? = some e0 := by simp
  have hA0 : ∀ q, va_A [e0] H.size q → A q := by
    intro q hq
    rcases hq with ⟨k, e, hke⟩ | hq
    · have := List.mem_singleton.mp (List.mem_of_getElem? hke)
      have h1 := h.2.1.2 _ _ hlast
      rw [← this] at h1
      exact h1
    · exact h.2.2.2.2.1 q (Nat.le_trans h.2.2.1.1 hq)
  have hx : ∀ (k : Nat) (x : Nat × va_E), W0[k]? = some x → (W0 ++ [e0])[k]? = some x := fun k x hx => by rw [List.getElem?_append_left (List.getElem?_eq_some_iff.mp hx).1]; exact hx
  have hn : ∀ (k : Nat) (x : Nat × va_E), W0[k]? = some x → x.1 < H.size ∧ ¬ va_A [e0] H.size x.1 := by
    intro k x hk0
    have hlt := (h.1 k x (hx k x hk0)).lt
    refine ⟨hlt, fun hq => ?_⟩
    rcases hq with ⟨k', e, hke⟩ | hq
    · have h2 := List.mem_singleton.mp (List.mem_of_getElem? hke)
      have h3 := h.2.1.1 k W0.length x e0 (hx k x hk0) hlast (by rw [← h2])
      have h4 := (List.getElem?_eq_some_iff.mp hk0).1
      omega
    · omega
  refine ⟨va_P.app (fun k x hk0 => ?_) (ht ▸ hB.1), va_D.app ⟨fun i j x y hi hj hxy => h.2.1.1 i j x y (hx i x hi) (hx j y hj) hxy, fun k x hk0 => h.2.1.2 k x (hx k x hk0)⟩ (hB.2.weaken (fun k x _ hq => hA0 x.1 hq)) (fun i j x y hi hj hxy => ?_), hS, h.2.2.2⟩
  · exact (h.1 k x (hx k x hk0)).kept (hk x.1 (hn k x hk0).1 (hn k x hk0).2)
  · exact (hn i x hi).2 (by rw [hxy]; exact hB.2.2 j y hj)
theorem Hc.pre (h : Hc D cs A s (W0 ++ [e0]) H locs) : ∀ U : State, U.heap = H → s.WarmedH U.vm → U.heap.size = H.size ∧ va_P D vwCl [e0] U.heap ∧ va_K D vwCl (tyl cs) U ∧ va_D (fun _ => True) [e0] ∧ va_AOA .int U := by
  intro U hU hW
  refine ⟨by rw [hU], ?_, va_K.moved hW.alike h.2.2.2.1, ⟨fun i j x y hi hj _ => ?_, fun _ _ _ => trivial⟩, va_AOA.moved hW.alike h.2.2.2.2.2⟩
  · rw [hU]
    exact P_mem.mpr (fun x hx => P_mem.mp h.1 x (List.mem_append_right _ hx))
  · have h1 := (List.getElem?_eq_some_iff.mp hi).1
    have h2 := (List.getElem?_eq_some_iff.mp hj).1
    simp at h1 h2
    omega
theorem Hc.sub (h : Hc D cs A s (W0 ++ [e0]) H locs) : ∀ q, va_A [e0] H.size q → A q := by
  intro q hq
  rcases hq with ⟨k, e, hke⟩ | hq
  · have := List.mem_singleton.mp (List.mem_of_getElem? hke)
    have h1 := h.2.1.2 W0.length e0 (by simp)
    rw [← this] at h1
    exact h1
  · exact h.2.2.2.2.1 q (Nat.le_trans h.2.2.1.1 hq)
theorem CC.blind {sz : Nat} : FrameBlind (va_Pc As (fun U => U.heap.size = sz ∧ va_P D vwCl [e0] U.heap ∧ va_K D vwCl (tyl cs) U ∧ va_D (fun _ => True) [e0] ∧ va_AOA .int U)) := fun a U g mk q => ⟨q.1, q.2.1, q.2.2.1, va_K.moved (u := U) (U := U.calling g mk a) (Vm.Alike.refl U.vm) q.2.2.2.1, q.2.2.2.2.1, va_AOA.moved (u := U) (U := U.calling g mk a) (Vm.Alike.refl U.vm) q.2.2.2.2.2⟩
theorem n_callI (S : CallFix p m c cc nL s args BG own) (h : Hc D cs A s (W0 ++ [e0]) H locs) (hM : CC l D cs y bytes maxL fr mc ms lc (.ref e0.1 :: As) e0 post) (hcode : Cond.code y bytes maxL none ∈ BG) (hini : Cond.initialized y.cls ∈ BG) (hl : Cond.methodLink own index y ∈ BG) (hin : Cond.instanceMethod y ∈ BG) (hyn : y.name = "<init>") (hd : y.cls ≠ "java/lang/invoke/MethodHandle" ∧ y.cls ≠ "java/lang/invoke/VarHandle" ∧ (parseMethodDescriptor y.desc).map (fun d => d.parameters.length) = some n) (hR : fr + 1 ≤ R.frames ∧ 8 + (maxL + 11) + lc ≤ R.locals) {st : List Value} (hn : As.length = n) (hsize : ls.size = nL) (hstack : st = As.reverse ++ .ref e0.1 :: rest) (hcat : (rest.map fun v => v.category).sum ≤ 8) (hf : cells + mc ≤ R.cells ∧ slots + ms ≤ R.slots) (hdg : decode cc pc = .ok (.invokespecial index, 3)) (kk : ∀ (u : va_W) (H : Heap) (locs : List Loc), post u → Hc D cs A s (W0 ++ u) H locs → W p l e R s m args below meth c H locs (cells + mc) (slots + ms) Q (F0 m (pc + 3) ls rest)) : W p l e R s m args below meth c H locs cells slots Q (F0 m pc ls st) :=
  va_callv (va_runI (g := F0 m pc ls st) (As := As) (rest := rest) S (hM H.size) ⟨callB_of n S.2.2.2.2 (BG_cons hcode) rfl rfl rfl (S.2.2.2.2 _ hini) (S.2.2.2.2 _ hl) hd hR, hyn, S.2.2.2.2 _ hin⟩ ⟨CC.blind, fun U hU hW => ⟨rfl, Hc.pre h U hU hW⟩⟩ rfl hn hsize hstack (lv_room hcat) hdg hf) h.2.2.1 (fun q _ hq => Hc.sub h q hq) (fun q hq => Hc.sub h q hq) (fun u t H1 locs1 ht hvm hp hB hz hk hS => kk u H1 locs1 hp (Hc.back h ht hB hk hS))
theorem n_callIN (S : CallFix p m c cc nL s args BG own) (h : Hc D cs A s (W0 ++ [e0]) H locs) (hM : CC l D cs y bytes maxL fr mc ms lc (.ref e0.1 :: As) e0 post) (hcode : Cond.code y bytes maxL none ∈ BG) (hini : Cond.initialized y.cls ∈ BG) {host : String} (hl : va_Nw (.methodLinkNest own index y host) s) (hin : Cond.instanceMethod y ∈ BG) (hyn : y.name = "<init>") (hd : y.cls ≠ "java/lang/invoke/MethodHandle" ∧ y.cls ≠ "java/lang/invoke/VarHandle" ∧ (parseMethodDescriptor y.desc).map (fun d => d.parameters.length) = some n) (hR : fr + 1 ≤ R.frames ∧ 8 + (maxL + 11) + lc ≤ R.locals) {st : List Value} (hn : As.length = n) (hsize : ls.size = nL) (hstack : st = As.reverse ++ .ref e0.1 :: rest) (hcat : (rest.map fun v => v.category).sum ≤ 8) (hf : cells + mc ≤ R.cells ∧ slots + ms ≤ R.slots) (hdg : decode cc pc = .ok (.invokespecial index, 3)) (kk : ∀ (u : va_W) (H : Heap) (locs : List Loc), post u → Hc D cs A s (W0 ++ u) H locs → W p l e R s m args below meth c H locs (cells + mc) (slots + ms) Q (F0 m (pc + 3) ls rest)) : W p l e R s m args below meth c H locs cells slots Q (F0 m pc ls st) :=
  va_callv (va_runIN (g := F0 m pc ls st) (As := As) (rest := rest) S (hM H.size) ⟨va_cnB n S.2.2.2.2 (BG_cons hcode) rfl rfl rfl hl (S.2.2.2.2 _ hini) hd hR, hyn, S.2.2.2.2 _ hin⟩ ⟨CC.blind, fun U hU hW => ⟨rfl, Hc.pre h U hU hW⟩⟩ rfl hn hsize hstack (lv_room hcat) hdg hf) h.2.2.1 (fun q _ hq => Hc.sub h q hq) (fun q hq => Hc.sub h q hq) (fun u t H1 locs1 ht hvm hp hB hz hk hS => kk u H1 locs1 hp (Hc.back h ht hB hk hS))
end CTOR2
