/-! CONSTRUCTORS: a world that grows -/
theorem P_mem {D : va_G} {cl : List vw_C} {ws : va_W} {H : Heap} : va_P D cl ws H ↔ ∀ x ∈ ws, va_at D cl x H := ⟨fun h x hx => by obtain ⟨i, hi⟩ := List.getElem?_of_mem hx; exact h i x hi, fun h k q hq => h q (List.mem_of_getElem? hq)⟩
theorem D_map {A : Nat → Prop} {w1 w2 : va_W} (h : va_D A w1) (e : w1.map Prod.fst = w2.map Prod.fst) : va_D A w2 := by
  have key : ∀ (i : Nat) (p : Nat × va_E), w2[i]? = some p → ∃ p', w1[i]? = some p' ∧ p'.1 = p.1 := by
    intro i p hp
    have h1 : (w2.map Prod.fst)[i]? = some p.1 := by rw [List.getElem?_map, hp]; rfl
    rw [← e, List.getElem?_map] at h1
    cases hw : w1[i]? with
    | none => rw [hw] at h1; cases h1
    | some p' => rw [hw] at h1; exact ⟨p', rfl, Option.some.inj h1⟩
  refine ⟨fun i j p q hp hq hpq => ?_, fun k q hq => ?_⟩
  · obtain ⟨p', h1, h2⟩ := key i p hp
    obtain ⟨q', h3, h4⟩ := key j q hq
    exact h.1 i j p' q' h1 h3 (h2.trans (hpq.trans h4.symm))
  · obtain ⟨q', h1, h2⟩ := key k q hq
    rw [← h2]; exact h.2 k q' h1
def Hc (D : va_G) (cs : Nat → ClassId) (A : Nat → Prop) (s : State) (ws : va_W) (H : Heap) (locs : List Loc) : Prop := va_P D vwCl ws H ∧ va_D A ws ∧ va_S A s.heap H locs ∧ va_K D vwCl (tyl cs) s ∧ (∀ q : Nat, s.heap.size ≤ q → A q) ∧ va_AOA .int s
/-- what a constructor owes: from its own cell e0, fresh, to the cells ws with 'post ws' -/
def CC (l : Launch) (D : va_G) (cs : Nat → ClassId) (y : MethodName) (bytes : ByteArray) (maxL fr mc ms lc : Nat) (As : List Value) (e0 : Nat × va_E) (post : va_W → Prop) : Prop := ∀ sz : Nat, Met l y (Cond.code y bytes maxL none :: BG) { frames := fr, cells := mc, slots := ms, locals := lc } (va_Pc As (fun U => U.heap.size = sz ∧ va_P D vwCl [e0] U.heap ∧ va_K D vwCl (tyl cs) U ∧ va_D (fun _ => True) [e0] ∧ va_AOA .int U)) (va_Qv post (fun ws t => va_P D vwCl ws t.heap ∧ va_D (va_A [e0] sz) ws) (va_A [e0] sz)) mc ms (va_A [e0] sz)
abbrev RC (fr mc ms lc : Nat) : Room := { frames := fr, cells := mc, slots := ms, locals := lc }
abbrev QC (below : List Frame) (D : va_G) (e0 : Nat × va_E) (post : va_W → Prop) (av : Array Value) (s : State) (mc ms : Nat) : State → Prop := MQ below (va_Qv post (fun ws t => va_P D vwCl ws t.heap ∧ va_D (va_A [e0] s.heap.size) ws) (va_A [e0] s.heap.size)) av s mc ms (va_A [e0] s.heap.size)
theorem CC.of {l : Launch} {D : va_G} {cs : Nat → ClassId} {y : MethodName} {bytes : ByteArray} {maxL fr mc ms lc : Nat} {As : List Value} {e0 : Nat × va_E} {post : va_W → Prop} (hy : plainName y.cls = true) (hyn : y.name = "<init>") (hlen : (lg_sl As).length ≤ maxL)
    (body : ∀ (p : Program) (e : Env) (s : State) (m : MethodId) (below : List Frame) (meth : Method) (c : Code) (ls : Array Slot), CallFix p m c bytes maxL s As.toArray BG y.cls → meth.sig.returnType = none → meth.locks = false → meth.name = "<init>" → Hc D cs (va_A [e0] s.heap.size) s [e0] s.heap [] → lv_has ls maxL (lv_args 0 As) → W p l e (RC fr mc ms lc) s m As.toArray below meth c s.heap [] 0 0 (QC below D e0 post As.toArray s mc ms) (F0 m 0 ls [])) : CC l D cs y bytes maxL fr mc ms lc As e0 post := by
  intro sz
  refine Met.ofW (cc := bytes) (maxL := maxL) (ret := none) hy rfl ?_
  intro p e s m args below meth c s₁ B hml hv
  obtain ⟨rfl, hsz, hP, hK, hD0, hO⟩ := hv
  have hl := lv_entry As hlen
  rw [lg_entry_eq]
  subst hsz
  exact body p e s m below meth c _ ⟨B.exec, B.bytes, hml, findClass_of_methodNamed B.named, fun w hw => atoms_spec B.pre w (List.mem_cons_of_mem _ hw)⟩ B.returns B.notSynchronized (((name_of_methodNamed B.named B.method).1).trans hyn) ⟨hP, hD0.self (sz := s.heap.size), va_S.rf, hK, fun q h => Or.inr h, hO⟩ hl
section CTOR
variable {p : Program} {l : Launch} {e : Env} {R : Room} {s : State} {m : MethodId} {args : Array Value} {below : List Frame} {meth : Method} {c : Code} {H : Heap} {locs : List Loc} {cells slots : Nat} {Q : State → Prop}
variable {cc : ByteArray} {nL pc index : Nat} {own : String} {ls : Array Slot} {rest : List Value} {D : va_G} {cs : Nat → ClassId} {A : Nat → Prop} {ws : va_W} {a : Nat}
theorem n_newa {atype : ArrayType} {ty : FieldType} (t0 : Nat) (S : CallFix p m c cc nL s args BG own) (h : Hc D cs A s ws H locs) (hac : Cond.arrayClass (newarray.typeOf atype) ∈ BG) (hty : newarray.typeOf atype = ty) (ht : (tyl cs)[t0]? = some (cs t0, ty)) (hRA : ∀ c1 c2, va_RA s c1 ty → va_RA s c2 ty → c1 = c2) {n : Int32} {N' : Nat} {a0 : vp_A} (ha : ∀ cA : ClassId, vp_cell cA a0 = arrV cA N' (fun _ => defaultValue ty)) (hn : ¬ n < 0) (hN : n.toNatClampNeg = N') (hb : N' * componentBytes ty ≤ 536870912) (hcells : cells + 1 ≤ R.cells) (hslots : slots + N' ≤ R.slots) (hdg : decode cc pc = .ok (.newarray atype, 2))
    (kk : ∀ (q : Nat) (H : Heap), Hc D cs A s (ws ++ [(q, .inl (cs t0, a0))]) H locs → W p l e R s m args below meth c H locs (cells + 1) (slots + N') Q (F0 m (pc + 2) ls (.ref q :: rest))) : W p l e R s m args below meth c H locs cells slots Q (F0 m pc ls (.int n :: rest)) := by
  refine va_newa S.1 S.2.1 (S.2.2.2.2 _ hac) hty h.2.2.2.1 h.1 h.2.1 h.2.2.1 h.2.2.2.2.1 ha hn hN hb hcells hslots hdg (fun q cA H1 hK hP hD hS => ?_)
  have e : cA = cs t0 := hRA cA (cs t0) (hK.2 6 (cA, ty) rfl).2 (h.2.2.2.1.2 t0 _ ht).2
  subst e
  exact kk q H1 ⟨hP, hD, hS, h.2.2.2⟩
theorem n_put {ref C : String} {T : u_T} {N ci : Nat} (S : CallFix p m c cc nL s args BG own) (h : Hc D cs A s ws H locs) (hin : ∀ x ∈ u_ws C T N, x ∈ BG) (ty0 : Nat → FieldType) (hty : ∀ k, k < N → parseFieldDescriptor (T k).2.2.1 = some (ty0 k)) (hnm : ∀ a, a < N → ∀ b, b < N → a ≠ b → (T a).2.1 ≠ (T b).2.1) (q0 : Nat) {fs : List Value} (he : ws[q0]? = some (a, .inr (ci, fs))) (hc : vwCl[ci]? = some (C, T, N)) (k : Nat) (hk : k < N) (hr : (T k).1 = ref) (hfin : (T k).2.2.2 = false) {ty : FieldType} {v : Value} (hd : parseFieldDescriptor (T k).2.2.1 = some ty) (hn : narrow ty v = v) (hfit : fits ty v = true) (hl : k < fs.length) (hlink : Cond.fieldLink own index ref (T k).2.1 (T k).2.2.1 ∈ BG) (hdg : decode cc pc = .ok (.putfield index, 3)) (kk : ∀ (H : Heap) (locs : List Loc), Hc D cs A s (ws.set q0 (a, .inr (ci, fs.set k v))) H locs → W p l e R s m args below meth c H locs cells slots Q (F0 m (pc + 3) ls rest)) : W p l e R s m args below meth c H locs cells slots Q (F0 m pc ls (v :: .ref a :: rest)) :=
  va_put S.1 S.2.1 S.2.2.2.2 hin ty0 hty hnm S.2.2.2.1 h.2.2.2.1 h.1 h.2.1 h.2.2.1 q0 he hc k hk (S.2.2.2.2 _ hlink) (fun _ h => by rw [← hr]; exact h) hfin hd hn hfit hl hdg (fun H1 locs1 hP hD hS => kk H1 locs1 ⟨hP, hD, hS, h.2.2.2⟩)
theorem n_putF {ref C : String} {T : u_T} {N ci : Nat} (S : CallFix p m c cc nL s args BG own) (hi : meth.name = "<init>") (h : Hc D cs A s ws H locs) (hin : ∀ x ∈ u_ws C T N, x ∈ BG) (ty0 : Nat → FieldType) (hty : ∀ k, k < N → parseFieldDescriptor (T k).2.2.1 = some (ty0 k)) (hnm : ∀ a, a < N → ∀ b, b < N → a ≠ b → (T a).2.1 ≠ (T b).2.1) (q0 : Nat) {fs : List Value} (he : ws[q0]? = some (a, .inr (ci, fs))) (hc : vwCl[ci]? = some (C, T, N)) (k : Nat) (hk : k < N) (hr : (T k).1 = ref) (ho : (T k).1 = own) (hfin : (T k).2.2.2 = true) {ty : FieldType} {v : Value} (hd : parseFieldDescriptor (T k).2.2.1 = some ty) (hn : narrow ty v = v) (hfit : fits ty v = true) (hl : k < fs.length) (hlink : Cond.fieldLink own index ref (T k).2.1 (T k).2.2.1 ∈ BG) (hdg : decode cc pc = .ok (.putfield index, 3)) (kk : ∀ (H : Heap) (locs : List Loc), Hc D cs A s (ws.set q0 (a, .inr (ci, fs.set k v))) H locs → W p l e R s m args below meth c H locs cells slots Q (F0 m (pc + 3) ls rest)) : W p l e R s m args below meth c H locs cells slots Q (F0 m pc ls (v :: .ref a :: rest)) :=
  va_putF S.1 S.2.1 S.2.2.2.2 hin ty0 hty hnm S.2.2.2.1 h.2.2.2.1 h.1 h.2.1 h.2.2.1 q0 he hc k hk (S.2.2.2.2 _ hlink) (fun _ h => by rw [← hr]; exact h) hfin hi ho hd hn hfit hl hdg (fun H1 locs1 hP hD hS => kk H1 locs1 ⟨hP, hD, hS, h.2.2.2⟩)
theorem n_get {ref C : String} {T : u_T} {N ci : Nat} (S : CallFix p m c cc nL s args BG own) (h : Hc D cs A s ws H locs) (hin : ∀ x ∈ u_ws C T N, x ∈ BG) (q0 : Nat) {fs : List Value} (he : ws[q0]? = some (a, .inr (ci, fs))) (hc : vwCl[ci]? = some (C, T, N)) (k : Nat) (hk : k < N) (hr : (T k).1 = ref) {v : Value} (hv : fs[k]? = some v) (hlink : Cond.fieldLink own index ref (T k).2.1 (T k).2.2.1 ∈ BG) (hdg : decode cc pc = .ok (.getfield index, 3)) (kk : W p l e R s m args below meth c H locs cells slots Q (F0 m (pc + 3) ls (v :: rest))) : W p l e R s m args below meth c H locs cells slots Q (F0 m pc ls (.ref a :: rest)) :=
  va_get S.1 S.2.1 S.2.2.2.2 hin S.2.2.2.1 h.2.2.2.1 h.1 q0 he hc k hk (S.2.2.2.2 _ hlink) (fun _ h => by rw [← hr]; exact h) hv hdg kk
theorem n_iast (S : CallFix p m c cc nL s args BG own) (h : Hc D cs A s ws H locs) (q0 : Nat) {n : Nat} {f : Nat → Int32} (ha : ws[q0]? = some (a, .inl (cs 0, n, .inl f))) {i x : Int32} (hin : vp_in i n) (hdg : decode cc pc = .ok (.iastore, 1)) (kk : ∀ (H : Heap) (locs : List Loc), Hc D cs A s (ws.set q0 (a, .inl (cs 0, n, .inl (upd f i.toNatClampNeg x)))) H locs → W p l e R s m args below meth c H locs cells slots Q (F0 m (pc + 1) ls rest)) : W p l e R s m args below meth c H locs cells slots Q (F0 m pc ls (.int x :: .int i :: .ref a :: rest)) :=
  va_iast S.1 S.2.1 h.2.2.2.1 h.1 h.2.1 h.2.2.1 q0 0 ha rfl hin hdg (fun H1 locs1 hP hD hS => kk H1 locs1 ⟨hP, hD, hS, h.2.2.2⟩)
theorem n_cast (S : CallFix p m c cc nL s args BG own) (h : Hc D cs A s ws H locs) (q0 : Nat) {n : Nat} {f : Nat → Int32} (ha : ws[q0]? = some (a, .inl (cs 5, n, .inl f))) {i x : Int32} (hin : vp_in i n) (hdg : decode cc pc = .ok (.castore, 1)) (kk : ∀ (H : Heap) (locs : List Loc), Hc D cs A s (ws.set q0 (a, .inl (cs 5, n, .inl (upd f i.toNatClampNeg (vp_nar .char x))))) H locs → W p l e R s m args below meth c H locs cells slots Q (F0 m (pc + 1) ls rest)) : W p l e R s m args below meth c H locs cells slots Q (F0 m pc ls (.int x :: .int i :: .ref a :: rest)) :=
  va_cast S.1 S.2.1 h.2.2.2.1 h.1 h.2.1 h.2.2.1 q0 5 ha rfl hin hdg (fun H1 locs1 hP hD hS => kk H1 locs1 ⟨hP, hD, hS, h.2.2.2⟩)
theorem n_aald (S : CallFix p m c cc nL s args BG own) (h : Hc D cs A s ws H locs) (q0 : Nat) {n : Nat} {f : Nat → Nat} (ha : ws[q0]? = some (a, .inl (cs 3, n, .inr (.inr (.inr (.inr (fun i => some (f i)))))))) {i : Int32} (hin : vp_in i n) (hdg : decode cc pc = .ok (.aaload, 1)) (kk : W p l e R s m args below meth c H locs cells slots Q (F0 m (pc + 1) ls (.ref (f i.toNatClampNeg) :: rest))) : W p l e R s m args below meth c H locs cells slots Q (F0 m pc ls (.int i :: .ref a :: rest)) := by
  have hlt : i.toNatClampNeg < n := Nat.not_le.mp fun q => hin (Or.inr q)
  exact W.aald (v := .ref (f i.toNatClampNeg)) (ty := .array .int) S.1 S.2.1 (h.1 q0 _ ha) ((h.2.2.2.1.2 3 (cs 3, .array .int) rfl).1 n (fun j => va_rf (some (f j)))) rfl (fun q => by cases q) (by show ¬ (i < 0 ∨ (arrV _ _ _).slots.size ≤ _); rw [arrV_size]; exact hin) (by show (arrV _ _ _).slots[_]? = _; rw [arrV_read _ _ hlt]; rfl) rfl rfl hdg kk
theorem koi_i : Cond.instanceMethod Lib.objectInit ∈ BG := BG_tb (i := 28) (by decide +kernel) rfl
theorem koi_c : Cond.code Lib.objectInit ⟨#[0xb1]⟩ 1 none ∈ BG := BG_tb (i := 29) (by decide +kernel) rfl
theorem n_obj (S : CallFix p m c cc nL s args BG own) (hsz : ls.size = nL) (hlink : Cond.methodLink own index Lib.objectInit ∈ BG) (hfr : 1 ≤ R.frames) (hlo : 12 ≤ R.locals) (hdg : decode cc pc = .ok (.invokespecial index, 3)) (kk : W p l e R s m args below meth c H locs cells slots Q (F0 m (pc + 3) ls [])) : W p l e R s m args below meth c H locs cells slots Q (F0 m pc ls [.ref a]) := by
  refine W.objInit S.1 S.2.1 S.2.2.2.1 (S.2.2.2.2 _ hlink) (S.2.2.2.2 _ koi_i) (S.2.2.2.2 _ koi_c) rfl (hsz.trans S.2.2.1.symm) rfl hdg hfr hlo ?_
  exact kk
theorem n_end (S : CallFix p m c cc nL s args BG own) {e0 : Nat × va_E} {post : va_W → Prop} (hr : meth.sig.returnType = none) (hlk : meth.locks = false) (h : Hc D cs (va_A [e0] s.heap.size) s ws H locs) (hp : post ws) (hdg : decode cc pc = .ok (.return_, 1)) : W p l e R s m args below meth c H locs cells slots (QC below D e0 post args s cells slots) (F0 m pc ls []) :=
  W.vret S.1 S.2.1 hr (fun t ht hW => ⟨⟨ws, rfl, hp, by rw [ht]; exact h.1, h.2.1⟩, h.2.2.1.F ht⟩) h.2.2.1.2.2 hdg hlk
end CTOR
