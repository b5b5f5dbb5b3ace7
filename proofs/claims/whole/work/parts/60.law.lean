/-! THE LAW's own rows (the skeleton's), and its loop over an invariant (printed by wip/whole/law60.py) -/
/-! THE CLAIM OUT OF ONE WALK OF THE LAW'S BODY. Your part is whole_start (and what it stands on); all else here is the same for every law, but numbers. -/
def R_law : String := "WayLeavesLaw"
def lw_P (b : Addr) (xs : List Int32) (args : Array Value) (s : State) : Prop := args = #[.ref b] ∧ s.IntsAt b xs ∧ xs.length ≤ 3072 ∧ (Jvm.Cond.and given_1 narrow_1).before args s = true
def lw_Q (_ : Array Value) (s : State) (o : Outcome) (t : State) : Prop := o = .returned (some (.int 1)) ∧ Framed s o t [] 600000 7302250
def lw_Z (below : List Frame) (a : Array Value) (s : State) : State → Prop := fun t => ∃ o, t.status = .running ∧ Ended t below o ∧ lw_Q a s o t
/-- the law's own end, with 1 on the stack, nothing written that was there before, its room as the claim has it -/
theorem lw_ret {p : Program} {l : Launch} {e : Env} {s : State} {m : MethodId} {below : List Frame} {meth : Method} {c : Code} {b : Nat} (hx : p.tables.exec = Jvm.exec) (hb : c.code = code) (hr : meth.sig.returnType = ret) (hlocks : meth.locks = false) {pc : Nat} {H : Heap} {ls : Array Slot} (hdg : decode code pc = .ok (.ireturn, 1)) : W p l e room_1 s m #[Value.ref b] below meth c H [] 600000 7302250 (lw_Z below #[Value.ref b] s) (F0 m pc ls [.int 1]) := by
  intro T hT X
  obtain ⟨fs, hret, hrun, hended, hW, hframe⟩ := X.leave (v := some (.int 1)) (hlocks := hlocks) (fun h => by rw [hr] at h; cases h)
  have hmeth' : T.vm.method? m = some meth := X.method'
  refine ⟨T.setFrames fs, ?_, .returned (some (.int 1)), hrun, hended, rfl, ⟨_, rfl⟩, hW, hframe⟩
  jvm_step X.here [X.here.top, hx, hb, hdg, hmeth', hr, ret, narrow_b1]
  (try refine ⟨rfl, ?_⟩); (try refine ⟨rfl, ?_⟩)
  first | (intro acts; rw [hret _ acts rfl rfl rfl]) | rw [hret _ _ rfl rfl rfl]
  exact Steps.refl _
/-- what holds at the law's entry: the machine, the code, the tables' words (any of lw_tbl by 'hts w (by decide +kernel)'), the script of L ints xs at the cell b, what the Statement gives of the start (any of its parts by flat_of_before) -/
def lw_At (p : Program) (s : State) (m : MethodId) (meth : Method) (c : Code) (b L : Nat) (xs : Nat → Int32) : Prop :=
  p.tables.exec = Jvm.exec ∧ c.code = code ∧ meth.sig.returnType = ret ∧ c.maxLocals = 4 ∧ s.vm.findClass R_law = some m.cls ∧ (∀ w ∈ lw_tbl, w.before #[Value.ref b] s = true) ∧ va_X b L xs s s.heap ∧ b < s.heap.size ∧ meth.locks = false ∧ (Jvm.Cond.and given_1 narrow_1).before #[Value.ref b] s = true
def SP_pass (Inv : St → St → Prop) (N : Nat) : Prop := ∀ (σx σm : St) (a1 : Int32), Inv σx σm → ∃ (r : Int32) (σx' : St) (σm' : St), fX11_pass N σx a1 = some (r, σx') ∧ fX12_pass N σm a1 = some (r, σm') ∧ Inv σx' σm'
def SP_sell (Inv : St → St → Prop) (N : Nat) : Prop := ∀ (σx σm : St) (a1 : Int32) (a2 : Int32) (a3 : Int32), Inv σx σm → ∃ (r : Int32) (σx' : St) (σm' : St), fX11_sell N σx a1 a2 a3 = some (r, σx') ∧ fX12_sell N σm a1 a2 a3 = some (r, σm') ∧ Inv σx' σm'
def SP_owner (Inv : St → St → Prop) (N : Nat) : Prop := ∀ (σx σm : St) (a1 : Int32) (a2 : Int32), Inv σx σm → ∃ (r : Int32), fX11_owner N σx a1 a2 = some r ∧ fX12_owner N σm a1 a2 = some r ∧ Inv σx σm
def SP_heir (Inv : St → St → Prop) (N : Nat) : Prop := ∀ (σx σm : St) (a1 : Int32) (a2 : Int32) (a3 : Int32), Inv σx σm → ∃ (r : Int32) (σx' : St) (σm' : St), fX11_heir N σx a1 a2 a3 = some (r, σx') ∧ fX12_heir N σm a1 a2 a3 = some (r, σm') ∧ Inv σx' σm'
def SP_set (Inv : St → St → Prop) (N : Nat) : Prop := ∀ (σx σm : St) (a1 : Int32) (a2 : Int32) (a3 : Int32), Inv σx σm → ∃ (r : Int32) (σx' : St) (σm' : St), fX11_set N σx a1 a2 a3 = some (r, σx') ∧ fX12_set N σm a1 a2 a3 = some (r, σm') ∧ Inv σx' σm'
def SP_trees (Inv : St → St → Prop) (N : Nat) : Prop := ∀ (σx σm : St) (a1 : Int32) (a2 : Int32) (a3 : Int32), Inv σx σm → ∃ (r : Int32) (σx' : St) (σm' : St), fX11_trees N σx a1 a2 a3 = some (r, σx') ∧ fX12_trees N σm a1 a2 a3 = some (r, σm') ∧ Inv σx' σm'
def SP_high (Inv : St → St → Prop) (N : Nat) : Prop := ∀ (σx σm : St) (a1 : Int32), Inv σx σm → ∃ (r : Int32), fX11_high N σx a1 = some r ∧ fX12_high N σm a1 = some r ∧ Inv σx σm
def SP_tower (Inv : St → St → Prop) (N : Nat) : Prop := ∀ (σx σm : St) (a1 : Int32) (a2 : Int32), Inv σx σm → ∃ (r : Int32) (σx' : St) (σm' : St), fX11_tower N σx a1 a2 = some (r, σx') ∧ fX12_tower N σm a1 a2 = some (r, σm') ∧ Inv σx' σm'
def SP_span (Inv : St → St → Prop) (N : Nat) : Prop := ∀ (σx σm : St) (a1 : Int32) (a2 : Int32) (a3 : Int32) (a4 : Int32), Inv σx σm → ∃ (r : Int32) (σx' : St) (σm' : St), fX11_span N σx a1 a2 a3 a4 = some (r, σx') ∧ fX12_span N σm a1 a2 a3 a4 = some (r, σm') ∧ Inv σx' σm'
def SP_heat (Inv : St → St → Prop) (N : Nat) : Prop := ∀ (σx σm : St) (a1 : Int32) (a2 : Int32), Inv σx σm → ∃ (r : Int32) (σx' : St) (σm' : St), fX11_heat N σx a1 a2 = some (r, σx') ∧ fX12_heat N σm a1 a2 = some (r, σm') ∧ Inv σx' σm'
def SP_spanTold (Inv : St → St → Prop) (N : Nat) : Prop := ∀ (σx σm : St) (a1 : Int32) (a2 : Int32), Inv σx σm → ∃ (r : Int64) (σx' : St), fX11_spanTold N σx a1 a2 = some (r, σx') ∧ fX12_spanTold N σm a1 a2 = some r ∧ Inv σx' σm
def SP_leave (Inv : St → St → Prop) (N : Nat) : Prop := ∀ (σx σm : St) (a1 : Int32) (a2 : Int32) (a3 : Int32) (a4 : Int32) (a5 : Int32), Inv σx σm → ∃ (r : Int32) (σx' : St) (σm' : St), fX11_leave N σx a1 a2 a3 a4 a5 = some (r, σx') ∧ fX12_leave N σm a1 a2 a3 a4 a5 = some (r, σm') ∧ Inv σx' σm'
def SP_leaveTold (Inv : St → St → Prop) (N : Nat) : Prop := ∀ (σx σm : St) (a1 : Int32) (a2 : Int32), Inv σx σm → ∃ (r : Int32) (σx' : St), fX11_leaveTold N σx a1 a2 = some (r, σx') ∧ fX12_leaveTold N σm a1 a2 = some r ∧ Inv σx' σm
def SP_renew (Inv : St → St → Prop) (N : Nat) : Prop := ∀ (σx σm : St) (a1 : Int32), Inv σx σm → ∃ (r : Int32) (σx' : St) (σm' : St), fX11_renew N σx a1 = some (r, σx') ∧ fX12_renew N σm a1 = some (r, σm') ∧ Inv σx' σm'
def SP_appeal (Inv : St → St → Prop) (N : Nat) : Prop := ∀ (σx σm : St) (a1 : Int32), Inv σx σm → ∃ (r : Int32) (σx' : St) (σm' : St), fX11_appeal N σx a1 = some (r, σx') ∧ fX12_appeal N σm a1 = some (r, σm') ∧ Inv σx' σm'
def SP_undo (Inv : St → St → Prop) (N : Nat) : Prop := ∀ (σx σm : St) (a1 : Int32) (a2 : Int32), Inv σx σm → ∃ (r : Int32) (σx' : St) (σm' : St), fX11_undo N σx a1 a2 = some (r, σx') ∧ fX12_undo N σm a1 a2 = some (r, σm') ∧ Inv σx' σm'
def SP_has (Inv : St → St → Prop) (N : Nat) : Prop := ∀ (σx σm : St) (a1 : Int32) (a2 : Int32), Inv σx σm → ∃ (r : Int32) (σx' : St), fX11_has N σx a1 a2 = some (r, σx') ∧ fX12_has N σm a1 a2 = some r ∧ Inv σx' σm
def SP_yearly (Inv : St → St → Prop) (N : Nat) : Prop := ∀ (σx σm : St) (a1 : Int32) (a2 : Int32), Inv σx σm → ∃ (r : Int64) (σx' : St) (σm' : St), fX11_yearly N σx a1 a2 = some (r, σx') ∧ fX12_yearly N σm a1 a2 = some (r, σm') ∧ Inv σx' σm'
def SP_feed (Inv : St → St → Prop) (N : Nat) : Prop := ∀ (σx σm : St) (a1 : Int32) (a2 : Int64), Inv σx σm → ∃ (r : Int32) (σx' : St) (σm' : St), fX11_feed N σx a1 a2 = some (r, σx') ∧ fX12_feed N σm a1 a2 = some (r, σm') ∧ Inv σx' σm'
def SP_text (Inv : St → St → Prop) (N : Nat) : Prop := ∀ (σx σm : St), Inv σx σm → ∃ (r : Int32) (σx' : St) (σm' : St), fX11_text N σx = some (r, σx') ∧ fX12_text N σm = some (r, σm') ∧ Inv σx' σm'
def SP_force (Inv : St → St → Prop) (N : Nat) : Prop := ∀ (σx σm : St) (a1 : Int32), Inv σx σm → ∃ (r : Int32) (σx' : St) (σm' : St), fX11_force N σx a1 = some (r, σx') ∧ fX12_force N σm a1 = some (r, σm') ∧ Inv σx' σm'
def SP_says (Inv : St → St → Prop) (N : Nat) : Prop := ∀ (σx σm : St) (a1 : Int32) (a2 : Int32), Inv σx σm → ∃ (r : Int64) (σx' : St) (σm' : St), fX11_says N σx a1 a2 = some (r, σx') ∧ fX12_says N σm a1 a2 = some (r, σm') ∧ Inv σx' σm'
def SP_claim (Inv : St → St → Prop) (N : Nat) : Prop := ∀ (σx σm : St) (a1 : Int32) (a2 : Int32) (a3 : Int32), Inv σx σm → ∃ (r : Int32) (σx' : St) (σm' : St), fX11_claim N σx a1 a2 a3 = some (r, σx') ∧ fX12_claim N σm a1 a2 a3 = some (r, σm') ∧ Inv σx' σm'
def SP_doubled (Inv : St → St → Prop) (N : Nat) : Prop := ∀ (σx σm : St), Inv σx σm → ∃ (r : Int32), fX11_doubled σx = r ∧ fX12_doubled N σm = some r ∧ Inv σx σm
def SP_due (Inv : St → St → Prop) (N : Nat) : Prop := ∀ (σx σm : St) (a1 : Int32), Inv σx σm → ∃ (r : Int64) (σx' : St) (σm' : St), fX11_due N σx a1 = some (r, σx') ∧ fX12_due N σm a1 = some (r, σm') ∧ Inv σx' σm'
def SP_look (Inv : St → St → Prop) (N : Nat) : Prop := ∀ (σx σm : St) (a1 : Int32) (a2 : Int32) (a3 : Int32), Inv σx σm → ∃ (r : Int32) (σx' : St) (σm' : St), fX11_look N σx a1 a2 a3 = some (r, σx') ∧ fX12_look N σm a1 a2 a3 = some (r, σm') ∧ Inv σx' σm'
def SP_bounds (Inv : St → St → Prop) (N : Nat) : Prop := ∀ (σx σm : St) (a1 : Int32) (a2 : Int32), Inv σx σm → ∃ (r : Int32), fX11_bounds N σx a1 a2 = some r ∧ fX12_bounds N σm a1 a2 = some r ∧ Inv σx σm
def SP_hold (Inv : St → St → Prop) (N : Nat) : Prop := ∀ (σx σm : St) (a1 : Int32) (a2 : Int32), Inv σx σm → ∃ (r : Int32) (σx' : St) (σm' : St), fX11_hold N σx a1 a2 = some (r, σx') ∧ fX12_hold N σm a1 a2 = some (r, σm') ∧ Inv σx' σm'
def SP_way (Inv : St → St → Prop) (N : Nat) : Prop := ∀ (σx σm : St) (a1 : Int32) (a2 : Int32) (a3 : Int32), Inv σx σm → ∃ (r : Int32) (σx' : St) (σm' : St), fX11_way N σx a1 a2 a3 = some (r, σx') ∧ fX12_way N σm a1 a2 a3 = some (r, σm') ∧ Inv σx' σm'
def SP_couldAsk (Inv : St → St → Prop) (N : Nat) : Prop := ∀ (σx σm : St) (a1 : Int32) (a2 : Int32) (a3 : Int32), Inv σx σm → ∃ (r : Int32) (σx' : St) (σm' : St), fX11_couldAsk N σx a1 a2 a3 = some (r, σx') ∧ fX12_couldAsk N σm a1 a2 a3 = some (r, σm') ∧ Inv σx' σm'
def SP_asking (Inv : St → St → Prop) (N : Nat) : Prop := ∀ (σx σm : St) (a1 : Int32) (a2 : Int32), Inv σx σm → ∃ (r : Int32) (σx' : St) (σm' : St), fX11_asking N σx a1 a2 = some (r, σx') ∧ fX12_asking N σm a1 a2 = some (r, σm') ∧ Inv σx' σm'
def SP_toAsk (Inv : St → St → Prop) (N : Nat) : Prop := ∀ (σx σm : St) (a1 : Int32) (a2 : Int32), Inv σx σm → ∃ (r : Int32) (σx' : St) (σm' : St), fX11_toAsk N σx a1 a2 = some (r, σx') ∧ fX12_toAsk N σm a1 a2 = some (r, σm') ∧ Inv σx' σm'
def SP_count (Inv : St → St → Prop) (N : Nat) : Prop := ∀ (σx σm : St) (a1 : Int32), Inv σx σm → ∃ (r : Int32) (σx' : St), fX11_count N σx a1 = some (r, σx') ∧ fX12_count N σm a1 = some r ∧ Inv σx' σm
def SP_sheet (Inv : St → St → Prop) (N : Nat) : Prop := ∀ (σx σm : St) (a1 : Int32) (a2 : Int32) (a3 : Int32), Inv σx σm → ∃ (r : Int32) (σx' : St) (σm' : St), fX11_sheet N σx a1 a2 a3 = some (r, σx') ∧ fX12_sheet N σm a1 a2 a3 = some (r, σm') ∧ Inv σx' σm'
def SP_cell (Inv : St → St → Prop) (N : Nat) : Prop := ∀ (σx σm : St) (a1 : Int32) (a2 : Int32) (a3 : Int32), Inv σx σm → ∃ (r : Int32) (σx' : St) (σm' : St), fX11_cell N σx a1 a2 a3 = some (r, σx') ∧ fX12_cell N σm a1 a2 a3 = some (r, σm') ∧ Inv σx' σm'
def SP_copy (Inv : St → St → Prop) (N : Nat) : Prop := ∀ (σx σm : St) (a1 : Int32) (a2 : Int32) (a3 : Int32) (a4 : Int32) (a5 : Int32), Inv σx σm → ∃ (r : Int32) (σx' : St) (σm' : St), fX11_copy N σx a1 a2 a3 a4 a5 = some (r, σx') ∧ fX12_copy N σm a1 a2 a3 a4 a5 = some (r, σm') ∧ Inv σx' σm'
def SP_costs (Inv : St → St → Prop) (N : Nat) : Prop := ∀ (σx σm : St) (a1 : Int32) (a2 : Int32) (a3 : Int32) (a4 : Int32) (a5 : Int32), Inv σx σm → ∃ (r : Int32) (σx' : St) (σm' : St), fX11_costs N σx a1 a2 a3 a4 a5 = some (r, σx') ∧ fX12_costs N σm a1 a2 a3 a4 a5 = some (r, σm') ∧ Inv σx' σm'
def SP_taken (Inv : St → St → Prop) (N : Nat) : Prop := ∀ (σx σm : St) (a1 : Int32) (a2 : Int32), Inv σx σm → ∃ (r : Int32), fX11_taken N σx a1 a2 = some r ∧ fX12_taken N σm a1 a2 = some r ∧ Inv σx σm
def SPall (Inv : St → St → Prop) (N : Nat) : Prop := SP_pass Inv N ∧ SP_sell Inv N ∧ SP_owner Inv N ∧ SP_heir Inv N ∧ SP_set Inv N ∧ SP_trees Inv N ∧ SP_high Inv N ∧ SP_tower Inv N ∧ SP_span Inv N ∧ SP_heat Inv N ∧ SP_spanTold Inv N ∧ SP_leave Inv N ∧ SP_leaveTold Inv N ∧ SP_renew Inv N ∧ SP_appeal Inv N ∧ SP_undo Inv N ∧ SP_has Inv N ∧ SP_yearly Inv N ∧ SP_feed Inv N ∧ SP_text Inv N ∧ SP_force Inv N ∧ SP_says Inv N ∧ SP_claim Inv N ∧ SP_doubled Inv N ∧ SP_due Inv N ∧ SP_look Inv N ∧ SP_bounds Inv N ∧ SP_hold Inv N ∧ SP_way Inv N ∧ SP_couldAsk Inv N ∧ SP_asking Inv N ∧ SP_toAsk Inv N ∧ SP_count Inv N ∧ SP_sheet Inv N ∧ SP_cell Inv N ∧ SP_copy Inv N ∧ SP_costs Inv N ∧ SP_taken Inv N
def LH (D : va_G) (ax am : Nat → Nat) (cs : Nat → ClassId) (s : State) (σx σm : St) (H : Heap) (locs : List Loc) : Prop := va_P D vwCl (xl ax cs σx) H ∧ va_D (fun q => q ∈ xad ax) (xl ax cs σx) ∧ va_P D vwCl (ml am cs σm) H ∧ va_D (fun q => q ∈ mad am) (ml am cs σm) ∧ va_S (fun q => s.heap.size ≤ q) s.heap H locs
def LF (D : va_G) (ax am : Nat → Nat) (cs : Nat → ClassId) (ts adK adV : Nat → Nat) (s : State) : Prop := va_K D vwCl (tyl cs) s ∧ xF ts adK adV (xad ax) s ∧ (∀ q, q ∈ xad ax → s.heap.size ≤ q) ∧ (∀ q, q ∈ mad am → s.heap.size ≤ q) ∧ (∀ q, q ∈ xad ax → ¬ q ∈ mad am)
theorem LH.bx {D : va_G} {ax am : Nat → Nat} {cs : Nat → ClassId} {ts adK adV : Nat → Nat} {s : State} {σx σm : St} {H : Heap} {locs : List Loc} (F : LF D ax am cs ts adK adV s) (h : LH D ax am cs s σx σm H locs) : ∀ U : State, U.heap = H → s.WarmedH U.vm → Bw (XWd D ax cs ts adK adV) σx U := fun U hU hW => ⟨by rw [hU]; exact h.1, h.2.1, va_K.moved hW.alike F.1, xF.warm F.2.1 (fun q h1 _ => by rw [hU]; exact h.2.2.2.2.2.1 q h1 (Nat.not_le.mpr h1)) hW⟩
theorem LH.bm {D : va_G} {ax am : Nat → Nat} {cs : Nat → ClassId} {ts adK adV : Nat → Nat} {s : State} {σx σm : St} {H : Heap} {locs : List Loc} (F : LF D ax am cs ts adK adV s) (h : LH D ax am cs s σx σm H locs) : ∀ U : State, U.heap = H → s.WarmedH U.vm → Bw (MWd D am cs) σm U := fun U hU hW => ⟨by rw [hU]; exact h.2.2.1, h.2.2.2.1, va_K.moved hW.alike F.1, trivial⟩
theorem LH.ax {D : va_G} {ax am : Nat → Nat} {cs : Nat → ClassId} {ts adK adV : Nat → Nat} {s : State} {σx σm σx' : St} {H H1 : Heap} {locs locs1 : List Loc} {t : State} (F : LF D ax am cs ts adK adV s) (h : LH D ax am cs s σx σm H locs) (hB : Bw (XWd D ax cs ts adK adV) σx' t) (ht : t.heap = H1) (hk : ∀ q : Nat, q < H.size → ¬ q ∈ xad ax → H1[q]? = H[q]?) (hS : va_S (fun q => s.heap.size ≤ q) s.heap H1 locs1) : LH D ax am cs s σx' σm H1 locs1 :=
  ⟨ht ▸ hB.1, hB.2.1, h.2.2.1.kept (fun k q hq => hk q.1 ((h.2.2.1 k q hq).lt) (fun hx => F.2.2.2.2 _ hx (h.2.2.2.1.2 k q hq))), h.2.2.2.1, hS⟩
theorem LH.am {D : va_G} {ax am : Nat → Nat} {cs : Nat → ClassId} {ts adK adV : Nat → Nat} {s : State} {σx σm σm' : St} {H H1 : Heap} {locs locs1 : List Loc} {t : State} (F : LF D ax am cs ts adK adV s) (h : LH D ax am cs s σx σm H locs) (hB : Bw (MWd D am cs) σm' t) (ht : t.heap = H1) (hk : ∀ q : Nat, q < H.size → ¬ q ∈ mad am → H1[q]? = H[q]?) (hS : va_S (fun q => s.heap.size ≤ q) s.heap H1 locs1) : LH D ax am cs s σx σm' H1 locs1 :=
  ⟨h.1.kept (fun k q hq => hk q.1 ((h.1 k q hq).lt) (fun hx => F.2.2.2.2 _ (h.2.1.2 k q hq) hx)), h.2.1, ht ▸ hB.1, hB.2.1, hS⟩
theorem lg_self (r : Int64) : lg_cmp r r = 0 := by simp [lg_cmp]
section LAWC
variable {p : Program} {l : Launch} {e : Env} {R : Room} {s : State} {m : MethodId} {av : Array Value} {below : List Frame} {meth : Method} {c : Code} {H : Heap} {locs : List Loc} {cells slots : Nat} {Q : State → Prop}
variable {cc : ByteArray} {nL pc index : Nat} {own : String} {ls : Array Slot} {rest : List Value} {σx σm σ' : St} {D : va_G} {ax am : Nat → Nat} {cs : Nat → ClassId} {ts adK adV : Nat → Nat} {y : MethodName} {bytes : ByteArray} {maxL n fr lc : Nat} {ret : Option FieldType} {As : List Value}
theorem lw_xi (S : CallFix p m c cc nL s av BG own) (F : LF D ax am cs ts adK adV s) (h : LH D ax am cs s σx σm H locs) {r : Int32} (hM : CI l (XWd D ax cs ts adK adV) y bytes maxL ret fr lc (.ref (ax 0) :: As) σx r σ') (hT : TV own index y bytes maxL ret n) (hy : RX11 = y.cls) (hR : fr + 1 ≤ R.frames ∧ 8 + (maxL + 11) + lc ≤ R.locals) {st : List Value} (hn : As.length = n) (hsize : ls.size = nL) (hstack : st = As.reverse ++ .ref (ax 0) :: rest) (hcat : (rest.map fun v => v.category).sum ≤ 8) (hf : cells ≤ R.cells ∧ slots ≤ R.slots) (hdg : decode cc pc = .ok (.invokevirtual index, 3)) (kk : ∀ (H : Heap) (locs : List Loc), LH D ax am cs s σ' σm H locs → W p l e R s m av below meth c H locs cells slots Q (F0 m (pc + 3) ls (.int r :: rest))) : W p l e R s m av below meth c H locs cells slots Q (F0 m pc ls st) :=
  va_calli (va_runV (g := F0 m pc ls st) (As := As) (rest := rest) S hM (TV.cw S hT hR) ⟨Bw.blind (XWd_ok D ax cs ts adK adV) _, by rw [← hy]; exact va_recv F.1 h.1 (ci := 11) (q0 := 0) rfl (xe_0), fun U hU hW => ⟨rfl, LH.bx F h U hU hW⟩⟩ rfl hn hsize hstack (lv_room hcat) hdg hf) h.2.2.2.2 (fun q _ hq => F.2.2.1 q hq) (fun q hq => F.2.2.1 q hq) (fun r1 u t H1 locs1 ht hvm hp hB hz hk hS => by obtain ⟨rfl, rfl⟩ := hp; exact kk H1 locs1 (LH.ax F h hB ht hk hS))
theorem lw_xj (S : CallFix p m c cc nL s av BG own) (F : LF D ax am cs ts adK adV s) (h : LH D ax am cs s σx σm H locs) {r : Int64} (hM : CJ l (XWd D ax cs ts adK adV) y bytes maxL ret fr lc (.ref (ax 0) :: As) σx r σ') (hT : TV own index y bytes maxL ret n) (hy : RX11 = y.cls) (hR : fr + 1 ≤ R.frames ∧ 8 + (maxL + 11) + lc ≤ R.locals) {st : List Value} (hn : As.length = n) (hsize : ls.size = nL) (hstack : st = As.reverse ++ .ref (ax 0) :: rest) (hcat : (rest.map fun v => v.category).sum ≤ 8) (hf : cells ≤ R.cells ∧ slots ≤ R.slots) (hdg : decode cc pc = .ok (.invokevirtual index, 3)) (kk : ∀ (H : Heap) (locs : List Loc), LH D ax am cs s σ' σm H locs → W p l e R s m av below meth c H locs cells slots Q (F0 m (pc + 3) ls (.long r :: rest))) : W p l e R s m av below meth c H locs cells slots Q (F0 m pc ls st) :=
  va_calll (va_runV (g := F0 m pc ls st) (As := As) (rest := rest) S hM (TV.cw S hT hR) ⟨Bw.blind (XWd_ok D ax cs ts adK adV) _, by rw [← hy]; exact va_recv F.1 h.1 (ci := 11) (q0 := 0) rfl (xe_0), fun U hU hW => ⟨rfl, LH.bx F h U hU hW⟩⟩ rfl hn hsize hstack (lv_room hcat) hdg hf) h.2.2.2.2 (fun q _ hq => F.2.2.1 q hq) (fun q hq => F.2.2.1 q hq) (fun r1 u t H1 locs1 ht hvm hp hB hz hk hS => by obtain ⟨rfl, rfl⟩ := hp; exact kk H1 locs1 (LH.ax F h hB ht hk hS))
theorem lw_mi (S : CallFix p m c cc nL s av BG own) (F : LF D ax am cs ts adK adV s) (h : LH D ax am cs s σx σm H locs) {r : Int32} (hM : CI l (MWd D am cs) y bytes maxL ret fr lc (.ref (am 0) :: As) σm r σ') (hT : TV own index y bytes maxL ret n) (hy : RX12 = y.cls) (hR : fr + 1 ≤ R.frames ∧ 8 + (maxL + 11) + lc ≤ R.locals) {st : List Value} (hn : As.length = n) (hsize : ls.size = nL) (hstack : st = As.reverse ++ .ref (am 0) :: rest) (hcat : (rest.map fun v => v.category).sum ≤ 8) (hf : cells ≤ R.cells ∧ slots ≤ R.slots) (hdg : decode cc pc = .ok (.invokevirtual index, 3)) (kk : ∀ (H : Heap) (locs : List Loc), LH D ax am cs s σx σ' H locs → W p l e R s m av below meth c H locs cells slots Q (F0 m (pc + 3) ls (.int r :: rest))) : W p l e R s m av below meth c H locs cells slots Q (F0 m pc ls st) :=
  va_calli (va_runV (g := F0 m pc ls st) (As := As) (rest := rest) S hM (TV.cw S hT hR) ⟨Bw.blind (MWd_ok D am cs) _, by rw [← hy]; exact va_recv F.1 h.2.2.1 (ci := 12) (q0 := 0) rfl (me_0), fun U hU hW => ⟨rfl, LH.bm F h U hU hW⟩⟩ rfl hn hsize hstack (lv_room hcat) hdg hf) h.2.2.2.2 (fun q _ hq => F.2.2.2.1 q hq) (fun q hq => F.2.2.2.1 q hq) (fun r1 u t H1 locs1 ht hvm hp hB hz hk hS => by obtain ⟨rfl, rfl⟩ := hp; exact kk H1 locs1 (LH.am F h hB ht hk hS))
theorem lw_mj (S : CallFix p m c cc nL s av BG own) (F : LF D ax am cs ts adK adV s) (h : LH D ax am cs s σx σm H locs) {r : Int64} (hM : CJ l (MWd D am cs) y bytes maxL ret fr lc (.ref (am 0) :: As) σm r σ') (hT : TV own index y bytes maxL ret n) (hy : RX12 = y.cls) (hR : fr + 1 ≤ R.frames ∧ 8 + (maxL + 11) + lc ≤ R.locals) {st : List Value} (hn : As.length = n) (hsize : ls.size = nL) (hstack : st = As.reverse ++ .ref (am 0) :: rest) (hcat : (rest.map fun v => v.category).sum ≤ 8) (hf : cells ≤ R.cells ∧ slots ≤ R.slots) (hdg : decode cc pc = .ok (.invokevirtual index, 3)) (kk : ∀ (H : Heap) (locs : List Loc), LH D ax am cs s σx σ' H locs → W p l e R s m av below meth c H locs cells slots Q (F0 m (pc + 3) ls (.long r :: rest))) : W p l e R s m av below meth c H locs cells slots Q (F0 m pc ls st) :=
  va_calll (va_runV (g := F0 m pc ls st) (As := As) (rest := rest) S hM (TV.cw S hT hR) ⟨Bw.blind (MWd_ok D am cs) _, by rw [← hy]; exact va_recv F.1 h.2.2.1 (ci := 12) (q0 := 0) rfl (me_0), fun U hU hW => ⟨rfl, LH.bm F h U hU hW⟩⟩ rfl hn hsize hstack (lv_room hcat) hdg hf) h.2.2.2.2 (fun q _ hq => F.2.2.2.1 q hq) (fun q hq => F.2.2.2.1 q hq) (fun r1 u t H1 locs1 ht hvm hp hB hz hk hS => by obtain ⟨rfl, rfl⟩ := hp; exact kk H1 locs1 (LH.am F h hB ht hk hS))
end LAWC
theorem lw_in {L j k : Nat} (h : 6 * j + 6 ≤ L) (hL : L ≤ 3072) (hk : k < 6) {x3 : Int32} (h3 : x3 = nI (6 * j)) : vp_in (x3 + nI k) L := by rw [h3, nI_add]; exact vp_in_nI (by omega) (by omega)
theorem lw_in0 {L j : Nat} (h : 6 * j + 6 ≤ L) (hL : L ≤ 3072) {x3 : Int32} (h3 : x3 = nI (6 * j)) : vp_in x3 L := by rw [h3]; exact vp_in_nI (by omega) (by omega)
theorem lw_gt {L j : Nat} (hj : 6 * j ≤ L + 6) (hL : L ≤ 3072) {x3 : Int32} (h3 : x3 = nI (6 * j)) : (nI L - 6 < x3) ↔ L < 6 * j + 6 := by
  rw [h3, show (6 : Int32) = nI 6 from rfl, Int32.lt_iff_toInt_lt, pk_sub_toInt (by omega) (by omega), nI_toInt (by omega)]
  omega
set_option maxHeartbeats 2000000 in
set_option maxRecDepth 20000 in
theorem lw_case_pass {p : Program} {l : Launch} {e : Env} {s : State} {m : MethodId} {below : List Frame} {meth : Method} {c : Code} {D : va_G} {ax am : Nat → Nat} {cs : Nat → ClassId} {ts adK adV : Nat → Nat} {b L : Nat} {xs : Nat → Int32} {Inv : St → St → Prop} {N c0 s0 : Nat} (hL : L ≤ 3072) (C0 : lw_At p s m meth c b L xs) (F : LF D ax am cs ts adK adV s) (hc0 : c0 ≤ 600000) (hs0 : s0 ≤ 7302250) (hst : SPall Inv N) {x3 : Int32} {j : Nat} (hj : 6 * j + 6 ≤ L) (h3 : x3 = nI (6 * j)) (hk : ∀ (σx σm : St) (ls : Array Slot) (H : Heap) (locs : List Loc), Inv σx σm → LH D ax am cs s σx σm H locs → lv_has ls 4 [(0, .ref b), (1, .ref (ax 0)), (2, .ref (am 0)), (3, .int x3)] → W p l e room_1 s m #[Value.ref b] below meth c H locs c0 s0 (lw_Z below #[Value.ref b] s) (F0 m 1588 ls [])) {σx σm : St} {ls : Array Slot} {H : Heap} {locs : List Loc} (hI : Inv σx σm) (h : LH D ax am cs s σx σm H locs) (hl : lv_has ls 4 [(0, .ref b), (1, .ref (ax 0)), (2, .ref (am 0)), (3, .int x3)]) : W p l e room_1 s m #[Value.ref b] below meth c H locs c0 s0 (lw_Z below #[Value.ref b] s) (F0 m 200 ls []) := by
  obtain ⟨hx, hb, hr, hml, hown, hts, hX0, hbl, hlocks, hgv⟩ := id C0
  have S : CallFix p m c cL_law 4 s #[Value.ref b] BG RL := ⟨hx, hb, hml, hown, fun w hw => hts w (List.mem_filter.mp hw).1⟩
  have hbA : ¬ (fun q : Nat => s.heap.size ≤ q) b := Nat.not_le.mpr hbl
  have hi1 : vp_in (x3 + 1) L := lw_in (k := 1) hj hL (by decide) h3
  have hi2 : vp_in (x3 + 2) L := lw_in (k := 2) hj hL (by decide) h3
  have hi3 : vp_in (x3 + 3) L := lw_in (k := 3) hj hL (by decide) h3
  have hi4 : vp_in (x3 + 4) L := lw_in (k := 4) hj hL (by decide) h3
  have hi5 : vp_in (x3 + 5) L := lw_in (k := 5) hj hL (by decide) h3
  obtain ⟨r, σx', σm', hX, hM, hI⟩ := hst.1 σx σm (xs (x3 + 1).toNatClampNeg) hI
  refine lv_aload_n S.1 S.2.1 dL_law_200 rfl (lv_at hl 1 rfl) ?_
  refine lv_aload_n S.1 S.2.1 dL_law_201 rfl (lv_at hl 0 rfl) ?_
  refine lv_iload_n S.1 S.2.1 dL_law_202 rfl (lv_at hl 3 rfl) ?_
  refine lv_iconst (v := 1) S.1 S.2.1 dL_law_203 (by decide) ?_
  refine lv_iadd S.1 S.2.1 dL_law_204 ?_
  refine va_sld S.1 S.2.1 hX0 hbl hbA h.2.2.2.2 hi1 dL_law_205 ?_
  refine lw_xi (As := [.int (xs (x3 + 1).toNatClampNeg)]) (rest := []) S F h (tX11_pass hX) kt_L_13 rfl ⟨Nat.le_of_ble_eq_true rfl, Nat.le_of_ble_eq_true rfl⟩ rfl hl.1 rfl (Nat.le_of_ble_eq_true rfl) ⟨hc0, hs0⟩ dL_law_206 (fun H locs h => ?_)
  refine lv_aload_n S.1 S.2.1 dL_law_209 rfl (lv_at hl 2 rfl) ?_
  refine lv_aload_n S.1 S.2.1 dL_law_210 rfl (lv_at hl 0 rfl) ?_
  refine lv_iload_n S.1 S.2.1 dL_law_211 rfl (lv_at hl 3 rfl) ?_
  refine lv_iconst (v := 1) S.1 S.2.1 dL_law_212 (by decide) ?_
  refine lv_iadd S.1 S.2.1 dL_law_213 ?_
  refine va_sld S.1 S.2.1 hX0 hbl hbA h.2.2.2.2 hi1 dL_law_214 ?_
  refine lw_mi (As := [.int (xs (x3 + 1).toNatClampNeg)]) (rest := [.int r]) S F h (tX12_pass hM) kt_L_17 rfl ⟨Nat.le_of_ble_eq_true rfl, Nat.le_of_ble_eq_true rfl⟩ rfl hl.1 rfl (Nat.le_of_ble_eq_true rfl) ⟨hc0, hs0⟩ dL_law_215 (fun H locs h => ?_)
  refine lv_icmp_eq (tgt := 1588) S.1 S.2.1 dL_law_218 (by decide) (fun hc => ?_) (fun hc => absurd rfl hc)
  exact hk σx' σm' ls H locs hI h hl
set_option maxHeartbeats 2000000 in
set_option maxRecDepth 20000 in
theorem lw_case_sell {p : Program} {l : Launch} {e : Env} {s : State} {m : MethodId} {below : List Frame} {meth : Method} {c : Code} {D : va_G} {ax am : Nat → Nat} {cs : Nat → ClassId} {ts adK adV : Nat → Nat} {b L : Nat} {xs : Nat → Int32} {Inv : St → St → Prop} {N c0 s0 : Nat} (hL : L ≤ 3072) (C0 : lw_At p s m meth c b L xs) (F : LF D ax am cs ts adK adV s) (hc0 : c0 ≤ 600000) (hs0 : s0 ≤ 7302250) (hst : SPall Inv N) {x3 : Int32} {j : Nat} (hj : 6 * j + 6 ≤ L) (h3 : x3 = nI (6 * j)) (hk : ∀ (σx σm : St) (ls : Array Slot) (H : Heap) (locs : List Loc), Inv σx σm → LH D ax am cs s σx σm H locs → lv_has ls 4 [(0, .ref b), (1, .ref (ax 0)), (2, .ref (am 0)), (3, .int x3)] → W p l e room_1 s m #[Value.ref b] below meth c H locs c0 s0 (lw_Z below #[Value.ref b] s) (F0 m 1588 ls [])) {σx σm : St} {ls : Array Slot} {H : Heap} {locs : List Loc} (hI : Inv σx σm) (h : LH D ax am cs s σx σm H locs) (hl : lv_has ls 4 [(0, .ref b), (1, .ref (ax 0)), (2, .ref (am 0)), (3, .int x3)]) : W p l e room_1 s m #[Value.ref b] below meth c H locs c0 s0 (lw_Z below #[Value.ref b] s) (F0 m 223 ls []) := by
  obtain ⟨hx, hb, hr, hml, hown, hts, hX0, hbl, hlocks, hgv⟩ := id C0
  have S : CallFix p m c cL_law 4 s #[Value.ref b] BG RL := ⟨hx, hb, hml, hown, fun w hw => hts w (List.mem_filter.mp hw).1⟩
  have hbA : ¬ (fun q : Nat => s.heap.size ≤ q) b := Nat.not_le.mpr hbl
  have hi1 : vp_in (x3 + 1) L := lw_in (k := 1) hj hL (by decide) h3
  have hi2 : vp_in (x3 + 2) L := lw_in (k := 2) hj hL (by decide) h3
  have hi3 : vp_in (x3 + 3) L := lw_in (k := 3) hj hL (by decide) h3
  have hi4 : vp_in (x3 + 4) L := lw_in (k := 4) hj hL (by decide) h3
  have hi5 : vp_in (x3 + 5) L := lw_in (k := 5) hj hL (by decide) h3
  obtain ⟨r, σx', σm', hX, hM, hI⟩ := hst.2.1 σx σm (xs (x3 + 1).toNatClampNeg) (xs (x3 + 2).toNatClampNeg) (xs (x3 + 3).toNatClampNeg) hI
  refine lv_aload_n S.1 S.2.1 dL_law_223 rfl (lv_at hl 1 rfl) ?_
  refine lv_aload_n S.1 S.2.1 dL_law_224 rfl (lv_at hl 0 rfl) ?_
  refine lv_iload_n S.1 S.2.1 dL_law_225 rfl (lv_at hl 3 rfl) ?_
  refine lv_iconst (v := 1) S.1 S.2.1 dL_law_226 (by decide) ?_
  refine lv_iadd S.1 S.2.1 dL_law_227 ?_
  refine va_sld S.1 S.2.1 hX0 hbl hbA h.2.2.2.2 hi1 dL_law_228 ?_
  refine lv_aload_n S.1 S.2.1 dL_law_229 rfl (lv_at hl 0 rfl) ?_
  refine lv_iload_n S.1 S.2.1 dL_law_230 rfl (lv_at hl 3 rfl) ?_
  refine lv_iconst (v := 2) S.1 S.2.1 dL_law_231 (by decide) ?_
  refine lv_iadd S.1 S.2.1 dL_law_232 ?_
  refine va_sld S.1 S.2.1 hX0 hbl hbA h.2.2.2.2 hi2 dL_law_233 ?_
  refine lv_aload_n S.1 S.2.1 dL_law_234 rfl (lv_at hl 0 rfl) ?_
  refine lv_iload_n S.1 S.2.1 dL_law_235 rfl (lv_at hl 3 rfl) ?_
  refine lv_iconst (v := 3) S.1 S.2.1 dL_law_236 (by decide) ?_
  refine lv_iadd S.1 S.2.1 dL_law_237 ?_
  refine va_sld S.1 S.2.1 hX0 hbl hbA h.2.2.2.2 hi3 dL_law_238 ?_
  refine lw_xi (As := [.int (xs (x3 + 1).toNatClampNeg), .int (xs (x3 + 2).toNatClampNeg), .int (xs (x3 + 3).toNatClampNeg)]) (rest := []) S F h (tX11_sell hX) kt_L_18 rfl ⟨Nat.le_of_ble_eq_true rfl, Nat.le_of_ble_eq_true rfl⟩ rfl hl.1 rfl (Nat.le_of_ble_eq_true rfl) ⟨hc0, hs0⟩ dL_law_239 (fun H locs h => ?_)
  refine lv_aload_n S.1 S.2.1 dL_law_242 rfl (lv_at hl 2 rfl) ?_
  refine lv_aload_n S.1 S.2.1 dL_law_243 rfl (lv_at hl 0 rfl) ?_
  refine lv_iload_n S.1 S.2.1 dL_law_244 rfl (lv_at hl 3 rfl) ?_
  refine lv_iconst (v := 1) S.1 S.2.1 dL_law_245 (by decide) ?_
  refine lv_iadd S.1 S.2.1 dL_law_246 ?_
  refine va_sld S.1 S.2.1 hX0 hbl hbA h.2.2.2.2 hi1 dL_law_247 ?_
  refine lv_aload_n S.1 S.2.1 dL_law_248 rfl (lv_at hl 0 rfl) ?_
  refine lv_iload_n S.1 S.2.1 dL_law_249 rfl (lv_at hl 3 rfl) ?_
  refine lv_iconst (v := 2) S.1 S.2.1 dL_law_250 (by decide) ?_
  refine lv_iadd S.1 S.2.1 dL_law_251 ?_
  refine va_sld S.1 S.2.1 hX0 hbl hbA h.2.2.2.2 hi2 dL_law_252 ?_
  refine lv_aload_n S.1 S.2.1 dL_law_253 rfl (lv_at hl 0 rfl) ?_
  refine lv_iload_n S.1 S.2.1 dL_law_254 rfl (lv_at hl 3 rfl) ?_
  refine lv_iconst (v := 3) S.1 S.2.1 dL_law_255 (by decide) ?_
  refine lv_iadd S.1 S.2.1 dL_law_256 ?_
  refine va_sld S.1 S.2.1 hX0 hbl hbA h.2.2.2.2 hi3 dL_law_257 ?_
  refine lw_mi (As := [.int (xs (x3 + 1).toNatClampNeg), .int (xs (x3 + 2).toNatClampNeg), .int (xs (x3 + 3).toNatClampNeg)]) (rest := [.int r]) S F h (tX12_sell hM) kt_L_22 rfl ⟨Nat.le_of_ble_eq_true rfl, Nat.le_of_ble_eq_true rfl⟩ rfl hl.1 rfl (Nat.le_of_ble_eq_true rfl) ⟨hc0, hs0⟩ dL_law_258 (fun H locs h => ?_)
  refine lv_icmp_eq (tgt := 1588) S.1 S.2.1 dL_law_261 (by decide) (fun hc => ?_) (fun hc => absurd rfl hc)
  exact hk σx' σm' ls H locs hI h hl
set_option maxHeartbeats 2000000 in
set_option maxRecDepth 20000 in
theorem lw_case_owner {p : Program} {l : Launch} {e : Env} {s : State} {m : MethodId} {below : List Frame} {meth : Method} {c : Code} {D : va_G} {ax am : Nat → Nat} {cs : Nat → ClassId} {ts adK adV : Nat → Nat} {b L : Nat} {xs : Nat → Int32} {Inv : St → St → Prop} {N c0 s0 : Nat} (hL : L ≤ 3072) (C0 : lw_At p s m meth c b L xs) (F : LF D ax am cs ts adK adV s) (hc0 : c0 ≤ 600000) (hs0 : s0 ≤ 7302250) (hst : SPall Inv N) {x3 : Int32} {j : Nat} (hj : 6 * j + 6 ≤ L) (h3 : x3 = nI (6 * j)) (hk : ∀ (σx σm : St) (ls : Array Slot) (H : Heap) (locs : List Loc), Inv σx σm → LH D ax am cs s σx σm H locs → lv_has ls 4 [(0, .ref b), (1, .ref (ax 0)), (2, .ref (am 0)), (3, .int x3)] → W p l e room_1 s m #[Value.ref b] below meth c H locs c0 s0 (lw_Z below #[Value.ref b] s) (F0 m 1588 ls [])) {σx σm : St} {ls : Array Slot} {H : Heap} {locs : List Loc} (hI : Inv σx σm) (h : LH D ax am cs s σx σm H locs) (hl : lv_has ls 4 [(0, .ref b), (1, .ref (ax 0)), (2, .ref (am 0)), (3, .int x3)]) : W p l e room_1 s m #[Value.ref b] below meth c H locs c0 s0 (lw_Z below #[Value.ref b] s) (F0 m 266 ls []) := by
  obtain ⟨hx, hb, hr, hml, hown, hts, hX0, hbl, hlocks, hgv⟩ := id C0
  have S : CallFix p m c cL_law 4 s #[Value.ref b] BG RL := ⟨hx, hb, hml, hown, fun w hw => hts w (List.mem_filter.mp hw).1⟩
  have hbA : ¬ (fun q : Nat => s.heap.size ≤ q) b := Nat.not_le.mpr hbl
  have hi1 : vp_in (x3 + 1) L := lw_in (k := 1) hj hL (by decide) h3
  have hi2 : vp_in (x3 + 2) L := lw_in (k := 2) hj hL (by decide) h3
  have hi3 : vp_in (x3 + 3) L := lw_in (k := 3) hj hL (by decide) h3
  have hi4 : vp_in (x3 + 4) L := lw_in (k := 4) hj hL (by decide) h3
  have hi5 : vp_in (x3 + 5) L := lw_in (k := 5) hj hL (by decide) h3
  obtain ⟨r, hX, hM, hI⟩ := hst.2.2.1 σx σm (xs (x3 + 1).toNatClampNeg) (xs (x3 + 2).toNatClampNeg) hI
  refine lv_aload_n S.1 S.2.1 dL_law_266 rfl (lv_at hl 1 rfl) ?_
  refine lv_aload_n S.1 S.2.1 dL_law_267 rfl (lv_at hl 0 rfl) ?_
  refine lv_iload_n S.1 S.2.1 dL_law_268 rfl (lv_at hl 3 rfl) ?_
  refine lv_iconst (v := 1) S.1 S.2.1 dL_law_269 (by decide) ?_
  refine lv_iadd S.1 S.2.1 dL_law_270 ?_
  refine va_sld S.1 S.2.1 hX0 hbl hbA h.2.2.2.2 hi1 dL_law_271 ?_
  refine lv_aload_n S.1 S.2.1 dL_law_272 rfl (lv_at hl 0 rfl) ?_
  refine lv_iload_n S.1 S.2.1 dL_law_273 rfl (lv_at hl 3 rfl) ?_
  refine lv_iconst (v := 2) S.1 S.2.1 dL_law_274 (by decide) ?_
  refine lv_iadd S.1 S.2.1 dL_law_275 ?_
  refine va_sld S.1 S.2.1 hX0 hbl hbA h.2.2.2.2 hi2 dL_law_276 ?_
  refine lw_xi (As := [.int (xs (x3 + 1).toNatClampNeg), .int (xs (x3 + 2).toNatClampNeg)]) (rest := []) S F h (tX11_owner hX) kt_L_23 rfl ⟨Nat.le_of_ble_eq_true rfl, Nat.le_of_ble_eq_true rfl⟩ rfl hl.1 rfl (Nat.le_of_ble_eq_true rfl) ⟨hc0, hs0⟩ dL_law_277 (fun H locs h => ?_)
  refine lv_aload_n S.1 S.2.1 dL_law_280 rfl (lv_at hl 2 rfl) ?_
  refine lv_aload_n S.1 S.2.1 dL_law_281 rfl (lv_at hl 0 rfl) ?_
  refine lv_iload_n S.1 S.2.1 dL_law_282 rfl (lv_at hl 3 rfl) ?_
  refine lv_iconst (v := 1) S.1 S.2.1 dL_law_283 (by decide) ?_
  refine lv_iadd S.1 S.2.1 dL_law_284 ?_
  refine va_sld S.1 S.2.1 hX0 hbl hbA h.2.2.2.2 hi1 dL_law_285 ?_
  refine lv_aload_n S.1 S.2.1 dL_law_286 rfl (lv_at hl 0 rfl) ?_
  refine lv_iload_n S.1 S.2.1 dL_law_287 rfl (lv_at hl 3 rfl) ?_
  refine lv_iconst (v := 2) S.1 S.2.1 dL_law_288 (by decide) ?_
  refine lv_iadd S.1 S.2.1 dL_law_289 ?_
  refine va_sld S.1 S.2.1 hX0 hbl hbA h.2.2.2.2 hi2 dL_law_290 ?_
  refine lw_mi (As := [.int (xs (x3 + 1).toNatClampNeg), .int (xs (x3 + 2).toNatClampNeg)]) (rest := [.int r]) S F h (tX12_owner hM) kt_L_27 rfl ⟨Nat.le_of_ble_eq_true rfl, Nat.le_of_ble_eq_true rfl⟩ rfl hl.1 rfl (Nat.le_of_ble_eq_true rfl) ⟨hc0, hs0⟩ dL_law_291 (fun H locs h => ?_)
  refine lv_icmp_eq (tgt := 1588) S.1 S.2.1 dL_law_294 (by decide) (fun hc => ?_) (fun hc => absurd rfl hc)
  exact hk σx σm ls H locs hI h hl
set_option maxHeartbeats 2000000 in
set_option maxRecDepth 20000 in
theorem lw_case_heir {p : Program} {l : Launch} {e : Env} {s : State} {m : MethodId} {below : List Frame} {meth : Method} {c : Code} {D : va_G} {ax am : Nat → Nat} {cs : Nat → ClassId} {ts adK adV : Nat → Nat} {b L : Nat} {xs : Nat → Int32} {Inv : St → St → Prop} {N c0 s0 : Nat} (hL : L ≤ 3072) (C0 : lw_At p s m meth c b L xs) (F : LF D ax am cs ts adK adV s) (hc0 : c0 ≤ 600000) (hs0 : s0 ≤ 7302250) (hst : SPall Inv N) {x3 : Int32} {j : Nat} (hj : 6 * j + 6 ≤ L) (h3 : x3 = nI (6 * j)) (hk : ∀ (σx σm : St) (ls : Array Slot) (H : Heap) (locs : List Loc), Inv σx σm → LH D ax am cs s σx σm H locs → lv_has ls 4 [(0, .ref b), (1, .ref (ax 0)), (2, .ref (am 0)), (3, .int x3)] → W p l e room_1 s m #[Value.ref b] below meth c H locs c0 s0 (lw_Z below #[Value.ref b] s) (F0 m 1588 ls [])) {σx σm : St} {ls : Array Slot} {H : Heap} {locs : List Loc} (hI : Inv σx σm) (h : LH D ax am cs s σx σm H locs) (hl : lv_has ls 4 [(0, .ref b), (1, .ref (ax 0)), (2, .ref (am 0)), (3, .int x3)]) : W p l e room_1 s m #[Value.ref b] below meth c H locs c0 s0 (lw_Z below #[Value.ref b] s) (F0 m 299 ls []) := by
  obtain ⟨hx, hb, hr, hml, hown, hts, hX0, hbl, hlocks, hgv⟩ := id C0
  have S : CallFix p m c cL_law 4 s #[Value.ref b] BG RL := ⟨hx, hb, hml, hown, fun w hw => hts w (List.mem_filter.mp hw).1⟩
  have hbA : ¬ (fun q : Nat => s.heap.size ≤ q) b := Nat.not_le.mpr hbl
  have hi1 : vp_in (x3 + 1) L := lw_in (k := 1) hj hL (by decide) h3
  have hi2 : vp_in (x3 + 2) L := lw_in (k := 2) hj hL (by decide) h3
  have hi3 : vp_in (x3 + 3) L := lw_in (k := 3) hj hL (by decide) h3
  have hi4 : vp_in (x3 + 4) L := lw_in (k := 4) hj hL (by decide) h3
  have hi5 : vp_in (x3 + 5) L := lw_in (k := 5) hj hL (by decide) h3
  obtain ⟨r, σx', σm', hX, hM, hI⟩ := hst.2.2.2.1 σx σm (xs (x3 + 1).toNatClampNeg) (xs (x3 + 2).toNatClampNeg) (xs (x3 + 3).toNatClampNeg) hI
  refine lv_aload_n S.1 S.2.1 dL_law_299 rfl (lv_at hl 1 rfl) ?_
  refine lv_aload_n S.1 S.2.1 dL_law_300 rfl (lv_at hl 0 rfl) ?_
  refine lv_iload_n S.1 S.2.1 dL_law_301 rfl (lv_at hl 3 rfl) ?_
  refine lv_iconst (v := 1) S.1 S.2.1 dL_law_302 (by decide) ?_
  refine lv_iadd S.1 S.2.1 dL_law_303 ?_
  refine va_sld S.1 S.2.1 hX0 hbl hbA h.2.2.2.2 hi1 dL_law_304 ?_
  refine lv_aload_n S.1 S.2.1 dL_law_305 rfl (lv_at hl 0 rfl) ?_
  refine lv_iload_n S.1 S.2.1 dL_law_306 rfl (lv_at hl 3 rfl) ?_
  refine lv_iconst (v := 2) S.1 S.2.1 dL_law_307 (by decide) ?_
  refine lv_iadd S.1 S.2.1 dL_law_308 ?_
  refine va_sld S.1 S.2.1 hX0 hbl hbA h.2.2.2.2 hi2 dL_law_309 ?_
  refine lv_aload_n S.1 S.2.1 dL_law_310 rfl (lv_at hl 0 rfl) ?_
  refine lv_iload_n S.1 S.2.1 dL_law_311 rfl (lv_at hl 3 rfl) ?_
  refine lv_iconst (v := 3) S.1 S.2.1 dL_law_312 (by decide) ?_
  refine lv_iadd S.1 S.2.1 dL_law_313 ?_
  refine va_sld S.1 S.2.1 hX0 hbl hbA h.2.2.2.2 hi3 dL_law_314 ?_
  refine lw_xi (As := [.int (xs (x3 + 1).toNatClampNeg), .int (xs (x3 + 2).toNatClampNeg), .int (xs (x3 + 3).toNatClampNeg)]) (rest := []) S F h (tX11_heir hX) kt_L_28 rfl ⟨Nat.le_of_ble_eq_true rfl, Nat.le_of_ble_eq_true rfl⟩ rfl hl.1 rfl (Nat.le_of_ble_eq_true rfl) ⟨hc0, hs0⟩ dL_law_315 (fun H locs h => ?_)
  refine lv_aload_n S.1 S.2.1 dL_law_318 rfl (lv_at hl 2 rfl) ?_
  refine lv_aload_n S.1 S.2.1 dL_law_319 rfl (lv_at hl 0 rfl) ?_
  refine lv_iload_n S.1 S.2.1 dL_law_320 rfl (lv_at hl 3 rfl) ?_
  refine lv_iconst (v := 1) S.1 S.2.1 dL_law_321 (by decide) ?_
  refine lv_iadd S.1 S.2.1 dL_law_322 ?_
  refine va_sld S.1 S.2.1 hX0 hbl hbA h.2.2.2.2 hi1 dL_law_323 ?_
  refine lv_aload_n S.1 S.2.1 dL_law_324 rfl (lv_at hl 0 rfl) ?_
  refine lv_iload_n S.1 S.2.1 dL_law_325 rfl (lv_at hl 3 rfl) ?_
  refine lv_iconst (v := 2) S.1 S.2.1 dL_law_326 (by decide) ?_
  refine lv_iadd S.1 S.2.1 dL_law_327 ?_
  refine va_sld S.1 S.2.1 hX0 hbl hbA h.2.2.2.2 hi2 dL_law_328 ?_
  refine lv_aload_n S.1 S.2.1 dL_law_329 rfl (lv_at hl 0 rfl) ?_
  refine lv_iload_n S.1 S.2.1 dL_law_330 rfl (lv_at hl 3 rfl) ?_
  refine lv_iconst (v := 3) S.1 S.2.1 dL_law_331 (by decide) ?_
  refine lv_iadd S.1 S.2.1 dL_law_332 ?_
  refine va_sld S.1 S.2.1 hX0 hbl hbA h.2.2.2.2 hi3 dL_law_333 ?_
  refine lw_mi (As := [.int (xs (x3 + 1).toNatClampNeg), .int (xs (x3 + 2).toNatClampNeg), .int (xs (x3 + 3).toNatClampNeg)]) (rest := [.int r]) S F h (tX12_heir hM) kt_L_31 rfl ⟨Nat.le_of_ble_eq_true rfl, Nat.le_of_ble_eq_true rfl⟩ rfl hl.1 rfl (Nat.le_of_ble_eq_true rfl) ⟨hc0, hs0⟩ dL_law_334 (fun H locs h => ?_)
  refine lv_icmp_eq (tgt := 1588) S.1 S.2.1 dL_law_337 (by decide) (fun hc => ?_) (fun hc => absurd rfl hc)
  exact hk σx' σm' ls H locs hI h hl
set_option maxHeartbeats 2000000 in
set_option maxRecDepth 20000 in
theorem lw_case_set {p : Program} {l : Launch} {e : Env} {s : State} {m : MethodId} {below : List Frame} {meth : Method} {c : Code} {D : va_G} {ax am : Nat → Nat} {cs : Nat → ClassId} {ts adK adV : Nat → Nat} {b L : Nat} {xs : Nat → Int32} {Inv : St → St → Prop} {N c0 s0 : Nat} (hL : L ≤ 3072) (C0 : lw_At p s m meth c b L xs) (F : LF D ax am cs ts adK adV s) (hc0 : c0 ≤ 600000) (hs0 : s0 ≤ 7302250) (hst : SPall Inv N) {x3 : Int32} {j : Nat} (hj : 6 * j + 6 ≤ L) (h3 : x3 = nI (6 * j)) (hk : ∀ (σx σm : St) (ls : Array Slot) (H : Heap) (locs : List Loc), Inv σx σm → LH D ax am cs s σx σm H locs → lv_has ls 4 [(0, .ref b), (1, .ref (ax 0)), (2, .ref (am 0)), (3, .int x3)] → W p l e room_1 s m #[Value.ref b] below meth c H locs c0 s0 (lw_Z below #[Value.ref b] s) (F0 m 1588 ls [])) {σx σm : St} {ls : Array Slot} {H : Heap} {locs : List Loc} (hI : Inv σx σm) (h : LH D ax am cs s σx σm H locs) (hl : lv_has ls 4 [(0, .ref b), (1, .ref (ax 0)), (2, .ref (am 0)), (3, .int x3)]) : W p l e room_1 s m #[Value.ref b] below meth c H locs c0 s0 (lw_Z below #[Value.ref b] s) (F0 m 342 ls []) := by
  obtain ⟨hx, hb, hr, hml, hown, hts, hX0, hbl, hlocks, hgv⟩ := id C0
  have S : CallFix p m c cL_law 4 s #[Value.ref b] BG RL := ⟨hx, hb, hml, hown, fun w hw => hts w (List.mem_filter.mp hw).1⟩
  have hbA : ¬ (fun q : Nat => s.heap.size ≤ q) b := Nat.not_le.mpr hbl
  have hi1 : vp_in (x3 + 1) L := lw_in (k := 1) hj hL (by decide) h3
  have hi2 : vp_in (x3 + 2) L := lw_in (k := 2) hj hL (by decide) h3
  have hi3 : vp_in (x3 + 3) L := lw_in (k := 3) hj hL (by decide) h3
  have hi4 : vp_in (x3 + 4) L := lw_in (k := 4) hj hL (by decide) h3
  have hi5 : vp_in (x3 + 5) L := lw_in (k := 5) hj hL (by decide) h3
  obtain ⟨r, σx', σm', hX, hM, hI⟩ := hst.2.2.2.2.1 σx σm (xs (x3 + 1).toNatClampNeg) (xs (x3 + 2).toNatClampNeg) (xs (x3 + 3).toNatClampNeg) hI
  refine lv_aload_n S.1 S.2.1 dL_law_342 rfl (lv_at hl 1 rfl) ?_
  refine lv_aload_n S.1 S.2.1 dL_law_343 rfl (lv_at hl 0 rfl) ?_
  refine lv_iload_n S.1 S.2.1 dL_law_344 rfl (lv_at hl 3 rfl) ?_
  refine lv_iconst (v := 1) S.1 S.2.1 dL_law_345 (by decide) ?_
  refine lv_iadd S.1 S.2.1 dL_law_346 ?_
  refine va_sld S.1 S.2.1 hX0 hbl hbA h.2.2.2.2 hi1 dL_law_347 ?_
  refine lv_aload_n S.1 S.2.1 dL_law_348 rfl (lv_at hl 0 rfl) ?_
  refine lv_iload_n S.1 S.2.1 dL_law_349 rfl (lv_at hl 3 rfl) ?_
  refine lv_iconst (v := 2) S.1 S.2.1 dL_law_350 (by decide) ?_
  refine lv_iadd S.1 S.2.1 dL_law_351 ?_
  refine va_sld S.1 S.2.1 hX0 hbl hbA h.2.2.2.2 hi2 dL_law_352 ?_
  refine lv_aload_n S.1 S.2.1 dL_law_353 rfl (lv_at hl 0 rfl) ?_
  refine lv_iload_n S.1 S.2.1 dL_law_354 rfl (lv_at hl 3 rfl) ?_
  refine lv_iconst (v := 3) S.1 S.2.1 dL_law_355 (by decide) ?_
  refine lv_iadd S.1 S.2.1 dL_law_356 ?_
  refine va_sld S.1 S.2.1 hX0 hbl hbA h.2.2.2.2 hi3 dL_law_357 ?_
  refine lw_xi (As := [.int (xs (x3 + 1).toNatClampNeg), .int (xs (x3 + 2).toNatClampNeg), .int (xs (x3 + 3).toNatClampNeg)]) (rest := []) S F h (tX11_set hX) kt_L_32 rfl ⟨Nat.le_of_ble_eq_true rfl, Nat.le_of_ble_eq_true rfl⟩ rfl hl.1 rfl (Nat.le_of_ble_eq_true rfl) ⟨hc0, hs0⟩ dL_law_358 (fun H locs h => ?_)
  refine lv_aload_n S.1 S.2.1 dL_law_361 rfl (lv_at hl 2 rfl) ?_
  refine lv_aload_n S.1 S.2.1 dL_law_362 rfl (lv_at hl 0 rfl) ?_
  refine lv_iload_n S.1 S.2.1 dL_law_363 rfl (lv_at hl 3 rfl) ?_
  refine lv_iconst (v := 1) S.1 S.2.1 dL_law_364 (by decide) ?_
  refine lv_iadd S.1 S.2.1 dL_law_365 ?_
  refine va_sld S.1 S.2.1 hX0 hbl hbA h.2.2.2.2 hi1 dL_law_366 ?_
  refine lv_aload_n S.1 S.2.1 dL_law_367 rfl (lv_at hl 0 rfl) ?_
  refine lv_iload_n S.1 S.2.1 dL_law_368 rfl (lv_at hl 3 rfl) ?_
  refine lv_iconst (v := 2) S.1 S.2.1 dL_law_369 (by decide) ?_
  refine lv_iadd S.1 S.2.1 dL_law_370 ?_
  refine va_sld S.1 S.2.1 hX0 hbl hbA h.2.2.2.2 hi2 dL_law_371 ?_
  refine lv_aload_n S.1 S.2.1 dL_law_372 rfl (lv_at hl 0 rfl) ?_
  refine lv_iload_n S.1 S.2.1 dL_law_373 rfl (lv_at hl 3 rfl) ?_
  refine lv_iconst (v := 3) S.1 S.2.1 dL_law_374 (by decide) ?_
  refine lv_iadd S.1 S.2.1 dL_law_375 ?_
  refine va_sld S.1 S.2.1 hX0 hbl hbA h.2.2.2.2 hi3 dL_law_376 ?_
  refine lw_mi (As := [.int (xs (x3 + 1).toNatClampNeg), .int (xs (x3 + 2).toNatClampNeg), .int (xs (x3 + 3).toNatClampNeg)]) (rest := [.int r]) S F h (tX12_set hM) kt_L_35 rfl ⟨Nat.le_of_ble_eq_true rfl, Nat.le_of_ble_eq_true rfl⟩ rfl hl.1 rfl (Nat.le_of_ble_eq_true rfl) ⟨hc0, hs0⟩ dL_law_377 (fun H locs h => ?_)
  refine lv_icmp_eq (tgt := 1588) S.1 S.2.1 dL_law_380 (by decide) (fun hc => ?_) (fun hc => absurd rfl hc)
  exact hk σx' σm' ls H locs hI h hl
set_option maxHeartbeats 2000000 in
set_option maxRecDepth 20000 in
theorem lw_case_trees {p : Program} {l : Launch} {e : Env} {s : State} {m : MethodId} {below : List Frame} {meth : Method} {c : Code} {D : va_G} {ax am : Nat → Nat} {cs : Nat → ClassId} {ts adK adV : Nat → Nat} {b L : Nat} {xs : Nat → Int32} {Inv : St → St → Prop} {N c0 s0 : Nat} (hL : L ≤ 3072) (C0 : lw_At p s m meth c b L xs) (F : LF D ax am cs ts adK adV s) (hc0 : c0 ≤ 600000) (hs0 : s0 ≤ 7302250) (hst : SPall Inv N) {x3 : Int32} {j : Nat} (hj : 6 * j + 6 ≤ L) (h3 : x3 = nI (6 * j)) (hk : ∀ (σx σm : St) (ls : Array Slot) (H : Heap) (locs : List Loc), Inv σx σm → LH D ax am cs s σx σm H locs → lv_has ls 4 [(0, .ref b), (1, .ref (ax 0)), (2, .ref (am 0)), (3, .int x3)] → W p l e room_1 s m #[Value.ref b] below meth c H locs c0 s0 (lw_Z below #[Value.ref b] s) (F0 m 1588 ls [])) {σx σm : St} {ls : Array Slot} {H : Heap} {locs : List Loc} (hI : Inv σx σm) (h : LH D ax am cs s σx σm H locs) (hl : lv_has ls 4 [(0, .ref b), (1, .ref (ax 0)), (2, .ref (am 0)), (3, .int x3)]) : W p l e room_1 s m #[Value.ref b] below meth c H locs c0 s0 (lw_Z below #[Value.ref b] s) (F0 m 385 ls []) := by
  obtain ⟨hx, hb, hr, hml, hown, hts, hX0, hbl, hlocks, hgv⟩ := id C0
  have S : CallFix p m c cL_law 4 s #[Value.ref b] BG RL := ⟨hx, hb, hml, hown, fun w hw => hts w (List.mem_filter.mp hw).1⟩
  have hbA : ¬ (fun q : Nat => s.heap.size ≤ q) b := Nat.not_le.mpr hbl
  have hi1 : vp_in (x3 + 1) L := lw_in (k := 1) hj hL (by decide) h3
  have hi2 : vp_in (x3 + 2) L := lw_in (k := 2) hj hL (by decide) h3
  have hi3 : vp_in (x3 + 3) L := lw_in (k := 3) hj hL (by decide) h3
  have hi4 : vp_in (x3 + 4) L := lw_in (k := 4) hj hL (by decide) h3
  have hi5 : vp_in (x3 + 5) L := lw_in (k := 5) hj hL (by decide) h3
  obtain ⟨r, σx', σm', hX, hM, hI⟩ := hst.2.2.2.2.2.1 σx σm (xs (x3 + 1).toNatClampNeg) (xs (x3 + 2).toNatClampNeg) (xs (x3 + 3).toNatClampNeg) hI
  refine lv_aload_n S.1 S.2.1 dL_law_385 rfl (lv_at hl 1 rfl) ?_
  refine lv_aload_n S.1 S.2.1 dL_law_386 rfl (lv_at hl 0 rfl) ?_
  refine lv_iload_n S.1 S.2.1 dL_law_387 rfl (lv_at hl 3 rfl) ?_
  refine lv_iconst (v := 1) S.1 S.2.1 dL_law_388 (by decide) ?_
  refine lv_iadd S.1 S.2.1 dL_law_389 ?_
  refine va_sld S.1 S.2.1 hX0 hbl hbA h.2.2.2.2 hi1 dL_law_390 ?_
  refine lv_aload_n S.1 S.2.1 dL_law_391 rfl (lv_at hl 0 rfl) ?_
  refine lv_iload_n S.1 S.2.1 dL_law_392 rfl (lv_at hl 3 rfl) ?_
  refine lv_iconst (v := 2) S.1 S.2.1 dL_law_393 (by decide) ?_
  refine lv_iadd S.1 S.2.1 dL_law_394 ?_
  refine va_sld S.1 S.2.1 hX0 hbl hbA h.2.2.2.2 hi2 dL_law_395 ?_
  refine lv_aload_n S.1 S.2.1 dL_law_396 rfl (lv_at hl 0 rfl) ?_
  refine lv_iload_n S.1 S.2.1 dL_law_397 rfl (lv_at hl 3 rfl) ?_
  refine lv_iconst (v := 3) S.1 S.2.1 dL_law_398 (by decide) ?_
  refine lv_iadd S.1 S.2.1 dL_law_399 ?_
  refine va_sld S.1 S.2.1 hX0 hbl hbA h.2.2.2.2 hi3 dL_law_400 ?_
  refine lw_xi (As := [.int (xs (x3 + 1).toNatClampNeg), .int (xs (x3 + 2).toNatClampNeg), .int (xs (x3 + 3).toNatClampNeg)]) (rest := []) S F h (tX11_trees hX) kt_L_36 rfl ⟨Nat.le_of_ble_eq_true rfl, Nat.le_of_ble_eq_true rfl⟩ rfl hl.1 rfl (Nat.le_of_ble_eq_true rfl) ⟨hc0, hs0⟩ dL_law_401 (fun H locs h => ?_)
  refine lv_aload_n S.1 S.2.1 dL_law_404 rfl (lv_at hl 2 rfl) ?_
  refine lv_aload_n S.1 S.2.1 dL_law_405 rfl (lv_at hl 0 rfl) ?_
  refine lv_iload_n S.1 S.2.1 dL_law_406 rfl (lv_at hl 3 rfl) ?_
  refine lv_iconst (v := 1) S.1 S.2.1 dL_law_407 (by decide) ?_
  refine lv_iadd S.1 S.2.1 dL_law_408 ?_
  refine va_sld S.1 S.2.1 hX0 hbl hbA h.2.2.2.2 hi1 dL_law_409 ?_
  refine lv_aload_n S.1 S.2.1 dL_law_410 rfl (lv_at hl 0 rfl) ?_
  refine lv_iload_n S.1 S.2.1 dL_law_411 rfl (lv_at hl 3 rfl) ?_
  refine lv_iconst (v := 2) S.1 S.2.1 dL_law_412 (by decide) ?_
  refine lv_iadd S.1 S.2.1 dL_law_413 ?_
  refine va_sld S.1 S.2.1 hX0 hbl hbA h.2.2.2.2 hi2 dL_law_414 ?_
  refine lv_aload_n S.1 S.2.1 dL_law_415 rfl (lv_at hl 0 rfl) ?_
  refine lv_iload_n S.1 S.2.1 dL_law_416 rfl (lv_at hl 3 rfl) ?_
  refine lv_iconst (v := 3) S.1 S.2.1 dL_law_417 (by decide) ?_
  refine lv_iadd S.1 S.2.1 dL_law_418 ?_
  refine va_sld S.1 S.2.1 hX0 hbl hbA h.2.2.2.2 hi3 dL_law_419 ?_
  refine lw_mi (As := [.int (xs (x3 + 1).toNatClampNeg), .int (xs (x3 + 2).toNatClampNeg), .int (xs (x3 + 3).toNatClampNeg)]) (rest := [.int r]) S F h (tX12_trees hM) kt_L_39 rfl ⟨Nat.le_of_ble_eq_true rfl, Nat.le_of_ble_eq_true rfl⟩ rfl hl.1 rfl (Nat.le_of_ble_eq_true rfl) ⟨hc0, hs0⟩ dL_law_420 (fun H locs h => ?_)
  refine lv_icmp_eq (tgt := 1588) S.1 S.2.1 dL_law_423 (by decide) (fun hc => ?_) (fun hc => absurd rfl hc)
  exact hk σx' σm' ls H locs hI h hl
set_option maxHeartbeats 2000000 in
set_option maxRecDepth 20000 in
theorem lw_case_high {p : Program} {l : Launch} {e : Env} {s : State} {m : MethodId} {below : List Frame} {meth : Method} {c : Code} {D : va_G} {ax am : Nat → Nat} {cs : Nat → ClassId} {ts adK adV : Nat → Nat} {b L : Nat} {xs : Nat → Int32} {Inv : St → St → Prop} {N c0 s0 : Nat} (hL : L ≤ 3072) (C0 : lw_At p s m meth c b L xs) (F : LF D ax am cs ts adK adV s) (hc0 : c0 ≤ 600000) (hs0 : s0 ≤ 7302250) (hst : SPall Inv N) {x3 : Int32} {j : Nat} (hj : 6 * j + 6 ≤ L) (h3 : x3 = nI (6 * j)) (hk : ∀ (σx σm : St) (ls : Array Slot) (H : Heap) (locs : List Loc), Inv σx σm → LH D ax am cs s σx σm H locs → lv_has ls 4 [(0, .ref b), (1, .ref (ax 0)), (2, .ref (am 0)), (3, .int x3)] → W p l e room_1 s m #[Value.ref b] below meth c H locs c0 s0 (lw_Z below #[Value.ref b] s) (F0 m 1588 ls [])) {σx σm : St} {ls : Array Slot} {H : Heap} {locs : List Loc} (hI : Inv σx σm) (h : LH D ax am cs s σx σm H locs) (hl : lv_has ls 4 [(0, .ref b), (1, .ref (ax 0)), (2, .ref (am 0)), (3, .int x3)]) : W p l e room_1 s m #[Value.ref b] below meth c H locs c0 s0 (lw_Z below #[Value.ref b] s) (F0 m 428 ls []) := by
  obtain ⟨hx, hb, hr, hml, hown, hts, hX0, hbl, hlocks, hgv⟩ := id C0
  have S : CallFix p m c cL_law 4 s #[Value.ref b] BG RL := ⟨hx, hb, hml, hown, fun w hw => hts w (List.mem_filter.mp hw).1⟩
  have hbA : ¬ (fun q : Nat => s.heap.size ≤ q) b := Nat.not_le.mpr hbl
  have hi1 : vp_in (x3 + 1) L := lw_in (k := 1) hj hL (by decide) h3
  have hi2 : vp_in (x3 + 2) L := lw_in (k := 2) hj hL (by decide) h3
  have hi3 : vp_in (x3 + 3) L := lw_in (k := 3) hj hL (by decide) h3
  have hi4 : vp_in (x3 + 4) L := lw_in (k := 4) hj hL (by decide) h3
  have hi5 : vp_in (x3 + 5) L := lw_in (k := 5) hj hL (by decide) h3
  obtain ⟨r, hX, hM, hI⟩ := hst.2.2.2.2.2.2.1 σx σm (xs (x3 + 1).toNatClampNeg) hI
  refine lv_aload_n S.1 S.2.1 dL_law_428 rfl (lv_at hl 1 rfl) ?_
  refine lv_aload_n S.1 S.2.1 dL_law_429 rfl (lv_at hl 0 rfl) ?_
  refine lv_iload_n S.1 S.2.1 dL_law_430 rfl (lv_at hl 3 rfl) ?_
  refine lv_iconst (v := 1) S.1 S.2.1 dL_law_431 (by decide) ?_
  refine lv_iadd S.1 S.2.1 dL_law_432 ?_
  refine va_sld S.1 S.2.1 hX0 hbl hbA h.2.2.2.2 hi1 dL_law_433 ?_
  refine lw_xi (As := [.int (xs (x3 + 1).toNatClampNeg)]) (rest := []) S F h (tX11_high hX) kt_L_40 rfl ⟨Nat.le_of_ble_eq_true rfl, Nat.le_of_ble_eq_true rfl⟩ rfl hl.1 rfl (Nat.le_of_ble_eq_true rfl) ⟨hc0, hs0⟩ dL_law_434 (fun H locs h => ?_)
  refine lv_aload_n S.1 S.2.1 dL_law_437 rfl (lv_at hl 2 rfl) ?_
  refine lv_aload_n S.1 S.2.1 dL_law_438 rfl (lv_at hl 0 rfl) ?_
  refine lv_iload_n S.1 S.2.1 dL_law_439 rfl (lv_at hl 3 rfl) ?_
  refine lv_iconst (v := 1) S.1 S.2.1 dL_law_440 (by decide) ?_
  refine lv_iadd S.1 S.2.1 dL_law_441 ?_
  refine va_sld S.1 S.2.1 hX0 hbl hbA h.2.2.2.2 hi1 dL_law_442 ?_
  refine lw_mi (As := [.int (xs (x3 + 1).toNatClampNeg)]) (rest := [.int r]) S F h (tX12_high hM) kt_L_43 rfl ⟨Nat.le_of_ble_eq_true rfl, Nat.le_of_ble_eq_true rfl⟩ rfl hl.1 rfl (Nat.le_of_ble_eq_true rfl) ⟨hc0, hs0⟩ dL_law_443 (fun H locs h => ?_)
  refine lv_icmp_eq (tgt := 1588) S.1 S.2.1 dL_law_446 (by decide) (fun hc => ?_) (fun hc => absurd rfl hc)
  exact hk σx σm ls H locs hI h hl
set_option maxHeartbeats 2000000 in
set_option maxRecDepth 20000 in
theorem lw_case_tower {p : Program} {l : Launch} {e : Env} {s : State} {m : MethodId} {below : List Frame} {meth : Method} {c : Code} {D : va_G} {ax am : Nat → Nat} {cs : Nat → ClassId} {ts adK adV : Nat → Nat} {b L : Nat} {xs : Nat → Int32} {Inv : St → St → Prop} {N c0 s0 : Nat} (hL : L ≤ 3072) (C0 : lw_At p s m meth c b L xs) (F : LF D ax am cs ts adK adV s) (hc0 : c0 ≤ 600000) (hs0 : s0 ≤ 7302250) (hst : SPall Inv N) {x3 : Int32} {j : Nat} (hj : 6 * j + 6 ≤ L) (h3 : x3 = nI (6 * j)) (hk : ∀ (σx σm : St) (ls : Array Slot) (H : Heap) (locs : List Loc), Inv σx σm → LH D ax am cs s σx σm H locs → lv_has ls 4 [(0, .ref b), (1, .ref (ax 0)), (2, .ref (am 0)), (3, .int x3)] → W p l e room_1 s m #[Value.ref b] below meth c H locs c0 s0 (lw_Z below #[Value.ref b] s) (F0 m 1588 ls [])) {σx σm : St} {ls : Array Slot} {H : Heap} {locs : List Loc} (hI : Inv σx σm) (h : LH D ax am cs s σx σm H locs) (hl : lv_has ls 4 [(0, .ref b), (1, .ref (ax 0)), (2, .ref (am 0)), (3, .int x3)]) : W p l e room_1 s m #[Value.ref b] below meth c H locs c0 s0 (lw_Z below #[Value.ref b] s) (F0 m 451 ls []) := by
  obtain ⟨hx, hb, hr, hml, hown, hts, hX0, hbl, hlocks, hgv⟩ := id C0
  have S : CallFix p m c cL_law 4 s #[Value.ref b] BG RL := ⟨hx, hb, hml, hown, fun w hw => hts w (List.mem_filter.mp hw).1⟩
  have hbA : ¬ (fun q : Nat => s.heap.size ≤ q) b := Nat.not_le.mpr hbl
  have hi1 : vp_in (x3 + 1) L := lw_in (k := 1) hj hL (by decide) h3
  have hi2 : vp_in (x3 + 2) L := lw_in (k := 2) hj hL (by decide) h3
  have hi3 : vp_in (x3 + 3) L := lw_in (k := 3) hj hL (by decide) h3
  have hi4 : vp_in (x3 + 4) L := lw_in (k := 4) hj hL (by decide) h3
  have hi5 : vp_in (x3 + 5) L := lw_in (k := 5) hj hL (by decide) h3
  obtain ⟨r, σx', σm', hX, hM, hI⟩ := hst.2.2.2.2.2.2.2.1 σx σm (xs (x3 + 1).toNatClampNeg) (xs (x3 + 2).toNatClampNeg) hI
  refine lv_aload_n S.1 S.2.1 dL_law_451 rfl (lv_at hl 1 rfl) ?_
  refine lv_aload_n S.1 S.2.1 dL_law_452 rfl (lv_at hl 0 rfl) ?_
  refine lv_iload_n S.1 S.2.1 dL_law_453 rfl (lv_at hl 3 rfl) ?_
  refine lv_iconst (v := 1) S.1 S.2.1 dL_law_454 (by decide) ?_
  refine lv_iadd S.1 S.2.1 dL_law_455 ?_
  refine va_sld S.1 S.2.1 hX0 hbl hbA h.2.2.2.2 hi1 dL_law_456 ?_
  refine lv_aload_n S.1 S.2.1 dL_law_457 rfl (lv_at hl 0 rfl) ?_
  refine lv_iload_n S.1 S.2.1 dL_law_458 rfl (lv_at hl 3 rfl) ?_
  refine lv_iconst (v := 2) S.1 S.2.1 dL_law_459 (by decide) ?_
  refine lv_iadd S.1 S.2.1 dL_law_460 ?_
  refine va_sld S.1 S.2.1 hX0 hbl hbA h.2.2.2.2 hi2 dL_law_461 ?_
  refine lw_xi (As := [.int (xs (x3 + 1).toNatClampNeg), .int (xs (x3 + 2).toNatClampNeg)]) (rest := []) S F h (tX11_tower hX) kt_L_44 rfl ⟨Nat.le_of_ble_eq_true rfl, Nat.le_of_ble_eq_true rfl⟩ rfl hl.1 rfl (Nat.le_of_ble_eq_true rfl) ⟨hc0, hs0⟩ dL_law_462 (fun H locs h => ?_)
  refine lv_aload_n S.1 S.2.1 dL_law_465 rfl (lv_at hl 2 rfl) ?_
  refine lv_aload_n S.1 S.2.1 dL_law_466 rfl (lv_at hl 0 rfl) ?_
  refine lv_iload_n S.1 S.2.1 dL_law_467 rfl (lv_at hl 3 rfl) ?_
  refine lv_iconst (v := 1) S.1 S.2.1 dL_law_468 (by decide) ?_
  refine lv_iadd S.1 S.2.1 dL_law_469 ?_
  refine va_sld S.1 S.2.1 hX0 hbl hbA h.2.2.2.2 hi1 dL_law_470 ?_
  refine lv_aload_n S.1 S.2.1 dL_law_471 rfl (lv_at hl 0 rfl) ?_
  refine lv_iload_n S.1 S.2.1 dL_law_472 rfl (lv_at hl 3 rfl) ?_
  refine lv_iconst (v := 2) S.1 S.2.1 dL_law_473 (by decide) ?_
  refine lv_iadd S.1 S.2.1 dL_law_474 ?_
  refine va_sld S.1 S.2.1 hX0 hbl hbA h.2.2.2.2 hi2 dL_law_475 ?_
  refine lw_mi (As := [.int (xs (x3 + 1).toNatClampNeg), .int (xs (x3 + 2).toNatClampNeg)]) (rest := [.int r]) S F h (tX12_tower hM) kt_L_47 rfl ⟨Nat.le_of_ble_eq_true rfl, Nat.le_of_ble_eq_true rfl⟩ rfl hl.1 rfl (Nat.le_of_ble_eq_true rfl) ⟨hc0, hs0⟩ dL_law_476 (fun H locs h => ?_)
  refine lv_icmp_eq (tgt := 1588) S.1 S.2.1 dL_law_479 (by decide) (fun hc => ?_) (fun hc => absurd rfl hc)
  exact hk σx' σm' ls H locs hI h hl
set_option maxHeartbeats 2000000 in
set_option maxRecDepth 20000 in
theorem lw_case_span {p : Program} {l : Launch} {e : Env} {s : State} {m : MethodId} {below : List Frame} {meth : Method} {c : Code} {D : va_G} {ax am : Nat → Nat} {cs : Nat → ClassId} {ts adK adV : Nat → Nat} {b L : Nat} {xs : Nat → Int32} {Inv : St → St → Prop} {N c0 s0 : Nat} (hL : L ≤ 3072) (C0 : lw_At p s m meth c b L xs) (F : LF D ax am cs ts adK adV s) (hc0 : c0 ≤ 600000) (hs0 : s0 ≤ 7302250) (hst : SPall Inv N) {x3 : Int32} {j : Nat} (hj : 6 * j + 6 ≤ L) (h3 : x3 = nI (6 * j)) (hk : ∀ (σx σm : St) (ls : Array Slot) (H : Heap) (locs : List Loc), Inv σx σm → LH D ax am cs s σx σm H locs → lv_has ls 4 [(0, .ref b), (1, .ref (ax 0)), (2, .ref (am 0)), (3, .int x3)] → W p l e room_1 s m #[Value.ref b] below meth c H locs c0 s0 (lw_Z below #[Value.ref b] s) (F0 m 1588 ls [])) {σx σm : St} {ls : Array Slot} {H : Heap} {locs : List Loc} (hI : Inv σx σm) (h : LH D ax am cs s σx σm H locs) (hl : lv_has ls 4 [(0, .ref b), (1, .ref (ax 0)), (2, .ref (am 0)), (3, .int x3)]) : W p l e room_1 s m #[Value.ref b] below meth c H locs c0 s0 (lw_Z below #[Value.ref b] s) (F0 m 484 ls []) := by
  obtain ⟨hx, hb, hr, hml, hown, hts, hX0, hbl, hlocks, hgv⟩ := id C0
  have S : CallFix p m c cL_law 4 s #[Value.ref b] BG RL := ⟨hx, hb, hml, hown, fun w hw => hts w (List.mem_filter.mp hw).1⟩
  have hbA : ¬ (fun q : Nat => s.heap.size ≤ q) b := Nat.not_le.mpr hbl
  have hi1 : vp_in (x3 + 1) L := lw_in (k := 1) hj hL (by decide) h3
  have hi2 : vp_in (x3 + 2) L := lw_in (k := 2) hj hL (by decide) h3
  have hi3 : vp_in (x3 + 3) L := lw_in (k := 3) hj hL (by decide) h3
  have hi4 : vp_in (x3 + 4) L := lw_in (k := 4) hj hL (by decide) h3
  have hi5 : vp_in (x3 + 5) L := lw_in (k := 5) hj hL (by decide) h3
  obtain ⟨r, σx', σm', hX, hM, hI⟩ := hst.2.2.2.2.2.2.2.2.1 σx σm (xs (x3 + 1).toNatClampNeg) (xs (x3 + 2).toNatClampNeg) (xs (x3 + 3).toNatClampNeg) (xs (x3 + 4).toNatClampNeg) hI
  refine lv_aload_n S.1 S.2.1 dL_law_484 rfl (lv_at hl 1 rfl) ?_
  refine lv_aload_n S.1 S.2.1 dL_law_485 rfl (lv_at hl 0 rfl) ?_
  refine lv_iload_n S.1 S.2.1 dL_law_486 rfl (lv_at hl 3 rfl) ?_
  refine lv_iconst (v := 1) S.1 S.2.1 dL_law_487 (by decide) ?_
  refine lv_iadd S.1 S.2.1 dL_law_488 ?_
  refine va_sld S.1 S.2.1 hX0 hbl hbA h.2.2.2.2 hi1 dL_law_489 ?_
  refine lv_aload_n S.1 S.2.1 dL_law_490 rfl (lv_at hl 0 rfl) ?_
  refine lv_iload_n S.1 S.2.1 dL_law_491 rfl (lv_at hl 3 rfl) ?_
  refine lv_iconst (v := 2) S.1 S.2.1 dL_law_492 (by decide) ?_
  refine lv_iadd S.1 S.2.1 dL_law_493 ?_
  refine va_sld S.1 S.2.1 hX0 hbl hbA h.2.2.2.2 hi2 dL_law_494 ?_
  refine lv_aload_n S.1 S.2.1 dL_law_495 rfl (lv_at hl 0 rfl) ?_
  refine lv_iload_n S.1 S.2.1 dL_law_496 rfl (lv_at hl 3 rfl) ?_
  refine lv_iconst (v := 3) S.1 S.2.1 dL_law_497 (by decide) ?_
  refine lv_iadd S.1 S.2.1 dL_law_498 ?_
  refine va_sld S.1 S.2.1 hX0 hbl hbA h.2.2.2.2 hi3 dL_law_499 ?_
  refine lv_aload_n S.1 S.2.1 dL_law_500 rfl (lv_at hl 0 rfl) ?_
  refine lv_iload_n S.1 S.2.1 dL_law_501 rfl (lv_at hl 3 rfl) ?_
  refine lv_iconst (v := 4) S.1 S.2.1 dL_law_502 (by decide) ?_
  refine lv_iadd S.1 S.2.1 dL_law_503 ?_
  refine va_sld S.1 S.2.1 hX0 hbl hbA h.2.2.2.2 hi4 dL_law_504 ?_
  refine lw_xi (As := [.int (xs (x3 + 1).toNatClampNeg), .int (xs (x3 + 2).toNatClampNeg), .int (xs (x3 + 3).toNatClampNeg), .int (xs (x3 + 4).toNatClampNeg)]) (rest := []) S F h (tX11_span hX) kt_L_48 rfl ⟨Nat.le_of_ble_eq_true rfl, Nat.le_of_ble_eq_true rfl⟩ rfl hl.1 rfl (Nat.le_of_ble_eq_true rfl) ⟨hc0, hs0⟩ dL_law_505 (fun H locs h => ?_)
  refine lv_aload_n S.1 S.2.1 dL_law_508 rfl (lv_at hl 2 rfl) ?_
  refine lv_aload_n S.1 S.2.1 dL_law_509 rfl (lv_at hl 0 rfl) ?_
  refine lv_iload_n S.1 S.2.1 dL_law_510 rfl (lv_at hl 3 rfl) ?_
  refine lv_iconst (v := 1) S.1 S.2.1 dL_law_511 (by decide) ?_
  refine lv_iadd S.1 S.2.1 dL_law_512 ?_
  refine va_sld S.1 S.2.1 hX0 hbl hbA h.2.2.2.2 hi1 dL_law_513 ?_
  refine lv_aload_n S.1 S.2.1 dL_law_514 rfl (lv_at hl 0 rfl) ?_
  refine lv_iload_n S.1 S.2.1 dL_law_515 rfl (lv_at hl 3 rfl) ?_
  refine lv_iconst (v := 2) S.1 S.2.1 dL_law_516 (by decide) ?_
  refine lv_iadd S.1 S.2.1 dL_law_517 ?_
  refine va_sld S.1 S.2.1 hX0 hbl hbA h.2.2.2.2 hi2 dL_law_518 ?_
  refine lv_aload_n S.1 S.2.1 dL_law_519 rfl (lv_at hl 0 rfl) ?_
  refine lv_iload_n S.1 S.2.1 dL_law_520 rfl (lv_at hl 3 rfl) ?_
  refine lv_iconst (v := 3) S.1 S.2.1 dL_law_521 (by decide) ?_
  refine lv_iadd S.1 S.2.1 dL_law_522 ?_
  refine va_sld S.1 S.2.1 hX0 hbl hbA h.2.2.2.2 hi3 dL_law_523 ?_
  refine lv_aload_n S.1 S.2.1 dL_law_524 rfl (lv_at hl 0 rfl) ?_
  refine lv_iload_n S.1 S.2.1 dL_law_525 rfl (lv_at hl 3 rfl) ?_
  refine lv_iconst (v := 4) S.1 S.2.1 dL_law_526 (by decide) ?_
  refine lv_iadd S.1 S.2.1 dL_law_527 ?_
  refine va_sld S.1 S.2.1 hX0 hbl hbA h.2.2.2.2 hi4 dL_law_528 ?_
  refine lw_mi (As := [.int (xs (x3 + 1).toNatClampNeg), .int (xs (x3 + 2).toNatClampNeg), .int (xs (x3 + 3).toNatClampNeg), .int (xs (x3 + 4).toNatClampNeg)]) (rest := [.int r]) S F h (tX12_span hM) kt_L_52 rfl ⟨Nat.le_of_ble_eq_true rfl, Nat.le_of_ble_eq_true rfl⟩ rfl hl.1 rfl (Nat.le_of_ble_eq_true rfl) ⟨hc0, hs0⟩ dL_law_529 (fun H locs h => ?_)
  refine lv_icmp_eq (tgt := 1588) S.1 S.2.1 dL_law_532 (by decide) (fun hc => ?_) (fun hc => absurd rfl hc)
  exact hk σx' σm' ls H locs hI h hl
set_option maxHeartbeats 2000000 in
set_option maxRecDepth 20000 in
theorem lw_case_heat {p : Program} {l : Launch} {e : Env} {s : State} {m : MethodId} {below : List Frame} {meth : Method} {c : Code} {D : va_G} {ax am : Nat → Nat} {cs : Nat → ClassId} {ts adK adV : Nat → Nat} {b L : Nat} {xs : Nat → Int32} {Inv : St → St → Prop} {N c0 s0 : Nat} (hL : L ≤ 3072) (C0 : lw_At p s m meth c b L xs) (F : LF D ax am cs ts adK adV s) (hc0 : c0 ≤ 600000) (hs0 : s0 ≤ 7302250) (hst : SPall Inv N) {x3 : Int32} {j : Nat} (hj : 6 * j + 6 ≤ L) (h3 : x3 = nI (6 * j)) (hk : ∀ (σx σm : St) (ls : Array Slot) (H : Heap) (locs : List Loc), Inv σx σm → LH D ax am cs s σx σm H locs → lv_has ls 4 [(0, .ref b), (1, .ref (ax 0)), (2, .ref (am 0)), (3, .int x3)] → W p l e room_1 s m #[Value.ref b] below meth c H locs c0 s0 (lw_Z below #[Value.ref b] s) (F0 m 1588 ls [])) {σx σm : St} {ls : Array Slot} {H : Heap} {locs : List Loc} (hI : Inv σx σm) (h : LH D ax am cs s σx σm H locs) (hl : lv_has ls 4 [(0, .ref b), (1, .ref (ax 0)), (2, .ref (am 0)), (3, .int x3)]) : W p l e room_1 s m #[Value.ref b] below meth c H locs c0 s0 (lw_Z below #[Value.ref b] s) (F0 m 537 ls []) := by
  obtain ⟨hx, hb, hr, hml, hown, hts, hX0, hbl, hlocks, hgv⟩ := id C0
  have S : CallFix p m c cL_law 4 s #[Value.ref b] BG RL := ⟨hx, hb, hml, hown, fun w hw => hts w (List.mem_filter.mp hw).1⟩
  have hbA : ¬ (fun q : Nat => s.heap.size ≤ q) b := Nat.not_le.mpr hbl
  have hi1 : vp_in (x3 + 1) L := lw_in (k := 1) hj hL (by decide) h3
  have hi2 : vp_in (x3 + 2) L := lw_in (k := 2) hj hL (by decide) h3
  have hi3 : vp_in (x3 + 3) L := lw_in (k := 3) hj hL (by decide) h3
  have hi4 : vp_in (x3 + 4) L := lw_in (k := 4) hj hL (by decide) h3
  have hi5 : vp_in (x3 + 5) L := lw_in (k := 5) hj hL (by decide) h3
  obtain ⟨r, σx', σm', hX, hM, hI⟩ := hst.2.2.2.2.2.2.2.2.2.1 σx σm (xs (x3 + 1).toNatClampNeg) (xs (x3 + 2).toNatClampNeg) hI
  refine lv_aload_n S.1 S.2.1 dL_law_537 rfl (lv_at hl 1 rfl) ?_
  refine lv_aload_n S.1 S.2.1 dL_law_538 rfl (lv_at hl 0 rfl) ?_
  refine lv_iload_n S.1 S.2.1 dL_law_539 rfl (lv_at hl 3 rfl) ?_
  refine lv_iconst (v := 1) S.1 S.2.1 dL_law_540 (by decide) ?_
  refine lv_iadd S.1 S.2.1 dL_law_541 ?_
  refine va_sld S.1 S.2.1 hX0 hbl hbA h.2.2.2.2 hi1 dL_law_542 ?_
  refine lv_aload_n S.1 S.2.1 dL_law_543 rfl (lv_at hl 0 rfl) ?_
  refine lv_iload_n S.1 S.2.1 dL_law_544 rfl (lv_at hl 3 rfl) ?_
  refine lv_iconst (v := 2) S.1 S.2.1 dL_law_545 (by decide) ?_
  refine lv_iadd S.1 S.2.1 dL_law_546 ?_
  refine va_sld S.1 S.2.1 hX0 hbl hbA h.2.2.2.2 hi2 dL_law_547 ?_
  refine lw_xi (As := [.int (xs (x3 + 1).toNatClampNeg), .int (xs (x3 + 2).toNatClampNeg)]) (rest := []) S F h (tX11_heat hX) kt_L_53 rfl ⟨Nat.le_of_ble_eq_true rfl, Nat.le_of_ble_eq_true rfl⟩ rfl hl.1 rfl (Nat.le_of_ble_eq_true rfl) ⟨hc0, hs0⟩ dL_law_548 (fun H locs h => ?_)
  refine lv_aload_n S.1 S.2.1 dL_law_551 rfl (lv_at hl 2 rfl) ?_
  refine lv_aload_n S.1 S.2.1 dL_law_552 rfl (lv_at hl 0 rfl) ?_
  refine lv_iload_n S.1 S.2.1 dL_law_553 rfl (lv_at hl 3 rfl) ?_
  refine lv_iconst (v := 1) S.1 S.2.1 dL_law_554 (by decide) ?_
  refine lv_iadd S.1 S.2.1 dL_law_555 ?_
  refine va_sld S.1 S.2.1 hX0 hbl hbA h.2.2.2.2 hi1 dL_law_556 ?_
  refine lv_aload_n S.1 S.2.1 dL_law_557 rfl (lv_at hl 0 rfl) ?_
  refine lv_iload_n S.1 S.2.1 dL_law_558 rfl (lv_at hl 3 rfl) ?_
  refine lv_iconst (v := 2) S.1 S.2.1 dL_law_559 (by decide) ?_
  refine lv_iadd S.1 S.2.1 dL_law_560 ?_
  refine va_sld S.1 S.2.1 hX0 hbl hbA h.2.2.2.2 hi2 dL_law_561 ?_
  refine lw_mi (As := [.int (xs (x3 + 1).toNatClampNeg), .int (xs (x3 + 2).toNatClampNeg)]) (rest := [.int r]) S F h (tX12_heat hM) kt_L_56 rfl ⟨Nat.le_of_ble_eq_true rfl, Nat.le_of_ble_eq_true rfl⟩ rfl hl.1 rfl (Nat.le_of_ble_eq_true rfl) ⟨hc0, hs0⟩ dL_law_562 (fun H locs h => ?_)
  refine lv_icmp_eq (tgt := 1588) S.1 S.2.1 dL_law_565 (by decide) (fun hc => ?_) (fun hc => absurd rfl hc)
  exact hk σx' σm' ls H locs hI h hl
set_option maxHeartbeats 2000000 in
set_option maxRecDepth 20000 in
theorem lw_case_spanTold {p : Program} {l : Launch} {e : Env} {s : State} {m : MethodId} {below : List Frame} {meth : Method} {c : Code} {D : va_G} {ax am : Nat → Nat} {cs : Nat → ClassId} {ts adK adV : Nat → Nat} {b L : Nat} {xs : Nat → Int32} {Inv : St → St → Prop} {N c0 s0 : Nat} (hL : L ≤ 3072) (C0 : lw_At p s m meth c b L xs) (F : LF D ax am cs ts adK adV s) (hc0 : c0 ≤ 600000) (hs0 : s0 ≤ 7302250) (hst : SPall Inv N) {x3 : Int32} {j : Nat} (hj : 6 * j + 6 ≤ L) (h3 : x3 = nI (6 * j)) (hk : ∀ (σx σm : St) (ls : Array Slot) (H : Heap) (locs : List Loc), Inv σx σm → LH D ax am cs s σx σm H locs → lv_has ls 4 [(0, .ref b), (1, .ref (ax 0)), (2, .ref (am 0)), (3, .int x3)] → W p l e room_1 s m #[Value.ref b] below meth c H locs c0 s0 (lw_Z below #[Value.ref b] s) (F0 m 1588 ls [])) {σx σm : St} {ls : Array Slot} {H : Heap} {locs : List Loc} (hI : Inv σx σm) (h : LH D ax am cs s σx σm H locs) (hl : lv_has ls 4 [(0, .ref b), (1, .ref (ax 0)), (2, .ref (am 0)), (3, .int x3)]) : W p l e room_1 s m #[Value.ref b] below meth c H locs c0 s0 (lw_Z below #[Value.ref b] s) (F0 m 570 ls []) := by
  obtain ⟨hx, hb, hr, hml, hown, hts, hX0, hbl, hlocks, hgv⟩ := id C0
  have S : CallFix p m c cL_law 4 s #[Value.ref b] BG RL := ⟨hx, hb, hml, hown, fun w hw => hts w (List.mem_filter.mp hw).1⟩
  have hbA : ¬ (fun q : Nat => s.heap.size ≤ q) b := Nat.not_le.mpr hbl
  have hi1 : vp_in (x3 + 1) L := lw_in (k := 1) hj hL (by decide) h3
  have hi2 : vp_in (x3 + 2) L := lw_in (k := 2) hj hL (by decide) h3
  have hi3 : vp_in (x3 + 3) L := lw_in (k := 3) hj hL (by decide) h3
  have hi4 : vp_in (x3 + 4) L := lw_in (k := 4) hj hL (by decide) h3
  have hi5 : vp_in (x3 + 5) L := lw_in (k := 5) hj hL (by decide) h3
  obtain ⟨r, σx', hX, hM, hI⟩ := hst.2.2.2.2.2.2.2.2.2.2.1 σx σm (xs (x3 + 1).toNatClampNeg) (xs (x3 + 2).toNatClampNeg) hI
  refine lv_aload_n S.1 S.2.1 dL_law_570 rfl (lv_at hl 1 rfl) ?_
  refine lv_aload_n S.1 S.2.1 dL_law_571 rfl (lv_at hl 0 rfl) ?_
  refine lv_iload_n S.1 S.2.1 dL_law_572 rfl (lv_at hl 3 rfl) ?_
  refine lv_iconst (v := 1) S.1 S.2.1 dL_law_573 (by decide) ?_
  refine lv_iadd S.1 S.2.1 dL_law_574 ?_
  refine va_sld S.1 S.2.1 hX0 hbl hbA h.2.2.2.2 hi1 dL_law_575 ?_
  refine lv_aload_n S.1 S.2.1 dL_law_576 rfl (lv_at hl 0 rfl) ?_
  refine lv_iload_n S.1 S.2.1 dL_law_577 rfl (lv_at hl 3 rfl) ?_
  refine lv_iconst (v := 2) S.1 S.2.1 dL_law_578 (by decide) ?_
  refine lv_iadd S.1 S.2.1 dL_law_579 ?_
  refine va_sld S.1 S.2.1 hX0 hbl hbA h.2.2.2.2 hi2 dL_law_580 ?_
  refine lw_xj (As := [.int (xs (x3 + 1).toNatClampNeg), .int (xs (x3 + 2).toNatClampNeg)]) (rest := []) S F h (tX11_spanTold hX) kt_L_57 rfl ⟨Nat.le_of_ble_eq_true rfl, Nat.le_of_ble_eq_true rfl⟩ rfl hl.1 rfl (Nat.le_of_ble_eq_true rfl) ⟨hc0, hs0⟩ dL_law_581 (fun H locs h => ?_)
  refine lv_aload_n S.1 S.2.1 dL_law_584 rfl (lv_at hl 2 rfl) ?_
  refine lv_aload_n S.1 S.2.1 dL_law_585 rfl (lv_at hl 0 rfl) ?_
  refine lv_iload_n S.1 S.2.1 dL_law_586 rfl (lv_at hl 3 rfl) ?_
  refine lv_iconst (v := 1) S.1 S.2.1 dL_law_587 (by decide) ?_
  refine lv_iadd S.1 S.2.1 dL_law_588 ?_
  refine va_sld S.1 S.2.1 hX0 hbl hbA h.2.2.2.2 hi1 dL_law_589 ?_
  refine lv_aload_n S.1 S.2.1 dL_law_590 rfl (lv_at hl 0 rfl) ?_
  refine lv_iload_n S.1 S.2.1 dL_law_591 rfl (lv_at hl 3 rfl) ?_
  refine lv_iconst (v := 2) S.1 S.2.1 dL_law_592 (by decide) ?_
  refine lv_iadd S.1 S.2.1 dL_law_593 ?_
  refine va_sld S.1 S.2.1 hX0 hbl hbA h.2.2.2.2 hi2 dL_law_594 ?_
  refine lw_mj (As := [.int (xs (x3 + 1).toNatClampNeg), .int (xs (x3 + 2).toNatClampNeg)]) (rest := [.long r]) S F h (tX12_spanTold hM) kt_L_61 rfl ⟨Nat.le_of_ble_eq_true rfl, Nat.le_of_ble_eq_true rfl⟩ rfl hl.1 rfl (Nat.le_of_ble_eq_true rfl) ⟨hc0, hs0⟩ dL_law_595 (fun H locs h => ?_)
  refine W.lcmp S.1 S.2.1 dL_law_598 ?_
  rw [lg_self]
  refine lv_if_eq (tgt := 1588) S.1 S.2.1 dL_law_599 (by decide) (fun hc => ?_) (fun hc => absurd rfl hc)
  exact hk σx' σm ls H locs hI h hl
set_option maxHeartbeats 2000000 in
set_option maxRecDepth 20000 in
theorem lw_case_leave {p : Program} {l : Launch} {e : Env} {s : State} {m : MethodId} {below : List Frame} {meth : Method} {c : Code} {D : va_G} {ax am : Nat → Nat} {cs : Nat → ClassId} {ts adK adV : Nat → Nat} {b L : Nat} {xs : Nat → Int32} {Inv : St → St → Prop} {N c0 s0 : Nat} (hL : L ≤ 3072) (C0 : lw_At p s m meth c b L xs) (F : LF D ax am cs ts adK adV s) (hc0 : c0 ≤ 600000) (hs0 : s0 ≤ 7302250) (hst : SPall Inv N) {x3 : Int32} {j : Nat} (hj : 6 * j + 6 ≤ L) (h3 : x3 = nI (6 * j)) (hk : ∀ (σx σm : St) (ls : Array Slot) (H : Heap) (locs : List Loc), Inv σx σm → LH D ax am cs s σx σm H locs → lv_has ls 4 [(0, .ref b), (1, .ref (ax 0)), (2, .ref (am 0)), (3, .int x3)] → W p l e room_1 s m #[Value.ref b] below meth c H locs c0 s0 (lw_Z below #[Value.ref b] s) (F0 m 1588 ls [])) {σx σm : St} {ls : Array Slot} {H : Heap} {locs : List Loc} (hI : Inv σx σm) (h : LH D ax am cs s σx σm H locs) (hl : lv_has ls 4 [(0, .ref b), (1, .ref (ax 0)), (2, .ref (am 0)), (3, .int x3)]) : W p l e room_1 s m #[Value.ref b] below meth c H locs c0 s0 (lw_Z below #[Value.ref b] s) (F0 m 604 ls []) := by
  obtain ⟨hx, hb, hr, hml, hown, hts, hX0, hbl, hlocks, hgv⟩ := id C0
  have S : CallFix p m c cL_law 4 s #[Value.ref b] BG RL := ⟨hx, hb, hml, hown, fun w hw => hts w (List.mem_filter.mp hw).1⟩
  have hbA : ¬ (fun q : Nat => s.heap.size ≤ q) b := Nat.not_le.mpr hbl
  have hi1 : vp_in (x3 + 1) L := lw_in (k := 1) hj hL (by decide) h3
  have hi2 : vp_in (x3 + 2) L := lw_in (k := 2) hj hL (by decide) h3
  have hi3 : vp_in (x3 + 3) L := lw_in (k := 3) hj hL (by decide) h3
  have hi4 : vp_in (x3 + 4) L := lw_in (k := 4) hj hL (by decide) h3
  have hi5 : vp_in (x3 + 5) L := lw_in (k := 5) hj hL (by decide) h3
  obtain ⟨r, σx', σm', hX, hM, hI⟩ := hst.2.2.2.2.2.2.2.2.2.2.2.1 σx σm (xs (x3 + 1).toNatClampNeg) (xs (x3 + 2).toNatClampNeg) (xs (x3 + 3).toNatClampNeg) (xs (x3 + 4).toNatClampNeg) (xs (x3 + 5).toNatClampNeg) hI
  refine lv_aload_n S.1 S.2.1 dL_law_604 rfl (lv_at hl 1 rfl) ?_
  refine lv_aload_n S.1 S.2.1 dL_law_605 rfl (lv_at hl 0 rfl) ?_
  refine lv_iload_n S.1 S.2.1 dL_law_606 rfl (lv_at hl 3 rfl) ?_
  refine lv_iconst (v := 1) S.1 S.2.1 dL_law_607 (by decide) ?_
  refine lv_iadd S.1 S.2.1 dL_law_608 ?_
  refine va_sld S.1 S.2.1 hX0 hbl hbA h.2.2.2.2 hi1 dL_law_609 ?_
  refine lv_aload_n S.1 S.2.1 dL_law_610 rfl (lv_at hl 0 rfl) ?_
  refine lv_iload_n S.1 S.2.1 dL_law_611 rfl (lv_at hl 3 rfl) ?_
  refine lv_iconst (v := 2) S.1 S.2.1 dL_law_612 (by decide) ?_
  refine lv_iadd S.1 S.2.1 dL_law_613 ?_
  refine va_sld S.1 S.2.1 hX0 hbl hbA h.2.2.2.2 hi2 dL_law_614 ?_
  refine lv_aload_n S.1 S.2.1 dL_law_615 rfl (lv_at hl 0 rfl) ?_
  refine lv_iload_n S.1 S.2.1 dL_law_616 rfl (lv_at hl 3 rfl) ?_
  refine lv_iconst (v := 3) S.1 S.2.1 dL_law_617 (by decide) ?_
  refine lv_iadd S.1 S.2.1 dL_law_618 ?_
  refine va_sld S.1 S.2.1 hX0 hbl hbA h.2.2.2.2 hi3 dL_law_619 ?_
  refine lv_aload_n S.1 S.2.1 dL_law_620 rfl (lv_at hl 0 rfl) ?_
  refine lv_iload_n S.1 S.2.1 dL_law_621 rfl (lv_at hl 3 rfl) ?_
  refine lv_iconst (v := 4) S.1 S.2.1 dL_law_622 (by decide) ?_
  refine lv_iadd S.1 S.2.1 dL_law_623 ?_
  refine va_sld S.1 S.2.1 hX0 hbl hbA h.2.2.2.2 hi4 dL_law_624 ?_
  refine lv_aload_n S.1 S.2.1 dL_law_625 rfl (lv_at hl 0 rfl) ?_
  refine lv_iload_n S.1 S.2.1 dL_law_626 rfl (lv_at hl 3 rfl) ?_
  refine lv_iconst (v := 5) S.1 S.2.1 dL_law_627 (by decide) ?_
  refine lv_iadd S.1 S.2.1 dL_law_628 ?_
  refine va_sld S.1 S.2.1 hX0 hbl hbA h.2.2.2.2 hi5 dL_law_629 ?_
  refine lw_xi (As := [.int (xs (x3 + 1).toNatClampNeg), .int (xs (x3 + 2).toNatClampNeg), .int (xs (x3 + 3).toNatClampNeg), .int (xs (x3 + 4).toNatClampNeg), .int (xs (x3 + 5).toNatClampNeg)]) (rest := []) S F h (tX11_leave hX) kt_L_62 rfl ⟨Nat.le_of_ble_eq_true rfl, Nat.le_of_ble_eq_true rfl⟩ rfl hl.1 rfl (Nat.le_of_ble_eq_true rfl) ⟨hc0, hs0⟩ dL_law_630 (fun H locs h => ?_)
  refine lv_aload_n S.1 S.2.1 dL_law_633 rfl (lv_at hl 2 rfl) ?_
  refine lv_aload_n S.1 S.2.1 dL_law_634 rfl (lv_at hl 0 rfl) ?_
  refine lv_iload_n S.1 S.2.1 dL_law_635 rfl (lv_at hl 3 rfl) ?_
  refine lv_iconst (v := 1) S.1 S.2.1 dL_law_636 (by decide) ?_
  refine lv_iadd S.1 S.2.1 dL_law_637 ?_
  refine va_sld S.1 S.2.1 hX0 hbl hbA h.2.2.2.2 hi1 dL_law_638 ?_
  refine lv_aload_n S.1 S.2.1 dL_law_639 rfl (lv_at hl 0 rfl) ?_
  refine lv_iload_n S.1 S.2.1 dL_law_640 rfl (lv_at hl 3 rfl) ?_
  refine lv_iconst (v := 2) S.1 S.2.1 dL_law_641 (by decide) ?_
  refine lv_iadd S.1 S.2.1 dL_law_642 ?_
  refine va_sld S.1 S.2.1 hX0 hbl hbA h.2.2.2.2 hi2 dL_law_643 ?_
  refine lv_aload_n S.1 S.2.1 dL_law_644 rfl (lv_at hl 0 rfl) ?_
  refine lv_iload_n S.1 S.2.1 dL_law_645 rfl (lv_at hl 3 rfl) ?_
  refine lv_iconst (v := 3) S.1 S.2.1 dL_law_646 (by decide) ?_
  refine lv_iadd S.1 S.2.1 dL_law_647 ?_
  refine va_sld S.1 S.2.1 hX0 hbl hbA h.2.2.2.2 hi3 dL_law_648 ?_
  refine lv_aload_n S.1 S.2.1 dL_law_649 rfl (lv_at hl 0 rfl) ?_
  refine lv_iload_n S.1 S.2.1 dL_law_650 rfl (lv_at hl 3 rfl) ?_
  refine lv_iconst (v := 4) S.1 S.2.1 dL_law_651 (by decide) ?_
  refine lv_iadd S.1 S.2.1 dL_law_652 ?_
  refine va_sld S.1 S.2.1 hX0 hbl hbA h.2.2.2.2 hi4 dL_law_653 ?_
  refine lv_aload_n S.1 S.2.1 dL_law_654 rfl (lv_at hl 0 rfl) ?_
  refine lv_iload_n S.1 S.2.1 dL_law_655 rfl (lv_at hl 3 rfl) ?_
  refine lv_iconst (v := 5) S.1 S.2.1 dL_law_656 (by decide) ?_
  refine lv_iadd S.1 S.2.1 dL_law_657 ?_
  refine va_sld S.1 S.2.1 hX0 hbl hbA h.2.2.2.2 hi5 dL_law_658 ?_
  refine lw_mi (As := [.int (xs (x3 + 1).toNatClampNeg), .int (xs (x3 + 2).toNatClampNeg), .int (xs (x3 + 3).toNatClampNeg), .int (xs (x3 + 4).toNatClampNeg), .int (xs (x3 + 5).toNatClampNeg)]) (rest := [.int r]) S F h (tX12_leave hM) kt_L_66 rfl ⟨Nat.le_of_ble_eq_true rfl, Nat.le_of_ble_eq_true rfl⟩ rfl hl.1 rfl (Nat.le_of_ble_eq_true rfl) ⟨hc0, hs0⟩ dL_law_659 (fun H locs h => ?_)
  refine lv_icmp_eq (tgt := 1588) S.1 S.2.1 dL_law_662 (by decide) (fun hc => ?_) (fun hc => absurd rfl hc)
  exact hk σx' σm' ls H locs hI h hl
set_option maxHeartbeats 2000000 in
set_option maxRecDepth 20000 in
theorem lw_case_leaveTold {p : Program} {l : Launch} {e : Env} {s : State} {m : MethodId} {below : List Frame} {meth : Method} {c : Code} {D : va_G} {ax am : Nat → Nat} {cs : Nat → ClassId} {ts adK adV : Nat → Nat} {b L : Nat} {xs : Nat → Int32} {Inv : St → St → Prop} {N c0 s0 : Nat} (hL : L ≤ 3072) (C0 : lw_At p s m meth c b L xs) (F : LF D ax am cs ts adK adV s) (hc0 : c0 ≤ 600000) (hs0 : s0 ≤ 7302250) (hst : SPall Inv N) {x3 : Int32} {j : Nat} (hj : 6 * j + 6 ≤ L) (h3 : x3 = nI (6 * j)) (hk : ∀ (σx σm : St) (ls : Array Slot) (H : Heap) (locs : List Loc), Inv σx σm → LH D ax am cs s σx σm H locs → lv_has ls 4 [(0, .ref b), (1, .ref (ax 0)), (2, .ref (am 0)), (3, .int x3)] → W p l e room_1 s m #[Value.ref b] below meth c H locs c0 s0 (lw_Z below #[Value.ref b] s) (F0 m 1588 ls [])) {σx σm : St} {ls : Array Slot} {H : Heap} {locs : List Loc} (hI : Inv σx σm) (h : LH D ax am cs s σx σm H locs) (hl : lv_has ls 4 [(0, .ref b), (1, .ref (ax 0)), (2, .ref (am 0)), (3, .int x3)]) : W p l e room_1 s m #[Value.ref b] below meth c H locs c0 s0 (lw_Z below #[Value.ref b] s) (F0 m 667 ls []) := by
  obtain ⟨hx, hb, hr, hml, hown, hts, hX0, hbl, hlocks, hgv⟩ := id C0
  have S : CallFix p m c cL_law 4 s #[Value.ref b] BG RL := ⟨hx, hb, hml, hown, fun w hw => hts w (List.mem_filter.mp hw).1⟩
  have hbA : ¬ (fun q : Nat => s.heap.size ≤ q) b := Nat.not_le.mpr hbl
  have hi1 : vp_in (x3 + 1) L := lw_in (k := 1) hj hL (by decide) h3
  have hi2 : vp_in (x3 + 2) L := lw_in (k := 2) hj hL (by decide) h3
  have hi3 : vp_in (x3 + 3) L := lw_in (k := 3) hj hL (by decide) h3
  have hi4 : vp_in (x3 + 4) L := lw_in (k := 4) hj hL (by decide) h3
  have hi5 : vp_in (x3 + 5) L := lw_in (k := 5) hj hL (by decide) h3
  obtain ⟨r, σx', hX, hM, hI⟩ := hst.2.2.2.2.2.2.2.2.2.2.2.2.1 σx σm (xs (x3 + 1).toNatClampNeg) (xs (x3 + 2).toNatClampNeg) hI
  refine lv_aload_n S.1 S.2.1 dL_law_667 rfl (lv_at hl 1 rfl) ?_
  refine lv_aload_n S.1 S.2.1 dL_law_668 rfl (lv_at hl 0 rfl) ?_
  refine lv_iload_n S.1 S.2.1 dL_law_669 rfl (lv_at hl 3 rfl) ?_
  refine lv_iconst (v := 1) S.1 S.2.1 dL_law_670 (by decide) ?_
  refine lv_iadd S.1 S.2.1 dL_law_671 ?_
  refine va_sld S.1 S.2.1 hX0 hbl hbA h.2.2.2.2 hi1 dL_law_672 ?_
  refine lv_aload_n S.1 S.2.1 dL_law_673 rfl (lv_at hl 0 rfl) ?_
  refine lv_iload_n S.1 S.2.1 dL_law_674 rfl (lv_at hl 3 rfl) ?_
  refine lv_iconst (v := 2) S.1 S.2.1 dL_law_675 (by decide) ?_
  refine lv_iadd S.1 S.2.1 dL_law_676 ?_
  refine va_sld S.1 S.2.1 hX0 hbl hbA h.2.2.2.2 hi2 dL_law_677 ?_
  refine lw_xi (As := [.int (xs (x3 + 1).toNatClampNeg), .int (xs (x3 + 2).toNatClampNeg)]) (rest := []) S F h (tX11_leaveTold hX) kt_L_67 rfl ⟨Nat.le_of_ble_eq_true rfl, Nat.le_of_ble_eq_true rfl⟩ rfl hl.1 rfl (Nat.le_of_ble_eq_true rfl) ⟨hc0, hs0⟩ dL_law_678 (fun H locs h => ?_)
  refine lv_aload_n S.1 S.2.1 dL_law_681 rfl (lv_at hl 2 rfl) ?_
  refine lv_aload_n S.1 S.2.1 dL_law_682 rfl (lv_at hl 0 rfl) ?_
  refine lv_iload_n S.1 S.2.1 dL_law_683 rfl (lv_at hl 3 rfl) ?_
  refine lv_iconst (v := 1) S.1 S.2.1 dL_law_684 (by decide) ?_
  refine lv_iadd S.1 S.2.1 dL_law_685 ?_
  refine va_sld S.1 S.2.1 hX0 hbl hbA h.2.2.2.2 hi1 dL_law_686 ?_
  refine lv_aload_n S.1 S.2.1 dL_law_687 rfl (lv_at hl 0 rfl) ?_
  refine lv_iload_n S.1 S.2.1 dL_law_688 rfl (lv_at hl 3 rfl) ?_
  refine lv_iconst (v := 2) S.1 S.2.1 dL_law_689 (by decide) ?_
  refine lv_iadd S.1 S.2.1 dL_law_690 ?_
  refine va_sld S.1 S.2.1 hX0 hbl hbA h.2.2.2.2 hi2 dL_law_691 ?_
  refine lw_mi (As := [.int (xs (x3 + 1).toNatClampNeg), .int (xs (x3 + 2).toNatClampNeg)]) (rest := [.int r]) S F h (tX12_leaveTold hM) kt_L_70 rfl ⟨Nat.le_of_ble_eq_true rfl, Nat.le_of_ble_eq_true rfl⟩ rfl hl.1 rfl (Nat.le_of_ble_eq_true rfl) ⟨hc0, hs0⟩ dL_law_692 (fun H locs h => ?_)
  refine lv_icmp_eq (tgt := 1588) S.1 S.2.1 dL_law_695 (by decide) (fun hc => ?_) (fun hc => absurd rfl hc)
  exact hk σx' σm ls H locs hI h hl
set_option maxHeartbeats 2000000 in
set_option maxRecDepth 20000 in
theorem lw_case_renew {p : Program} {l : Launch} {e : Env} {s : State} {m : MethodId} {below : List Frame} {meth : Method} {c : Code} {D : va_G} {ax am : Nat → Nat} {cs : Nat → ClassId} {ts adK adV : Nat → Nat} {b L : Nat} {xs : Nat → Int32} {Inv : St → St → Prop} {N c0 s0 : Nat} (hL : L ≤ 3072) (C0 : lw_At p s m meth c b L xs) (F : LF D ax am cs ts adK adV s) (hc0 : c0 ≤ 600000) (hs0 : s0 ≤ 7302250) (hst : SPall Inv N) {x3 : Int32} {j : Nat} (hj : 6 * j + 6 ≤ L) (h3 : x3 = nI (6 * j)) (hk : ∀ (σx σm : St) (ls : Array Slot) (H : Heap) (locs : List Loc), Inv σx σm → LH D ax am cs s σx σm H locs → lv_has ls 4 [(0, .ref b), (1, .ref (ax 0)), (2, .ref (am 0)), (3, .int x3)] → W p l e room_1 s m #[Value.ref b] below meth c H locs c0 s0 (lw_Z below #[Value.ref b] s) (F0 m 1588 ls [])) {σx σm : St} {ls : Array Slot} {H : Heap} {locs : List Loc} (hI : Inv σx σm) (h : LH D ax am cs s σx σm H locs) (hl : lv_has ls 4 [(0, .ref b), (1, .ref (ax 0)), (2, .ref (am 0)), (3, .int x3)]) : W p l e room_1 s m #[Value.ref b] below meth c H locs c0 s0 (lw_Z below #[Value.ref b] s) (F0 m 700 ls []) := by
  obtain ⟨hx, hb, hr, hml, hown, hts, hX0, hbl, hlocks, hgv⟩ := id C0
  have S : CallFix p m c cL_law 4 s #[Value.ref b] BG RL := ⟨hx, hb, hml, hown, fun w hw => hts w (List.mem_filter.mp hw).1⟩
  have hbA : ¬ (fun q : Nat => s.heap.size ≤ q) b := Nat.not_le.mpr hbl
  have hi1 : vp_in (x3 + 1) L := lw_in (k := 1) hj hL (by decide) h3
  have hi2 : vp_in (x3 + 2) L := lw_in (k := 2) hj hL (by decide) h3
  have hi3 : vp_in (x3 + 3) L := lw_in (k := 3) hj hL (by decide) h3
  have hi4 : vp_in (x3 + 4) L := lw_in (k := 4) hj hL (by decide) h3
  have hi5 : vp_in (x3 + 5) L := lw_in (k := 5) hj hL (by decide) h3
  obtain ⟨r, σx', σm', hX, hM, hI⟩ := hst.2.2.2.2.2.2.2.2.2.2.2.2.2.1 σx σm (xs (x3 + 1).toNatClampNeg) hI
  refine lv_aload_n S.1 S.2.1 dL_law_700 rfl (lv_at hl 1 rfl) ?_
  refine lv_aload_n S.1 S.2.1 dL_law_701 rfl (lv_at hl 0 rfl) ?_
  refine lv_iload_n S.1 S.2.1 dL_law_702 rfl (lv_at hl 3 rfl) ?_
  refine lv_iconst (v := 1) S.1 S.2.1 dL_law_703 (by decide) ?_
  refine lv_iadd S.1 S.2.1 dL_law_704 ?_
  refine va_sld S.1 S.2.1 hX0 hbl hbA h.2.2.2.2 hi1 dL_law_705 ?_
  refine lw_xi (As := [.int (xs (x3 + 1).toNatClampNeg)]) (rest := []) S F h (tX11_renew hX) kt_L_71 rfl ⟨Nat.le_of_ble_eq_true rfl, Nat.le_of_ble_eq_true rfl⟩ rfl hl.1 rfl (Nat.le_of_ble_eq_true rfl) ⟨hc0, hs0⟩ dL_law_706 (fun H locs h => ?_)
  refine lv_aload_n S.1 S.2.1 dL_law_709 rfl (lv_at hl 2 rfl) ?_
  refine lv_aload_n S.1 S.2.1 dL_law_710 rfl (lv_at hl 0 rfl) ?_
  refine lv_iload_n S.1 S.2.1 dL_law_711 rfl (lv_at hl 3 rfl) ?_
  refine lv_iconst (v := 1) S.1 S.2.1 dL_law_712 (by decide) ?_
  refine lv_iadd S.1 S.2.1 dL_law_713 ?_
  refine va_sld S.1 S.2.1 hX0 hbl hbA h.2.2.2.2 hi1 dL_law_714 ?_
  refine lw_mi (As := [.int (xs (x3 + 1).toNatClampNeg)]) (rest := [.int r]) S F h (tX12_renew hM) kt_L_74 rfl ⟨Nat.le_of_ble_eq_true rfl, Nat.le_of_ble_eq_true rfl⟩ rfl hl.1 rfl (Nat.le_of_ble_eq_true rfl) ⟨hc0, hs0⟩ dL_law_715 (fun H locs h => ?_)
  refine lv_icmp_eq (tgt := 1588) S.1 S.2.1 dL_law_718 (by decide) (fun hc => ?_) (fun hc => absurd rfl hc)
  exact hk σx' σm' ls H locs hI h hl
set_option maxHeartbeats 2000000 in
set_option maxRecDepth 20000 in
theorem lw_case_appeal {p : Program} {l : Launch} {e : Env} {s : State} {m : MethodId} {below : List Frame} {meth : Method} {c : Code} {D : va_G} {ax am : Nat → Nat} {cs : Nat → ClassId} {ts adK adV : Nat → Nat} {b L : Nat} {xs : Nat → Int32} {Inv : St → St → Prop} {N c0 s0 : Nat} (hL : L ≤ 3072) (C0 : lw_At p s m meth c b L xs) (F : LF D ax am cs ts adK adV s) (hc0 : c0 ≤ 600000) (hs0 : s0 ≤ 7302250) (hst : SPall Inv N) {x3 : Int32} {j : Nat} (hj : 6 * j + 6 ≤ L) (h3 : x3 = nI (6 * j)) (hk : ∀ (σx σm : St) (ls : Array Slot) (H : Heap) (locs : List Loc), Inv σx σm → LH D ax am cs s σx σm H locs → lv_has ls 4 [(0, .ref b), (1, .ref (ax 0)), (2, .ref (am 0)), (3, .int x3)] → W p l e room_1 s m #[Value.ref b] below meth c H locs c0 s0 (lw_Z below #[Value.ref b] s) (F0 m 1588 ls [])) {σx σm : St} {ls : Array Slot} {H : Heap} {locs : List Loc} (hI : Inv σx σm) (h : LH D ax am cs s σx σm H locs) (hl : lv_has ls 4 [(0, .ref b), (1, .ref (ax 0)), (2, .ref (am 0)), (3, .int x3)]) : W p l e room_1 s m #[Value.ref b] below meth c H locs c0 s0 (lw_Z below #[Value.ref b] s) (F0 m 723 ls []) := by
  obtain ⟨hx, hb, hr, hml, hown, hts, hX0, hbl, hlocks, hgv⟩ := id C0
  have S : CallFix p m c cL_law 4 s #[Value.ref b] BG RL := ⟨hx, hb, hml, hown, fun w hw => hts w (List.mem_filter.mp hw).1⟩
  have hbA : ¬ (fun q : Nat => s.heap.size ≤ q) b := Nat.not_le.mpr hbl
  have hi1 : vp_in (x3 + 1) L := lw_in (k := 1) hj hL (by decide) h3
  have hi2 : vp_in (x3 + 2) L := lw_in (k := 2) hj hL (by decide) h3
  have hi3 : vp_in (x3 + 3) L := lw_in (k := 3) hj hL (by decide) h3
  have hi4 : vp_in (x3 + 4) L := lw_in (k := 4) hj hL (by decide) h3
  have hi5 : vp_in (x3 + 5) L := lw_in (k := 5) hj hL (by decide) h3
  obtain ⟨r, σx', σm', hX, hM, hI⟩ := hst.2.2.2.2.2.2.2.2.2.2.2.2.2.2.1 σx σm (xs (x3 + 1).toNatClampNeg) hI
  refine lv_aload_n S.1 S.2.1 dL_law_723 rfl (lv_at hl 1 rfl) ?_
  refine lv_aload_n S.1 S.2.1 dL_law_724 rfl (lv_at hl 0 rfl) ?_
  refine lv_iload_n S.1 S.2.1 dL_law_725 rfl (lv_at hl 3 rfl) ?_
  refine lv_iconst (v := 1) S.1 S.2.1 dL_law_726 (by decide) ?_
  refine lv_iadd S.1 S.2.1 dL_law_727 ?_
  refine va_sld S.1 S.2.1 hX0 hbl hbA h.2.2.2.2 hi1 dL_law_728 ?_
  refine lw_xi (As := [.int (xs (x3 + 1).toNatClampNeg)]) (rest := []) S F h (tX11_appeal hX) kt_L_75 rfl ⟨Nat.le_of_ble_eq_true rfl, Nat.le_of_ble_eq_true rfl⟩ rfl hl.1 rfl (Nat.le_of_ble_eq_true rfl) ⟨hc0, hs0⟩ dL_law_729 (fun H locs h => ?_)
  refine lv_aload_n S.1 S.2.1 dL_law_732 rfl (lv_at hl 2 rfl) ?_
  refine lv_aload_n S.1 S.2.1 dL_law_733 rfl (lv_at hl 0 rfl) ?_
  refine lv_iload_n S.1 S.2.1 dL_law_734 rfl (lv_at hl 3 rfl) ?_
  refine lv_iconst (v := 1) S.1 S.2.1 dL_law_735 (by decide) ?_
  refine lv_iadd S.1 S.2.1 dL_law_736 ?_
  refine va_sld S.1 S.2.1 hX0 hbl hbA h.2.2.2.2 hi1 dL_law_737 ?_
  refine lw_mi (As := [.int (xs (x3 + 1).toNatClampNeg)]) (rest := [.int r]) S F h (tX12_appeal hM) kt_L_78 rfl ⟨Nat.le_of_ble_eq_true rfl, Nat.le_of_ble_eq_true rfl⟩ rfl hl.1 rfl (Nat.le_of_ble_eq_true rfl) ⟨hc0, hs0⟩ dL_law_738 (fun H locs h => ?_)
  refine lv_icmp_eq (tgt := 1588) S.1 S.2.1 dL_law_741 (by decide) (fun hc => ?_) (fun hc => absurd rfl hc)
  exact hk σx' σm' ls H locs hI h hl
set_option maxHeartbeats 2000000 in
set_option maxRecDepth 20000 in
theorem lw_case_undo {p : Program} {l : Launch} {e : Env} {s : State} {m : MethodId} {below : List Frame} {meth : Method} {c : Code} {D : va_G} {ax am : Nat → Nat} {cs : Nat → ClassId} {ts adK adV : Nat → Nat} {b L : Nat} {xs : Nat → Int32} {Inv : St → St → Prop} {N c0 s0 : Nat} (hL : L ≤ 3072) (C0 : lw_At p s m meth c b L xs) (F : LF D ax am cs ts adK adV s) (hc0 : c0 ≤ 600000) (hs0 : s0 ≤ 7302250) (hst : SPall Inv N) {x3 : Int32} {j : Nat} (hj : 6 * j + 6 ≤ L) (h3 : x3 = nI (6 * j)) (hk : ∀ (σx σm : St) (ls : Array Slot) (H : Heap) (locs : List Loc), Inv σx σm → LH D ax am cs s σx σm H locs → lv_has ls 4 [(0, .ref b), (1, .ref (ax 0)), (2, .ref (am 0)), (3, .int x3)] → W p l e room_1 s m #[Value.ref b] below meth c H locs c0 s0 (lw_Z below #[Value.ref b] s) (F0 m 1588 ls [])) {σx σm : St} {ls : Array Slot} {H : Heap} {locs : List Loc} (hI : Inv σx σm) (h : LH D ax am cs s σx σm H locs) (hl : lv_has ls 4 [(0, .ref b), (1, .ref (ax 0)), (2, .ref (am 0)), (3, .int x3)]) : W p l e room_1 s m #[Value.ref b] below meth c H locs c0 s0 (lw_Z below #[Value.ref b] s) (F0 m 746 ls []) := by
  obtain ⟨hx, hb, hr, hml, hown, hts, hX0, hbl, hlocks, hgv⟩ := id C0
  have S : CallFix p m c cL_law 4 s #[Value.ref b] BG RL := ⟨hx, hb, hml, hown, fun w hw => hts w (List.mem_filter.mp hw).1⟩
  have hbA : ¬ (fun q : Nat => s.heap.size ≤ q) b := Nat.not_le.mpr hbl
  have hi1 : vp_in (x3 + 1) L := lw_in (k := 1) hj hL (by decide) h3
  have hi2 : vp_in (x3 + 2) L := lw_in (k := 2) hj hL (by decide) h3
  have hi3 : vp_in (x3 + 3) L := lw_in (k := 3) hj hL (by decide) h3
  have hi4 : vp_in (x3 + 4) L := lw_in (k := 4) hj hL (by decide) h3
  have hi5 : vp_in (x3 + 5) L := lw_in (k := 5) hj hL (by decide) h3
  obtain ⟨r, σx', σm', hX, hM, hI⟩ := hst.2.2.2.2.2.2.2.2.2.2.2.2.2.2.2.1 σx σm (xs (x3 + 1).toNatClampNeg) (xs (x3 + 2).toNatClampNeg) hI
  refine lv_aload_n S.1 S.2.1 dL_law_746 rfl (lv_at hl 1 rfl) ?_
  refine lv_aload_n S.1 S.2.1 dL_law_747 rfl (lv_at hl 0 rfl) ?_
  refine lv_iload_n S.1 S.2.1 dL_law_748 rfl (lv_at hl 3 rfl) ?_
  refine lv_iconst (v := 1) S.1 S.2.1 dL_law_749 (by decide) ?_
  refine lv_iadd S.1 S.2.1 dL_law_750 ?_
  refine va_sld S.1 S.2.1 hX0 hbl hbA h.2.2.2.2 hi1 dL_law_751 ?_
  refine lv_aload_n S.1 S.2.1 dL_law_752 rfl (lv_at hl 0 rfl) ?_
  refine lv_iload_n S.1 S.2.1 dL_law_753 rfl (lv_at hl 3 rfl) ?_
  refine lv_iconst (v := 2) S.1 S.2.1 dL_law_754 (by decide) ?_
  refine lv_iadd S.1 S.2.1 dL_law_755 ?_
  refine va_sld S.1 S.2.1 hX0 hbl hbA h.2.2.2.2 hi2 dL_law_756 ?_
  refine lw_xi (As := [.int (xs (x3 + 1).toNatClampNeg), .int (xs (x3 + 2).toNatClampNeg)]) (rest := []) S F h (tX11_undo hX) kt_L_79 rfl ⟨Nat.le_of_ble_eq_true rfl, Nat.le_of_ble_eq_true rfl⟩ rfl hl.1 rfl (Nat.le_of_ble_eq_true rfl) ⟨hc0, hs0⟩ dL_law_757 (fun H locs h => ?_)
  refine lv_aload_n S.1 S.2.1 dL_law_760 rfl (lv_at hl 2 rfl) ?_
  refine lv_aload_n S.1 S.2.1 dL_law_761 rfl (lv_at hl 0 rfl) ?_
  refine lv_iload_n S.1 S.2.1 dL_law_762 rfl (lv_at hl 3 rfl) ?_
  refine lv_iconst (v := 1) S.1 S.2.1 dL_law_763 (by decide) ?_
  refine lv_iadd S.1 S.2.1 dL_law_764 ?_
  refine va_sld S.1 S.2.1 hX0 hbl hbA h.2.2.2.2 hi1 dL_law_765 ?_
  refine lv_aload_n S.1 S.2.1 dL_law_766 rfl (lv_at hl 0 rfl) ?_
  refine lv_iload_n S.1 S.2.1 dL_law_767 rfl (lv_at hl 3 rfl) ?_
  refine lv_iconst (v := 2) S.1 S.2.1 dL_law_768 (by decide) ?_
  refine lv_iadd S.1 S.2.1 dL_law_769 ?_
  refine va_sld S.1 S.2.1 hX0 hbl hbA h.2.2.2.2 hi2 dL_law_770 ?_
  refine lw_mi (As := [.int (xs (x3 + 1).toNatClampNeg), .int (xs (x3 + 2).toNatClampNeg)]) (rest := [.int r]) S F h (tX12_undo hM) kt_L_82 rfl ⟨Nat.le_of_ble_eq_true rfl, Nat.le_of_ble_eq_true rfl⟩ rfl hl.1 rfl (Nat.le_of_ble_eq_true rfl) ⟨hc0, hs0⟩ dL_law_771 (fun H locs h => ?_)
  refine lv_icmp_eq (tgt := 1588) S.1 S.2.1 dL_law_774 (by decide) (fun hc => ?_) (fun hc => absurd rfl hc)
  exact hk σx' σm' ls H locs hI h hl
set_option maxHeartbeats 2000000 in
set_option maxRecDepth 20000 in
theorem lw_case_has {p : Program} {l : Launch} {e : Env} {s : State} {m : MethodId} {below : List Frame} {meth : Method} {c : Code} {D : va_G} {ax am : Nat → Nat} {cs : Nat → ClassId} {ts adK adV : Nat → Nat} {b L : Nat} {xs : Nat → Int32} {Inv : St → St → Prop} {N c0 s0 : Nat} (hL : L ≤ 3072) (C0 : lw_At p s m meth c b L xs) (F : LF D ax am cs ts adK adV s) (hc0 : c0 ≤ 600000) (hs0 : s0 ≤ 7302250) (hst : SPall Inv N) {x3 : Int32} {j : Nat} (hj : 6 * j + 6 ≤ L) (h3 : x3 = nI (6 * j)) (hk : ∀ (σx σm : St) (ls : Array Slot) (H : Heap) (locs : List Loc), Inv σx σm → LH D ax am cs s σx σm H locs → lv_has ls 4 [(0, .ref b), (1, .ref (ax 0)), (2, .ref (am 0)), (3, .int x3)] → W p l e room_1 s m #[Value.ref b] below meth c H locs c0 s0 (lw_Z below #[Value.ref b] s) (F0 m 1588 ls [])) {σx σm : St} {ls : Array Slot} {H : Heap} {locs : List Loc} (hI : Inv σx σm) (h : LH D ax am cs s σx σm H locs) (hl : lv_has ls 4 [(0, .ref b), (1, .ref (ax 0)), (2, .ref (am 0)), (3, .int x3)]) : W p l e room_1 s m #[Value.ref b] below meth c H locs c0 s0 (lw_Z below #[Value.ref b] s) (F0 m 779 ls []) := by
  obtain ⟨hx, hb, hr, hml, hown, hts, hX0, hbl, hlocks, hgv⟩ := id C0
  have S : CallFix p m c cL_law 4 s #[Value.ref b] BG RL := ⟨hx, hb, hml, hown, fun w hw => hts w (List.mem_filter.mp hw).1⟩
  have hbA : ¬ (fun q : Nat => s.heap.size ≤ q) b := Nat.not_le.mpr hbl
  have hi1 : vp_in (x3 + 1) L := lw_in (k := 1) hj hL (by decide) h3
  have hi2 : vp_in (x3 + 2) L := lw_in (k := 2) hj hL (by decide) h3
  have hi3 : vp_in (x3 + 3) L := lw_in (k := 3) hj hL (by decide) h3
  have hi4 : vp_in (x3 + 4) L := lw_in (k := 4) hj hL (by decide) h3
  have hi5 : vp_in (x3 + 5) L := lw_in (k := 5) hj hL (by decide) h3
  obtain ⟨r, σx', hX, hM, hI⟩ := hst.2.2.2.2.2.2.2.2.2.2.2.2.2.2.2.2.1 σx σm (xs (x3 + 1).toNatClampNeg) (xs (x3 + 2).toNatClampNeg) hI
  refine lv_aload_n S.1 S.2.1 dL_law_779 rfl (lv_at hl 1 rfl) ?_
  refine lv_aload_n S.1 S.2.1 dL_law_780 rfl (lv_at hl 0 rfl) ?_
  refine lv_iload_n S.1 S.2.1 dL_law_781 rfl (lv_at hl 3 rfl) ?_
  refine lv_iconst (v := 1) S.1 S.2.1 dL_law_782 (by decide) ?_
  refine lv_iadd S.1 S.2.1 dL_law_783 ?_
  refine va_sld S.1 S.2.1 hX0 hbl hbA h.2.2.2.2 hi1 dL_law_784 ?_
  refine lv_aload_n S.1 S.2.1 dL_law_785 rfl (lv_at hl 0 rfl) ?_
  refine lv_iload_n S.1 S.2.1 dL_law_786 rfl (lv_at hl 3 rfl) ?_
  refine lv_iconst (v := 2) S.1 S.2.1 dL_law_787 (by decide) ?_
  refine lv_iadd S.1 S.2.1 dL_law_788 ?_
  refine va_sld S.1 S.2.1 hX0 hbl hbA h.2.2.2.2 hi2 dL_law_789 ?_
  refine lw_xi (As := [.int (xs (x3 + 1).toNatClampNeg), .int (xs (x3 + 2).toNatClampNeg)]) (rest := []) S F h (tX11_has hX) kt_L_83 rfl ⟨Nat.le_of_ble_eq_true rfl, Nat.le_of_ble_eq_true rfl⟩ rfl hl.1 rfl (Nat.le_of_ble_eq_true rfl) ⟨hc0, hs0⟩ dL_law_790 (fun H locs h => ?_)
  refine lv_aload_n S.1 S.2.1 dL_law_793 rfl (lv_at hl 2 rfl) ?_
  refine lv_aload_n S.1 S.2.1 dL_law_794 rfl (lv_at hl 0 rfl) ?_
  refine lv_iload_n S.1 S.2.1 dL_law_795 rfl (lv_at hl 3 rfl) ?_
  refine lv_iconst (v := 1) S.1 S.2.1 dL_law_796 (by decide) ?_
  refine lv_iadd S.1 S.2.1 dL_law_797 ?_
  refine va_sld S.1 S.2.1 hX0 hbl hbA h.2.2.2.2 hi1 dL_law_798 ?_
  refine lv_aload_n S.1 S.2.1 dL_law_799 rfl (lv_at hl 0 rfl) ?_
  refine lv_iload_n S.1 S.2.1 dL_law_800 rfl (lv_at hl 3 rfl) ?_
  refine lv_iconst (v := 2) S.1 S.2.1 dL_law_801 (by decide) ?_
  refine lv_iadd S.1 S.2.1 dL_law_802 ?_
  refine va_sld S.1 S.2.1 hX0 hbl hbA h.2.2.2.2 hi2 dL_law_803 ?_
  refine lw_mi (As := [.int (xs (x3 + 1).toNatClampNeg), .int (xs (x3 + 2).toNatClampNeg)]) (rest := [.int r]) S F h (tX12_has hM) kt_L_86 rfl ⟨Nat.le_of_ble_eq_true rfl, Nat.le_of_ble_eq_true rfl⟩ rfl hl.1 rfl (Nat.le_of_ble_eq_true rfl) ⟨hc0, hs0⟩ dL_law_804 (fun H locs h => ?_)
  refine lv_icmp_eq (tgt := 1588) S.1 S.2.1 dL_law_807 (by decide) (fun hc => ?_) (fun hc => absurd rfl hc)
  exact hk σx' σm ls H locs hI h hl
set_option maxHeartbeats 2000000 in
set_option maxRecDepth 20000 in
theorem lw_case_yearly {p : Program} {l : Launch} {e : Env} {s : State} {m : MethodId} {below : List Frame} {meth : Method} {c : Code} {D : va_G} {ax am : Nat → Nat} {cs : Nat → ClassId} {ts adK adV : Nat → Nat} {b L : Nat} {xs : Nat → Int32} {Inv : St → St → Prop} {N c0 s0 : Nat} (hL : L ≤ 3072) (C0 : lw_At p s m meth c b L xs) (F : LF D ax am cs ts adK adV s) (hc0 : c0 ≤ 600000) (hs0 : s0 ≤ 7302250) (hst : SPall Inv N) {x3 : Int32} {j : Nat} (hj : 6 * j + 6 ≤ L) (h3 : x3 = nI (6 * j)) (hk : ∀ (σx σm : St) (ls : Array Slot) (H : Heap) (locs : List Loc), Inv σx σm → LH D ax am cs s σx σm H locs → lv_has ls 4 [(0, .ref b), (1, .ref (ax 0)), (2, .ref (am 0)), (3, .int x3)] → W p l e room_1 s m #[Value.ref b] below meth c H locs c0 s0 (lw_Z below #[Value.ref b] s) (F0 m 1588 ls [])) {σx σm : St} {ls : Array Slot} {H : Heap} {locs : List Loc} (hI : Inv σx σm) (h : LH D ax am cs s σx σm H locs) (hl : lv_has ls 4 [(0, .ref b), (1, .ref (ax 0)), (2, .ref (am 0)), (3, .int x3)]) : W p l e room_1 s m #[Value.ref b] below meth c H locs c0 s0 (lw_Z below #[Value.ref b] s) (F0 m 812 ls []) := by
  obtain ⟨hx, hb, hr, hml, hown, hts, hX0, hbl, hlocks, hgv⟩ := id C0
  have S : CallFix p m c cL_law 4 s #[Value.ref b] BG RL := ⟨hx, hb, hml, hown, fun w hw => hts w (List.mem_filter.mp hw).1⟩
  have hbA : ¬ (fun q : Nat => s.heap.size ≤ q) b := Nat.not_le.mpr hbl
  have hi1 : vp_in (x3 + 1) L := lw_in (k := 1) hj hL (by decide) h3
  have hi2 : vp_in (x3 + 2) L := lw_in (k := 2) hj hL (by decide) h3
  have hi3 : vp_in (x3 + 3) L := lw_in (k := 3) hj hL (by decide) h3
  have hi4 : vp_in (x3 + 4) L := lw_in (k := 4) hj hL (by decide) h3
  have hi5 : vp_in (x3 + 5) L := lw_in (k := 5) hj hL (by decide) h3
  obtain ⟨r, σx', σm', hX, hM, hI⟩ := hst.2.2.2.2.2.2.2.2.2.2.2.2.2.2.2.2.2.1 σx σm (xs (x3 + 1).toNatClampNeg) (xs (x3 + 2).toNatClampNeg) hI
  refine lv_aload_n S.1 S.2.1 dL_law_812 rfl (lv_at hl 1 rfl) ?_
  refine lv_aload_n S.1 S.2.1 dL_law_813 rfl (lv_at hl 0 rfl) ?_
  refine lv_iload_n S.1 S.2.1 dL_law_814 rfl (lv_at hl 3 rfl) ?_
  refine lv_iconst (v := 1) S.1 S.2.1 dL_law_815 (by decide) ?_
  refine lv_iadd S.1 S.2.1 dL_law_816 ?_
  refine va_sld S.1 S.2.1 hX0 hbl hbA h.2.2.2.2 hi1 dL_law_817 ?_
  refine lv_aload_n S.1 S.2.1 dL_law_818 rfl (lv_at hl 0 rfl) ?_
  refine lv_iload_n S.1 S.2.1 dL_law_819 rfl (lv_at hl 3 rfl) ?_
  refine lv_iconst (v := 2) S.1 S.2.1 dL_law_820 (by decide) ?_
  refine lv_iadd S.1 S.2.1 dL_law_821 ?_
  refine va_sld S.1 S.2.1 hX0 hbl hbA h.2.2.2.2 hi2 dL_law_822 ?_
  refine lw_xj (As := [.int (xs (x3 + 1).toNatClampNeg), .int (xs (x3 + 2).toNatClampNeg)]) (rest := []) S F h (tX11_yearly hX) kt_L_87 rfl ⟨Nat.le_of_ble_eq_true rfl, Nat.le_of_ble_eq_true rfl⟩ rfl hl.1 rfl (Nat.le_of_ble_eq_true rfl) ⟨hc0, hs0⟩ dL_law_823 (fun H locs h => ?_)
  refine lv_aload_n S.1 S.2.1 dL_law_826 rfl (lv_at hl 2 rfl) ?_
  refine lv_aload_n S.1 S.2.1 dL_law_827 rfl (lv_at hl 0 rfl) ?_
  refine lv_iload_n S.1 S.2.1 dL_law_828 rfl (lv_at hl 3 rfl) ?_
  refine lv_iconst (v := 1) S.1 S.2.1 dL_law_829 (by decide) ?_
  refine lv_iadd S.1 S.2.1 dL_law_830 ?_
  refine va_sld S.1 S.2.1 hX0 hbl hbA h.2.2.2.2 hi1 dL_law_831 ?_
  refine lv_aload_n S.1 S.2.1 dL_law_832 rfl (lv_at hl 0 rfl) ?_
  refine lv_iload_n S.1 S.2.1 dL_law_833 rfl (lv_at hl 3 rfl) ?_
  refine lv_iconst (v := 2) S.1 S.2.1 dL_law_834 (by decide) ?_
  refine lv_iadd S.1 S.2.1 dL_law_835 ?_
  refine va_sld S.1 S.2.1 hX0 hbl hbA h.2.2.2.2 hi2 dL_law_836 ?_
  refine lw_mj (As := [.int (xs (x3 + 1).toNatClampNeg), .int (xs (x3 + 2).toNatClampNeg)]) (rest := [.long r]) S F h (tX12_yearly hM) kt_L_90 rfl ⟨Nat.le_of_ble_eq_true rfl, Nat.le_of_ble_eq_true rfl⟩ rfl hl.1 rfl (Nat.le_of_ble_eq_true rfl) ⟨hc0, hs0⟩ dL_law_837 (fun H locs h => ?_)
  refine W.lcmp S.1 S.2.1 dL_law_840 ?_
  rw [lg_self]
  refine lv_if_eq (tgt := 1588) S.1 S.2.1 dL_law_841 (by decide) (fun hc => ?_) (fun hc => absurd rfl hc)
  exact hk σx' σm' ls H locs hI h hl
set_option maxHeartbeats 2000000 in
set_option maxRecDepth 20000 in
theorem lw_case_feed {p : Program} {l : Launch} {e : Env} {s : State} {m : MethodId} {below : List Frame} {meth : Method} {c : Code} {D : va_G} {ax am : Nat → Nat} {cs : Nat → ClassId} {ts adK adV : Nat → Nat} {b L : Nat} {xs : Nat → Int32} {Inv : St → St → Prop} {N c0 s0 : Nat} (hL : L ≤ 3072) (C0 : lw_At p s m meth c b L xs) (F : LF D ax am cs ts adK adV s) (hc0 : c0 ≤ 600000) (hs0 : s0 ≤ 7302250) (hst : SPall Inv N) {x3 : Int32} {j : Nat} (hj : 6 * j + 6 ≤ L) (h3 : x3 = nI (6 * j)) (hk : ∀ (σx σm : St) (ls : Array Slot) (H : Heap) (locs : List Loc), Inv σx σm → LH D ax am cs s σx σm H locs → lv_has ls 4 [(0, .ref b), (1, .ref (ax 0)), (2, .ref (am 0)), (3, .int x3)] → W p l e room_1 s m #[Value.ref b] below meth c H locs c0 s0 (lw_Z below #[Value.ref b] s) (F0 m 1588 ls [])) {σx σm : St} {ls : Array Slot} {H : Heap} {locs : List Loc} (hI : Inv σx σm) (h : LH D ax am cs s σx σm H locs) (hl : lv_has ls 4 [(0, .ref b), (1, .ref (ax 0)), (2, .ref (am 0)), (3, .int x3)]) : W p l e room_1 s m #[Value.ref b] below meth c H locs c0 s0 (lw_Z below #[Value.ref b] s) (F0 m 846 ls []) := by
  obtain ⟨hx, hb, hr, hml, hown, hts, hX0, hbl, hlocks, hgv⟩ := id C0
  have S : CallFix p m c cL_law 4 s #[Value.ref b] BG RL := ⟨hx, hb, hml, hown, fun w hw => hts w (List.mem_filter.mp hw).1⟩
  have hbA : ¬ (fun q : Nat => s.heap.size ≤ q) b := Nat.not_le.mpr hbl
  have hi1 : vp_in (x3 + 1) L := lw_in (k := 1) hj hL (by decide) h3
  have hi2 : vp_in (x3 + 2) L := lw_in (k := 2) hj hL (by decide) h3
  have hi3 : vp_in (x3 + 3) L := lw_in (k := 3) hj hL (by decide) h3
  have hi4 : vp_in (x3 + 4) L := lw_in (k := 4) hj hL (by decide) h3
  have hi5 : vp_in (x3 + 5) L := lw_in (k := 5) hj hL (by decide) h3
  obtain ⟨r, σx', σm', hX, hM, hI⟩ := hst.2.2.2.2.2.2.2.2.2.2.2.2.2.2.2.2.2.2.1 σx σm (xs (x3 + 1).toNatClampNeg) (((xs (x3 + 2).toNatClampNeg).toInt64 <<< ((32 : Int32).toInt64 &&& 63)) ||| ((xs (x3 + 3).toNatClampNeg).toInt64 &&& 4294967295)) hI
  refine lv_aload_n S.1 S.2.1 dL_law_846 rfl (lv_at hl 1 rfl) ?_
  refine lv_aload_n S.1 S.2.1 dL_law_847 rfl (lv_at hl 0 rfl) ?_
  refine lv_iload_n S.1 S.2.1 dL_law_848 rfl (lv_at hl 3 rfl) ?_
  refine lv_iconst (v := 1) S.1 S.2.1 dL_law_849 (by decide) ?_
  refine lv_iadd S.1 S.2.1 dL_law_850 ?_
  refine va_sld S.1 S.2.1 hX0 hbl hbA h.2.2.2.2 hi1 dL_law_851 ?_
  refine lv_aload_n S.1 S.2.1 dL_law_852 rfl (lv_at hl 0 rfl) ?_
  refine lv_iload_n S.1 S.2.1 dL_law_853 rfl (lv_at hl 3 rfl) ?_
  refine lv_iconst (v := 2) S.1 S.2.1 dL_law_854 (by decide) ?_
  refine lv_iadd S.1 S.2.1 dL_law_855 ?_
  refine va_sld S.1 S.2.1 hX0 hbl hbA h.2.2.2.2 hi2 dL_law_856 ?_
  refine lv_i2l S.1 S.2.1 dL_law_857 rfl ?_
  refine lv_bipush (v := 32) S.1 S.2.1 dL_law_858 (by decide) ?_
  refine lv_lshl S.1 S.2.1 dL_law_860 rfl ?_
  refine lv_aload_n S.1 S.2.1 dL_law_861 rfl (lv_at hl 0 rfl) ?_
  refine lv_iload_n S.1 S.2.1 dL_law_862 rfl (lv_at hl 3 rfl) ?_
  refine lv_iconst (v := 3) S.1 S.2.1 dL_law_863 (by decide) ?_
  refine lv_iadd S.1 S.2.1 dL_law_864 ?_
  refine va_sld S.1 S.2.1 hX0 hbl hbA h.2.2.2.2 hi3 dL_law_865 ?_
  refine lv_i2l S.1 S.2.1 dL_law_866 rfl ?_
  refine lv_ldc2 S.1 S.2.1 S.2.2.2.1 (S.2.2.2.2 _ kc_L_91) dL_law_867 ?_
  refine lv_land S.1 S.2.1 dL_law_870 ?_
  refine lv_lor S.1 S.2.1 dL_law_871 ?_
  refine lw_xi (As := [.int (xs (x3 + 1).toNatClampNeg), .long (((xs (x3 + 2).toNatClampNeg).toInt64 <<< ((32 : Int32).toInt64 &&& 63)) ||| ((xs (x3 + 3).toNatClampNeg).toInt64 &&& 4294967295))]) (rest := []) S F h (tX11_feed hX) kt_L_93 rfl ⟨Nat.le_of_ble_eq_true rfl, Nat.le_of_ble_eq_true rfl⟩ rfl hl.1 rfl (Nat.le_of_ble_eq_true rfl) ⟨hc0, hs0⟩ dL_law_872 (fun H locs h => ?_)
  refine lv_aload_n S.1 S.2.1 dL_law_875 rfl (lv_at hl 2 rfl) ?_
  refine lv_aload_n S.1 S.2.1 dL_law_876 rfl (lv_at hl 0 rfl) ?_
  refine lv_iload_n S.1 S.2.1 dL_law_877 rfl (lv_at hl 3 rfl) ?_
  refine lv_iconst (v := 1) S.1 S.2.1 dL_law_878 (by decide) ?_
  refine lv_iadd S.1 S.2.1 dL_law_879 ?_
  refine va_sld S.1 S.2.1 hX0 hbl hbA h.2.2.2.2 hi1 dL_law_880 ?_
  refine lv_aload_n S.1 S.2.1 dL_law_881 rfl (lv_at hl 0 rfl) ?_
  refine lv_iload_n S.1 S.2.1 dL_law_882 rfl (lv_at hl 3 rfl) ?_
  refine lv_iconst (v := 2) S.1 S.2.1 dL_law_883 (by decide) ?_
  refine lv_iadd S.1 S.2.1 dL_law_884 ?_
  refine va_sld S.1 S.2.1 hX0 hbl hbA h.2.2.2.2 hi2 dL_law_885 ?_
  refine lv_i2l S.1 S.2.1 dL_law_886 rfl ?_
  refine lv_bipush (v := 32) S.1 S.2.1 dL_law_887 (by decide) ?_
  refine lv_lshl S.1 S.2.1 dL_law_889 rfl ?_
  refine lv_aload_n S.1 S.2.1 dL_law_890 rfl (lv_at hl 0 rfl) ?_
  refine lv_iload_n S.1 S.2.1 dL_law_891 rfl (lv_at hl 3 rfl) ?_
  refine lv_iconst (v := 3) S.1 S.2.1 dL_law_892 (by decide) ?_
  refine lv_iadd S.1 S.2.1 dL_law_893 ?_
  refine va_sld S.1 S.2.1 hX0 hbl hbA h.2.2.2.2 hi3 dL_law_894 ?_
  refine lv_i2l S.1 S.2.1 dL_law_895 rfl ?_
  refine lv_ldc2 S.1 S.2.1 S.2.2.2.1 (S.2.2.2.2 _ kc_L_91) dL_law_896 ?_
  refine lv_land S.1 S.2.1 dL_law_899 ?_
  refine lv_lor S.1 S.2.1 dL_law_900 ?_
  refine lw_mi (As := [.int (xs (x3 + 1).toNatClampNeg), .long (((xs (x3 + 2).toNatClampNeg).toInt64 <<< ((32 : Int32).toInt64 &&& 63)) ||| ((xs (x3 + 3).toNatClampNeg).toInt64 &&& 4294967295))]) (rest := [.int r]) S F h (tX12_feed hM) kt_L_97 rfl ⟨Nat.le_of_ble_eq_true rfl, Nat.le_of_ble_eq_true rfl⟩ rfl hl.1 rfl (Nat.le_of_ble_eq_true rfl) ⟨hc0, hs0⟩ dL_law_901 (fun H locs h => ?_)
  refine lv_icmp_eq (tgt := 1588) S.1 S.2.1 dL_law_904 (by decide) (fun hc => ?_) (fun hc => absurd rfl hc)
  exact hk σx' σm' ls H locs hI h hl
set_option maxHeartbeats 2000000 in
set_option maxRecDepth 20000 in
theorem lw_case_text {p : Program} {l : Launch} {e : Env} {s : State} {m : MethodId} {below : List Frame} {meth : Method} {c : Code} {D : va_G} {ax am : Nat → Nat} {cs : Nat → ClassId} {ts adK adV : Nat → Nat} {b L : Nat} {xs : Nat → Int32} {Inv : St → St → Prop} {N c0 s0 : Nat} (hL : L ≤ 3072) (C0 : lw_At p s m meth c b L xs) (F : LF D ax am cs ts adK adV s) (hc0 : c0 ≤ 600000) (hs0 : s0 ≤ 7302250) (hst : SPall Inv N) {x3 : Int32} {j : Nat} (hj : 6 * j + 6 ≤ L) (h3 : x3 = nI (6 * j)) (hk : ∀ (σx σm : St) (ls : Array Slot) (H : Heap) (locs : List Loc), Inv σx σm → LH D ax am cs s σx σm H locs → lv_has ls 4 [(0, .ref b), (1, .ref (ax 0)), (2, .ref (am 0)), (3, .int x3)] → W p l e room_1 s m #[Value.ref b] below meth c H locs c0 s0 (lw_Z below #[Value.ref b] s) (F0 m 1588 ls [])) {σx σm : St} {ls : Array Slot} {H : Heap} {locs : List Loc} (hI : Inv σx σm) (h : LH D ax am cs s σx σm H locs) (hl : lv_has ls 4 [(0, .ref b), (1, .ref (ax 0)), (2, .ref (am 0)), (3, .int x3)]) : W p l e room_1 s m #[Value.ref b] below meth c H locs c0 s0 (lw_Z below #[Value.ref b] s) (F0 m 909 ls []) := by
  obtain ⟨hx, hb, hr, hml, hown, hts, hX0, hbl, hlocks, hgv⟩ := id C0
  have S : CallFix p m c cL_law 4 s #[Value.ref b] BG RL := ⟨hx, hb, hml, hown, fun w hw => hts w (List.mem_filter.mp hw).1⟩
  have hbA : ¬ (fun q : Nat => s.heap.size ≤ q) b := Nat.not_le.mpr hbl
  have hi1 : vp_in (x3 + 1) L := lw_in (k := 1) hj hL (by decide) h3
  have hi2 : vp_in (x3 + 2) L := lw_in (k := 2) hj hL (by decide) h3
  have hi3 : vp_in (x3 + 3) L := lw_in (k := 3) hj hL (by decide) h3
  have hi4 : vp_in (x3 + 4) L := lw_in (k := 4) hj hL (by decide) h3
  have hi5 : vp_in (x3 + 5) L := lw_in (k := 5) hj hL (by decide) h3
  obtain ⟨r, σx', σm', hX, hM, hI⟩ := hst.2.2.2.2.2.2.2.2.2.2.2.2.2.2.2.2.2.2.2.1 σx σm hI
  refine lv_aload_n S.1 S.2.1 dL_law_909 rfl (lv_at hl 1 rfl) ?_
  refine lw_xi (As := []) (rest := []) S F h (tX11_text hX) kt_L_98 rfl ⟨Nat.le_of_ble_eq_true rfl, Nat.le_of_ble_eq_true rfl⟩ rfl hl.1 rfl (Nat.le_of_ble_eq_true rfl) ⟨hc0, hs0⟩ dL_law_910 (fun H locs h => ?_)
  refine lv_aload_n S.1 S.2.1 dL_law_913 rfl (lv_at hl 2 rfl) ?_
  refine lw_mi (As := []) (rest := [.int r]) S F h (tX12_text hM) kt_L_102 rfl ⟨Nat.le_of_ble_eq_true rfl, Nat.le_of_ble_eq_true rfl⟩ rfl hl.1 rfl (Nat.le_of_ble_eq_true rfl) ⟨hc0, hs0⟩ dL_law_914 (fun H locs h => ?_)
  refine lv_icmp_eq (tgt := 1588) S.1 S.2.1 dL_law_917 (by decide) (fun hc => ?_) (fun hc => absurd rfl hc)
  exact hk σx' σm' ls H locs hI h hl
set_option maxHeartbeats 2000000 in
set_option maxRecDepth 20000 in
theorem lw_case_force {p : Program} {l : Launch} {e : Env} {s : State} {m : MethodId} {below : List Frame} {meth : Method} {c : Code} {D : va_G} {ax am : Nat → Nat} {cs : Nat → ClassId} {ts adK adV : Nat → Nat} {b L : Nat} {xs : Nat → Int32} {Inv : St → St → Prop} {N c0 s0 : Nat} (hL : L ≤ 3072) (C0 : lw_At p s m meth c b L xs) (F : LF D ax am cs ts adK adV s) (hc0 : c0 ≤ 600000) (hs0 : s0 ≤ 7302250) (hst : SPall Inv N) {x3 : Int32} {j : Nat} (hj : 6 * j + 6 ≤ L) (h3 : x3 = nI (6 * j)) (hk : ∀ (σx σm : St) (ls : Array Slot) (H : Heap) (locs : List Loc), Inv σx σm → LH D ax am cs s σx σm H locs → lv_has ls 4 [(0, .ref b), (1, .ref (ax 0)), (2, .ref (am 0)), (3, .int x3)] → W p l e room_1 s m #[Value.ref b] below meth c H locs c0 s0 (lw_Z below #[Value.ref b] s) (F0 m 1588 ls [])) {σx σm : St} {ls : Array Slot} {H : Heap} {locs : List Loc} (hI : Inv σx σm) (h : LH D ax am cs s σx σm H locs) (hl : lv_has ls 4 [(0, .ref b), (1, .ref (ax 0)), (2, .ref (am 0)), (3, .int x3)]) : W p l e room_1 s m #[Value.ref b] below meth c H locs c0 s0 (lw_Z below #[Value.ref b] s) (F0 m 922 ls []) := by
  obtain ⟨hx, hb, hr, hml, hown, hts, hX0, hbl, hlocks, hgv⟩ := id C0
  have S : CallFix p m c cL_law 4 s #[Value.ref b] BG RL := ⟨hx, hb, hml, hown, fun w hw => hts w (List.mem_filter.mp hw).1⟩
  have hbA : ¬ (fun q : Nat => s.heap.size ≤ q) b := Nat.not_le.mpr hbl
  have hi1 : vp_in (x3 + 1) L := lw_in (k := 1) hj hL (by decide) h3
  have hi2 : vp_in (x3 + 2) L := lw_in (k := 2) hj hL (by decide) h3
  have hi3 : vp_in (x3 + 3) L := lw_in (k := 3) hj hL (by decide) h3
  have hi4 : vp_in (x3 + 4) L := lw_in (k := 4) hj hL (by decide) h3
  have hi5 : vp_in (x3 + 5) L := lw_in (k := 5) hj hL (by decide) h3
  obtain ⟨r, σx', σm', hX, hM, hI⟩ := hst.2.2.2.2.2.2.2.2.2.2.2.2.2.2.2.2.2.2.2.2.1 σx σm (xs (x3 + 1).toNatClampNeg) hI
  refine lv_aload_n S.1 S.2.1 dL_law_922 rfl (lv_at hl 1 rfl) ?_
  refine lv_aload_n S.1 S.2.1 dL_law_923 rfl (lv_at hl 0 rfl) ?_
  refine lv_iload_n S.1 S.2.1 dL_law_924 rfl (lv_at hl 3 rfl) ?_
  refine lv_iconst (v := 1) S.1 S.2.1 dL_law_925 (by decide) ?_
  refine lv_iadd S.1 S.2.1 dL_law_926 ?_
  refine va_sld S.1 S.2.1 hX0 hbl hbA h.2.2.2.2 hi1 dL_law_927 ?_
  refine lw_xi (As := [.int (xs (x3 + 1).toNatClampNeg)]) (rest := []) S F h (tX11_force hX) kt_L_103 rfl ⟨Nat.le_of_ble_eq_true rfl, Nat.le_of_ble_eq_true rfl⟩ rfl hl.1 rfl (Nat.le_of_ble_eq_true rfl) ⟨hc0, hs0⟩ dL_law_928 (fun H locs h => ?_)
  refine lv_aload_n S.1 S.2.1 dL_law_931 rfl (lv_at hl 2 rfl) ?_
  refine lv_aload_n S.1 S.2.1 dL_law_932 rfl (lv_at hl 0 rfl) ?_
  refine lv_iload_n S.1 S.2.1 dL_law_933 rfl (lv_at hl 3 rfl) ?_
  refine lv_iconst (v := 1) S.1 S.2.1 dL_law_934 (by decide) ?_
  refine lv_iadd S.1 S.2.1 dL_law_935 ?_
  refine va_sld S.1 S.2.1 hX0 hbl hbA h.2.2.2.2 hi1 dL_law_936 ?_
  refine lw_mi (As := [.int (xs (x3 + 1).toNatClampNeg)]) (rest := [.int r]) S F h (tX12_force hM) kt_L_106 rfl ⟨Nat.le_of_ble_eq_true rfl, Nat.le_of_ble_eq_true rfl⟩ rfl hl.1 rfl (Nat.le_of_ble_eq_true rfl) ⟨hc0, hs0⟩ dL_law_937 (fun H locs h => ?_)
  refine lv_icmp_eq (tgt := 1588) S.1 S.2.1 dL_law_940 (by decide) (fun hc => ?_) (fun hc => absurd rfl hc)
  exact hk σx' σm' ls H locs hI h hl
set_option maxHeartbeats 2000000 in
set_option maxRecDepth 20000 in
theorem lw_case_says {p : Program} {l : Launch} {e : Env} {s : State} {m : MethodId} {below : List Frame} {meth : Method} {c : Code} {D : va_G} {ax am : Nat → Nat} {cs : Nat → ClassId} {ts adK adV : Nat → Nat} {b L : Nat} {xs : Nat → Int32} {Inv : St → St → Prop} {N c0 s0 : Nat} (hL : L ≤ 3072) (C0 : lw_At p s m meth c b L xs) (F : LF D ax am cs ts adK adV s) (hc0 : c0 ≤ 600000) (hs0 : s0 ≤ 7302250) (hst : SPall Inv N) {x3 : Int32} {j : Nat} (hj : 6 * j + 6 ≤ L) (h3 : x3 = nI (6 * j)) (hk : ∀ (σx σm : St) (ls : Array Slot) (H : Heap) (locs : List Loc), Inv σx σm → LH D ax am cs s σx σm H locs → lv_has ls 4 [(0, .ref b), (1, .ref (ax 0)), (2, .ref (am 0)), (3, .int x3)] → W p l e room_1 s m #[Value.ref b] below meth c H locs c0 s0 (lw_Z below #[Value.ref b] s) (F0 m 1588 ls [])) {σx σm : St} {ls : Array Slot} {H : Heap} {locs : List Loc} (hI : Inv σx σm) (h : LH D ax am cs s σx σm H locs) (hl : lv_has ls 4 [(0, .ref b), (1, .ref (ax 0)), (2, .ref (am 0)), (3, .int x3)]) : W p l e room_1 s m #[Value.ref b] below meth c H locs c0 s0 (lw_Z below #[Value.ref b] s) (F0 m 945 ls []) := by
  obtain ⟨hx, hb, hr, hml, hown, hts, hX0, hbl, hlocks, hgv⟩ := id C0
  have S : CallFix p m c cL_law 4 s #[Value.ref b] BG RL := ⟨hx, hb, hml, hown, fun w hw => hts w (List.mem_filter.mp hw).1⟩
  have hbA : ¬ (fun q : Nat => s.heap.size ≤ q) b := Nat.not_le.mpr hbl
  have hi1 : vp_in (x3 + 1) L := lw_in (k := 1) hj hL (by decide) h3
  have hi2 : vp_in (x3 + 2) L := lw_in (k := 2) hj hL (by decide) h3
  have hi3 : vp_in (x3 + 3) L := lw_in (k := 3) hj hL (by decide) h3
  have hi4 : vp_in (x3 + 4) L := lw_in (k := 4) hj hL (by decide) h3
  have hi5 : vp_in (x3 + 5) L := lw_in (k := 5) hj hL (by decide) h3
  obtain ⟨r, σx', σm', hX, hM, hI⟩ := hst.2.2.2.2.2.2.2.2.2.2.2.2.2.2.2.2.2.2.2.2.2.1 σx σm (xs (x3 + 1).toNatClampNeg) (xs (x3 + 2).toNatClampNeg) hI
  refine lv_aload_n S.1 S.2.1 dL_law_945 rfl (lv_at hl 1 rfl) ?_
  refine lv_aload_n S.1 S.2.1 dL_law_946 rfl (lv_at hl 0 rfl) ?_
  refine lv_iload_n S.1 S.2.1 dL_law_947 rfl (lv_at hl 3 rfl) ?_
  refine lv_iconst (v := 1) S.1 S.2.1 dL_law_948 (by decide) ?_
  refine lv_iadd S.1 S.2.1 dL_law_949 ?_
  refine va_sld S.1 S.2.1 hX0 hbl hbA h.2.2.2.2 hi1 dL_law_950 ?_
  refine lv_aload_n S.1 S.2.1 dL_law_951 rfl (lv_at hl 0 rfl) ?_
  refine lv_iload_n S.1 S.2.1 dL_law_952 rfl (lv_at hl 3 rfl) ?_
  refine lv_iconst (v := 2) S.1 S.2.1 dL_law_953 (by decide) ?_
  refine lv_iadd S.1 S.2.1 dL_law_954 ?_
  refine va_sld S.1 S.2.1 hX0 hbl hbA h.2.2.2.2 hi2 dL_law_955 ?_
  refine lw_xj (As := [.int (xs (x3 + 1).toNatClampNeg), .int (xs (x3 + 2).toNatClampNeg)]) (rest := []) S F h (tX11_says hX) kt_L_107 rfl ⟨Nat.le_of_ble_eq_true rfl, Nat.le_of_ble_eq_true rfl⟩ rfl hl.1 rfl (Nat.le_of_ble_eq_true rfl) ⟨hc0, hs0⟩ dL_law_956 (fun H locs h => ?_)
  refine lv_aload_n S.1 S.2.1 dL_law_959 rfl (lv_at hl 2 rfl) ?_
  refine lv_aload_n S.1 S.2.1 dL_law_960 rfl (lv_at hl 0 rfl) ?_
  refine lv_iload_n S.1 S.2.1 dL_law_961 rfl (lv_at hl 3 rfl) ?_
  refine lv_iconst (v := 1) S.1 S.2.1 dL_law_962 (by decide) ?_
  refine lv_iadd S.1 S.2.1 dL_law_963 ?_
  refine va_sld S.1 S.2.1 hX0 hbl hbA h.2.2.2.2 hi1 dL_law_964 ?_
  refine lv_aload_n S.1 S.2.1 dL_law_965 rfl (lv_at hl 0 rfl) ?_
  refine lv_iload_n S.1 S.2.1 dL_law_966 rfl (lv_at hl 3 rfl) ?_
  refine lv_iconst (v := 2) S.1 S.2.1 dL_law_967 (by decide) ?_
  refine lv_iadd S.1 S.2.1 dL_law_968 ?_
  refine va_sld S.1 S.2.1 hX0 hbl hbA h.2.2.2.2 hi2 dL_law_969 ?_
  refine lw_mj (As := [.int (xs (x3 + 1).toNatClampNeg), .int (xs (x3 + 2).toNatClampNeg)]) (rest := [.long r]) S F h (tX12_says hM) kt_L_110 rfl ⟨Nat.le_of_ble_eq_true rfl, Nat.le_of_ble_eq_true rfl⟩ rfl hl.1 rfl (Nat.le_of_ble_eq_true rfl) ⟨hc0, hs0⟩ dL_law_970 (fun H locs h => ?_)
  refine W.lcmp S.1 S.2.1 dL_law_973 ?_
  rw [lg_self]
  refine lv_if_eq (tgt := 1588) S.1 S.2.1 dL_law_974 (by decide) (fun hc => ?_) (fun hc => absurd rfl hc)
  exact hk σx' σm' ls H locs hI h hl
set_option maxHeartbeats 2000000 in
set_option maxRecDepth 20000 in
theorem lw_case_claim {p : Program} {l : Launch} {e : Env} {s : State} {m : MethodId} {below : List Frame} {meth : Method} {c : Code} {D : va_G} {ax am : Nat → Nat} {cs : Nat → ClassId} {ts adK adV : Nat → Nat} {b L : Nat} {xs : Nat → Int32} {Inv : St → St → Prop} {N c0 s0 : Nat} (hL : L ≤ 3072) (C0 : lw_At p s m meth c b L xs) (F : LF D ax am cs ts adK adV s) (hc0 : c0 ≤ 600000) (hs0 : s0 ≤ 7302250) (hst : SPall Inv N) {x3 : Int32} {j : Nat} (hj : 6 * j + 6 ≤ L) (h3 : x3 = nI (6 * j)) (hk : ∀ (σx σm : St) (ls : Array Slot) (H : Heap) (locs : List Loc), Inv σx σm → LH D ax am cs s σx σm H locs → lv_has ls 4 [(0, .ref b), (1, .ref (ax 0)), (2, .ref (am 0)), (3, .int x3)] → W p l e room_1 s m #[Value.ref b] below meth c H locs c0 s0 (lw_Z below #[Value.ref b] s) (F0 m 1588 ls [])) {σx σm : St} {ls : Array Slot} {H : Heap} {locs : List Loc} (hI : Inv σx σm) (h : LH D ax am cs s σx σm H locs) (hl : lv_has ls 4 [(0, .ref b), (1, .ref (ax 0)), (2, .ref (am 0)), (3, .int x3)]) : W p l e room_1 s m #[Value.ref b] below meth c H locs c0 s0 (lw_Z below #[Value.ref b] s) (F0 m 979 ls []) := by
  obtain ⟨hx, hb, hr, hml, hown, hts, hX0, hbl, hlocks, hgv⟩ := id C0
  have S : CallFix p m c cL_law 4 s #[Value.ref b] BG RL := ⟨hx, hb, hml, hown, fun w hw => hts w (List.mem_filter.mp hw).1⟩
  have hbA : ¬ (fun q : Nat => s.heap.size ≤ q) b := Nat.not_le.mpr hbl
  have hi1 : vp_in (x3 + 1) L := lw_in (k := 1) hj hL (by decide) h3
  have hi2 : vp_in (x3 + 2) L := lw_in (k := 2) hj hL (by decide) h3
  have hi3 : vp_in (x3 + 3) L := lw_in (k := 3) hj hL (by decide) h3
  have hi4 : vp_in (x3 + 4) L := lw_in (k := 4) hj hL (by decide) h3
  have hi5 : vp_in (x3 + 5) L := lw_in (k := 5) hj hL (by decide) h3
  obtain ⟨r, σx', σm', hX, hM, hI⟩ := hst.2.2.2.2.2.2.2.2.2.2.2.2.2.2.2.2.2.2.2.2.2.2.1 σx σm (xs (x3 + 1).toNatClampNeg) (xs (x3 + 2).toNatClampNeg) (xs (x3 + 3).toNatClampNeg) hI
  refine lv_aload_n S.1 S.2.1 dL_law_979 rfl (lv_at hl 1 rfl) ?_
  refine lv_aload_n S.1 S.2.1 dL_law_980 rfl (lv_at hl 0 rfl) ?_
  refine lv_iload_n S.1 S.2.1 dL_law_981 rfl (lv_at hl 3 rfl) ?_
  refine lv_iconst (v := 1) S.1 S.2.1 dL_law_982 (by decide) ?_
  refine lv_iadd S.1 S.2.1 dL_law_983 ?_
  refine va_sld S.1 S.2.1 hX0 hbl hbA h.2.2.2.2 hi1 dL_law_984 ?_
  refine lv_aload_n S.1 S.2.1 dL_law_985 rfl (lv_at hl 0 rfl) ?_
  refine lv_iload_n S.1 S.2.1 dL_law_986 rfl (lv_at hl 3 rfl) ?_
  refine lv_iconst (v := 2) S.1 S.2.1 dL_law_987 (by decide) ?_
  refine lv_iadd S.1 S.2.1 dL_law_988 ?_
  refine va_sld S.1 S.2.1 hX0 hbl hbA h.2.2.2.2 hi2 dL_law_989 ?_
  refine lv_aload_n S.1 S.2.1 dL_law_990 rfl (lv_at hl 0 rfl) ?_
  refine lv_iload_n S.1 S.2.1 dL_law_991 rfl (lv_at hl 3 rfl) ?_
  refine lv_iconst (v := 3) S.1 S.2.1 dL_law_992 (by decide) ?_
  refine lv_iadd S.1 S.2.1 dL_law_993 ?_
  refine va_sld S.1 S.2.1 hX0 hbl hbA h.2.2.2.2 hi3 dL_law_994 ?_
  refine lw_xi (As := [.int (xs (x3 + 1).toNatClampNeg), .int (xs (x3 + 2).toNatClampNeg), .int (xs (x3 + 3).toNatClampNeg)]) (rest := []) S F h (tX11_claim hX) kt_L_111 rfl ⟨Nat.le_of_ble_eq_true rfl, Nat.le_of_ble_eq_true rfl⟩ rfl hl.1 rfl (Nat.le_of_ble_eq_true rfl) ⟨hc0, hs0⟩ dL_law_995 (fun H locs h => ?_)
  refine lv_aload_n S.1 S.2.1 dL_law_998 rfl (lv_at hl 2 rfl) ?_
  refine lv_aload_n S.1 S.2.1 dL_law_999 rfl (lv_at hl 0 rfl) ?_
  refine lv_iload_n S.1 S.2.1 dL_law_1000 rfl (lv_at hl 3 rfl) ?_
  refine lv_iconst (v := 1) S.1 S.2.1 dL_law_1001 (by decide) ?_
  refine lv_iadd S.1 S.2.1 dL_law_1002 ?_
  refine va_sld S.1 S.2.1 hX0 hbl hbA h.2.2.2.2 hi1 dL_law_1003 ?_
  refine lv_aload_n S.1 S.2.1 dL_law_1004 rfl (lv_at hl 0 rfl) ?_
  refine lv_iload_n S.1 S.2.1 dL_law_1005 rfl (lv_at hl 3 rfl) ?_
  refine lv_iconst (v := 2) S.1 S.2.1 dL_law_1006 (by decide) ?_
  refine lv_iadd S.1 S.2.1 dL_law_1007 ?_
  refine va_sld S.1 S.2.1 hX0 hbl hbA h.2.2.2.2 hi2 dL_law_1008 ?_
  refine lv_aload_n S.1 S.2.1 dL_law_1009 rfl (lv_at hl 0 rfl) ?_
  refine lv_iload_n S.1 S.2.1 dL_law_1010 rfl (lv_at hl 3 rfl) ?_
  refine lv_iconst (v := 3) S.1 S.2.1 dL_law_1011 (by decide) ?_
  refine lv_iadd S.1 S.2.1 dL_law_1012 ?_
  refine va_sld S.1 S.2.1 hX0 hbl hbA h.2.2.2.2 hi3 dL_law_1013 ?_
  refine lw_mi (As := [.int (xs (x3 + 1).toNatClampNeg), .int (xs (x3 + 2).toNatClampNeg), .int (xs (x3 + 3).toNatClampNeg)]) (rest := [.int r]) S F h (tX12_claim hM) kt_L_114 rfl ⟨Nat.le_of_ble_eq_true rfl, Nat.le_of_ble_eq_true rfl⟩ rfl hl.1 rfl (Nat.le_of_ble_eq_true rfl) ⟨hc0, hs0⟩ dL_law_1014 (fun H locs h => ?_)
  refine lv_icmp_eq (tgt := 1588) S.1 S.2.1 dL_law_1017 (by decide) (fun hc => ?_) (fun hc => absurd rfl hc)
  exact hk σx' σm' ls H locs hI h hl
set_option maxHeartbeats 2000000 in
set_option maxRecDepth 20000 in
theorem lw_case_doubled {p : Program} {l : Launch} {e : Env} {s : State} {m : MethodId} {below : List Frame} {meth : Method} {c : Code} {D : va_G} {ax am : Nat → Nat} {cs : Nat → ClassId} {ts adK adV : Nat → Nat} {b L : Nat} {xs : Nat → Int32} {Inv : St → St → Prop} {N c0 s0 : Nat} (hL : L ≤ 3072) (C0 : lw_At p s m meth c b L xs) (F : LF D ax am cs ts adK adV s) (hc0 : c0 ≤ 600000) (hs0 : s0 ≤ 7302250) (hst : SPall Inv N) {x3 : Int32} {j : Nat} (hj : 6 * j + 6 ≤ L) (h3 : x3 = nI (6 * j)) (hk : ∀ (σx σm : St) (ls : Array Slot) (H : Heap) (locs : List Loc), Inv σx σm → LH D ax am cs s σx σm H locs → lv_has ls 4 [(0, .ref b), (1, .ref (ax 0)), (2, .ref (am 0)), (3, .int x3)] → W p l e room_1 s m #[Value.ref b] below meth c H locs c0 s0 (lw_Z below #[Value.ref b] s) (F0 m 1588 ls [])) {σx σm : St} {ls : Array Slot} {H : Heap} {locs : List Loc} (hI : Inv σx σm) (h : LH D ax am cs s σx σm H locs) (hl : lv_has ls 4 [(0, .ref b), (1, .ref (ax 0)), (2, .ref (am 0)), (3, .int x3)]) : W p l e room_1 s m #[Value.ref b] below meth c H locs c0 s0 (lw_Z below #[Value.ref b] s) (F0 m 1022 ls []) := by
  obtain ⟨hx, hb, hr, hml, hown, hts, hX0, hbl, hlocks, hgv⟩ := id C0
  have S : CallFix p m c cL_law 4 s #[Value.ref b] BG RL := ⟨hx, hb, hml, hown, fun w hw => hts w (List.mem_filter.mp hw).1⟩
  have hbA : ¬ (fun q : Nat => s.heap.size ≤ q) b := Nat.not_le.mpr hbl
  have hi1 : vp_in (x3 + 1) L := lw_in (k := 1) hj hL (by decide) h3
  have hi2 : vp_in (x3 + 2) L := lw_in (k := 2) hj hL (by decide) h3
  have hi3 : vp_in (x3 + 3) L := lw_in (k := 3) hj hL (by decide) h3
  have hi4 : vp_in (x3 + 4) L := lw_in (k := 4) hj hL (by decide) h3
  have hi5 : vp_in (x3 + 5) L := lw_in (k := 5) hj hL (by decide) h3
  obtain ⟨r, hX, hM, hI⟩ := hst.2.2.2.2.2.2.2.2.2.2.2.2.2.2.2.2.2.2.2.2.2.2.2.1 σx σm hI
  refine lv_aload_n S.1 S.2.1 dL_law_1022 rfl (lv_at hl 1 rfl) ?_
  refine lw_xi (As := []) (rest := []) S F h (tX11_doubled hX) kt_L_115 rfl ⟨Nat.le_of_ble_eq_true rfl, Nat.le_of_ble_eq_true rfl⟩ rfl hl.1 rfl (Nat.le_of_ble_eq_true rfl) ⟨hc0, hs0⟩ dL_law_1023 (fun H locs h => ?_)
  refine lv_aload_n S.1 S.2.1 dL_law_1026 rfl (lv_at hl 2 rfl) ?_
  refine lw_mi (As := []) (rest := [.int r]) S F h (tX12_doubled hM) kt_L_118 rfl ⟨Nat.le_of_ble_eq_true rfl, Nat.le_of_ble_eq_true rfl⟩ rfl hl.1 rfl (Nat.le_of_ble_eq_true rfl) ⟨hc0, hs0⟩ dL_law_1027 (fun H locs h => ?_)
  refine lv_icmp_eq (tgt := 1588) S.1 S.2.1 dL_law_1030 (by decide) (fun hc => ?_) (fun hc => absurd rfl hc)
  exact hk σx σm ls H locs hI h hl
set_option maxHeartbeats 2000000 in
set_option maxRecDepth 20000 in
theorem lw_case_due {p : Program} {l : Launch} {e : Env} {s : State} {m : MethodId} {below : List Frame} {meth : Method} {c : Code} {D : va_G} {ax am : Nat → Nat} {cs : Nat → ClassId} {ts adK adV : Nat → Nat} {b L : Nat} {xs : Nat → Int32} {Inv : St → St → Prop} {N c0 s0 : Nat} (hL : L ≤ 3072) (C0 : lw_At p s m meth c b L xs) (F : LF D ax am cs ts adK adV s) (hc0 : c0 ≤ 600000) (hs0 : s0 ≤ 7302250) (hst : SPall Inv N) {x3 : Int32} {j : Nat} (hj : 6 * j + 6 ≤ L) (h3 : x3 = nI (6 * j)) (hk : ∀ (σx σm : St) (ls : Array Slot) (H : Heap) (locs : List Loc), Inv σx σm → LH D ax am cs s σx σm H locs → lv_has ls 4 [(0, .ref b), (1, .ref (ax 0)), (2, .ref (am 0)), (3, .int x3)] → W p l e room_1 s m #[Value.ref b] below meth c H locs c0 s0 (lw_Z below #[Value.ref b] s) (F0 m 1588 ls [])) {σx σm : St} {ls : Array Slot} {H : Heap} {locs : List Loc} (hI : Inv σx σm) (h : LH D ax am cs s σx σm H locs) (hl : lv_has ls 4 [(0, .ref b), (1, .ref (ax 0)), (2, .ref (am 0)), (3, .int x3)]) : W p l e room_1 s m #[Value.ref b] below meth c H locs c0 s0 (lw_Z below #[Value.ref b] s) (F0 m 1035 ls []) := by
  obtain ⟨hx, hb, hr, hml, hown, hts, hX0, hbl, hlocks, hgv⟩ := id C0
  have S : CallFix p m c cL_law 4 s #[Value.ref b] BG RL := ⟨hx, hb, hml, hown, fun w hw => hts w (List.mem_filter.mp hw).1⟩
  have hbA : ¬ (fun q : Nat => s.heap.size ≤ q) b := Nat.not_le.mpr hbl
  have hi1 : vp_in (x3 + 1) L := lw_in (k := 1) hj hL (by decide) h3
  have hi2 : vp_in (x3 + 2) L := lw_in (k := 2) hj hL (by decide) h3
  have hi3 : vp_in (x3 + 3) L := lw_in (k := 3) hj hL (by decide) h3
  have hi4 : vp_in (x3 + 4) L := lw_in (k := 4) hj hL (by decide) h3
  have hi5 : vp_in (x3 + 5) L := lw_in (k := 5) hj hL (by decide) h3
  obtain ⟨r, σx', σm', hX, hM, hI⟩ := hst.2.2.2.2.2.2.2.2.2.2.2.2.2.2.2.2.2.2.2.2.2.2.2.2.1 σx σm (xs (x3 + 1).toNatClampNeg) hI
  refine lv_aload_n S.1 S.2.1 dL_law_1035 rfl (lv_at hl 1 rfl) ?_
  refine lv_aload_n S.1 S.2.1 dL_law_1036 rfl (lv_at hl 0 rfl) ?_
  refine lv_iload_n S.1 S.2.1 dL_law_1037 rfl (lv_at hl 3 rfl) ?_
  refine lv_iconst (v := 1) S.1 S.2.1 dL_law_1038 (by decide) ?_
  refine lv_iadd S.1 S.2.1 dL_law_1039 ?_
  refine va_sld S.1 S.2.1 hX0 hbl hbA h.2.2.2.2 hi1 dL_law_1040 ?_
  refine lw_xj (As := [.int (xs (x3 + 1).toNatClampNeg)]) (rest := []) S F h (tX11_due hX) kt_L_119 rfl ⟨Nat.le_of_ble_eq_true rfl, Nat.le_of_ble_eq_true rfl⟩ rfl hl.1 rfl (Nat.le_of_ble_eq_true rfl) ⟨hc0, hs0⟩ dL_law_1041 (fun H locs h => ?_)
  refine lv_aload_n S.1 S.2.1 dL_law_1044 rfl (lv_at hl 2 rfl) ?_
  refine lv_aload_n S.1 S.2.1 dL_law_1045 rfl (lv_at hl 0 rfl) ?_
  refine lv_iload_n S.1 S.2.1 dL_law_1046 rfl (lv_at hl 3 rfl) ?_
  refine lv_iconst (v := 1) S.1 S.2.1 dL_law_1047 (by decide) ?_
  refine lv_iadd S.1 S.2.1 dL_law_1048 ?_
  refine va_sld S.1 S.2.1 hX0 hbl hbA h.2.2.2.2 hi1 dL_law_1049 ?_
  refine lw_mj (As := [.int (xs (x3 + 1).toNatClampNeg)]) (rest := [.long r]) S F h (tX12_due hM) kt_L_123 rfl ⟨Nat.le_of_ble_eq_true rfl, Nat.le_of_ble_eq_true rfl⟩ rfl hl.1 rfl (Nat.le_of_ble_eq_true rfl) ⟨hc0, hs0⟩ dL_law_1050 (fun H locs h => ?_)
  refine W.lcmp S.1 S.2.1 dL_law_1053 ?_
  rw [lg_self]
  refine lv_if_eq (tgt := 1588) S.1 S.2.1 dL_law_1054 (by decide) (fun hc => ?_) (fun hc => absurd rfl hc)
  exact hk σx' σm' ls H locs hI h hl
set_option maxHeartbeats 2000000 in
set_option maxRecDepth 20000 in
theorem lw_case_look {p : Program} {l : Launch} {e : Env} {s : State} {m : MethodId} {below : List Frame} {meth : Method} {c : Code} {D : va_G} {ax am : Nat → Nat} {cs : Nat → ClassId} {ts adK adV : Nat → Nat} {b L : Nat} {xs : Nat → Int32} {Inv : St → St → Prop} {N c0 s0 : Nat} (hL : L ≤ 3072) (C0 : lw_At p s m meth c b L xs) (F : LF D ax am cs ts adK adV s) (hc0 : c0 ≤ 600000) (hs0 : s0 ≤ 7302250) (hst : SPall Inv N) {x3 : Int32} {j : Nat} (hj : 6 * j + 6 ≤ L) (h3 : x3 = nI (6 * j)) (hk : ∀ (σx σm : St) (ls : Array Slot) (H : Heap) (locs : List Loc), Inv σx σm → LH D ax am cs s σx σm H locs → lv_has ls 4 [(0, .ref b), (1, .ref (ax 0)), (2, .ref (am 0)), (3, .int x3)] → W p l e room_1 s m #[Value.ref b] below meth c H locs c0 s0 (lw_Z below #[Value.ref b] s) (F0 m 1588 ls [])) {σx σm : St} {ls : Array Slot} {H : Heap} {locs : List Loc} (hI : Inv σx σm) (h : LH D ax am cs s σx σm H locs) (hl : lv_has ls 4 [(0, .ref b), (1, .ref (ax 0)), (2, .ref (am 0)), (3, .int x3)]) : W p l e room_1 s m #[Value.ref b] below meth c H locs c0 s0 (lw_Z below #[Value.ref b] s) (F0 m 1059 ls []) := by
  obtain ⟨hx, hb, hr, hml, hown, hts, hX0, hbl, hlocks, hgv⟩ := id C0
  have S : CallFix p m c cL_law 4 s #[Value.ref b] BG RL := ⟨hx, hb, hml, hown, fun w hw => hts w (List.mem_filter.mp hw).1⟩
  have hbA : ¬ (fun q : Nat => s.heap.size ≤ q) b := Nat.not_le.mpr hbl
  have hi1 : vp_in (x3 + 1) L := lw_in (k := 1) hj hL (by decide) h3
  have hi2 : vp_in (x3 + 2) L := lw_in (k := 2) hj hL (by decide) h3
  have hi3 : vp_in (x3 + 3) L := lw_in (k := 3) hj hL (by decide) h3
  have hi4 : vp_in (x3 + 4) L := lw_in (k := 4) hj hL (by decide) h3
  have hi5 : vp_in (x3 + 5) L := lw_in (k := 5) hj hL (by decide) h3
  obtain ⟨r, σx', σm', hX, hM, hI⟩ := hst.2.2.2.2.2.2.2.2.2.2.2.2.2.2.2.2.2.2.2.2.2.2.2.2.2.1 σx σm (xs (x3 + 1).toNatClampNeg) (xs (x3 + 2).toNatClampNeg) (xs (x3 + 3).toNatClampNeg) hI
  refine lv_aload_n S.1 S.2.1 dL_law_1059 rfl (lv_at hl 1 rfl) ?_
  refine lv_aload_n S.1 S.2.1 dL_law_1060 rfl (lv_at hl 0 rfl) ?_
  refine lv_iload_n S.1 S.2.1 dL_law_1061 rfl (lv_at hl 3 rfl) ?_
  refine lv_iconst (v := 1) S.1 S.2.1 dL_law_1062 (by decide) ?_
  refine lv_iadd S.1 S.2.1 dL_law_1063 ?_
  refine va_sld S.1 S.2.1 hX0 hbl hbA h.2.2.2.2 hi1 dL_law_1064 ?_
  refine lv_aload_n S.1 S.2.1 dL_law_1065 rfl (lv_at hl 0 rfl) ?_
  refine lv_iload_n S.1 S.2.1 dL_law_1066 rfl (lv_at hl 3 rfl) ?_
  refine lv_iconst (v := 2) S.1 S.2.1 dL_law_1067 (by decide) ?_
  refine lv_iadd S.1 S.2.1 dL_law_1068 ?_
  refine va_sld S.1 S.2.1 hX0 hbl hbA h.2.2.2.2 hi2 dL_law_1069 ?_
  refine lv_aload_n S.1 S.2.1 dL_law_1070 rfl (lv_at hl 0 rfl) ?_
  refine lv_iload_n S.1 S.2.1 dL_law_1071 rfl (lv_at hl 3 rfl) ?_
  refine lv_iconst (v := 3) S.1 S.2.1 dL_law_1072 (by decide) ?_
  refine lv_iadd S.1 S.2.1 dL_law_1073 ?_
  refine va_sld S.1 S.2.1 hX0 hbl hbA h.2.2.2.2 hi3 dL_law_1074 ?_
  refine lw_xi (As := [.int (xs (x3 + 1).toNatClampNeg), .int (xs (x3 + 2).toNatClampNeg), .int (xs (x3 + 3).toNatClampNeg)]) (rest := []) S F h (tX11_look hX) kt_L_124 rfl ⟨Nat.le_of_ble_eq_true rfl, Nat.le_of_ble_eq_true rfl⟩ rfl hl.1 rfl (Nat.le_of_ble_eq_true rfl) ⟨hc0, hs0⟩ dL_law_1075 (fun H locs h => ?_)
  refine lv_aload_n S.1 S.2.1 dL_law_1078 rfl (lv_at hl 2 rfl) ?_
  refine lv_aload_n S.1 S.2.1 dL_law_1079 rfl (lv_at hl 0 rfl) ?_
  refine lv_iload_n S.1 S.2.1 dL_law_1080 rfl (lv_at hl 3 rfl) ?_
  refine lv_iconst (v := 1) S.1 S.2.1 dL_law_1081 (by decide) ?_
  refine lv_iadd S.1 S.2.1 dL_law_1082 ?_
  refine va_sld S.1 S.2.1 hX0 hbl hbA h.2.2.2.2 hi1 dL_law_1083 ?_
  refine lv_aload_n S.1 S.2.1 dL_law_1084 rfl (lv_at hl 0 rfl) ?_
  refine lv_iload_n S.1 S.2.1 dL_law_1085 rfl (lv_at hl 3 rfl) ?_
  refine lv_iconst (v := 2) S.1 S.2.1 dL_law_1086 (by decide) ?_
  refine lv_iadd S.1 S.2.1 dL_law_1087 ?_
  refine va_sld S.1 S.2.1 hX0 hbl hbA h.2.2.2.2 hi2 dL_law_1088 ?_
  refine lv_aload_n S.1 S.2.1 dL_law_1089 rfl (lv_at hl 0 rfl) ?_
  refine lv_iload_n S.1 S.2.1 dL_law_1090 rfl (lv_at hl 3 rfl) ?_
  refine lv_iconst (v := 3) S.1 S.2.1 dL_law_1091 (by decide) ?_
  refine lv_iadd S.1 S.2.1 dL_law_1092 ?_
  refine va_sld S.1 S.2.1 hX0 hbl hbA h.2.2.2.2 hi3 dL_law_1093 ?_
  refine lw_mi (As := [.int (xs (x3 + 1).toNatClampNeg), .int (xs (x3 + 2).toNatClampNeg), .int (xs (x3 + 3).toNatClampNeg)]) (rest := [.int r]) S F h (tX12_look hM) kt_L_127 rfl ⟨Nat.le_of_ble_eq_true rfl, Nat.le_of_ble_eq_true rfl⟩ rfl hl.1 rfl (Nat.le_of_ble_eq_true rfl) ⟨hc0, hs0⟩ dL_law_1094 (fun H locs h => ?_)
  refine lv_icmp_eq (tgt := 1588) S.1 S.2.1 dL_law_1097 (by decide) (fun hc => ?_) (fun hc => absurd rfl hc)
  exact hk σx' σm' ls H locs hI h hl
set_option maxHeartbeats 2000000 in
set_option maxRecDepth 20000 in
theorem lw_case_bounds {p : Program} {l : Launch} {e : Env} {s : State} {m : MethodId} {below : List Frame} {meth : Method} {c : Code} {D : va_G} {ax am : Nat → Nat} {cs : Nat → ClassId} {ts adK adV : Nat → Nat} {b L : Nat} {xs : Nat → Int32} {Inv : St → St → Prop} {N c0 s0 : Nat} (hL : L ≤ 3072) (C0 : lw_At p s m meth c b L xs) (F : LF D ax am cs ts adK adV s) (hc0 : c0 ≤ 600000) (hs0 : s0 ≤ 7302250) (hst : SPall Inv N) {x3 : Int32} {j : Nat} (hj : 6 * j + 6 ≤ L) (h3 : x3 = nI (6 * j)) (hk : ∀ (σx σm : St) (ls : Array Slot) (H : Heap) (locs : List Loc), Inv σx σm → LH D ax am cs s σx σm H locs → lv_has ls 4 [(0, .ref b), (1, .ref (ax 0)), (2, .ref (am 0)), (3, .int x3)] → W p l e room_1 s m #[Value.ref b] below meth c H locs c0 s0 (lw_Z below #[Value.ref b] s) (F0 m 1588 ls [])) {σx σm : St} {ls : Array Slot} {H : Heap} {locs : List Loc} (hI : Inv σx σm) (h : LH D ax am cs s σx σm H locs) (hl : lv_has ls 4 [(0, .ref b), (1, .ref (ax 0)), (2, .ref (am 0)), (3, .int x3)]) : W p l e room_1 s m #[Value.ref b] below meth c H locs c0 s0 (lw_Z below #[Value.ref b] s) (F0 m 1102 ls []) := by
  obtain ⟨hx, hb, hr, hml, hown, hts, hX0, hbl, hlocks, hgv⟩ := id C0
  have S : CallFix p m c cL_law 4 s #[Value.ref b] BG RL := ⟨hx, hb, hml, hown, fun w hw => hts w (List.mem_filter.mp hw).1⟩
  have hbA : ¬ (fun q : Nat => s.heap.size ≤ q) b := Nat.not_le.mpr hbl
  have hi1 : vp_in (x3 + 1) L := lw_in (k := 1) hj hL (by decide) h3
  have hi2 : vp_in (x3 + 2) L := lw_in (k := 2) hj hL (by decide) h3
  have hi3 : vp_in (x3 + 3) L := lw_in (k := 3) hj hL (by decide) h3
  have hi4 : vp_in (x3 + 4) L := lw_in (k := 4) hj hL (by decide) h3
  have hi5 : vp_in (x3 + 5) L := lw_in (k := 5) hj hL (by decide) h3
  obtain ⟨r, hX, hM, hI⟩ := hst.2.2.2.2.2.2.2.2.2.2.2.2.2.2.2.2.2.2.2.2.2.2.2.2.2.2.1 σx σm (xs (x3 + 1).toNatClampNeg) (xs (x3 + 2).toNatClampNeg) hI
  refine lv_aload_n S.1 S.2.1 dL_law_1102 rfl (lv_at hl 1 rfl) ?_
  refine lv_aload_n S.1 S.2.1 dL_law_1103 rfl (lv_at hl 0 rfl) ?_
  refine lv_iload_n S.1 S.2.1 dL_law_1104 rfl (lv_at hl 3 rfl) ?_
  refine lv_iconst (v := 1) S.1 S.2.1 dL_law_1105 (by decide) ?_
  refine lv_iadd S.1 S.2.1 dL_law_1106 ?_
  refine va_sld S.1 S.2.1 hX0 hbl hbA h.2.2.2.2 hi1 dL_law_1107 ?_
  refine lv_aload_n S.1 S.2.1 dL_law_1108 rfl (lv_at hl 0 rfl) ?_
  refine lv_iload_n S.1 S.2.1 dL_law_1109 rfl (lv_at hl 3 rfl) ?_
  refine lv_iconst (v := 2) S.1 S.2.1 dL_law_1110 (by decide) ?_
  refine lv_iadd S.1 S.2.1 dL_law_1111 ?_
  refine va_sld S.1 S.2.1 hX0 hbl hbA h.2.2.2.2 hi2 dL_law_1112 ?_
  refine lw_xi (As := [.int (xs (x3 + 1).toNatClampNeg), .int (xs (x3 + 2).toNatClampNeg)]) (rest := []) S F h (tX11_bounds hX) kt_L_128 rfl ⟨Nat.le_of_ble_eq_true rfl, Nat.le_of_ble_eq_true rfl⟩ rfl hl.1 rfl (Nat.le_of_ble_eq_true rfl) ⟨hc0, hs0⟩ dL_law_1113 (fun H locs h => ?_)
  refine lv_aload_n S.1 S.2.1 dL_law_1116 rfl (lv_at hl 2 rfl) ?_
  refine lv_aload_n S.1 S.2.1 dL_law_1117 rfl (lv_at hl 0 rfl) ?_
  refine lv_iload_n S.1 S.2.1 dL_law_1118 rfl (lv_at hl 3 rfl) ?_
  refine lv_iconst (v := 1) S.1 S.2.1 dL_law_1119 (by decide) ?_
  refine lv_iadd S.1 S.2.1 dL_law_1120 ?_
  refine va_sld S.1 S.2.1 hX0 hbl hbA h.2.2.2.2 hi1 dL_law_1121 ?_
  refine lv_aload_n S.1 S.2.1 dL_law_1122 rfl (lv_at hl 0 rfl) ?_
  refine lv_iload_n S.1 S.2.1 dL_law_1123 rfl (lv_at hl 3 rfl) ?_
  refine lv_iconst (v := 2) S.1 S.2.1 dL_law_1124 (by decide) ?_
  refine lv_iadd S.1 S.2.1 dL_law_1125 ?_
  refine va_sld S.1 S.2.1 hX0 hbl hbA h.2.2.2.2 hi2 dL_law_1126 ?_
  refine lw_mi (As := [.int (xs (x3 + 1).toNatClampNeg), .int (xs (x3 + 2).toNatClampNeg)]) (rest := [.int r]) S F h (tX12_bounds hM) kt_L_131 rfl ⟨Nat.le_of_ble_eq_true rfl, Nat.le_of_ble_eq_true rfl⟩ rfl hl.1 rfl (Nat.le_of_ble_eq_true rfl) ⟨hc0, hs0⟩ dL_law_1127 (fun H locs h => ?_)
  refine lv_icmp_eq (tgt := 1588) S.1 S.2.1 dL_law_1130 (by decide) (fun hc => ?_) (fun hc => absurd rfl hc)
  exact hk σx σm ls H locs hI h hl
set_option maxHeartbeats 2000000 in
set_option maxRecDepth 20000 in
theorem lw_case_hold {p : Program} {l : Launch} {e : Env} {s : State} {m : MethodId} {below : List Frame} {meth : Method} {c : Code} {D : va_G} {ax am : Nat → Nat} {cs : Nat → ClassId} {ts adK adV : Nat → Nat} {b L : Nat} {xs : Nat → Int32} {Inv : St → St → Prop} {N c0 s0 : Nat} (hL : L ≤ 3072) (C0 : lw_At p s m meth c b L xs) (F : LF D ax am cs ts adK adV s) (hc0 : c0 ≤ 600000) (hs0 : s0 ≤ 7302250) (hst : SPall Inv N) {x3 : Int32} {j : Nat} (hj : 6 * j + 6 ≤ L) (h3 : x3 = nI (6 * j)) (hk : ∀ (σx σm : St) (ls : Array Slot) (H : Heap) (locs : List Loc), Inv σx σm → LH D ax am cs s σx σm H locs → lv_has ls 4 [(0, .ref b), (1, .ref (ax 0)), (2, .ref (am 0)), (3, .int x3)] → W p l e room_1 s m #[Value.ref b] below meth c H locs c0 s0 (lw_Z below #[Value.ref b] s) (F0 m 1588 ls [])) {σx σm : St} {ls : Array Slot} {H : Heap} {locs : List Loc} (hI : Inv σx σm) (h : LH D ax am cs s σx σm H locs) (hl : lv_has ls 4 [(0, .ref b), (1, .ref (ax 0)), (2, .ref (am 0)), (3, .int x3)]) : W p l e room_1 s m #[Value.ref b] below meth c H locs c0 s0 (lw_Z below #[Value.ref b] s) (F0 m 1135 ls []) := by
  obtain ⟨hx, hb, hr, hml, hown, hts, hX0, hbl, hlocks, hgv⟩ := id C0
  have S : CallFix p m c cL_law 4 s #[Value.ref b] BG RL := ⟨hx, hb, hml, hown, fun w hw => hts w (List.mem_filter.mp hw).1⟩
  have hbA : ¬ (fun q : Nat => s.heap.size ≤ q) b := Nat.not_le.mpr hbl
  have hi1 : vp_in (x3 + 1) L := lw_in (k := 1) hj hL (by decide) h3
  have hi2 : vp_in (x3 + 2) L := lw_in (k := 2) hj hL (by decide) h3
  have hi3 : vp_in (x3 + 3) L := lw_in (k := 3) hj hL (by decide) h3
  have hi4 : vp_in (x3 + 4) L := lw_in (k := 4) hj hL (by decide) h3
  have hi5 : vp_in (x3 + 5) L := lw_in (k := 5) hj hL (by decide) h3
  obtain ⟨r, σx', σm', hX, hM, hI⟩ := hst.2.2.2.2.2.2.2.2.2.2.2.2.2.2.2.2.2.2.2.2.2.2.2.2.2.2.2.1 σx σm (xs (x3 + 1).toNatClampNeg) (xs (x3 + 2).toNatClampNeg) hI
  refine lv_aload_n S.1 S.2.1 dL_law_1135 rfl (lv_at hl 1 rfl) ?_
  refine lv_aload_n S.1 S.2.1 dL_law_1136 rfl (lv_at hl 0 rfl) ?_
  refine lv_iload_n S.1 S.2.1 dL_law_1137 rfl (lv_at hl 3 rfl) ?_
  refine lv_iconst (v := 1) S.1 S.2.1 dL_law_1138 (by decide) ?_
  refine lv_iadd S.1 S.2.1 dL_law_1139 ?_
  refine va_sld S.1 S.2.1 hX0 hbl hbA h.2.2.2.2 hi1 dL_law_1140 ?_
  refine lv_aload_n S.1 S.2.1 dL_law_1141 rfl (lv_at hl 0 rfl) ?_
  refine lv_iload_n S.1 S.2.1 dL_law_1142 rfl (lv_at hl 3 rfl) ?_
  refine lv_iconst (v := 2) S.1 S.2.1 dL_law_1143 (by decide) ?_
  refine lv_iadd S.1 S.2.1 dL_law_1144 ?_
  refine va_sld S.1 S.2.1 hX0 hbl hbA h.2.2.2.2 hi2 dL_law_1145 ?_
  refine lw_xi (As := [.int (xs (x3 + 1).toNatClampNeg), .int (xs (x3 + 2).toNatClampNeg)]) (rest := []) S F h (tX11_hold hX) kt_L_132 rfl ⟨Nat.le_of_ble_eq_true rfl, Nat.le_of_ble_eq_true rfl⟩ rfl hl.1 rfl (Nat.le_of_ble_eq_true rfl) ⟨hc0, hs0⟩ dL_law_1146 (fun H locs h => ?_)
  refine lv_aload_n S.1 S.2.1 dL_law_1149 rfl (lv_at hl 2 rfl) ?_
  refine lv_aload_n S.1 S.2.1 dL_law_1150 rfl (lv_at hl 0 rfl) ?_
  refine lv_iload_n S.1 S.2.1 dL_law_1151 rfl (lv_at hl 3 rfl) ?_
  refine lv_iconst (v := 1) S.1 S.2.1 dL_law_1152 (by decide) ?_
  refine lv_iadd S.1 S.2.1 dL_law_1153 ?_
  refine va_sld S.1 S.2.1 hX0 hbl hbA h.2.2.2.2 hi1 dL_law_1154 ?_
  refine lv_aload_n S.1 S.2.1 dL_law_1155 rfl (lv_at hl 0 rfl) ?_
  refine lv_iload_n S.1 S.2.1 dL_law_1156 rfl (lv_at hl 3 rfl) ?_
  refine lv_iconst (v := 2) S.1 S.2.1 dL_law_1157 (by decide) ?_
  refine lv_iadd S.1 S.2.1 dL_law_1158 ?_
  refine va_sld S.1 S.2.1 hX0 hbl hbA h.2.2.2.2 hi2 dL_law_1159 ?_
  refine lw_mi (As := [.int (xs (x3 + 1).toNatClampNeg), .int (xs (x3 + 2).toNatClampNeg)]) (rest := [.int r]) S F h (tX12_hold hM) kt_L_135 rfl ⟨Nat.le_of_ble_eq_true rfl, Nat.le_of_ble_eq_true rfl⟩ rfl hl.1 rfl (Nat.le_of_ble_eq_true rfl) ⟨hc0, hs0⟩ dL_law_1160 (fun H locs h => ?_)
  refine lv_icmp_eq (tgt := 1588) S.1 S.2.1 dL_law_1163 (by decide) (fun hc => ?_) (fun hc => absurd rfl hc)
  exact hk σx' σm' ls H locs hI h hl
set_option maxHeartbeats 2000000 in
set_option maxRecDepth 20000 in
theorem lw_case_way {p : Program} {l : Launch} {e : Env} {s : State} {m : MethodId} {below : List Frame} {meth : Method} {c : Code} {D : va_G} {ax am : Nat → Nat} {cs : Nat → ClassId} {ts adK adV : Nat → Nat} {b L : Nat} {xs : Nat → Int32} {Inv : St → St → Prop} {N c0 s0 : Nat} (hL : L ≤ 3072) (C0 : lw_At p s m meth c b L xs) (F : LF D ax am cs ts adK adV s) (hc0 : c0 ≤ 600000) (hs0 : s0 ≤ 7302250) (hst : SPall Inv N) {x3 : Int32} {j : Nat} (hj : 6 * j + 6 ≤ L) (h3 : x3 = nI (6 * j)) (hk : ∀ (σx σm : St) (ls : Array Slot) (H : Heap) (locs : List Loc), Inv σx σm → LH D ax am cs s σx σm H locs → lv_has ls 4 [(0, .ref b), (1, .ref (ax 0)), (2, .ref (am 0)), (3, .int x3)] → W p l e room_1 s m #[Value.ref b] below meth c H locs c0 s0 (lw_Z below #[Value.ref b] s) (F0 m 1588 ls [])) {σx σm : St} {ls : Array Slot} {H : Heap} {locs : List Loc} (hI : Inv σx σm) (h : LH D ax am cs s σx σm H locs) (hl : lv_has ls 4 [(0, .ref b), (1, .ref (ax 0)), (2, .ref (am 0)), (3, .int x3)]) : W p l e room_1 s m #[Value.ref b] below meth c H locs c0 s0 (lw_Z below #[Value.ref b] s) (F0 m 1168 ls []) := by
  obtain ⟨hx, hb, hr, hml, hown, hts, hX0, hbl, hlocks, hgv⟩ := id C0
  have S : CallFix p m c cL_law 4 s #[Value.ref b] BG RL := ⟨hx, hb, hml, hown, fun w hw => hts w (List.mem_filter.mp hw).1⟩
  have hbA : ¬ (fun q : Nat => s.heap.size ≤ q) b := Nat.not_le.mpr hbl
  have hi1 : vp_in (x3 + 1) L := lw_in (k := 1) hj hL (by decide) h3
  have hi2 : vp_in (x3 + 2) L := lw_in (k := 2) hj hL (by decide) h3
  have hi3 : vp_in (x3 + 3) L := lw_in (k := 3) hj hL (by decide) h3
  have hi4 : vp_in (x3 + 4) L := lw_in (k := 4) hj hL (by decide) h3
  have hi5 : vp_in (x3 + 5) L := lw_in (k := 5) hj hL (by decide) h3
  obtain ⟨r, σx', σm', hX, hM, hI⟩ := hst.2.2.2.2.2.2.2.2.2.2.2.2.2.2.2.2.2.2.2.2.2.2.2.2.2.2.2.2.1 σx σm (xs (x3 + 1).toNatClampNeg) (xs (x3 + 2).toNatClampNeg) (xs (x3 + 3).toNatClampNeg) hI
  refine lv_aload_n S.1 S.2.1 dL_law_1168 rfl (lv_at hl 1 rfl) ?_
  refine lv_aload_n S.1 S.2.1 dL_law_1169 rfl (lv_at hl 0 rfl) ?_
  refine lv_iload_n S.1 S.2.1 dL_law_1170 rfl (lv_at hl 3 rfl) ?_
  refine lv_iconst (v := 1) S.1 S.2.1 dL_law_1171 (by decide) ?_
  refine lv_iadd S.1 S.2.1 dL_law_1172 ?_
  refine va_sld S.1 S.2.1 hX0 hbl hbA h.2.2.2.2 hi1 dL_law_1173 ?_
  refine lv_aload_n S.1 S.2.1 dL_law_1174 rfl (lv_at hl 0 rfl) ?_
  refine lv_iload_n S.1 S.2.1 dL_law_1175 rfl (lv_at hl 3 rfl) ?_
  refine lv_iconst (v := 2) S.1 S.2.1 dL_law_1176 (by decide) ?_
  refine lv_iadd S.1 S.2.1 dL_law_1177 ?_
  refine va_sld S.1 S.2.1 hX0 hbl hbA h.2.2.2.2 hi2 dL_law_1178 ?_
  refine lv_aload_n S.1 S.2.1 dL_law_1179 rfl (lv_at hl 0 rfl) ?_
  refine lv_iload_n S.1 S.2.1 dL_law_1180 rfl (lv_at hl 3 rfl) ?_
  refine lv_iconst (v := 3) S.1 S.2.1 dL_law_1181 (by decide) ?_
  refine lv_iadd S.1 S.2.1 dL_law_1182 ?_
  refine va_sld S.1 S.2.1 hX0 hbl hbA h.2.2.2.2 hi3 dL_law_1183 ?_
  refine lw_xi (As := [.int (xs (x3 + 1).toNatClampNeg), .int (xs (x3 + 2).toNatClampNeg), .int (xs (x3 + 3).toNatClampNeg)]) (rest := []) S F h (tX11_way hX) kt_L_136 rfl ⟨Nat.le_of_ble_eq_true rfl, Nat.le_of_ble_eq_true rfl⟩ rfl hl.1 rfl (Nat.le_of_ble_eq_true rfl) ⟨hc0, hs0⟩ dL_law_1184 (fun H locs h => ?_)
  refine lv_aload_n S.1 S.2.1 dL_law_1187 rfl (lv_at hl 2 rfl) ?_
  refine lv_aload_n S.1 S.2.1 dL_law_1188 rfl (lv_at hl 0 rfl) ?_
  refine lv_iload_n S.1 S.2.1 dL_law_1189 rfl (lv_at hl 3 rfl) ?_
  refine lv_iconst (v := 1) S.1 S.2.1 dL_law_1190 (by decide) ?_
  refine lv_iadd S.1 S.2.1 dL_law_1191 ?_
  refine va_sld S.1 S.2.1 hX0 hbl hbA h.2.2.2.2 hi1 dL_law_1192 ?_
  refine lv_aload_n S.1 S.2.1 dL_law_1193 rfl (lv_at hl 0 rfl) ?_
  refine lv_iload_n S.1 S.2.1 dL_law_1194 rfl (lv_at hl 3 rfl) ?_
  refine lv_iconst (v := 2) S.1 S.2.1 dL_law_1195 (by decide) ?_
  refine lv_iadd S.1 S.2.1 dL_law_1196 ?_
  refine va_sld S.1 S.2.1 hX0 hbl hbA h.2.2.2.2 hi2 dL_law_1197 ?_
  refine lv_aload_n S.1 S.2.1 dL_law_1198 rfl (lv_at hl 0 rfl) ?_
  refine lv_iload_n S.1 S.2.1 dL_law_1199 rfl (lv_at hl 3 rfl) ?_
  refine lv_iconst (v := 3) S.1 S.2.1 dL_law_1200 (by decide) ?_
  refine lv_iadd S.1 S.2.1 dL_law_1201 ?_
  refine va_sld S.1 S.2.1 hX0 hbl hbA h.2.2.2.2 hi3 dL_law_1202 ?_
  refine lw_mi (As := [.int (xs (x3 + 1).toNatClampNeg), .int (xs (x3 + 2).toNatClampNeg), .int (xs (x3 + 3).toNatClampNeg)]) (rest := [.int r]) S F h (tX12_way hM) kt_L_139 rfl ⟨Nat.le_of_ble_eq_true rfl, Nat.le_of_ble_eq_true rfl⟩ rfl hl.1 rfl (Nat.le_of_ble_eq_true rfl) ⟨hc0, hs0⟩ dL_law_1203 (fun H locs h => ?_)
  refine lv_icmp_eq (tgt := 1588) S.1 S.2.1 dL_law_1206 (by decide) (fun hc => ?_) (fun hc => absurd rfl hc)
  exact hk σx' σm' ls H locs hI h hl
set_option maxHeartbeats 2000000 in
set_option maxRecDepth 20000 in
theorem lw_case_couldAsk {p : Program} {l : Launch} {e : Env} {s : State} {m : MethodId} {below : List Frame} {meth : Method} {c : Code} {D : va_G} {ax am : Nat → Nat} {cs : Nat → ClassId} {ts adK adV : Nat → Nat} {b L : Nat} {xs : Nat → Int32} {Inv : St → St → Prop} {N c0 s0 : Nat} (hL : L ≤ 3072) (C0 : lw_At p s m meth c b L xs) (F : LF D ax am cs ts adK adV s) (hc0 : c0 ≤ 600000) (hs0 : s0 ≤ 7302250) (hst : SPall Inv N) {x3 : Int32} {j : Nat} (hj : 6 * j + 6 ≤ L) (h3 : x3 = nI (6 * j)) (hk : ∀ (σx σm : St) (ls : Array Slot) (H : Heap) (locs : List Loc), Inv σx σm → LH D ax am cs s σx σm H locs → lv_has ls 4 [(0, .ref b), (1, .ref (ax 0)), (2, .ref (am 0)), (3, .int x3)] → W p l e room_1 s m #[Value.ref b] below meth c H locs c0 s0 (lw_Z below #[Value.ref b] s) (F0 m 1588 ls [])) {σx σm : St} {ls : Array Slot} {H : Heap} {locs : List Loc} (hI : Inv σx σm) (h : LH D ax am cs s σx σm H locs) (hl : lv_has ls 4 [(0, .ref b), (1, .ref (ax 0)), (2, .ref (am 0)), (3, .int x3)]) : W p l e room_1 s m #[Value.ref b] below meth c H locs c0 s0 (lw_Z below #[Value.ref b] s) (F0 m 1211 ls []) := by
  obtain ⟨hx, hb, hr, hml, hown, hts, hX0, hbl, hlocks, hgv⟩ := id C0
  have S : CallFix p m c cL_law 4 s #[Value.ref b] BG RL := ⟨hx, hb, hml, hown, fun w hw => hts w (List.mem_filter.mp hw).1⟩
  have hbA : ¬ (fun q : Nat => s.heap.size ≤ q) b := Nat.not_le.mpr hbl
  have hi1 : vp_in (x3 + 1) L := lw_in (k := 1) hj hL (by decide) h3
  have hi2 : vp_in (x3 + 2) L := lw_in (k := 2) hj hL (by decide) h3
  have hi3 : vp_in (x3 + 3) L := lw_in (k := 3) hj hL (by decide) h3
  have hi4 : vp_in (x3 + 4) L := lw_in (k := 4) hj hL (by decide) h3
  have hi5 : vp_in (x3 + 5) L := lw_in (k := 5) hj hL (by decide) h3
  obtain ⟨r, σx', σm', hX, hM, hI⟩ := hst.2.2.2.2.2.2.2.2.2.2.2.2.2.2.2.2.2.2.2.2.2.2.2.2.2.2.2.2.2.1 σx σm (xs (x3 + 1).toNatClampNeg) (xs (x3 + 2).toNatClampNeg) (xs (x3 + 3).toNatClampNeg) hI
  refine lv_aload_n S.1 S.2.1 dL_law_1211 rfl (lv_at hl 1 rfl) ?_
  refine lv_aload_n S.1 S.2.1 dL_law_1212 rfl (lv_at hl 0 rfl) ?_
  refine lv_iload_n S.1 S.2.1 dL_law_1213 rfl (lv_at hl 3 rfl) ?_
  refine lv_iconst (v := 1) S.1 S.2.1 dL_law_1214 (by decide) ?_
  refine lv_iadd S.1 S.2.1 dL_law_1215 ?_
  refine va_sld S.1 S.2.1 hX0 hbl hbA h.2.2.2.2 hi1 dL_law_1216 ?_
  refine lv_aload_n S.1 S.2.1 dL_law_1217 rfl (lv_at hl 0 rfl) ?_
  refine lv_iload_n S.1 S.2.1 dL_law_1218 rfl (lv_at hl 3 rfl) ?_
  refine lv_iconst (v := 2) S.1 S.2.1 dL_law_1219 (by decide) ?_
  refine lv_iadd S.1 S.2.1 dL_law_1220 ?_
  refine va_sld S.1 S.2.1 hX0 hbl hbA h.2.2.2.2 hi2 dL_law_1221 ?_
  refine lv_aload_n S.1 S.2.1 dL_law_1222 rfl (lv_at hl 0 rfl) ?_
  refine lv_iload_n S.1 S.2.1 dL_law_1223 rfl (lv_at hl 3 rfl) ?_
  refine lv_iconst (v := 3) S.1 S.2.1 dL_law_1224 (by decide) ?_
  refine lv_iadd S.1 S.2.1 dL_law_1225 ?_
  refine va_sld S.1 S.2.1 hX0 hbl hbA h.2.2.2.2 hi3 dL_law_1226 ?_
  refine lw_xi (As := [.int (xs (x3 + 1).toNatClampNeg), .int (xs (x3 + 2).toNatClampNeg), .int (xs (x3 + 3).toNatClampNeg)]) (rest := []) S F h (tX11_couldAsk hX) kt_L_140 rfl ⟨Nat.le_of_ble_eq_true rfl, Nat.le_of_ble_eq_true rfl⟩ rfl hl.1 rfl (Nat.le_of_ble_eq_true rfl) ⟨hc0, hs0⟩ dL_law_1227 (fun H locs h => ?_)
  refine lv_aload_n S.1 S.2.1 dL_law_1230 rfl (lv_at hl 2 rfl) ?_
  refine lv_aload_n S.1 S.2.1 dL_law_1231 rfl (lv_at hl 0 rfl) ?_
  refine lv_iload_n S.1 S.2.1 dL_law_1232 rfl (lv_at hl 3 rfl) ?_
  refine lv_iconst (v := 1) S.1 S.2.1 dL_law_1233 (by decide) ?_
  refine lv_iadd S.1 S.2.1 dL_law_1234 ?_
  refine va_sld S.1 S.2.1 hX0 hbl hbA h.2.2.2.2 hi1 dL_law_1235 ?_
  refine lv_aload_n S.1 S.2.1 dL_law_1236 rfl (lv_at hl 0 rfl) ?_
  refine lv_iload_n S.1 S.2.1 dL_law_1237 rfl (lv_at hl 3 rfl) ?_
  refine lv_iconst (v := 2) S.1 S.2.1 dL_law_1238 (by decide) ?_
  refine lv_iadd S.1 S.2.1 dL_law_1239 ?_
  refine va_sld S.1 S.2.1 hX0 hbl hbA h.2.2.2.2 hi2 dL_law_1240 ?_
  refine lv_aload_n S.1 S.2.1 dL_law_1241 rfl (lv_at hl 0 rfl) ?_
  refine lv_iload_n S.1 S.2.1 dL_law_1242 rfl (lv_at hl 3 rfl) ?_
  refine lv_iconst (v := 3) S.1 S.2.1 dL_law_1243 (by decide) ?_
  refine lv_iadd S.1 S.2.1 dL_law_1244 ?_
  refine va_sld S.1 S.2.1 hX0 hbl hbA h.2.2.2.2 hi3 dL_law_1245 ?_
  refine lw_mi (As := [.int (xs (x3 + 1).toNatClampNeg), .int (xs (x3 + 2).toNatClampNeg), .int (xs (x3 + 3).toNatClampNeg)]) (rest := [.int r]) S F h (tX12_couldAsk hM) kt_L_143 rfl ⟨Nat.le_of_ble_eq_true rfl, Nat.le_of_ble_eq_true rfl⟩ rfl hl.1 rfl (Nat.le_of_ble_eq_true rfl) ⟨hc0, hs0⟩ dL_law_1246 (fun H locs h => ?_)
  refine lv_icmp_eq (tgt := 1588) S.1 S.2.1 dL_law_1249 (by decide) (fun hc => ?_) (fun hc => absurd rfl hc)
  exact hk σx' σm' ls H locs hI h hl
set_option maxHeartbeats 2000000 in
set_option maxRecDepth 20000 in
theorem lw_case_asking {p : Program} {l : Launch} {e : Env} {s : State} {m : MethodId} {below : List Frame} {meth : Method} {c : Code} {D : va_G} {ax am : Nat → Nat} {cs : Nat → ClassId} {ts adK adV : Nat → Nat} {b L : Nat} {xs : Nat → Int32} {Inv : St → St → Prop} {N c0 s0 : Nat} (hL : L ≤ 3072) (C0 : lw_At p s m meth c b L xs) (F : LF D ax am cs ts adK adV s) (hc0 : c0 ≤ 600000) (hs0 : s0 ≤ 7302250) (hst : SPall Inv N) {x3 : Int32} {j : Nat} (hj : 6 * j + 6 ≤ L) (h3 : x3 = nI (6 * j)) (hk : ∀ (σx σm : St) (ls : Array Slot) (H : Heap) (locs : List Loc), Inv σx σm → LH D ax am cs s σx σm H locs → lv_has ls 4 [(0, .ref b), (1, .ref (ax 0)), (2, .ref (am 0)), (3, .int x3)] → W p l e room_1 s m #[Value.ref b] below meth c H locs c0 s0 (lw_Z below #[Value.ref b] s) (F0 m 1588 ls [])) {σx σm : St} {ls : Array Slot} {H : Heap} {locs : List Loc} (hI : Inv σx σm) (h : LH D ax am cs s σx σm H locs) (hl : lv_has ls 4 [(0, .ref b), (1, .ref (ax 0)), (2, .ref (am 0)), (3, .int x3)]) : W p l e room_1 s m #[Value.ref b] below meth c H locs c0 s0 (lw_Z below #[Value.ref b] s) (F0 m 1254 ls []) := by
  obtain ⟨hx, hb, hr, hml, hown, hts, hX0, hbl, hlocks, hgv⟩ := id C0
  have S : CallFix p m c cL_law 4 s #[Value.ref b] BG RL := ⟨hx, hb, hml, hown, fun w hw => hts w (List.mem_filter.mp hw).1⟩
  have hbA : ¬ (fun q : Nat => s.heap.size ≤ q) b := Nat.not_le.mpr hbl
  have hi1 : vp_in (x3 + 1) L := lw_in (k := 1) hj hL (by decide) h3
  have hi2 : vp_in (x3 + 2) L := lw_in (k := 2) hj hL (by decide) h3
  have hi3 : vp_in (x3 + 3) L := lw_in (k := 3) hj hL (by decide) h3
  have hi4 : vp_in (x3 + 4) L := lw_in (k := 4) hj hL (by decide) h3
  have hi5 : vp_in (x3 + 5) L := lw_in (k := 5) hj hL (by decide) h3
  obtain ⟨r, σx', σm', hX, hM, hI⟩ := hst.2.2.2.2.2.2.2.2.2.2.2.2.2.2.2.2.2.2.2.2.2.2.2.2.2.2.2.2.2.2.1 σx σm (xs (x3 + 1).toNatClampNeg) (xs (x3 + 2).toNatClampNeg) hI
  refine lv_aload_n S.1 S.2.1 dL_law_1254 rfl (lv_at hl 1 rfl) ?_
  refine lv_aload_n S.1 S.2.1 dL_law_1255 rfl (lv_at hl 0 rfl) ?_
  refine lv_iload_n S.1 S.2.1 dL_law_1256 rfl (lv_at hl 3 rfl) ?_
  refine lv_iconst (v := 1) S.1 S.2.1 dL_law_1257 (by decide) ?_
  refine lv_iadd S.1 S.2.1 dL_law_1258 ?_
  refine va_sld S.1 S.2.1 hX0 hbl hbA h.2.2.2.2 hi1 dL_law_1259 ?_
  refine lv_aload_n S.1 S.2.1 dL_law_1260 rfl (lv_at hl 0 rfl) ?_
  refine lv_iload_n S.1 S.2.1 dL_law_1261 rfl (lv_at hl 3 rfl) ?_
  refine lv_iconst (v := 2) S.1 S.2.1 dL_law_1262 (by decide) ?_
  refine lv_iadd S.1 S.2.1 dL_law_1263 ?_
  refine va_sld S.1 S.2.1 hX0 hbl hbA h.2.2.2.2 hi2 dL_law_1264 ?_
  refine lw_xi (As := [.int (xs (x3 + 1).toNatClampNeg), .int (xs (x3 + 2).toNatClampNeg)]) (rest := []) S F h (tX11_asking hX) kt_L_144 rfl ⟨Nat.le_of_ble_eq_true rfl, Nat.le_of_ble_eq_true rfl⟩ rfl hl.1 rfl (Nat.le_of_ble_eq_true rfl) ⟨hc0, hs0⟩ dL_law_1265 (fun H locs h => ?_)
  refine lv_aload_n S.1 S.2.1 dL_law_1268 rfl (lv_at hl 2 rfl) ?_
  refine lv_aload_n S.1 S.2.1 dL_law_1269 rfl (lv_at hl 0 rfl) ?_
  refine lv_iload_n S.1 S.2.1 dL_law_1270 rfl (lv_at hl 3 rfl) ?_
  refine lv_iconst (v := 1) S.1 S.2.1 dL_law_1271 (by decide) ?_
  refine lv_iadd S.1 S.2.1 dL_law_1272 ?_
  refine va_sld S.1 S.2.1 hX0 hbl hbA h.2.2.2.2 hi1 dL_law_1273 ?_
  refine lv_aload_n S.1 S.2.1 dL_law_1274 rfl (lv_at hl 0 rfl) ?_
  refine lv_iload_n S.1 S.2.1 dL_law_1275 rfl (lv_at hl 3 rfl) ?_
  refine lv_iconst (v := 2) S.1 S.2.1 dL_law_1276 (by decide) ?_
  refine lv_iadd S.1 S.2.1 dL_law_1277 ?_
  refine va_sld S.1 S.2.1 hX0 hbl hbA h.2.2.2.2 hi2 dL_law_1278 ?_
  refine lw_mi (As := [.int (xs (x3 + 1).toNatClampNeg), .int (xs (x3 + 2).toNatClampNeg)]) (rest := [.int r]) S F h (tX12_asking hM) kt_L_147 rfl ⟨Nat.le_of_ble_eq_true rfl, Nat.le_of_ble_eq_true rfl⟩ rfl hl.1 rfl (Nat.le_of_ble_eq_true rfl) ⟨hc0, hs0⟩ dL_law_1279 (fun H locs h => ?_)
  refine lv_icmp_eq (tgt := 1588) S.1 S.2.1 dL_law_1282 (by decide) (fun hc => ?_) (fun hc => absurd rfl hc)
  exact hk σx' σm' ls H locs hI h hl
set_option maxHeartbeats 2000000 in
set_option maxRecDepth 20000 in
theorem lw_case_toAsk {p : Program} {l : Launch} {e : Env} {s : State} {m : MethodId} {below : List Frame} {meth : Method} {c : Code} {D : va_G} {ax am : Nat → Nat} {cs : Nat → ClassId} {ts adK adV : Nat → Nat} {b L : Nat} {xs : Nat → Int32} {Inv : St → St → Prop} {N c0 s0 : Nat} (hL : L ≤ 3072) (C0 : lw_At p s m meth c b L xs) (F : LF D ax am cs ts adK adV s) (hc0 : c0 ≤ 600000) (hs0 : s0 ≤ 7302250) (hst : SPall Inv N) {x3 : Int32} {j : Nat} (hj : 6 * j + 6 ≤ L) (h3 : x3 = nI (6 * j)) (hk : ∀ (σx σm : St) (ls : Array Slot) (H : Heap) (locs : List Loc), Inv σx σm → LH D ax am cs s σx σm H locs → lv_has ls 4 [(0, .ref b), (1, .ref (ax 0)), (2, .ref (am 0)), (3, .int x3)] → W p l e room_1 s m #[Value.ref b] below meth c H locs c0 s0 (lw_Z below #[Value.ref b] s) (F0 m 1588 ls [])) {σx σm : St} {ls : Array Slot} {H : Heap} {locs : List Loc} (hI : Inv σx σm) (h : LH D ax am cs s σx σm H locs) (hl : lv_has ls 4 [(0, .ref b), (1, .ref (ax 0)), (2, .ref (am 0)), (3, .int x3)]) : W p l e room_1 s m #[Value.ref b] below meth c H locs c0 s0 (lw_Z below #[Value.ref b] s) (F0 m 1287 ls []) := by
  obtain ⟨hx, hb, hr, hml, hown, hts, hX0, hbl, hlocks, hgv⟩ := id C0
  have S : CallFix p m c cL_law 4 s #[Value.ref b] BG RL := ⟨hx, hb, hml, hown, fun w hw => hts w (List.mem_filter.mp hw).1⟩
  have hbA : ¬ (fun q : Nat => s.heap.size ≤ q) b := Nat.not_le.mpr hbl
  have hi1 : vp_in (x3 + 1) L := lw_in (k := 1) hj hL (by decide) h3
  have hi2 : vp_in (x3 + 2) L := lw_in (k := 2) hj hL (by decide) h3
  have hi3 : vp_in (x3 + 3) L := lw_in (k := 3) hj hL (by decide) h3
  have hi4 : vp_in (x3 + 4) L := lw_in (k := 4) hj hL (by decide) h3
  have hi5 : vp_in (x3 + 5) L := lw_in (k := 5) hj hL (by decide) h3
  obtain ⟨r, σx', σm', hX, hM, hI⟩ := hst.2.2.2.2.2.2.2.2.2.2.2.2.2.2.2.2.2.2.2.2.2.2.2.2.2.2.2.2.2.2.2.1 σx σm (xs (x3 + 1).toNatClampNeg) (xs (x3 + 2).toNatClampNeg) hI
  refine lv_aload_n S.1 S.2.1 dL_law_1287 rfl (lv_at hl 1 rfl) ?_
  refine lv_aload_n S.1 S.2.1 dL_law_1288 rfl (lv_at hl 0 rfl) ?_
  refine lv_iload_n S.1 S.2.1 dL_law_1289 rfl (lv_at hl 3 rfl) ?_
  refine lv_iconst (v := 1) S.1 S.2.1 dL_law_1290 (by decide) ?_
  refine lv_iadd S.1 S.2.1 dL_law_1291 ?_
  refine va_sld S.1 S.2.1 hX0 hbl hbA h.2.2.2.2 hi1 dL_law_1292 ?_
  refine lv_aload_n S.1 S.2.1 dL_law_1293 rfl (lv_at hl 0 rfl) ?_
  refine lv_iload_n S.1 S.2.1 dL_law_1294 rfl (lv_at hl 3 rfl) ?_
  refine lv_iconst (v := 2) S.1 S.2.1 dL_law_1295 (by decide) ?_
  refine lv_iadd S.1 S.2.1 dL_law_1296 ?_
  refine va_sld S.1 S.2.1 hX0 hbl hbA h.2.2.2.2 hi2 dL_law_1297 ?_
  refine lw_xi (As := [.int (xs (x3 + 1).toNatClampNeg), .int (xs (x3 + 2).toNatClampNeg)]) (rest := []) S F h (tX11_toAsk hX) kt_L_148 rfl ⟨Nat.le_of_ble_eq_true rfl, Nat.le_of_ble_eq_true rfl⟩ rfl hl.1 rfl (Nat.le_of_ble_eq_true rfl) ⟨hc0, hs0⟩ dL_law_1298 (fun H locs h => ?_)
  refine lv_aload_n S.1 S.2.1 dL_law_1301 rfl (lv_at hl 2 rfl) ?_
  refine lv_aload_n S.1 S.2.1 dL_law_1302 rfl (lv_at hl 0 rfl) ?_
  refine lv_iload_n S.1 S.2.1 dL_law_1303 rfl (lv_at hl 3 rfl) ?_
  refine lv_iconst (v := 1) S.1 S.2.1 dL_law_1304 (by decide) ?_
  refine lv_iadd S.1 S.2.1 dL_law_1305 ?_
  refine va_sld S.1 S.2.1 hX0 hbl hbA h.2.2.2.2 hi1 dL_law_1306 ?_
  refine lv_aload_n S.1 S.2.1 dL_law_1307 rfl (lv_at hl 0 rfl) ?_
  refine lv_iload_n S.1 S.2.1 dL_law_1308 rfl (lv_at hl 3 rfl) ?_
  refine lv_iconst (v := 2) S.1 S.2.1 dL_law_1309 (by decide) ?_
  refine lv_iadd S.1 S.2.1 dL_law_1310 ?_
  refine va_sld S.1 S.2.1 hX0 hbl hbA h.2.2.2.2 hi2 dL_law_1311 ?_
  refine lw_mi (As := [.int (xs (x3 + 1).toNatClampNeg), .int (xs (x3 + 2).toNatClampNeg)]) (rest := [.int r]) S F h (tX12_toAsk hM) kt_L_151 rfl ⟨Nat.le_of_ble_eq_true rfl, Nat.le_of_ble_eq_true rfl⟩ rfl hl.1 rfl (Nat.le_of_ble_eq_true rfl) ⟨hc0, hs0⟩ dL_law_1312 (fun H locs h => ?_)
  refine lv_icmp_eq (tgt := 1588) S.1 S.2.1 dL_law_1315 (by decide) (fun hc => ?_) (fun hc => absurd rfl hc)
  exact hk σx' σm' ls H locs hI h hl
set_option maxHeartbeats 2000000 in
set_option maxRecDepth 20000 in
theorem lw_case_count {p : Program} {l : Launch} {e : Env} {s : State} {m : MethodId} {below : List Frame} {meth : Method} {c : Code} {D : va_G} {ax am : Nat → Nat} {cs : Nat → ClassId} {ts adK adV : Nat → Nat} {b L : Nat} {xs : Nat → Int32} {Inv : St → St → Prop} {N c0 s0 : Nat} (hL : L ≤ 3072) (C0 : lw_At p s m meth c b L xs) (F : LF D ax am cs ts adK adV s) (hc0 : c0 ≤ 600000) (hs0 : s0 ≤ 7302250) (hst : SPall Inv N) {x3 : Int32} {j : Nat} (hj : 6 * j + 6 ≤ L) (h3 : x3 = nI (6 * j)) (hk : ∀ (σx σm : St) (ls : Array Slot) (H : Heap) (locs : List Loc), Inv σx σm → LH D ax am cs s σx σm H locs → lv_has ls 4 [(0, .ref b), (1, .ref (ax 0)), (2, .ref (am 0)), (3, .int x3)] → W p l e room_1 s m #[Value.ref b] below meth c H locs c0 s0 (lw_Z below #[Value.ref b] s) (F0 m 1588 ls [])) {σx σm : St} {ls : Array Slot} {H : Heap} {locs : List Loc} (hI : Inv σx σm) (h : LH D ax am cs s σx σm H locs) (hl : lv_has ls 4 [(0, .ref b), (1, .ref (ax 0)), (2, .ref (am 0)), (3, .int x3)]) : W p l e room_1 s m #[Value.ref b] below meth c H locs c0 s0 (lw_Z below #[Value.ref b] s) (F0 m 1320 ls []) := by
  obtain ⟨hx, hb, hr, hml, hown, hts, hX0, hbl, hlocks, hgv⟩ := id C0
  have S : CallFix p m c cL_law 4 s #[Value.ref b] BG RL := ⟨hx, hb, hml, hown, fun w hw => hts w (List.mem_filter.mp hw).1⟩
  have hbA : ¬ (fun q : Nat => s.heap.size ≤ q) b := Nat.not_le.mpr hbl
  have hi1 : vp_in (x3 + 1) L := lw_in (k := 1) hj hL (by decide) h3
  have hi2 : vp_in (x3 + 2) L := lw_in (k := 2) hj hL (by decide) h3
  have hi3 : vp_in (x3 + 3) L := lw_in (k := 3) hj hL (by decide) h3
  have hi4 : vp_in (x3 + 4) L := lw_in (k := 4) hj hL (by decide) h3
  have hi5 : vp_in (x3 + 5) L := lw_in (k := 5) hj hL (by decide) h3
  obtain ⟨r, σx', hX, hM, hI⟩ := hst.2.2.2.2.2.2.2.2.2.2.2.2.2.2.2.2.2.2.2.2.2.2.2.2.2.2.2.2.2.2.2.2.1 σx σm (xs (x3 + 1).toNatClampNeg) hI
  refine lv_aload_n S.1 S.2.1 dL_law_1320 rfl (lv_at hl 1 rfl) ?_
  refine lv_aload_n S.1 S.2.1 dL_law_1321 rfl (lv_at hl 0 rfl) ?_
  refine lv_iload_n S.1 S.2.1 dL_law_1322 rfl (lv_at hl 3 rfl) ?_
  refine lv_iconst (v := 1) S.1 S.2.1 dL_law_1323 (by decide) ?_
  refine lv_iadd S.1 S.2.1 dL_law_1324 ?_
  refine va_sld S.1 S.2.1 hX0 hbl hbA h.2.2.2.2 hi1 dL_law_1325 ?_
  refine lw_xi (As := [.int (xs (x3 + 1).toNatClampNeg)]) (rest := []) S F h (tX11_count hX) kt_L_152 rfl ⟨Nat.le_of_ble_eq_true rfl, Nat.le_of_ble_eq_true rfl⟩ rfl hl.1 rfl (Nat.le_of_ble_eq_true rfl) ⟨hc0, hs0⟩ dL_law_1326 (fun H locs h => ?_)
  refine lv_aload_n S.1 S.2.1 dL_law_1329 rfl (lv_at hl 2 rfl) ?_
  refine lv_aload_n S.1 S.2.1 dL_law_1330 rfl (lv_at hl 0 rfl) ?_
  refine lv_iload_n S.1 S.2.1 dL_law_1331 rfl (lv_at hl 3 rfl) ?_
  refine lv_iconst (v := 1) S.1 S.2.1 dL_law_1332 (by decide) ?_
  refine lv_iadd S.1 S.2.1 dL_law_1333 ?_
  refine va_sld S.1 S.2.1 hX0 hbl hbA h.2.2.2.2 hi1 dL_law_1334 ?_
  refine lw_mi (As := [.int (xs (x3 + 1).toNatClampNeg)]) (rest := [.int r]) S F h (tX12_count hM) kt_L_155 rfl ⟨Nat.le_of_ble_eq_true rfl, Nat.le_of_ble_eq_true rfl⟩ rfl hl.1 rfl (Nat.le_of_ble_eq_true rfl) ⟨hc0, hs0⟩ dL_law_1335 (fun H locs h => ?_)
  refine lv_icmp_eq (tgt := 1588) S.1 S.2.1 dL_law_1338 (by decide) (fun hc => ?_) (fun hc => absurd rfl hc)
  exact hk σx' σm ls H locs hI h hl
set_option maxHeartbeats 2000000 in
set_option maxRecDepth 20000 in
theorem lw_case_sheet {p : Program} {l : Launch} {e : Env} {s : State} {m : MethodId} {below : List Frame} {meth : Method} {c : Code} {D : va_G} {ax am : Nat → Nat} {cs : Nat → ClassId} {ts adK adV : Nat → Nat} {b L : Nat} {xs : Nat → Int32} {Inv : St → St → Prop} {N c0 s0 : Nat} (hL : L ≤ 3072) (C0 : lw_At p s m meth c b L xs) (F : LF D ax am cs ts adK adV s) (hc0 : c0 ≤ 600000) (hs0 : s0 ≤ 7302250) (hst : SPall Inv N) {x3 : Int32} {j : Nat} (hj : 6 * j + 6 ≤ L) (h3 : x3 = nI (6 * j)) (hk : ∀ (σx σm : St) (ls : Array Slot) (H : Heap) (locs : List Loc), Inv σx σm → LH D ax am cs s σx σm H locs → lv_has ls 4 [(0, .ref b), (1, .ref (ax 0)), (2, .ref (am 0)), (3, .int x3)] → W p l e room_1 s m #[Value.ref b] below meth c H locs c0 s0 (lw_Z below #[Value.ref b] s) (F0 m 1588 ls [])) {σx σm : St} {ls : Array Slot} {H : Heap} {locs : List Loc} (hI : Inv σx σm) (h : LH D ax am cs s σx σm H locs) (hl : lv_has ls 4 [(0, .ref b), (1, .ref (ax 0)), (2, .ref (am 0)), (3, .int x3)]) : W p l e room_1 s m #[Value.ref b] below meth c H locs c0 s0 (lw_Z below #[Value.ref b] s) (F0 m 1343 ls []) := by
  obtain ⟨hx, hb, hr, hml, hown, hts, hX0, hbl, hlocks, hgv⟩ := id C0
  have S : CallFix p m c cL_law 4 s #[Value.ref b] BG RL := ⟨hx, hb, hml, hown, fun w hw => hts w (List.mem_filter.mp hw).1⟩
  have hbA : ¬ (fun q : Nat => s.heap.size ≤ q) b := Nat.not_le.mpr hbl
  have hi1 : vp_in (x3 + 1) L := lw_in (k := 1) hj hL (by decide) h3
  have hi2 : vp_in (x3 + 2) L := lw_in (k := 2) hj hL (by decide) h3
  have hi3 : vp_in (x3 + 3) L := lw_in (k := 3) hj hL (by decide) h3
  have hi4 : vp_in (x3 + 4) L := lw_in (k := 4) hj hL (by decide) h3
  have hi5 : vp_in (x3 + 5) L := lw_in (k := 5) hj hL (by decide) h3
  obtain ⟨r, σx', σm', hX, hM, hI⟩ := hst.2.2.2.2.2.2.2.2.2.2.2.2.2.2.2.2.2.2.2.2.2.2.2.2.2.2.2.2.2.2.2.2.2.1 σx σm (xs (x3 + 1).toNatClampNeg) (xs (x3 + 2).toNatClampNeg) (xs (x3 + 3).toNatClampNeg) hI
  refine lv_aload_n S.1 S.2.1 dL_law_1343 rfl (lv_at hl 1 rfl) ?_
  refine lv_aload_n S.1 S.2.1 dL_law_1344 rfl (lv_at hl 0 rfl) ?_
  refine lv_iload_n S.1 S.2.1 dL_law_1345 rfl (lv_at hl 3 rfl) ?_
  refine lv_iconst (v := 1) S.1 S.2.1 dL_law_1346 (by decide) ?_
  refine lv_iadd S.1 S.2.1 dL_law_1347 ?_
  refine va_sld S.1 S.2.1 hX0 hbl hbA h.2.2.2.2 hi1 dL_law_1348 ?_
  refine lv_aload_n S.1 S.2.1 dL_law_1349 rfl (lv_at hl 0 rfl) ?_
  refine lv_iload_n S.1 S.2.1 dL_law_1350 rfl (lv_at hl 3 rfl) ?_
  refine lv_iconst (v := 2) S.1 S.2.1 dL_law_1351 (by decide) ?_
  refine lv_iadd S.1 S.2.1 dL_law_1352 ?_
  refine va_sld S.1 S.2.1 hX0 hbl hbA h.2.2.2.2 hi2 dL_law_1353 ?_
  refine lv_aload_n S.1 S.2.1 dL_law_1354 rfl (lv_at hl 0 rfl) ?_
  refine lv_iload_n S.1 S.2.1 dL_law_1355 rfl (lv_at hl 3 rfl) ?_
  refine lv_iconst (v := 3) S.1 S.2.1 dL_law_1356 (by decide) ?_
  refine lv_iadd S.1 S.2.1 dL_law_1357 ?_
  refine va_sld S.1 S.2.1 hX0 hbl hbA h.2.2.2.2 hi3 dL_law_1358 ?_
  refine lw_xi (As := [.int (xs (x3 + 1).toNatClampNeg), .int (xs (x3 + 2).toNatClampNeg), .int (xs (x3 + 3).toNatClampNeg)]) (rest := []) S F h (tX11_sheet hX) kt_L_156 rfl ⟨Nat.le_of_ble_eq_true rfl, Nat.le_of_ble_eq_true rfl⟩ rfl hl.1 rfl (Nat.le_of_ble_eq_true rfl) ⟨hc0, hs0⟩ dL_law_1359 (fun H locs h => ?_)
  refine lv_aload_n S.1 S.2.1 dL_law_1362 rfl (lv_at hl 2 rfl) ?_
  refine lv_aload_n S.1 S.2.1 dL_law_1363 rfl (lv_at hl 0 rfl) ?_
  refine lv_iload_n S.1 S.2.1 dL_law_1364 rfl (lv_at hl 3 rfl) ?_
  refine lv_iconst (v := 1) S.1 S.2.1 dL_law_1365 (by decide) ?_
  refine lv_iadd S.1 S.2.1 dL_law_1366 ?_
  refine va_sld S.1 S.2.1 hX0 hbl hbA h.2.2.2.2 hi1 dL_law_1367 ?_
  refine lv_aload_n S.1 S.2.1 dL_law_1368 rfl (lv_at hl 0 rfl) ?_
  refine lv_iload_n S.1 S.2.1 dL_law_1369 rfl (lv_at hl 3 rfl) ?_
  refine lv_iconst (v := 2) S.1 S.2.1 dL_law_1370 (by decide) ?_
  refine lv_iadd S.1 S.2.1 dL_law_1371 ?_
  refine va_sld S.1 S.2.1 hX0 hbl hbA h.2.2.2.2 hi2 dL_law_1372 ?_
  refine lv_aload_n S.1 S.2.1 dL_law_1373 rfl (lv_at hl 0 rfl) ?_
  refine lv_iload_n S.1 S.2.1 dL_law_1374 rfl (lv_at hl 3 rfl) ?_
  refine lv_iconst (v := 3) S.1 S.2.1 dL_law_1375 (by decide) ?_
  refine lv_iadd S.1 S.2.1 dL_law_1376 ?_
  refine va_sld S.1 S.2.1 hX0 hbl hbA h.2.2.2.2 hi3 dL_law_1377 ?_
  refine lw_mi (As := [.int (xs (x3 + 1).toNatClampNeg), .int (xs (x3 + 2).toNatClampNeg), .int (xs (x3 + 3).toNatClampNeg)]) (rest := [.int r]) S F h (tX12_sheet hM) kt_L_159 rfl ⟨Nat.le_of_ble_eq_true rfl, Nat.le_of_ble_eq_true rfl⟩ rfl hl.1 rfl (Nat.le_of_ble_eq_true rfl) ⟨hc0, hs0⟩ dL_law_1378 (fun H locs h => ?_)
  refine lv_icmp_eq (tgt := 1588) S.1 S.2.1 dL_law_1381 (by decide) (fun hc => ?_) (fun hc => absurd rfl hc)
  exact hk σx' σm' ls H locs hI h hl
set_option maxHeartbeats 2000000 in
set_option maxRecDepth 20000 in
theorem lw_case_cell {p : Program} {l : Launch} {e : Env} {s : State} {m : MethodId} {below : List Frame} {meth : Method} {c : Code} {D : va_G} {ax am : Nat → Nat} {cs : Nat → ClassId} {ts adK adV : Nat → Nat} {b L : Nat} {xs : Nat → Int32} {Inv : St → St → Prop} {N c0 s0 : Nat} (hL : L ≤ 3072) (C0 : lw_At p s m meth c b L xs) (F : LF D ax am cs ts adK adV s) (hc0 : c0 ≤ 600000) (hs0 : s0 ≤ 7302250) (hst : SPall Inv N) {x3 : Int32} {j : Nat} (hj : 6 * j + 6 ≤ L) (h3 : x3 = nI (6 * j)) (hk : ∀ (σx σm : St) (ls : Array Slot) (H : Heap) (locs : List Loc), Inv σx σm → LH D ax am cs s σx σm H locs → lv_has ls 4 [(0, .ref b), (1, .ref (ax 0)), (2, .ref (am 0)), (3, .int x3)] → W p l e room_1 s m #[Value.ref b] below meth c H locs c0 s0 (lw_Z below #[Value.ref b] s) (F0 m 1588 ls [])) {σx σm : St} {ls : Array Slot} {H : Heap} {locs : List Loc} (hI : Inv σx σm) (h : LH D ax am cs s σx σm H locs) (hl : lv_has ls 4 [(0, .ref b), (1, .ref (ax 0)), (2, .ref (am 0)), (3, .int x3)]) : W p l e room_1 s m #[Value.ref b] below meth c H locs c0 s0 (lw_Z below #[Value.ref b] s) (F0 m 1386 ls []) := by
  obtain ⟨hx, hb, hr, hml, hown, hts, hX0, hbl, hlocks, hgv⟩ := id C0
  have S : CallFix p m c cL_law 4 s #[Value.ref b] BG RL := ⟨hx, hb, hml, hown, fun w hw => hts w (List.mem_filter.mp hw).1⟩
  have hbA : ¬ (fun q : Nat => s.heap.size ≤ q) b := Nat.not_le.mpr hbl
  have hi1 : vp_in (x3 + 1) L := lw_in (k := 1) hj hL (by decide) h3
  have hi2 : vp_in (x3 + 2) L := lw_in (k := 2) hj hL (by decide) h3
  have hi3 : vp_in (x3 + 3) L := lw_in (k := 3) hj hL (by decide) h3
  have hi4 : vp_in (x3 + 4) L := lw_in (k := 4) hj hL (by decide) h3
  have hi5 : vp_in (x3 + 5) L := lw_in (k := 5) hj hL (by decide) h3
  obtain ⟨r, σx', σm', hX, hM, hI⟩ := hst.2.2.2.2.2.2.2.2.2.2.2.2.2.2.2.2.2.2.2.2.2.2.2.2.2.2.2.2.2.2.2.2.2.2.1 σx σm (xs (x3 + 1).toNatClampNeg) (xs (x3 + 2).toNatClampNeg) (xs (x3 + 3).toNatClampNeg) hI
  refine lv_aload_n S.1 S.2.1 dL_law_1386 rfl (lv_at hl 1 rfl) ?_
  refine lv_aload_n S.1 S.2.1 dL_law_1387 rfl (lv_at hl 0 rfl) ?_
  refine lv_iload_n S.1 S.2.1 dL_law_1388 rfl (lv_at hl 3 rfl) ?_
  refine lv_iconst (v := 1) S.1 S.2.1 dL_law_1389 (by decide) ?_
  refine lv_iadd S.1 S.2.1 dL_law_1390 ?_
  refine va_sld S.1 S.2.1 hX0 hbl hbA h.2.2.2.2 hi1 dL_law_1391 ?_
  refine lv_aload_n S.1 S.2.1 dL_law_1392 rfl (lv_at hl 0 rfl) ?_
  refine lv_iload_n S.1 S.2.1 dL_law_1393 rfl (lv_at hl 3 rfl) ?_
  refine lv_iconst (v := 2) S.1 S.2.1 dL_law_1394 (by decide) ?_
  refine lv_iadd S.1 S.2.1 dL_law_1395 ?_
  refine va_sld S.1 S.2.1 hX0 hbl hbA h.2.2.2.2 hi2 dL_law_1396 ?_
  refine lv_aload_n S.1 S.2.1 dL_law_1397 rfl (lv_at hl 0 rfl) ?_
  refine lv_iload_n S.1 S.2.1 dL_law_1398 rfl (lv_at hl 3 rfl) ?_
  refine lv_iconst (v := 3) S.1 S.2.1 dL_law_1399 (by decide) ?_
  refine lv_iadd S.1 S.2.1 dL_law_1400 ?_
  refine va_sld S.1 S.2.1 hX0 hbl hbA h.2.2.2.2 hi3 dL_law_1401 ?_
  refine lw_xi (As := [.int (xs (x3 + 1).toNatClampNeg), .int (xs (x3 + 2).toNatClampNeg), .int (xs (x3 + 3).toNatClampNeg)]) (rest := []) S F h (tX11_cell hX) kt_L_160 rfl ⟨Nat.le_of_ble_eq_true rfl, Nat.le_of_ble_eq_true rfl⟩ rfl hl.1 rfl (Nat.le_of_ble_eq_true rfl) ⟨hc0, hs0⟩ dL_law_1402 (fun H locs h => ?_)
  refine lv_aload_n S.1 S.2.1 dL_law_1405 rfl (lv_at hl 2 rfl) ?_
  refine lv_aload_n S.1 S.2.1 dL_law_1406 rfl (lv_at hl 0 rfl) ?_
  refine lv_iload_n S.1 S.2.1 dL_law_1407 rfl (lv_at hl 3 rfl) ?_
  refine lv_iconst (v := 1) S.1 S.2.1 dL_law_1408 (by decide) ?_
  refine lv_iadd S.1 S.2.1 dL_law_1409 ?_
  refine va_sld S.1 S.2.1 hX0 hbl hbA h.2.2.2.2 hi1 dL_law_1410 ?_
  refine lv_aload_n S.1 S.2.1 dL_law_1411 rfl (lv_at hl 0 rfl) ?_
  refine lv_iload_n S.1 S.2.1 dL_law_1412 rfl (lv_at hl 3 rfl) ?_
  refine lv_iconst (v := 2) S.1 S.2.1 dL_law_1413 (by decide) ?_
  refine lv_iadd S.1 S.2.1 dL_law_1414 ?_
  refine va_sld S.1 S.2.1 hX0 hbl hbA h.2.2.2.2 hi2 dL_law_1415 ?_
  refine lv_aload_n S.1 S.2.1 dL_law_1416 rfl (lv_at hl 0 rfl) ?_
  refine lv_iload_n S.1 S.2.1 dL_law_1417 rfl (lv_at hl 3 rfl) ?_
  refine lv_iconst (v := 3) S.1 S.2.1 dL_law_1418 (by decide) ?_
  refine lv_iadd S.1 S.2.1 dL_law_1419 ?_
  refine va_sld S.1 S.2.1 hX0 hbl hbA h.2.2.2.2 hi3 dL_law_1420 ?_
  refine lw_mi (As := [.int (xs (x3 + 1).toNatClampNeg), .int (xs (x3 + 2).toNatClampNeg), .int (xs (x3 + 3).toNatClampNeg)]) (rest := [.int r]) S F h (tX12_cell hM) kt_L_163 rfl ⟨Nat.le_of_ble_eq_true rfl, Nat.le_of_ble_eq_true rfl⟩ rfl hl.1 rfl (Nat.le_of_ble_eq_true rfl) ⟨hc0, hs0⟩ dL_law_1421 (fun H locs h => ?_)
  refine lv_icmp_eq (tgt := 1588) S.1 S.2.1 dL_law_1424 (by decide) (fun hc => ?_) (fun hc => absurd rfl hc)
  exact hk σx' σm' ls H locs hI h hl
set_option maxHeartbeats 2000000 in
set_option maxRecDepth 20000 in
theorem lw_case_copy {p : Program} {l : Launch} {e : Env} {s : State} {m : MethodId} {below : List Frame} {meth : Method} {c : Code} {D : va_G} {ax am : Nat → Nat} {cs : Nat → ClassId} {ts adK adV : Nat → Nat} {b L : Nat} {xs : Nat → Int32} {Inv : St → St → Prop} {N c0 s0 : Nat} (hL : L ≤ 3072) (C0 : lw_At p s m meth c b L xs) (F : LF D ax am cs ts adK adV s) (hc0 : c0 ≤ 600000) (hs0 : s0 ≤ 7302250) (hst : SPall Inv N) {x3 : Int32} {j : Nat} (hj : 6 * j + 6 ≤ L) (h3 : x3 = nI (6 * j)) (hk : ∀ (σx σm : St) (ls : Array Slot) (H : Heap) (locs : List Loc), Inv σx σm → LH D ax am cs s σx σm H locs → lv_has ls 4 [(0, .ref b), (1, .ref (ax 0)), (2, .ref (am 0)), (3, .int x3)] → W p l e room_1 s m #[Value.ref b] below meth c H locs c0 s0 (lw_Z below #[Value.ref b] s) (F0 m 1588 ls [])) {σx σm : St} {ls : Array Slot} {H : Heap} {locs : List Loc} (hI : Inv σx σm) (h : LH D ax am cs s σx σm H locs) (hl : lv_has ls 4 [(0, .ref b), (1, .ref (ax 0)), (2, .ref (am 0)), (3, .int x3)]) : W p l e room_1 s m #[Value.ref b] below meth c H locs c0 s0 (lw_Z below #[Value.ref b] s) (F0 m 1429 ls []) := by
  obtain ⟨hx, hb, hr, hml, hown, hts, hX0, hbl, hlocks, hgv⟩ := id C0
  have S : CallFix p m c cL_law 4 s #[Value.ref b] BG RL := ⟨hx, hb, hml, hown, fun w hw => hts w (List.mem_filter.mp hw).1⟩
  have hbA : ¬ (fun q : Nat => s.heap.size ≤ q) b := Nat.not_le.mpr hbl
  have hi1 : vp_in (x3 + 1) L := lw_in (k := 1) hj hL (by decide) h3
  have hi2 : vp_in (x3 + 2) L := lw_in (k := 2) hj hL (by decide) h3
  have hi3 : vp_in (x3 + 3) L := lw_in (k := 3) hj hL (by decide) h3
  have hi4 : vp_in (x3 + 4) L := lw_in (k := 4) hj hL (by decide) h3
  have hi5 : vp_in (x3 + 5) L := lw_in (k := 5) hj hL (by decide) h3
  obtain ⟨r, σx', σm', hX, hM, hI⟩ := hst.2.2.2.2.2.2.2.2.2.2.2.2.2.2.2.2.2.2.2.2.2.2.2.2.2.2.2.2.2.2.2.2.2.2.2.1 σx σm (xs (x3 + 1).toNatClampNeg) (xs (x3 + 2).toNatClampNeg) (xs (x3 + 3).toNatClampNeg) (xs (x3 + 4).toNatClampNeg) (xs (x3 + 5).toNatClampNeg) hI
  refine lv_aload_n S.1 S.2.1 dL_law_1429 rfl (lv_at hl 1 rfl) ?_
  refine lv_aload_n S.1 S.2.1 dL_law_1430 rfl (lv_at hl 0 rfl) ?_
  refine lv_iload_n S.1 S.2.1 dL_law_1431 rfl (lv_at hl 3 rfl) ?_
  refine lv_iconst (v := 1) S.1 S.2.1 dL_law_1432 (by decide) ?_
  refine lv_iadd S.1 S.2.1 dL_law_1433 ?_
  refine va_sld S.1 S.2.1 hX0 hbl hbA h.2.2.2.2 hi1 dL_law_1434 ?_
  refine lv_aload_n S.1 S.2.1 dL_law_1435 rfl (lv_at hl 0 rfl) ?_
  refine lv_iload_n S.1 S.2.1 dL_law_1436 rfl (lv_at hl 3 rfl) ?_
  refine lv_iconst (v := 2) S.1 S.2.1 dL_law_1437 (by decide) ?_
  refine lv_iadd S.1 S.2.1 dL_law_1438 ?_
  refine va_sld S.1 S.2.1 hX0 hbl hbA h.2.2.2.2 hi2 dL_law_1439 ?_
  refine lv_aload_n S.1 S.2.1 dL_law_1440 rfl (lv_at hl 0 rfl) ?_
  refine lv_iload_n S.1 S.2.1 dL_law_1441 rfl (lv_at hl 3 rfl) ?_
  refine lv_iconst (v := 3) S.1 S.2.1 dL_law_1442 (by decide) ?_
  refine lv_iadd S.1 S.2.1 dL_law_1443 ?_
  refine va_sld S.1 S.2.1 hX0 hbl hbA h.2.2.2.2 hi3 dL_law_1444 ?_
  refine lv_aload_n S.1 S.2.1 dL_law_1445 rfl (lv_at hl 0 rfl) ?_
  refine lv_iload_n S.1 S.2.1 dL_law_1446 rfl (lv_at hl 3 rfl) ?_
  refine lv_iconst (v := 4) S.1 S.2.1 dL_law_1447 (by decide) ?_
  refine lv_iadd S.1 S.2.1 dL_law_1448 ?_
  refine va_sld S.1 S.2.1 hX0 hbl hbA h.2.2.2.2 hi4 dL_law_1449 ?_
  refine lv_aload_n S.1 S.2.1 dL_law_1450 rfl (lv_at hl 0 rfl) ?_
  refine lv_iload_n S.1 S.2.1 dL_law_1451 rfl (lv_at hl 3 rfl) ?_
  refine lv_iconst (v := 5) S.1 S.2.1 dL_law_1452 (by decide) ?_
  refine lv_iadd S.1 S.2.1 dL_law_1453 ?_
  refine va_sld S.1 S.2.1 hX0 hbl hbA h.2.2.2.2 hi5 dL_law_1454 ?_
  refine lw_xi (As := [.int (xs (x3 + 1).toNatClampNeg), .int (xs (x3 + 2).toNatClampNeg), .int (xs (x3 + 3).toNatClampNeg), .int (xs (x3 + 4).toNatClampNeg), .int (xs (x3 + 5).toNatClampNeg)]) (rest := []) S F h (tX11_copy hX) kt_L_164 rfl ⟨Nat.le_of_ble_eq_true rfl, Nat.le_of_ble_eq_true rfl⟩ rfl hl.1 rfl (Nat.le_of_ble_eq_true rfl) ⟨hc0, hs0⟩ dL_law_1455 (fun H locs h => ?_)
  refine lv_aload_n S.1 S.2.1 dL_law_1458 rfl (lv_at hl 2 rfl) ?_
  refine lv_aload_n S.1 S.2.1 dL_law_1459 rfl (lv_at hl 0 rfl) ?_
  refine lv_iload_n S.1 S.2.1 dL_law_1460 rfl (lv_at hl 3 rfl) ?_
  refine lv_iconst (v := 1) S.1 S.2.1 dL_law_1461 (by decide) ?_
  refine lv_iadd S.1 S.2.1 dL_law_1462 ?_
  refine va_sld S.1 S.2.1 hX0 hbl hbA h.2.2.2.2 hi1 dL_law_1463 ?_
  refine lv_aload_n S.1 S.2.1 dL_law_1464 rfl (lv_at hl 0 rfl) ?_
  refine lv_iload_n S.1 S.2.1 dL_law_1465 rfl (lv_at hl 3 rfl) ?_
  refine lv_iconst (v := 2) S.1 S.2.1 dL_law_1466 (by decide) ?_
  refine lv_iadd S.1 S.2.1 dL_law_1467 ?_
  refine va_sld S.1 S.2.1 hX0 hbl hbA h.2.2.2.2 hi2 dL_law_1468 ?_
  refine lv_aload_n S.1 S.2.1 dL_law_1469 rfl (lv_at hl 0 rfl) ?_
  refine lv_iload_n S.1 S.2.1 dL_law_1470 rfl (lv_at hl 3 rfl) ?_
  refine lv_iconst (v := 3) S.1 S.2.1 dL_law_1471 (by decide) ?_
  refine lv_iadd S.1 S.2.1 dL_law_1472 ?_
  refine va_sld S.1 S.2.1 hX0 hbl hbA h.2.2.2.2 hi3 dL_law_1473 ?_
  refine lv_aload_n S.1 S.2.1 dL_law_1474 rfl (lv_at hl 0 rfl) ?_
  refine lv_iload_n S.1 S.2.1 dL_law_1475 rfl (lv_at hl 3 rfl) ?_
  refine lv_iconst (v := 4) S.1 S.2.1 dL_law_1476 (by decide) ?_
  refine lv_iadd S.1 S.2.1 dL_law_1477 ?_
  refine va_sld S.1 S.2.1 hX0 hbl hbA h.2.2.2.2 hi4 dL_law_1478 ?_
  refine lv_aload_n S.1 S.2.1 dL_law_1479 rfl (lv_at hl 0 rfl) ?_
  refine lv_iload_n S.1 S.2.1 dL_law_1480 rfl (lv_at hl 3 rfl) ?_
  refine lv_iconst (v := 5) S.1 S.2.1 dL_law_1481 (by decide) ?_
  refine lv_iadd S.1 S.2.1 dL_law_1482 ?_
  refine va_sld S.1 S.2.1 hX0 hbl hbA h.2.2.2.2 hi5 dL_law_1483 ?_
  refine lw_mi (As := [.int (xs (x3 + 1).toNatClampNeg), .int (xs (x3 + 2).toNatClampNeg), .int (xs (x3 + 3).toNatClampNeg), .int (xs (x3 + 4).toNatClampNeg), .int (xs (x3 + 5).toNatClampNeg)]) (rest := [.int r]) S F h (tX12_copy hM) kt_L_167 rfl ⟨Nat.le_of_ble_eq_true rfl, Nat.le_of_ble_eq_true rfl⟩ rfl hl.1 rfl (Nat.le_of_ble_eq_true rfl) ⟨hc0, hs0⟩ dL_law_1484 (fun H locs h => ?_)
  refine lv_icmp_eq (tgt := 1588) S.1 S.2.1 dL_law_1487 (by decide) (fun hc => ?_) (fun hc => absurd rfl hc)
  exact hk σx' σm' ls H locs hI h hl
set_option maxHeartbeats 2000000 in
set_option maxRecDepth 20000 in
theorem lw_case_costs {p : Program} {l : Launch} {e : Env} {s : State} {m : MethodId} {below : List Frame} {meth : Method} {c : Code} {D : va_G} {ax am : Nat → Nat} {cs : Nat → ClassId} {ts adK adV : Nat → Nat} {b L : Nat} {xs : Nat → Int32} {Inv : St → St → Prop} {N c0 s0 : Nat} (hL : L ≤ 3072) (C0 : lw_At p s m meth c b L xs) (F : LF D ax am cs ts adK adV s) (hc0 : c0 ≤ 600000) (hs0 : s0 ≤ 7302250) (hst : SPall Inv N) {x3 : Int32} {j : Nat} (hj : 6 * j + 6 ≤ L) (h3 : x3 = nI (6 * j)) (hk : ∀ (σx σm : St) (ls : Array Slot) (H : Heap) (locs : List Loc), Inv σx σm → LH D ax am cs s σx σm H locs → lv_has ls 4 [(0, .ref b), (1, .ref (ax 0)), (2, .ref (am 0)), (3, .int x3)] → W p l e room_1 s m #[Value.ref b] below meth c H locs c0 s0 (lw_Z below #[Value.ref b] s) (F0 m 1588 ls [])) {σx σm : St} {ls : Array Slot} {H : Heap} {locs : List Loc} (hI : Inv σx σm) (h : LH D ax am cs s σx σm H locs) (hl : lv_has ls 4 [(0, .ref b), (1, .ref (ax 0)), (2, .ref (am 0)), (3, .int x3)]) : W p l e room_1 s m #[Value.ref b] below meth c H locs c0 s0 (lw_Z below #[Value.ref b] s) (F0 m 1492 ls []) := by
  obtain ⟨hx, hb, hr, hml, hown, hts, hX0, hbl, hlocks, hgv⟩ := id C0
  have S : CallFix p m c cL_law 4 s #[Value.ref b] BG RL := ⟨hx, hb, hml, hown, fun w hw => hts w (List.mem_filter.mp hw).1⟩
  have hbA : ¬ (fun q : Nat => s.heap.size ≤ q) b := Nat.not_le.mpr hbl
  have hi1 : vp_in (x3 + 1) L := lw_in (k := 1) hj hL (by decide) h3
  have hi2 : vp_in (x3 + 2) L := lw_in (k := 2) hj hL (by decide) h3
  have hi3 : vp_in (x3 + 3) L := lw_in (k := 3) hj hL (by decide) h3
  have hi4 : vp_in (x3 + 4) L := lw_in (k := 4) hj hL (by decide) h3
  have hi5 : vp_in (x3 + 5) L := lw_in (k := 5) hj hL (by decide) h3
  obtain ⟨r, σx', σm', hX, hM, hI⟩ := hst.2.2.2.2.2.2.2.2.2.2.2.2.2.2.2.2.2.2.2.2.2.2.2.2.2.2.2.2.2.2.2.2.2.2.2.2.1 σx σm (xs (x3 + 1).toNatClampNeg) (xs (x3 + 2).toNatClampNeg) (xs (x3 + 3).toNatClampNeg) (xs (x3 + 4).toNatClampNeg) (xs (x3 + 5).toNatClampNeg) hI
  refine lv_aload_n S.1 S.2.1 dL_law_1492 rfl (lv_at hl 1 rfl) ?_
  refine lv_aload_n S.1 S.2.1 dL_law_1493 rfl (lv_at hl 0 rfl) ?_
  refine lv_iload_n S.1 S.2.1 dL_law_1494 rfl (lv_at hl 3 rfl) ?_
  refine lv_iconst (v := 1) S.1 S.2.1 dL_law_1495 (by decide) ?_
  refine lv_iadd S.1 S.2.1 dL_law_1496 ?_
  refine va_sld S.1 S.2.1 hX0 hbl hbA h.2.2.2.2 hi1 dL_law_1497 ?_
  refine lv_aload_n S.1 S.2.1 dL_law_1498 rfl (lv_at hl 0 rfl) ?_
  refine lv_iload_n S.1 S.2.1 dL_law_1499 rfl (lv_at hl 3 rfl) ?_
  refine lv_iconst (v := 2) S.1 S.2.1 dL_law_1500 (by decide) ?_
  refine lv_iadd S.1 S.2.1 dL_law_1501 ?_
  refine va_sld S.1 S.2.1 hX0 hbl hbA h.2.2.2.2 hi2 dL_law_1502 ?_
  refine lv_aload_n S.1 S.2.1 dL_law_1503 rfl (lv_at hl 0 rfl) ?_
  refine lv_iload_n S.1 S.2.1 dL_law_1504 rfl (lv_at hl 3 rfl) ?_
  refine lv_iconst (v := 3) S.1 S.2.1 dL_law_1505 (by decide) ?_
  refine lv_iadd S.1 S.2.1 dL_law_1506 ?_
  refine va_sld S.1 S.2.1 hX0 hbl hbA h.2.2.2.2 hi3 dL_law_1507 ?_
  refine lv_aload_n S.1 S.2.1 dL_law_1508 rfl (lv_at hl 0 rfl) ?_
  refine lv_iload_n S.1 S.2.1 dL_law_1509 rfl (lv_at hl 3 rfl) ?_
  refine lv_iconst (v := 4) S.1 S.2.1 dL_law_1510 (by decide) ?_
  refine lv_iadd S.1 S.2.1 dL_law_1511 ?_
  refine va_sld S.1 S.2.1 hX0 hbl hbA h.2.2.2.2 hi4 dL_law_1512 ?_
  refine lv_aload_n S.1 S.2.1 dL_law_1513 rfl (lv_at hl 0 rfl) ?_
  refine lv_iload_n S.1 S.2.1 dL_law_1514 rfl (lv_at hl 3 rfl) ?_
  refine lv_iconst (v := 5) S.1 S.2.1 dL_law_1515 (by decide) ?_
  refine lv_iadd S.1 S.2.1 dL_law_1516 ?_
  refine va_sld S.1 S.2.1 hX0 hbl hbA h.2.2.2.2 hi5 dL_law_1517 ?_
  refine lw_xi (As := [.int (xs (x3 + 1).toNatClampNeg), .int (xs (x3 + 2).toNatClampNeg), .int (xs (x3 + 3).toNatClampNeg), .int (xs (x3 + 4).toNatClampNeg), .int (xs (x3 + 5).toNatClampNeg)]) (rest := []) S F h (tX11_costs hX) kt_L_168 rfl ⟨Nat.le_of_ble_eq_true rfl, Nat.le_of_ble_eq_true rfl⟩ rfl hl.1 rfl (Nat.le_of_ble_eq_true rfl) ⟨hc0, hs0⟩ dL_law_1518 (fun H locs h => ?_)
  refine lv_aload_n S.1 S.2.1 dL_law_1521 rfl (lv_at hl 2 rfl) ?_
  refine lv_aload_n S.1 S.2.1 dL_law_1522 rfl (lv_at hl 0 rfl) ?_
  refine lv_iload_n S.1 S.2.1 dL_law_1523 rfl (lv_at hl 3 rfl) ?_
  refine lv_iconst (v := 1) S.1 S.2.1 dL_law_1524 (by decide) ?_
  refine lv_iadd S.1 S.2.1 dL_law_1525 ?_
  refine va_sld S.1 S.2.1 hX0 hbl hbA h.2.2.2.2 hi1 dL_law_1526 ?_
  refine lv_aload_n S.1 S.2.1 dL_law_1527 rfl (lv_at hl 0 rfl) ?_
  refine lv_iload_n S.1 S.2.1 dL_law_1528 rfl (lv_at hl 3 rfl) ?_
  refine lv_iconst (v := 2) S.1 S.2.1 dL_law_1529 (by decide) ?_
  refine lv_iadd S.1 S.2.1 dL_law_1530 ?_
  refine va_sld S.1 S.2.1 hX0 hbl hbA h.2.2.2.2 hi2 dL_law_1531 ?_
  refine lv_aload_n S.1 S.2.1 dL_law_1532 rfl (lv_at hl 0 rfl) ?_
  refine lv_iload_n S.1 S.2.1 dL_law_1533 rfl (lv_at hl 3 rfl) ?_
  refine lv_iconst (v := 3) S.1 S.2.1 dL_law_1534 (by decide) ?_
  refine lv_iadd S.1 S.2.1 dL_law_1535 ?_
  refine va_sld S.1 S.2.1 hX0 hbl hbA h.2.2.2.2 hi3 dL_law_1536 ?_
  refine lv_aload_n S.1 S.2.1 dL_law_1537 rfl (lv_at hl 0 rfl) ?_
  refine lv_iload_n S.1 S.2.1 dL_law_1538 rfl (lv_at hl 3 rfl) ?_
  refine lv_iconst (v := 4) S.1 S.2.1 dL_law_1539 (by decide) ?_
  refine lv_iadd S.1 S.2.1 dL_law_1540 ?_
  refine va_sld S.1 S.2.1 hX0 hbl hbA h.2.2.2.2 hi4 dL_law_1541 ?_
  refine lv_aload_n S.1 S.2.1 dL_law_1542 rfl (lv_at hl 0 rfl) ?_
  refine lv_iload_n S.1 S.2.1 dL_law_1543 rfl (lv_at hl 3 rfl) ?_
  refine lv_iconst (v := 5) S.1 S.2.1 dL_law_1544 (by decide) ?_
  refine lv_iadd S.1 S.2.1 dL_law_1545 ?_
  refine va_sld S.1 S.2.1 hX0 hbl hbA h.2.2.2.2 hi5 dL_law_1546 ?_
  refine lw_mi (As := [.int (xs (x3 + 1).toNatClampNeg), .int (xs (x3 + 2).toNatClampNeg), .int (xs (x3 + 3).toNatClampNeg), .int (xs (x3 + 4).toNatClampNeg), .int (xs (x3 + 5).toNatClampNeg)]) (rest := [.int r]) S F h (tX12_costs hM) kt_L_171 rfl ⟨Nat.le_of_ble_eq_true rfl, Nat.le_of_ble_eq_true rfl⟩ rfl hl.1 rfl (Nat.le_of_ble_eq_true rfl) ⟨hc0, hs0⟩ dL_law_1547 (fun H locs h => ?_)
  refine lv_icmp_eq (tgt := 1588) S.1 S.2.1 dL_law_1550 (by decide) (fun hc => ?_) (fun hc => absurd rfl hc)
  exact hk σx' σm' ls H locs hI h hl
set_option maxHeartbeats 2000000 in
set_option maxRecDepth 20000 in
theorem lw_case_taken {p : Program} {l : Launch} {e : Env} {s : State} {m : MethodId} {below : List Frame} {meth : Method} {c : Code} {D : va_G} {ax am : Nat → Nat} {cs : Nat → ClassId} {ts adK adV : Nat → Nat} {b L : Nat} {xs : Nat → Int32} {Inv : St → St → Prop} {N c0 s0 : Nat} (hL : L ≤ 3072) (C0 : lw_At p s m meth c b L xs) (F : LF D ax am cs ts adK adV s) (hc0 : c0 ≤ 600000) (hs0 : s0 ≤ 7302250) (hst : SPall Inv N) {x3 : Int32} {j : Nat} (hj : 6 * j + 6 ≤ L) (h3 : x3 = nI (6 * j)) (hk : ∀ (σx σm : St) (ls : Array Slot) (H : Heap) (locs : List Loc), Inv σx σm → LH D ax am cs s σx σm H locs → lv_has ls 4 [(0, .ref b), (1, .ref (ax 0)), (2, .ref (am 0)), (3, .int x3)] → W p l e room_1 s m #[Value.ref b] below meth c H locs c0 s0 (lw_Z below #[Value.ref b] s) (F0 m 1588 ls [])) {σx σm : St} {ls : Array Slot} {H : Heap} {locs : List Loc} (hI : Inv σx σm) (h : LH D ax am cs s σx σm H locs) (hl : lv_has ls 4 [(0, .ref b), (1, .ref (ax 0)), (2, .ref (am 0)), (3, .int x3)]) : W p l e room_1 s m #[Value.ref b] below meth c H locs c0 s0 (lw_Z below #[Value.ref b] s) (F0 m 1555 ls []) := by
  obtain ⟨hx, hb, hr, hml, hown, hts, hX0, hbl, hlocks, hgv⟩ := id C0
  have S : CallFix p m c cL_law 4 s #[Value.ref b] BG RL := ⟨hx, hb, hml, hown, fun w hw => hts w (List.mem_filter.mp hw).1⟩
  have hbA : ¬ (fun q : Nat => s.heap.size ≤ q) b := Nat.not_le.mpr hbl
  have hi1 : vp_in (x3 + 1) L := lw_in (k := 1) hj hL (by decide) h3
  have hi2 : vp_in (x3 + 2) L := lw_in (k := 2) hj hL (by decide) h3
  have hi3 : vp_in (x3 + 3) L := lw_in (k := 3) hj hL (by decide) h3
  have hi4 : vp_in (x3 + 4) L := lw_in (k := 4) hj hL (by decide) h3
  have hi5 : vp_in (x3 + 5) L := lw_in (k := 5) hj hL (by decide) h3
  obtain ⟨r, hX, hM, hI⟩ := hst.2.2.2.2.2.2.2.2.2.2.2.2.2.2.2.2.2.2.2.2.2.2.2.2.2.2.2.2.2.2.2.2.2.2.2.2.2 σx σm (xs (x3 + 1).toNatClampNeg) (xs (x3 + 2).toNatClampNeg) hI
  refine lv_aload_n S.1 S.2.1 dL_law_1555 rfl (lv_at hl 1 rfl) ?_
  refine lv_aload_n S.1 S.2.1 dL_law_1556 rfl (lv_at hl 0 rfl) ?_
  refine lv_iload_n S.1 S.2.1 dL_law_1557 rfl (lv_at hl 3 rfl) ?_
  refine lv_iconst (v := 1) S.1 S.2.1 dL_law_1558 (by decide) ?_
  refine lv_iadd S.1 S.2.1 dL_law_1559 ?_
  refine va_sld S.1 S.2.1 hX0 hbl hbA h.2.2.2.2 hi1 dL_law_1560 ?_
  refine lv_aload_n S.1 S.2.1 dL_law_1561 rfl (lv_at hl 0 rfl) ?_
  refine lv_iload_n S.1 S.2.1 dL_law_1562 rfl (lv_at hl 3 rfl) ?_
  refine lv_iconst (v := 2) S.1 S.2.1 dL_law_1563 (by decide) ?_
  refine lv_iadd S.1 S.2.1 dL_law_1564 ?_
  refine va_sld S.1 S.2.1 hX0 hbl hbA h.2.2.2.2 hi2 dL_law_1565 ?_
  refine lw_xi (As := [.int (xs (x3 + 1).toNatClampNeg), .int (xs (x3 + 2).toNatClampNeg)]) (rest := []) S F h (tX11_taken hX) kt_L_172 rfl ⟨Nat.le_of_ble_eq_true rfl, Nat.le_of_ble_eq_true rfl⟩ rfl hl.1 rfl (Nat.le_of_ble_eq_true rfl) ⟨hc0, hs0⟩ dL_law_1566 (fun H locs h => ?_)
  refine lv_aload_n S.1 S.2.1 dL_law_1569 rfl (lv_at hl 2 rfl) ?_
  refine lv_aload_n S.1 S.2.1 dL_law_1570 rfl (lv_at hl 0 rfl) ?_
  refine lv_iload_n S.1 S.2.1 dL_law_1571 rfl (lv_at hl 3 rfl) ?_
  refine lv_iconst (v := 1) S.1 S.2.1 dL_law_1572 (by decide) ?_
  refine lv_iadd S.1 S.2.1 dL_law_1573 ?_
  refine va_sld S.1 S.2.1 hX0 hbl hbA h.2.2.2.2 hi1 dL_law_1574 ?_
  refine lv_aload_n S.1 S.2.1 dL_law_1575 rfl (lv_at hl 0 rfl) ?_
  refine lv_iload_n S.1 S.2.1 dL_law_1576 rfl (lv_at hl 3 rfl) ?_
  refine lv_iconst (v := 2) S.1 S.2.1 dL_law_1577 (by decide) ?_
  refine lv_iadd S.1 S.2.1 dL_law_1578 ?_
  refine va_sld S.1 S.2.1 hX0 hbl hbA h.2.2.2.2 hi2 dL_law_1579 ?_
  refine lw_mi (As := [.int (xs (x3 + 1).toNatClampNeg), .int (xs (x3 + 2).toNatClampNeg)]) (rest := [.int r]) S F h (tX12_taken hM) kt_L_175 rfl ⟨Nat.le_of_ble_eq_true rfl, Nat.le_of_ble_eq_true rfl⟩ rfl hl.1 rfl (Nat.le_of_ble_eq_true rfl) ⟨hc0, hs0⟩ dL_law_1580 (fun H locs h => ?_)
  refine lv_icmp_eq (tgt := 1588) S.1 S.2.1 dL_law_1583 (by decide) (fun hc => ?_) (fun hc => absurd rfl hc)
  exact hk σx σm ls H locs hI h hl
set_option maxHeartbeats 8000000 in
set_option maxRecDepth 100000 in
theorem lw_loop {p : Program} {l : Launch} {e : Env} {s : State} {m : MethodId} {below : List Frame} {meth : Method} {c : Code} {D : va_G} {ax am : Nat → Nat} {cs : Nat → ClassId} {ts adK adV : Nat → Nat} {b L : Nat} {xs : Nat → Int32} {Inv : St → St → Prop} {N c0 s0 : Nat} (hL : L ≤ 3072) (C0 : lw_At p s m meth c b L xs) (F : LF D ax am cs ts adK adV s) (hc0 : c0 ≤ 600000) (hs0 : s0 ≤ 7302250) (hst : SPall Inv N) : ∀ (n j : Nat) (x3 : Int32), L < 6 * j + n → 6 * j ≤ L + 6 → x3 = nI (6 * j) → ∀ (σx σm : St) (ls : Array Slot) (H : Heap) (locs : List Loc), Inv σx σm → LH D ax am cs s σx σm H locs → lv_has ls 4 [(0, .ref b), (1, .ref (ax 0)), (2, .ref (am 0)), (3, .int x3)] → W p l e room_1 s m #[Value.ref b] below meth c H locs c0 s0 (lw_Z below #[Value.ref b] s) (F0 m 18 ls []) := by
  obtain ⟨hx, hb, hr, hml, hown, hts, hX0, hbl, hlocks, hgv⟩ := id C0
  have S : CallFix p m c cL_law 4 s #[Value.ref b] BG RL := ⟨hx, hb, hml, hown, fun w hw => hts w (List.mem_filter.mp hw).1⟩
  have hbA : ¬ (fun q : Nat => s.heap.size ≤ q) b := Nat.not_le.mpr hbl
  intro n
  induction n with
  | zero =>
    intro j x3 h1 h2 h3 σx σm ls H locs hI h hl
    refine lv_iload_n S.1 S.2.1 dL_law_18 rfl (lv_at hl 3 rfl) ?_
    refine lv_aload_n S.1 S.2.1 dL_law_19 rfl (lv_at hl 0 rfl) ?_
    refine va_slen S.1 S.2.1 hX0 hbl hbA h.2.2.2.2 dL_law_20 ?_
    refine lv_bipush (v := 6) S.1 S.2.1 dL_law_21 (by decide) ?_
    refine lv_isub S.1 S.2.1 dL_law_23 ?_
    refine lv_icmp_gt (tgt := 1594) S.1 S.2.1 dL_law_24 (by decide) (fun hc => ?_) (fun hc => absurd ((lw_gt h2 hL h3).mpr (by omega)) hc)
    refine lv_iconst (v := 1) S.1 S.2.1 dL_law_1594 (by decide) ?_
    refine va_forget (fun q hq => h.2.2.2.2.2.2 q hq) ?_
    refine W.widen (k := 600000) (n := 7302250) hc0 hs0 ?_
    exact lw_ret hx hb hr hlocks dL_law_1595
  | succ n ih =>
    intro j x3 h1 h2 h3 σx σm ls H locs hI h hl
    refine lv_iload_n S.1 S.2.1 dL_law_18 rfl (lv_at hl 3 rfl) ?_
    refine lv_aload_n S.1 S.2.1 dL_law_19 rfl (lv_at hl 0 rfl) ?_
    refine va_slen S.1 S.2.1 hX0 hbl hbA h.2.2.2.2 dL_law_20 ?_
    refine lv_bipush (v := 6) S.1 S.2.1 dL_law_21 (by decide) ?_
    refine lv_isub S.1 S.2.1 dL_law_23 ?_
    refine lv_icmp_gt (tgt := 1594) S.1 S.2.1 dL_law_24 (by decide) (fun hc => ?_) (fun hc => ?_)
    · refine lv_iconst (v := 1) S.1 S.2.1 dL_law_1594 (by decide) ?_
      refine va_forget (fun q hq => h.2.2.2.2.2.2 q hq) ?_
      refine W.widen (k := 600000) (n := 7302250) hc0 hs0 ?_
      exact lw_ret hx hb hr hlocks dL_law_1595
    have hjL : 6 * j + 6 ≤ L := by
      rcases Nat.lt_or_ge L (6 * j + 6) with q | q
      · exact absurd ((lw_gt h2 hL h3).mpr q) hc
      · exact q
    have hk : ∀ (σx σm : St) (ls : Array Slot) (H : Heap) (locs : List Loc), Inv σx σm → LH D ax am cs s σx σm H locs → lv_has ls 4 [(0, .ref b), (1, .ref (ax 0)), (2, .ref (am 0)), (3, .int x3)] → W p l e room_1 s m #[Value.ref b] below meth c H locs c0 s0 (lw_Z below #[Value.ref b] s) (F0 m 1588 ls []) := by
      intro σx σm ls H locs hI h hl
      refine lv_iinc (v := nI (6 * (j + 1))) (lv' := [(3, .int (nI (6 * (j + 1)))), (0, .ref b), (1, .ref (ax 0)), (2, .ref (am 0))]) S.1 S.2.1 dL_law_1588 hl (k := 3) rfl (by rw [h3]; exact nI_add (6 * j) 6) (by decide) rfl (fun ls hl => ?_)
      refine lv_goto (tgt := 18) S.1 S.2.1 dL_law_1591 (by decide) ?_
      exact ih (j + 1) _ (by omega) (by omega) rfl σx σm ls H locs hI h (lv_sub hl [1, 2, 3, 0] rfl)
    refine lv_aload_n S.1 S.2.1 dL_law_27 rfl (lv_at hl 0 rfl) ?_
    refine lv_iload_n S.1 S.2.1 dL_law_28 rfl (lv_at hl 3 rfl) ?_
    refine va_sld S.1 S.2.1 hX0 hbl hbA h.2.2.2.2 (lw_in0 hjL hL h3) dL_law_29 ?_
    refine lv_bipush (v := 63) S.1 S.2.1 dL_law_30 (by decide) ?_
    refine lv_iand S.1 S.2.1 dL_law_32 ?_
    refine lv_topi (fun v ev => ?_)
    by_cases hv0 : v = 0
    · refine lv_tableIn (off := 167) (tgt := 200) S.1 S.2.1 dL_law_33 (by rw [hv0]; decide) (by rw [hv0]; decide) (by rw [hv0]; rfl) (by decide) ?_
      exact lw_case_pass hL C0 F hc0 hs0 hst hjL h3 hk hI h hl
    by_cases hv1 : v = 1
    · refine lv_tableIn (off := 190) (tgt := 223) S.1 S.2.1 dL_law_33 (by rw [hv1]; decide) (by rw [hv1]; decide) (by rw [hv1]; rfl) (by decide) ?_
      exact lw_case_sell hL C0 F hc0 hs0 hst hjL h3 hk hI h hl
    by_cases hv2 : v = 2
    · refine lv_tableIn (off := 233) (tgt := 266) S.1 S.2.1 dL_law_33 (by rw [hv2]; decide) (by rw [hv2]; decide) (by rw [hv2]; rfl) (by decide) ?_
      exact lw_case_owner hL C0 F hc0 hs0 hst hjL h3 hk hI h hl
    by_cases hv3 : v = 3
    · refine lv_tableIn (off := 266) (tgt := 299) S.1 S.2.1 dL_law_33 (by rw [hv3]; decide) (by rw [hv3]; decide) (by rw [hv3]; rfl) (by decide) ?_
      exact lw_case_heir hL C0 F hc0 hs0 hst hjL h3 hk hI h hl
    by_cases hv4 : v = 4
    · refine lv_tableIn (off := 309) (tgt := 342) S.1 S.2.1 dL_law_33 (by rw [hv4]; decide) (by rw [hv4]; decide) (by rw [hv4]; rfl) (by decide) ?_
      exact lw_case_set hL C0 F hc0 hs0 hst hjL h3 hk hI h hl
    by_cases hv5 : v = 5
    · refine lv_tableIn (off := 352) (tgt := 385) S.1 S.2.1 dL_law_33 (by rw [hv5]; decide) (by rw [hv5]; decide) (by rw [hv5]; rfl) (by decide) ?_
      exact lw_case_trees hL C0 F hc0 hs0 hst hjL h3 hk hI h hl
    by_cases hv6 : v = 6
    · refine lv_tableIn (off := 395) (tgt := 428) S.1 S.2.1 dL_law_33 (by rw [hv6]; decide) (by rw [hv6]; decide) (by rw [hv6]; rfl) (by decide) ?_
      exact lw_case_high hL C0 F hc0 hs0 hst hjL h3 hk hI h hl
    by_cases hv7 : v = 7
    · refine lv_tableIn (off := 418) (tgt := 451) S.1 S.2.1 dL_law_33 (by rw [hv7]; decide) (by rw [hv7]; decide) (by rw [hv7]; rfl) (by decide) ?_
      exact lw_case_tower hL C0 F hc0 hs0 hst hjL h3 hk hI h hl
    by_cases hv8 : v = 8
    · refine lv_tableIn (off := 451) (tgt := 484) S.1 S.2.1 dL_law_33 (by rw [hv8]; decide) (by rw [hv8]; decide) (by rw [hv8]; rfl) (by decide) ?_
      exact lw_case_span hL C0 F hc0 hs0 hst hjL h3 hk hI h hl
    by_cases hv9 : v = 9
    · refine lv_tableIn (off := 504) (tgt := 537) S.1 S.2.1 dL_law_33 (by rw [hv9]; decide) (by rw [hv9]; decide) (by rw [hv9]; rfl) (by decide) ?_
      exact lw_case_heat hL C0 F hc0 hs0 hst hjL h3 hk hI h hl
    by_cases hv10 : v = 10
    · refine lv_tableIn (off := 537) (tgt := 570) S.1 S.2.1 dL_law_33 (by rw [hv10]; decide) (by rw [hv10]; decide) (by rw [hv10]; rfl) (by decide) ?_
      exact lw_case_spanTold hL C0 F hc0 hs0 hst hjL h3 hk hI h hl
    by_cases hv11 : v = 11
    · refine lv_tableIn (off := 571) (tgt := 604) S.1 S.2.1 dL_law_33 (by rw [hv11]; decide) (by rw [hv11]; decide) (by rw [hv11]; rfl) (by decide) ?_
      exact lw_case_leave hL C0 F hc0 hs0 hst hjL h3 hk hI h hl
    by_cases hv12 : v = 12
    · refine lv_tableIn (off := 634) (tgt := 667) S.1 S.2.1 dL_law_33 (by rw [hv12]; decide) (by rw [hv12]; decide) (by rw [hv12]; rfl) (by decide) ?_
      exact lw_case_leaveTold hL C0 F hc0 hs0 hst hjL h3 hk hI h hl
    by_cases hv13 : v = 13
    · refine lv_tableIn (off := 667) (tgt := 700) S.1 S.2.1 dL_law_33 (by rw [hv13]; decide) (by rw [hv13]; decide) (by rw [hv13]; rfl) (by decide) ?_
      exact lw_case_renew hL C0 F hc0 hs0 hst hjL h3 hk hI h hl
    by_cases hv14 : v = 14
    · refine lv_tableIn (off := 690) (tgt := 723) S.1 S.2.1 dL_law_33 (by rw [hv14]; decide) (by rw [hv14]; decide) (by rw [hv14]; rfl) (by decide) ?_
      exact lw_case_appeal hL C0 F hc0 hs0 hst hjL h3 hk hI h hl
    by_cases hv15 : v = 15
    · refine lv_tableIn (off := 713) (tgt := 746) S.1 S.2.1 dL_law_33 (by rw [hv15]; decide) (by rw [hv15]; decide) (by rw [hv15]; rfl) (by decide) ?_
      exact lw_case_undo hL C0 F hc0 hs0 hst hjL h3 hk hI h hl
    by_cases hv16 : v = 16
    · refine lv_tableIn (off := 746) (tgt := 779) S.1 S.2.1 dL_law_33 (by rw [hv16]; decide) (by rw [hv16]; decide) (by rw [hv16]; rfl) (by decide) ?_
      exact lw_case_has hL C0 F hc0 hs0 hst hjL h3 hk hI h hl
    by_cases hv17 : v = 17
    · refine lv_tableIn (off := 779) (tgt := 812) S.1 S.2.1 dL_law_33 (by rw [hv17]; decide) (by rw [hv17]; decide) (by rw [hv17]; rfl) (by decide) ?_
      exact lw_case_yearly hL C0 F hc0 hs0 hst hjL h3 hk hI h hl
    by_cases hv18 : v = 18
    · refine lv_tableIn (off := 813) (tgt := 846) S.1 S.2.1 dL_law_33 (by rw [hv18]; decide) (by rw [hv18]; decide) (by rw [hv18]; rfl) (by decide) ?_
      exact lw_case_feed hL C0 F hc0 hs0 hst hjL h3 hk hI h hl
    by_cases hv19 : v = 19
    · refine lv_tableIn (off := 876) (tgt := 909) S.1 S.2.1 dL_law_33 (by rw [hv19]; decide) (by rw [hv19]; decide) (by rw [hv19]; rfl) (by decide) ?_
      exact lw_case_text hL C0 F hc0 hs0 hst hjL h3 hk hI h hl
    by_cases hv20 : v = 20
    · refine lv_tableIn (off := 889) (tgt := 922) S.1 S.2.1 dL_law_33 (by rw [hv20]; decide) (by rw [hv20]; decide) (by rw [hv20]; rfl) (by decide) ?_
      exact lw_case_force hL C0 F hc0 hs0 hst hjL h3 hk hI h hl
    by_cases hv21 : v = 21
    · refine lv_tableIn (off := 912) (tgt := 945) S.1 S.2.1 dL_law_33 (by rw [hv21]; decide) (by rw [hv21]; decide) (by rw [hv21]; rfl) (by decide) ?_
      exact lw_case_says hL C0 F hc0 hs0 hst hjL h3 hk hI h hl
    by_cases hv22 : v = 22
    · refine lv_tableIn (off := 946) (tgt := 979) S.1 S.2.1 dL_law_33 (by rw [hv22]; decide) (by rw [hv22]; decide) (by rw [hv22]; rfl) (by decide) ?_
      exact lw_case_claim hL C0 F hc0 hs0 hst hjL h3 hk hI h hl
    by_cases hv23 : v = 23
    · refine lv_tableIn (off := 989) (tgt := 1022) S.1 S.2.1 dL_law_33 (by rw [hv23]; decide) (by rw [hv23]; decide) (by rw [hv23]; rfl) (by decide) ?_
      exact lw_case_doubled hL C0 F hc0 hs0 hst hjL h3 hk hI h hl
    by_cases hv24 : v = 24
    · refine lv_tableIn (off := 1002) (tgt := 1035) S.1 S.2.1 dL_law_33 (by rw [hv24]; decide) (by rw [hv24]; decide) (by rw [hv24]; rfl) (by decide) ?_
      exact lw_case_due hL C0 F hc0 hs0 hst hjL h3 hk hI h hl
    by_cases hv25 : v = 25
    · refine lv_tableIn (off := 1026) (tgt := 1059) S.1 S.2.1 dL_law_33 (by rw [hv25]; decide) (by rw [hv25]; decide) (by rw [hv25]; rfl) (by decide) ?_
      exact lw_case_look hL C0 F hc0 hs0 hst hjL h3 hk hI h hl
    by_cases hv26 : v = 26
    · refine lv_tableIn (off := 1069) (tgt := 1102) S.1 S.2.1 dL_law_33 (by rw [hv26]; decide) (by rw [hv26]; decide) (by rw [hv26]; rfl) (by decide) ?_
      exact lw_case_bounds hL C0 F hc0 hs0 hst hjL h3 hk hI h hl
    by_cases hv27 : v = 27
    · refine lv_tableIn (off := 1102) (tgt := 1135) S.1 S.2.1 dL_law_33 (by rw [hv27]; decide) (by rw [hv27]; decide) (by rw [hv27]; rfl) (by decide) ?_
      exact lw_case_hold hL C0 F hc0 hs0 hst hjL h3 hk hI h hl
    by_cases hv28 : v = 28
    · refine lv_tableIn (off := 1135) (tgt := 1168) S.1 S.2.1 dL_law_33 (by rw [hv28]; decide) (by rw [hv28]; decide) (by rw [hv28]; rfl) (by decide) ?_
      exact lw_case_way hL C0 F hc0 hs0 hst hjL h3 hk hI h hl
    by_cases hv29 : v = 29
    · refine lv_tableIn (off := 1178) (tgt := 1211) S.1 S.2.1 dL_law_33 (by rw [hv29]; decide) (by rw [hv29]; decide) (by rw [hv29]; rfl) (by decide) ?_
      exact lw_case_couldAsk hL C0 F hc0 hs0 hst hjL h3 hk hI h hl
    by_cases hv30 : v = 30
    · refine lv_tableIn (off := 1221) (tgt := 1254) S.1 S.2.1 dL_law_33 (by rw [hv30]; decide) (by rw [hv30]; decide) (by rw [hv30]; rfl) (by decide) ?_
      exact lw_case_asking hL C0 F hc0 hs0 hst hjL h3 hk hI h hl
    by_cases hv31 : v = 31
    · refine lv_tableIn (off := 1254) (tgt := 1287) S.1 S.2.1 dL_law_33 (by rw [hv31]; decide) (by rw [hv31]; decide) (by rw [hv31]; rfl) (by decide) ?_
      exact lw_case_toAsk hL C0 F hc0 hs0 hst hjL h3 hk hI h hl
    by_cases hv32 : v = 32
    · refine lv_tableIn (off := 1287) (tgt := 1320) S.1 S.2.1 dL_law_33 (by rw [hv32]; decide) (by rw [hv32]; decide) (by rw [hv32]; rfl) (by decide) ?_
      exact lw_case_count hL C0 F hc0 hs0 hst hjL h3 hk hI h hl
    by_cases hv33 : v = 33
    · refine lv_tableIn (off := 1310) (tgt := 1343) S.1 S.2.1 dL_law_33 (by rw [hv33]; decide) (by rw [hv33]; decide) (by rw [hv33]; rfl) (by decide) ?_
      exact lw_case_sheet hL C0 F hc0 hs0 hst hjL h3 hk hI h hl
    by_cases hv34 : v = 34
    · refine lv_tableIn (off := 1353) (tgt := 1386) S.1 S.2.1 dL_law_33 (by rw [hv34]; decide) (by rw [hv34]; decide) (by rw [hv34]; rfl) (by decide) ?_
      exact lw_case_cell hL C0 F hc0 hs0 hst hjL h3 hk hI h hl
    by_cases hv35 : v = 35
    · refine lv_tableIn (off := 1396) (tgt := 1429) S.1 S.2.1 dL_law_33 (by rw [hv35]; decide) (by rw [hv35]; decide) (by rw [hv35]; rfl) (by decide) ?_
      exact lw_case_copy hL C0 F hc0 hs0 hst hjL h3 hk hI h hl
    by_cases hv36 : v = 36
    · refine lv_tableIn (off := 1459) (tgt := 1492) S.1 S.2.1 dL_law_33 (by rw [hv36]; decide) (by rw [hv36]; decide) (by rw [hv36]; rfl) (by decide) ?_
      exact lw_case_costs hL C0 F hc0 hs0 hst hjL h3 hk hI h hl
    by_cases hv37 : v = 37
    · refine lv_tableIn (off := 1522) (tgt := 1555) S.1 S.2.1 dL_law_33 (by rw [hv37]; decide) (by rw [hv37]; decide) (by rw [hv37]; rfl) (by decide) ?_
      exact lw_case_taken hL C0 F hc0 hs0 hst hjL h3 hk hI h hl
    refine lv_tableOut (tgt := 1588) S.1 S.2.1 dL_law_33 (by have hv0 := lv_neT hv0 (a := 0) (by decide); have hv1 := lv_neT hv1 (a := 1) (by decide); have hv2 := lv_neT hv2 (a := 2) (by decide); have hv3 := lv_neT hv3 (a := 3) (by decide); have hv4 := lv_neT hv4 (a := 4) (by decide); have hv5 := lv_neT hv5 (a := 5) (by decide); have hv6 := lv_neT hv6 (a := 6) (by decide); have hv7 := lv_neT hv7 (a := 7) (by decide); have hv8 := lv_neT hv8 (a := 8) (by decide); have hv9 := lv_neT hv9 (a := 9) (by decide); have hv10 := lv_neT hv10 (a := 10) (by decide); have hv11 := lv_neT hv11 (a := 11) (by decide); have hv12 := lv_neT hv12 (a := 12) (by decide); have hv13 := lv_neT hv13 (a := 13) (by decide); have hv14 := lv_neT hv14 (a := 14) (by decide); have hv15 := lv_neT hv15 (a := 15) (by decide); have hv16 := lv_neT hv16 (a := 16) (by decide); have hv17 := lv_neT hv17 (a := 17) (by decide); have hv18 := lv_neT hv18 (a := 18) (by decide); have hv19 := lv_neT hv19 (a := 19) (by decide); have hv20 := lv_neT hv20 (a := 20) (by decide); have hv21 := lv_neT hv21 (a := 21) (by decide); have hv22 := lv_neT hv22 (a := 22) (by decide); have hv23 := lv_neT hv23 (a := 23) (by decide); have hv24 := lv_neT hv24 (a := 24) (by decide); have hv25 := lv_neT hv25 (a := 25) (by decide); have hv26 := lv_neT hv26 (a := 26) (by decide); have hv27 := lv_neT hv27 (a := 27) (by decide); have hv28 := lv_neT hv28 (a := 28) (by decide); have hv29 := lv_neT hv29 (a := 29) (by decide); have hv30 := lv_neT hv30 (a := 30) (by decide); have hv31 := lv_neT hv31 (a := 31) (by decide); have hv32 := lv_neT hv32 (a := 32) (by decide); have hv33 := lv_neT hv33 (a := 33) (by decide); have hv34 := lv_neT hv34 (a := 34) (by decide); have hv35 := lv_neT hv35 (a := 35) (by decide); have hv36 := lv_neT hv36 (a := 36) (by decide); have hv37 := lv_neT hv37 (a := 37) (by decide); omega) (by decide) ?_
    exact hk σx σm ls H locs hI h hl
