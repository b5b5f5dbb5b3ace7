/-! CONSTRUCTORS of the inner classes (printed by wip/whole/init53.py) -/
set_option maxHeartbeats 20000000 in
set_option maxRecDepth 20000 in
theorem iX4_init {l : Launch} {D : va_G} {cs : Nat → ClassId} (h0 : Nat) : CC l D cs yX4_init cX4_init 1 1 12 470 23 [.ref h0] (h0, .inr (4, [.int 0, .int 0, .null, .null, .null, .null, .null, .null, .null, .null])) (fun ws => ∃ (q1 : Nat) (q2 : Nat) (q3 : Nat) (q4 : Nat) (q5 : Nat) (r5 : Nat → Nat) (q6 : Nat) (q7 : Nat) (q8 : Nat), ws = [(h0, .inr (4, [.int 0, .int 0, .ref q1, .ref q2, .ref q3, .ref q4, .ref q5, .ref q6, .ref q7, .ref q8])), (q1, .inl (cs 0, 40, .inl (fun _ => 0))), (q2, .inl (cs 0, 40, .inl (fun _ => 0))), (q3, .inl (cs 0, 40, .inl (fun _ => 0))), (q4, .inl (cs 0, 10, .inl (fun _ => 0))), (q5, .inl (cs 3, 4, .inr (.inr (.inr (.inr (fun i => some (r5 i))))))), ((r5 0), .inl (cs 0, 48, .inl (fun _ => 0))), ((r5 1), .inl (cs 0, 48, .inl (fun _ => 0))), ((r5 2), .inl (cs 0, 48, .inl (flI (fun _ => 0) 48 10))), ((r5 3), .inl (cs 0, 48, .inl (fun _ => 0))), (q6, .inl (cs 0, 48, .inl (fun _ => 0))), (q7, .inl (cs 0, 48, .inl (fun _ => 0))), (q8, .inl (cs 0, 48, .inl (fun _ => 0)))]) := by
  refine CC.of (by decide) rfl (Nat.le_of_ble_eq_true rfl) ?_
  intro p e s m below meth c ls S hr hlk hin h hl
  have hl : lv_has ls 1 [(0, .ref h0)] := hl
  refine lv_aload_n S.1 S.2.1 dX4_init_0 rfl (lv_at hl 0 rfl) ?_
  refine n_obj S hl.1 (BG_tb (i := 35) (by decide +kernel) rfl) (Nat.le_of_ble_eq_true rfl) (Nat.le_of_ble_eq_true rfl) dX4_init_1 ?_
  refine lv_aload_n S.1 S.2.1 dX4_init_4 rfl (lv_at hl 0 rfl) ?_
  refine lv_bipush (v := 40) S.1 S.2.1 dX4_init_5 (by decide) ?_
  refine n_newI S h 40 (by decide) rfl (Nat.le_of_ble_eq_true rfl) (Nat.le_of_ble_eq_true rfl) (Nat.le_of_ble_eq_true rfl) dX4_init_7 (fun q1 H h => ?_)
  refine n_putF S hin h wi_X4 tyX4 tyX4_ok nmX4 0 rfl rfl 2 (by decide) rfl rfl rfl (ty := (tyX4 2)) (by decide +kernel) rfl rfl (Nat.le_of_ble_eq_true rfl) kf_X4_9 dX4_init_9 (fun H locs h => ?_)
  have h : Hc D cs (va_A [(h0, .inr (4, [.int 0, .int 0, .null, .null, .null, .null, .null, .null, .null, .null]))] s.heap.size) s [(h0, .inr (4, [.int 0, .int 0, .ref q1, .null, .null, .null, .null, .null, .null, .null])), (q1, .inl (cs 0, 40, .inl (fun _ => 0)))] H _ := h
  refine lv_aload_n S.1 S.2.1 dX4_init_12 rfl (lv_at hl 0 rfl) ?_
  refine lv_bipush (v := 40) S.1 S.2.1 dX4_init_13 (by decide) ?_
  refine n_newI S h 40 (by decide) rfl (Nat.le_of_ble_eq_true rfl) (Nat.le_of_ble_eq_true rfl) (Nat.le_of_ble_eq_true rfl) dX4_init_15 (fun q2 H h => ?_)
  refine n_putF S hin h wi_X4 tyX4 tyX4_ok nmX4 0 rfl rfl 3 (by decide) rfl rfl rfl (ty := (tyX4 3)) (by decide +kernel) rfl rfl (Nat.le_of_ble_eq_true rfl) kf_X4_15 dX4_init_17 (fun H locs h => ?_)
  have h : Hc D cs (va_A [(h0, .inr (4, [.int 0, .int 0, .null, .null, .null, .null, .null, .null, .null, .null]))] s.heap.size) s [(h0, .inr (4, [.int 0, .int 0, .ref q1, .ref q2, .null, .null, .null, .null, .null, .null])), (q1, .inl (cs 0, 40, .inl (fun _ => 0))), (q2, .inl (cs 0, 40, .inl (fun _ => 0)))] H _ := h
  refine lv_aload_n S.1 S.2.1 dX4_init_20 rfl (lv_at hl 0 rfl) ?_
  refine lv_bipush (v := 40) S.1 S.2.1 dX4_init_21 (by decide) ?_
  refine n_newI S h 40 (by decide) rfl (Nat.le_of_ble_eq_true rfl) (Nat.le_of_ble_eq_true rfl) (Nat.le_of_ble_eq_true rfl) dX4_init_23 (fun q3 H h => ?_)
  refine n_putF S hin h wi_X4 tyX4 tyX4_ok nmX4 0 rfl rfl 4 (by decide) rfl rfl rfl (ty := (tyX4 4)) (by decide +kernel) rfl rfl (Nat.le_of_ble_eq_true rfl) kf_X4_18 dX4_init_25 (fun H locs h => ?_)
  have h : Hc D cs (va_A [(h0, .inr (4, [.int 0, .int 0, .null, .null, .null, .null, .null, .null, .null, .null]))] s.heap.size) s [(h0, .inr (4, [.int 0, .int 0, .ref q1, .ref q2, .ref q3, .null, .null, .null, .null, .null])), (q1, .inl (cs 0, 40, .inl (fun _ => 0))), (q2, .inl (cs 0, 40, .inl (fun _ => 0))), (q3, .inl (cs 0, 40, .inl (fun _ => 0)))] H _ := h
  refine lv_aload_n S.1 S.2.1 dX4_init_28 rfl (lv_at hl 0 rfl) ?_
  refine lv_bipush (v := 10) S.1 S.2.1 dX4_init_29 (by decide) ?_
  refine n_newI S h 10 (by decide) rfl (Nat.le_of_ble_eq_true rfl) (Nat.le_of_ble_eq_true rfl) (Nat.le_of_ble_eq_true rfl) dX4_init_31 (fun q4 H h => ?_)
  refine n_putF S hin h wi_X4 tyX4 tyX4_ok nmX4 0 rfl rfl 5 (by decide) rfl rfl rfl (ty := (tyX4 5)) (by decide +kernel) rfl rfl (Nat.le_of_ble_eq_true rfl) kf_X4_21 dX4_init_33 (fun H locs h => ?_)
  have h : Hc D cs (va_A [(h0, .inr (4, [.int 0, .int 0, .null, .null, .null, .null, .null, .null, .null, .null]))] s.heap.size) s [(h0, .inr (4, [.int 0, .int 0, .ref q1, .ref q2, .ref q3, .ref q4, .null, .null, .null, .null])), (q1, .inl (cs 0, 40, .inl (fun _ => 0))), (q2, .inl (cs 0, 40, .inl (fun _ => 0))), (q3, .inl (cs 0, 40, .inl (fun _ => 0))), (q4, .inl (cs 0, 10, .inl (fun _ => 0)))] H _ := h
  refine lv_aload_n S.1 S.2.1 dX4_init_36 rfl (lv_at hl 0 rfl) ?_
  refine lv_iconst (v := 4) S.1 S.2.1 dX4_init_37 (by decide) ?_
  refine lv_bipush (v := 48) S.1 S.2.1 dX4_init_38 (by decide) ?_
  refine n_mna S h (BG_tb (i := 36) (by decide +kernel) rfl) 4 48 (by decide) (by decide) rfl rfl (Nat.le_of_ble_eq_true rfl) (Nat.le_of_ble_eq_true rfl) (Nat.le_of_ble_eq_true rfl) (Nat.le_of_ble_eq_true rfl) dX4_init_40 (fun q5 r5 H h => ?_)
  have h : Hc D cs (va_A [(h0, .inr (4, [.int 0, .int 0, .null, .null, .null, .null, .null, .null, .null, .null]))] s.heap.size) s [(h0, .inr (4, [.int 0, .int 0, .ref q1, .ref q2, .ref q3, .ref q4, .null, .null, .null, .null])), (q1, .inl (cs 0, 40, .inl (fun _ => 0))), (q2, .inl (cs 0, 40, .inl (fun _ => 0))), (q3, .inl (cs 0, 40, .inl (fun _ => 0))), (q4, .inl (cs 0, 10, .inl (fun _ => 0))), (q5, .inl (cs 3, 4, .inr (.inr (.inr (.inr (fun i => some (r5 i))))))), ((r5 0), .inl (cs 0, 48, .inl (fun _ => 0))), ((r5 1), .inl (cs 0, 48, .inl (fun _ => 0))), ((r5 2), .inl (cs 0, 48, .inl (fun _ => 0))), ((r5 3), .inl (cs 0, 48, .inl (fun _ => 0)))] H _ := h
  refine n_putF S hin h wi_X4 tyX4 tyX4_ok nmX4 0 rfl rfl 6 (by decide) rfl rfl rfl (ty := (tyX4 6)) (by decide +kernel) rfl rfl (Nat.le_of_ble_eq_true rfl) kf_X4_26 dX4_init_44 (fun H locs h => ?_)
  have h : Hc D cs (va_A [(h0, .inr (4, [.int 0, .int 0, .null, .null, .null, .null, .null, .null, .null, .null]))] s.heap.size) s [(h0, .inr (4, [.int 0, .int 0, .ref q1, .ref q2, .ref q3, .ref q4, .ref q5, .null, .null, .null])), (q1, .inl (cs 0, 40, .inl (fun _ => 0))), (q2, .inl (cs 0, 40, .inl (fun _ => 0))), (q3, .inl (cs 0, 40, .inl (fun _ => 0))), (q4, .inl (cs 0, 10, .inl (fun _ => 0))), (q5, .inl (cs 3, 4, .inr (.inr (.inr (.inr (fun i => some (r5 i))))))), ((r5 0), .inl (cs 0, 48, .inl (fun _ => 0))), ((r5 1), .inl (cs 0, 48, .inl (fun _ => 0))), ((r5 2), .inl (cs 0, 48, .inl (fun _ => 0))), ((r5 3), .inl (cs 0, 48, .inl (fun _ => 0)))] H _ := h
  refine lv_aload_n S.1 S.2.1 dX4_init_47 rfl (lv_at hl 0 rfl) ?_
  refine lv_bipush (v := 48) S.1 S.2.1 dX4_init_48 (by decide) ?_
  refine n_newI S h 48 (by decide) rfl (Nat.le_of_ble_eq_true rfl) (Nat.le_of_ble_eq_true rfl) (Nat.le_of_ble_eq_true rfl) dX4_init_50 (fun q6 H h => ?_)
  refine n_putF S hin h wi_X4 tyX4 tyX4_ok nmX4 0 rfl rfl 7 (by decide) rfl rfl rfl (ty := (tyX4 7)) (by decide +kernel) rfl rfl (Nat.le_of_ble_eq_true rfl) kf_X4_29 dX4_init_52 (fun H locs h => ?_)
  have h : Hc D cs (va_A [(h0, .inr (4, [.int 0, .int 0, .null, .null, .null, .null, .null, .null, .null, .null]))] s.heap.size) s [(h0, .inr (4, [.int 0, .int 0, .ref q1, .ref q2, .ref q3, .ref q4, .ref q5, .ref q6, .null, .null])), (q1, .inl (cs 0, 40, .inl (fun _ => 0))), (q2, .inl (cs 0, 40, .inl (fun _ => 0))), (q3, .inl (cs 0, 40, .inl (fun _ => 0))), (q4, .inl (cs 0, 10, .inl (fun _ => 0))), (q5, .inl (cs 3, 4, .inr (.inr (.inr (.inr (fun i => some (r5 i))))))), ((r5 0), .inl (cs 0, 48, .inl (fun _ => 0))), ((r5 1), .inl (cs 0, 48, .inl (fun _ => 0))), ((r5 2), .inl (cs 0, 48, .inl (fun _ => 0))), ((r5 3), .inl (cs 0, 48, .inl (fun _ => 0))), (q6, .inl (cs 0, 48, .inl (fun _ => 0)))] H _ := h
  refine lv_aload_n S.1 S.2.1 dX4_init_55 rfl (lv_at hl 0 rfl) ?_
  refine lv_bipush (v := 48) S.1 S.2.1 dX4_init_56 (by decide) ?_
  refine n_newI S h 48 (by decide) rfl (Nat.le_of_ble_eq_true rfl) (Nat.le_of_ble_eq_true rfl) (Nat.le_of_ble_eq_true rfl) dX4_init_58 (fun q7 H h => ?_)
  refine n_putF S hin h wi_X4 tyX4 tyX4_ok nmX4 0 rfl rfl 8 (by decide) rfl rfl rfl (ty := (tyX4 8)) (by decide +kernel) rfl rfl (Nat.le_of_ble_eq_true rfl) kf_X4_32 dX4_init_60 (fun H locs h => ?_)
  have h : Hc D cs (va_A [(h0, .inr (4, [.int 0, .int 0, .null, .null, .null, .null, .null, .null, .null, .null]))] s.heap.size) s [(h0, .inr (4, [.int 0, .int 0, .ref q1, .ref q2, .ref q3, .ref q4, .ref q5, .ref q6, .ref q7, .null])), (q1, .inl (cs 0, 40, .inl (fun _ => 0))), (q2, .inl (cs 0, 40, .inl (fun _ => 0))), (q3, .inl (cs 0, 40, .inl (fun _ => 0))), (q4, .inl (cs 0, 10, .inl (fun _ => 0))), (q5, .inl (cs 3, 4, .inr (.inr (.inr (.inr (fun i => some (r5 i))))))), ((r5 0), .inl (cs 0, 48, .inl (fun _ => 0))), ((r5 1), .inl (cs 0, 48, .inl (fun _ => 0))), ((r5 2), .inl (cs 0, 48, .inl (fun _ => 0))), ((r5 3), .inl (cs 0, 48, .inl (fun _ => 0))), (q6, .inl (cs 0, 48, .inl (fun _ => 0))), (q7, .inl (cs 0, 48, .inl (fun _ => 0)))] H _ := h
  refine lv_aload_n S.1 S.2.1 dX4_init_63 rfl (lv_at hl 0 rfl) ?_
  refine lv_bipush (v := 48) S.1 S.2.1 dX4_init_64 (by decide) ?_
  refine n_newI S h 48 (by decide) rfl (Nat.le_of_ble_eq_true rfl) (Nat.le_of_ble_eq_true rfl) (Nat.le_of_ble_eq_true rfl) dX4_init_66 (fun q8 H h => ?_)
  refine n_putF S hin h wi_X4 tyX4 tyX4_ok nmX4 0 rfl rfl 9 (by decide) rfl rfl rfl (ty := (tyX4 9)) (by decide +kernel) rfl rfl (Nat.le_of_ble_eq_true rfl) kf_X4_35 dX4_init_68 (fun H locs h => ?_)
  have h : Hc D cs (va_A [(h0, .inr (4, [.int 0, .int 0, .null, .null, .null, .null, .null, .null, .null, .null]))] s.heap.size) s [(h0, .inr (4, [.int 0, .int 0, .ref q1, .ref q2, .ref q3, .ref q4, .ref q5, .ref q6, .ref q7, .ref q8])), (q1, .inl (cs 0, 40, .inl (fun _ => 0))), (q2, .inl (cs 0, 40, .inl (fun _ => 0))), (q3, .inl (cs 0, 40, .inl (fun _ => 0))), (q4, .inl (cs 0, 10, .inl (fun _ => 0))), (q5, .inl (cs 3, 4, .inr (.inr (.inr (.inr (fun i => some (r5 i))))))), ((r5 0), .inl (cs 0, 48, .inl (fun _ => 0))), ((r5 1), .inl (cs 0, 48, .inl (fun _ => 0))), ((r5 2), .inl (cs 0, 48, .inl (fun _ => 0))), ((r5 3), .inl (cs 0, 48, .inl (fun _ => 0))), (q6, .inl (cs 0, 48, .inl (fun _ => 0))), (q7, .inl (cs 0, 48, .inl (fun _ => 0))), (q8, .inl (cs 0, 48, .inl (fun _ => 0)))] H _ := h
  refine lv_aload_n S.1 S.2.1 dX4_init_71 rfl (lv_at hl 0 rfl) ?_
  refine n_get S h wi_X4 0 rfl rfl 6 (by decide) rfl rfl kf_X4_26 dX4_init_72 ?_
  refine lv_iconst (v := 2) S.1 S.2.1 dX4_init_75 (by decide) ?_
  refine n_aald S h 5 rfl (by unfold vp_in; decide) dX4_init_76 ?_
  refine W.eq (g2 := F0 m 77 ls [.ref (r5 2)]) rfl ?_
  refine lv_bipush (v := 10) S.1 S.2.1 dX4_init_77 (by decide) ?_
  refine n_fill S h 8 rfl (by decide) kt_X4_38 ⟨Nat.le_of_ble_eq_true rfl, Nat.le_of_ble_eq_true rfl⟩ hl.1 (Nat.le_of_ble_eq_true rfl) ⟨Nat.le_of_ble_eq_true rfl, Nat.le_of_ble_eq_true rfl⟩ dX4_init_79 (fun H locs h => ?_)
  have h : Hc D cs (va_A [(h0, .inr (4, [.int 0, .int 0, .null, .null, .null, .null, .null, .null, .null, .null]))] s.heap.size) s [(h0, .inr (4, [.int 0, .int 0, .ref q1, .ref q2, .ref q3, .ref q4, .ref q5, .ref q6, .ref q7, .ref q8])), (q1, .inl (cs 0, 40, .inl (fun _ => 0))), (q2, .inl (cs 0, 40, .inl (fun _ => 0))), (q3, .inl (cs 0, 40, .inl (fun _ => 0))), (q4, .inl (cs 0, 10, .inl (fun _ => 0))), (q5, .inl (cs 3, 4, .inr (.inr (.inr (.inr (fun i => some (r5 i))))))), ((r5 0), .inl (cs 0, 48, .inl (fun _ => 0))), ((r5 1), .inl (cs 0, 48, .inl (fun _ => 0))), ((r5 2), .inl (cs 0, 48, .inl (flI (fun _ => 0) 48 10))), ((r5 3), .inl (cs 0, 48, .inl (fun _ => 0))), (q6, .inl (cs 0, 48, .inl (fun _ => 0))), (q7, .inl (cs 0, 48, .inl (fun _ => 0))), (q8, .inl (cs 0, 48, .inl (fun _ => 0)))] H _ := h
  refine W.cs (cells' := 12) (slots' := 470) rfl rfl ?_
  exact n_end S hr hlk h ⟨q1, q2, q3, q4, q5, r5, q6, q7, q8, rfl⟩ dX4_init_82
set_option maxHeartbeats 20000000 in
set_option maxRecDepth 20000 in
theorem iX3_init {l : Launch} {D : va_G} {cs : Nat → ClassId} (h0 : Nat) : CC l D cs yX3_init cX3_init 1 1 12 120 12 [.ref h0] (h0, .inr (3, [.null, .null])) (fun ws => ∃ (q1 : Nat) (r1 : Nat → Nat) (q2 : Nat), ws = [(h0, .inr (3, [.ref q1, .ref q2])), (q1, .inl (cs 3, 10, .inr (.inr (.inr (.inr (fun i => some (r1 i))))))), ((r1 0), .inl (cs 0, 10, .inl (fun _ => 0))), ((r1 1), .inl (cs 0, 10, .inl (fun _ => 0))), ((r1 2), .inl (cs 0, 10, .inl (fun _ => 0))), ((r1 3), .inl (cs 0, 10, .inl (fun _ => 0))), ((r1 4), .inl (cs 0, 10, .inl (fun _ => 0))), ((r1 5), .inl (cs 0, 10, .inl (fun _ => 0))), ((r1 6), .inl (cs 0, 10, .inl (fun _ => 0))), ((r1 7), .inl (cs 0, 10, .inl (fun _ => 0))), ((r1 8), .inl (cs 0, 10, .inl (fun _ => 0))), ((r1 9), .inl (cs 0, 10, .inl (fun _ => 0))), (q2, .inl (cs 1, 10, .inr (.inl (fun _ => 0))))]) := by
  refine CC.of (by decide) rfl (Nat.le_of_ble_eq_true rfl) ?_
  intro p e s m below meth c ls S hr hlk hin h hl
  have hl : lv_has ls 1 [(0, .ref h0)] := hl
  refine lv_aload_n S.1 S.2.1 dX3_init_0 rfl (lv_at hl 0 rfl) ?_
  refine n_obj S hl.1 (BG_tb (i := 90) (by decide +kernel) rfl) (Nat.le_of_ble_eq_true rfl) (Nat.le_of_ble_eq_true rfl) dX3_init_1 ?_
  refine lv_aload_n S.1 S.2.1 dX3_init_4 rfl (lv_at hl 0 rfl) ?_
  refine lv_bipush (v := 10) S.1 S.2.1 dX3_init_5 (by decide) ?_
  refine lv_bipush (v := 10) S.1 S.2.1 dX3_init_7 (by decide) ?_
  refine n_mna S h (BG_tb (i := 91) (by decide +kernel) rfl) 10 10 (by decide) (by decide) rfl rfl (Nat.le_of_ble_eq_true rfl) (Nat.le_of_ble_eq_true rfl) (Nat.le_of_ble_eq_true rfl) (Nat.le_of_ble_eq_true rfl) dX3_init_9 (fun q1 r1 H h => ?_)
  have h : Hc D cs (va_A [(h0, .inr (3, [.null, .null]))] s.heap.size) s [(h0, .inr (3, [.null, .null])), (q1, .inl (cs 3, 10, .inr (.inr (.inr (.inr (fun i => some (r1 i))))))), ((r1 0), .inl (cs 0, 10, .inl (fun _ => 0))), ((r1 1), .inl (cs 0, 10, .inl (fun _ => 0))), ((r1 2), .inl (cs 0, 10, .inl (fun _ => 0))), ((r1 3), .inl (cs 0, 10, .inl (fun _ => 0))), ((r1 4), .inl (cs 0, 10, .inl (fun _ => 0))), ((r1 5), .inl (cs 0, 10, .inl (fun _ => 0))), ((r1 6), .inl (cs 0, 10, .inl (fun _ => 0))), ((r1 7), .inl (cs 0, 10, .inl (fun _ => 0))), ((r1 8), .inl (cs 0, 10, .inl (fun _ => 0))), ((r1 9), .inl (cs 0, 10, .inl (fun _ => 0)))] H _ := h
  refine n_putF S hin h wi_X3 tyX3 tyX3_ok nmX3 0 rfl rfl 0 (by decide) rfl rfl rfl (ty := (tyX3 0)) (by decide +kernel) rfl rfl (Nat.le_of_ble_eq_true rfl) kf_X3_11 dX3_init_13 (fun H locs h => ?_)
  have h : Hc D cs (va_A [(h0, .inr (3, [.null, .null]))] s.heap.size) s [(h0, .inr (3, [.ref q1, .null])), (q1, .inl (cs 3, 10, .inr (.inr (.inr (.inr (fun i => some (r1 i))))))), ((r1 0), .inl (cs 0, 10, .inl (fun _ => 0))), ((r1 1), .inl (cs 0, 10, .inl (fun _ => 0))), ((r1 2), .inl (cs 0, 10, .inl (fun _ => 0))), ((r1 3), .inl (cs 0, 10, .inl (fun _ => 0))), ((r1 4), .inl (cs 0, 10, .inl (fun _ => 0))), ((r1 5), .inl (cs 0, 10, .inl (fun _ => 0))), ((r1 6), .inl (cs 0, 10, .inl (fun _ => 0))), ((r1 7), .inl (cs 0, 10, .inl (fun _ => 0))), ((r1 8), .inl (cs 0, 10, .inl (fun _ => 0))), ((r1 9), .inl (cs 0, 10, .inl (fun _ => 0)))] H _ := h
  refine lv_aload_n S.1 S.2.1 dX3_init_16 rfl (lv_at hl 0 rfl) ?_
  refine lv_bipush (v := 10) S.1 S.2.1 dX3_init_17 (by decide) ?_
  refine n_newJ S h 10 (by decide) rfl (Nat.le_of_ble_eq_true rfl) (Nat.le_of_ble_eq_true rfl) (Nat.le_of_ble_eq_true rfl) dX3_init_19 (fun q2 H h => ?_)
  refine n_putF S hin h wi_X3 tyX3 tyX3_ok nmX3 0 rfl rfl 1 (by decide) rfl rfl rfl (ty := (tyX3 1)) (by decide +kernel) rfl rfl (Nat.le_of_ble_eq_true rfl) kf_X3_16 dX3_init_21 (fun H locs h => ?_)
  have h : Hc D cs (va_A [(h0, .inr (3, [.null, .null]))] s.heap.size) s [(h0, .inr (3, [.ref q1, .ref q2])), (q1, .inl (cs 3, 10, .inr (.inr (.inr (.inr (fun i => some (r1 i))))))), ((r1 0), .inl (cs 0, 10, .inl (fun _ => 0))), ((r1 1), .inl (cs 0, 10, .inl (fun _ => 0))), ((r1 2), .inl (cs 0, 10, .inl (fun _ => 0))), ((r1 3), .inl (cs 0, 10, .inl (fun _ => 0))), ((r1 4), .inl (cs 0, 10, .inl (fun _ => 0))), ((r1 5), .inl (cs 0, 10, .inl (fun _ => 0))), ((r1 6), .inl (cs 0, 10, .inl (fun _ => 0))), ((r1 7), .inl (cs 0, 10, .inl (fun _ => 0))), ((r1 8), .inl (cs 0, 10, .inl (fun _ => 0))), ((r1 9), .inl (cs 0, 10, .inl (fun _ => 0))), (q2, .inl (cs 1, 10, .inr (.inl (fun _ => 0))))] H _ := h
  refine W.cs (cells' := 12) (slots' := 120) rfl rfl ?_
  exact n_end S hr hlk h ⟨q1, r1, q2, rfl⟩ dX3_init_24
set_option maxHeartbeats 20000000 in
set_option maxRecDepth 20000 in
theorem iX6_init {l : Launch} {D : va_G} {cs : Nat → ClassId} (h0 : Nat) (a1 : Nat) : CC l D cs yX6_init cX6_init 2 1 6 96 12 [.ref h0, .ref a1] (h0, .inr (6, [.null, .int 0, .int 0, .null, .null, .null, .null, .null, .null])) (fun ws => ∃ (q1 : Nat) (q2 : Nat) (q3 : Nat) (q4 : Nat) (q5 : Nat) (q6 : Nat), ws = [(h0, .inr (6, [.ref a1, .int 0, .int 0, .ref q1, .ref q2, .ref q3, .ref q4, .ref q5, .ref q6])), (q1, .inl (cs 0, 16, .inl (fun _ => 0))), (q2, .inl (cs 0, 16, .inl (fun _ => 0))), (q3, .inl (cs 0, 16, .inl (fun _ => 0))), (q4, .inl (cs 0, 16, .inl (fun _ => 0))), (q5, .inl (cs 0, 16, .inl (fun _ => 0))), (q6, .inl (cs 0, 16, .inl (fun _ => 0)))]) := by
  refine CC.of (by decide) rfl (Nat.le_of_ble_eq_true rfl) ?_
  intro p e s m below meth c ls S hr hlk hin h hl
  have hl : lv_has ls 2 [(0, .ref h0), (1, .ref a1)] := hl
  refine lv_aload_n S.1 S.2.1 dX6_init_0 rfl (lv_at hl 0 rfl) ?_
  refine n_obj S hl.1 (BG_tb (i := 105) (by decide +kernel) rfl) (Nat.le_of_ble_eq_true rfl) (Nat.le_of_ble_eq_true rfl) dX6_init_1 ?_
  refine lv_aload_n S.1 S.2.1 dX6_init_4 rfl (lv_at hl 0 rfl) ?_
  refine lv_bipush (v := 16) S.1 S.2.1 dX6_init_5 (by decide) ?_
  refine n_newI S h 16 (by decide) rfl (Nat.le_of_ble_eq_true rfl) (Nat.le_of_ble_eq_true rfl) (Nat.le_of_ble_eq_true rfl) dX6_init_7 (fun q1 H h => ?_)
  refine n_putF S hin h wi_X6 tyX6 tyX6_ok nmX6 0 rfl rfl 3 (by decide) rfl rfl rfl (ty := (tyX6 3)) (by decide +kernel) rfl rfl (Nat.le_of_ble_eq_true rfl) kf_X6_9 dX6_init_9 (fun H locs h => ?_)
  have h : Hc D cs (va_A [(h0, .inr (6, [.null, .int 0, .int 0, .null, .null, .null, .null, .null, .null]))] s.heap.size) s [(h0, .inr (6, [.null, .int 0, .int 0, .ref q1, .null, .null, .null, .null, .null])), (q1, .inl (cs 0, 16, .inl (fun _ => 0)))] H _ := h
  refine lv_aload_n S.1 S.2.1 dX6_init_12 rfl (lv_at hl 0 rfl) ?_
  refine lv_bipush (v := 16) S.1 S.2.1 dX6_init_13 (by decide) ?_
  refine n_newI S h 16 (by decide) rfl (Nat.le_of_ble_eq_true rfl) (Nat.le_of_ble_eq_true rfl) (Nat.le_of_ble_eq_true rfl) dX6_init_15 (fun q2 H h => ?_)
  refine n_putF S hin h wi_X6 tyX6 tyX6_ok nmX6 0 rfl rfl 4 (by decide) rfl rfl rfl (ty := (tyX6 4)) (by decide +kernel) rfl rfl (Nat.le_of_ble_eq_true rfl) kf_X6_15 dX6_init_17 (fun H locs h => ?_)
  have h : Hc D cs (va_A [(h0, .inr (6, [.null, .int 0, .int 0, .null, .null, .null, .null, .null, .null]))] s.heap.size) s [(h0, .inr (6, [.null, .int 0, .int 0, .ref q1, .ref q2, .null, .null, .null, .null])), (q1, .inl (cs 0, 16, .inl (fun _ => 0))), (q2, .inl (cs 0, 16, .inl (fun _ => 0)))] H _ := h
  refine lv_aload_n S.1 S.2.1 dX6_init_20 rfl (lv_at hl 0 rfl) ?_
  refine lv_bipush (v := 16) S.1 S.2.1 dX6_init_21 (by decide) ?_
  refine n_newI S h 16 (by decide) rfl (Nat.le_of_ble_eq_true rfl) (Nat.le_of_ble_eq_true rfl) (Nat.le_of_ble_eq_true rfl) dX6_init_23 (fun q3 H h => ?_)
  refine n_putF S hin h wi_X6 tyX6 tyX6_ok nmX6 0 rfl rfl 5 (by decide) rfl rfl rfl (ty := (tyX6 5)) (by decide +kernel) rfl rfl (Nat.le_of_ble_eq_true rfl) kf_X6_18 dX6_init_25 (fun H locs h => ?_)
  have h : Hc D cs (va_A [(h0, .inr (6, [.null, .int 0, .int 0, .null, .null, .null, .null, .null, .null]))] s.heap.size) s [(h0, .inr (6, [.null, .int 0, .int 0, .ref q1, .ref q2, .ref q3, .null, .null, .null])), (q1, .inl (cs 0, 16, .inl (fun _ => 0))), (q2, .inl (cs 0, 16, .inl (fun _ => 0))), (q3, .inl (cs 0, 16, .inl (fun _ => 0)))] H _ := h
  refine lv_aload_n S.1 S.2.1 dX6_init_28 rfl (lv_at hl 0 rfl) ?_
  refine lv_bipush (v := 16) S.1 S.2.1 dX6_init_29 (by decide) ?_
  refine n_newI S h 16 (by decide) rfl (Nat.le_of_ble_eq_true rfl) (Nat.le_of_ble_eq_true rfl) (Nat.le_of_ble_eq_true rfl) dX6_init_31 (fun q4 H h => ?_)
  refine n_putF S hin h wi_X6 tyX6 tyX6_ok nmX6 0 rfl rfl 6 (by decide) rfl rfl rfl (ty := (tyX6 6)) (by decide +kernel) rfl rfl (Nat.le_of_ble_eq_true rfl) kf_X6_21 dX6_init_33 (fun H locs h => ?_)
  have h : Hc D cs (va_A [(h0, .inr (6, [.null, .int 0, .int 0, .null, .null, .null, .null, .null, .null]))] s.heap.size) s [(h0, .inr (6, [.null, .int 0, .int 0, .ref q1, .ref q2, .ref q3, .ref q4, .null, .null])), (q1, .inl (cs 0, 16, .inl (fun _ => 0))), (q2, .inl (cs 0, 16, .inl (fun _ => 0))), (q3, .inl (cs 0, 16, .inl (fun _ => 0))), (q4, .inl (cs 0, 16, .inl (fun _ => 0)))] H _ := h
  refine lv_aload_n S.1 S.2.1 dX6_init_36 rfl (lv_at hl 0 rfl) ?_
  refine lv_bipush (v := 16) S.1 S.2.1 dX6_init_37 (by decide) ?_
  refine n_newI S h 16 (by decide) rfl (Nat.le_of_ble_eq_true rfl) (Nat.le_of_ble_eq_true rfl) (Nat.le_of_ble_eq_true rfl) dX6_init_39 (fun q5 H h => ?_)
  refine n_putF S hin h wi_X6 tyX6 tyX6_ok nmX6 0 rfl rfl 7 (by decide) rfl rfl rfl (ty := (tyX6 7)) (by decide +kernel) rfl rfl (Nat.le_of_ble_eq_true rfl) kf_X6_24 dX6_init_41 (fun H locs h => ?_)
  have h : Hc D cs (va_A [(h0, .inr (6, [.null, .int 0, .int 0, .null, .null, .null, .null, .null, .null]))] s.heap.size) s [(h0, .inr (6, [.null, .int 0, .int 0, .ref q1, .ref q2, .ref q3, .ref q4, .ref q5, .null])), (q1, .inl (cs 0, 16, .inl (fun _ => 0))), (q2, .inl (cs 0, 16, .inl (fun _ => 0))), (q3, .inl (cs 0, 16, .inl (fun _ => 0))), (q4, .inl (cs 0, 16, .inl (fun _ => 0))), (q5, .inl (cs 0, 16, .inl (fun _ => 0)))] H _ := h
  refine lv_aload_n S.1 S.2.1 dX6_init_44 rfl (lv_at hl 0 rfl) ?_
  refine lv_bipush (v := 16) S.1 S.2.1 dX6_init_45 (by decide) ?_
  refine n_newI S h 16 (by decide) rfl (Nat.le_of_ble_eq_true rfl) (Nat.le_of_ble_eq_true rfl) (Nat.le_of_ble_eq_true rfl) dX6_init_47 (fun q6 H h => ?_)
  refine n_putF S hin h wi_X6 tyX6 tyX6_ok nmX6 0 rfl rfl 8 (by decide) rfl rfl rfl (ty := (tyX6 8)) (by decide +kernel) rfl rfl (Nat.le_of_ble_eq_true rfl) kf_X6_27 dX6_init_49 (fun H locs h => ?_)
  have h : Hc D cs (va_A [(h0, .inr (6, [.null, .int 0, .int 0, .null, .null, .null, .null, .null, .null]))] s.heap.size) s [(h0, .inr (6, [.null, .int 0, .int 0, .ref q1, .ref q2, .ref q3, .ref q4, .ref q5, .ref q6])), (q1, .inl (cs 0, 16, .inl (fun _ => 0))), (q2, .inl (cs 0, 16, .inl (fun _ => 0))), (q3, .inl (cs 0, 16, .inl (fun _ => 0))), (q4, .inl (cs 0, 16, .inl (fun _ => 0))), (q5, .inl (cs 0, 16, .inl (fun _ => 0))), (q6, .inl (cs 0, 16, .inl (fun _ => 0)))] H _ := h
  refine lv_aload_n S.1 S.2.1 dX6_init_52 rfl (lv_at hl 0 rfl) ?_
  refine lv_aload_n S.1 S.2.1 dX6_init_53 rfl (lv_at hl 1 rfl) ?_
  refine n_putF S hin h wi_X6 tyX6 tyX6_ok nmX6 0 rfl rfl 0 (by decide) rfl rfl rfl (ty := (tyX6 0)) (by decide +kernel) rfl rfl (Nat.le_of_ble_eq_true rfl) kf_X6_30 dX6_init_54 (fun H locs h => ?_)
  have h : Hc D cs (va_A [(h0, .inr (6, [.null, .int 0, .int 0, .null, .null, .null, .null, .null, .null]))] s.heap.size) s [(h0, .inr (6, [.ref a1, .int 0, .int 0, .ref q1, .ref q2, .ref q3, .ref q4, .ref q5, .ref q6])), (q1, .inl (cs 0, 16, .inl (fun _ => 0))), (q2, .inl (cs 0, 16, .inl (fun _ => 0))), (q3, .inl (cs 0, 16, .inl (fun _ => 0))), (q4, .inl (cs 0, 16, .inl (fun _ => 0))), (q5, .inl (cs 0, 16, .inl (fun _ => 0))), (q6, .inl (cs 0, 16, .inl (fun _ => 0)))] H _ := h
  refine W.cs (cells' := 6) (slots' := 96) rfl rfl ?_
  exact n_end S hr hlk h ⟨q1, q2, q3, q4, q5, q6, rfl⟩ dX6_init_57
set_option maxHeartbeats 20000000 in
set_option maxRecDepth 20000 in
theorem iX5_init {l : Launch} {D : va_G} {cs : Nat → ClassId} (h0 : Nat) (a1 : Nat) (a2 : Nat) (a3 : Nat) : CC l D cs yX5_init cX5_init 4 1 9 216 12 [.ref h0, .ref a1, .ref a2, .ref a3] (h0, .inr (5, [.null, .null, .null, .int 0, .null, .null, .null, .null, .null, .null, .null, .null, .null])) (fun ws => ∃ (q1 : Nat) (q2 : Nat) (q3 : Nat) (q4 : Nat) (q5 : Nat) (q6 : Nat) (q7 : Nat) (q8 : Nat) (q9 : Nat), ws = [(h0, .inr (5, [.ref a1, .ref a2, .ref a3, .int 0, .ref q1, .ref q2, .ref q3, .ref q4, .ref q5, .ref q6, .ref q7, .ref q8, .ref q9])), (q1, .inl (cs 0, 24, .inl (fun _ => 0))), (q2, .inl (cs 0, 24, .inl (fun _ => 0))), (q3, .inl (cs 0, 24, .inl (fun _ => 0))), (q4, .inl (cs 0, 24, .inl (fun _ => 0))), (q5, .inl (cs 0, 24, .inl (fun _ => 0))), (q6, .inl (cs 0, 24, .inl (fun _ => 0))), (q7, .inl (cs 0, 24, .inl (fun _ => 0))), (q8, .inl (cs 2, 24, .inl (fun _ => 0))), (q9, .inl (cs 2, 24, .inl (fun _ => 0)))]) := by
  refine CC.of (by decide) rfl (Nat.le_of_ble_eq_true rfl) ?_
  intro p e s m below meth c ls S hr hlk hin h hl
  have hl : lv_has ls 4 [(0, .ref h0), (1, .ref a1), (2, .ref a2), (3, .ref a3)] := hl
  refine lv_aload_n S.1 S.2.1 dX5_init_0 rfl (lv_at hl 0 rfl) ?_
  refine n_obj S hl.1 (BG_tb (i := 149) (by decide +kernel) rfl) (Nat.le_of_ble_eq_true rfl) (Nat.le_of_ble_eq_true rfl) dX5_init_1 ?_
  refine lv_aload_n S.1 S.2.1 dX5_init_4 rfl (lv_at hl 0 rfl) ?_
  refine lv_bipush (v := 24) S.1 S.2.1 dX5_init_5 (by decide) ?_
  refine n_newI S h 24 (by decide) rfl (Nat.le_of_ble_eq_true rfl) (Nat.le_of_ble_eq_true rfl) (Nat.le_of_ble_eq_true rfl) dX5_init_7 (fun q1 H h => ?_)
  refine n_putF S hin h wi_X5 tyX5 tyX5_ok nmX5 0 rfl rfl 4 (by decide) rfl rfl rfl (ty := (tyX5 4)) (by decide +kernel) rfl rfl (Nat.le_of_ble_eq_true rfl) kf_X5_9 dX5_init_9 (fun H locs h => ?_)
  have h : Hc D cs (va_A [(h0, .inr (5, [.null, .null, .null, .int 0, .null, .null, .null, .null, .null, .null, .null, .null, .null]))] s.heap.size) s [(h0, .inr (5, [.null, .null, .null, .int 0, .ref q1, .null, .null, .null, .null, .null, .null, .null, .null])), (q1, .inl (cs 0, 24, .inl (fun _ => 0)))] H _ := h
  refine lv_aload_n S.1 S.2.1 dX5_init_12 rfl (lv_at hl 0 rfl) ?_
  refine lv_bipush (v := 24) S.1 S.2.1 dX5_init_13 (by decide) ?_
  refine n_newI S h 24 (by decide) rfl (Nat.le_of_ble_eq_true rfl) (Nat.le_of_ble_eq_true rfl) (Nat.le_of_ble_eq_true rfl) dX5_init_15 (fun q2 H h => ?_)
  refine n_putF S hin h wi_X5 tyX5 tyX5_ok nmX5 0 rfl rfl 5 (by decide) rfl rfl rfl (ty := (tyX5 5)) (by decide +kernel) rfl rfl (Nat.le_of_ble_eq_true rfl) kf_X5_15 dX5_init_17 (fun H locs h => ?_)
  have h : Hc D cs (va_A [(h0, .inr (5, [.null, .null, .null, .int 0, .null, .null, .null, .null, .null, .null, .null, .null, .null]))] s.heap.size) s [(h0, .inr (5, [.null, .null, .null, .int 0, .ref q1, .ref q2, .null, .null, .null, .null, .null, .null, .null])), (q1, .inl (cs 0, 24, .inl (fun _ => 0))), (q2, .inl (cs 0, 24, .inl (fun _ => 0)))] H _ := h
  refine lv_aload_n S.1 S.2.1 dX5_init_20 rfl (lv_at hl 0 rfl) ?_
  refine lv_bipush (v := 24) S.1 S.2.1 dX5_init_21 (by decide) ?_
  refine n_newI S h 24 (by decide) rfl (Nat.le_of_ble_eq_true rfl) (Nat.le_of_ble_eq_true rfl) (Nat.le_of_ble_eq_true rfl) dX5_init_23 (fun q3 H h => ?_)
  refine n_putF S hin h wi_X5 tyX5 tyX5_ok nmX5 0 rfl rfl 6 (by decide) rfl rfl rfl (ty := (tyX5 6)) (by decide +kernel) rfl rfl (Nat.le_of_ble_eq_true rfl) kf_X5_18 dX5_init_25 (fun H locs h => ?_)
  have h : Hc D cs (va_A [(h0, .inr (5, [.null, .null, .null, .int 0, .null, .null, .null, .null, .null, .null, .null, .null, .null]))] s.heap.size) s [(h0, .inr (5, [.null, .null, .null, .int 0, .ref q1, .ref q2, .ref q3, .null, .null, .null, .null, .null, .null])), (q1, .inl (cs 0, 24, .inl (fun _ => 0))), (q2, .inl (cs 0, 24, .inl (fun _ => 0))), (q3, .inl (cs 0, 24, .inl (fun _ => 0)))] H _ := h
  refine lv_aload_n S.1 S.2.1 dX5_init_28 rfl (lv_at hl 0 rfl) ?_
  refine lv_bipush (v := 24) S.1 S.2.1 dX5_init_29 (by decide) ?_
  refine n_newI S h 24 (by decide) rfl (Nat.le_of_ble_eq_true rfl) (Nat.le_of_ble_eq_true rfl) (Nat.le_of_ble_eq_true rfl) dX5_init_31 (fun q4 H h => ?_)
  refine n_putF S hin h wi_X5 tyX5 tyX5_ok nmX5 0 rfl rfl 7 (by decide) rfl rfl rfl (ty := (tyX5 7)) (by decide +kernel) rfl rfl (Nat.le_of_ble_eq_true rfl) kf_X5_21 dX5_init_33 (fun H locs h => ?_)
  have h : Hc D cs (va_A [(h0, .inr (5, [.null, .null, .null, .int 0, .null, .null, .null, .null, .null, .null, .null, .null, .null]))] s.heap.size) s [(h0, .inr (5, [.null, .null, .null, .int 0, .ref q1, .ref q2, .ref q3, .ref q4, .null, .null, .null, .null, .null])), (q1, .inl (cs 0, 24, .inl (fun _ => 0))), (q2, .inl (cs 0, 24, .inl (fun _ => 0))), (q3, .inl (cs 0, 24, .inl (fun _ => 0))), (q4, .inl (cs 0, 24, .inl (fun _ => 0)))] H _ := h
  refine lv_aload_n S.1 S.2.1 dX5_init_36 rfl (lv_at hl 0 rfl) ?_
  refine lv_bipush (v := 24) S.1 S.2.1 dX5_init_37 (by decide) ?_
  refine n_newI S h 24 (by decide) rfl (Nat.le_of_ble_eq_true rfl) (Nat.le_of_ble_eq_true rfl) (Nat.le_of_ble_eq_true rfl) dX5_init_39 (fun q5 H h => ?_)
  refine n_putF S hin h wi_X5 tyX5 tyX5_ok nmX5 0 rfl rfl 8 (by decide) rfl rfl rfl (ty := (tyX5 8)) (by decide +kernel) rfl rfl (Nat.le_of_ble_eq_true rfl) kf_X5_24 dX5_init_41 (fun H locs h => ?_)
  have h : Hc D cs (va_A [(h0, .inr (5, [.null, .null, .null, .int 0, .null, .null, .null, .null, .null, .null, .null, .null, .null]))] s.heap.size) s [(h0, .inr (5, [.null, .null, .null, .int 0, .ref q1, .ref q2, .ref q3, .ref q4, .ref q5, .null, .null, .null, .null])), (q1, .inl (cs 0, 24, .inl (fun _ => 0))), (q2, .inl (cs 0, 24, .inl (fun _ => 0))), (q3, .inl (cs 0, 24, .inl (fun _ => 0))), (q4, .inl (cs 0, 24, .inl (fun _ => 0))), (q5, .inl (cs 0, 24, .inl (fun _ => 0)))] H _ := h
  refine lv_aload_n S.1 S.2.1 dX5_init_44 rfl (lv_at hl 0 rfl) ?_
  refine lv_bipush (v := 24) S.1 S.2.1 dX5_init_45 (by decide) ?_
  refine n_newI S h 24 (by decide) rfl (Nat.le_of_ble_eq_true rfl) (Nat.le_of_ble_eq_true rfl) (Nat.le_of_ble_eq_true rfl) dX5_init_47 (fun q6 H h => ?_)
  refine n_putF S hin h wi_X5 tyX5 tyX5_ok nmX5 0 rfl rfl 9 (by decide) rfl rfl rfl (ty := (tyX5 9)) (by decide +kernel) rfl rfl (Nat.le_of_ble_eq_true rfl) kf_X5_27 dX5_init_49 (fun H locs h => ?_)
  have h : Hc D cs (va_A [(h0, .inr (5, [.null, .null, .null, .int 0, .null, .null, .null, .null, .null, .null, .null, .null, .null]))] s.heap.size) s [(h0, .inr (5, [.null, .null, .null, .int 0, .ref q1, .ref q2, .ref q3, .ref q4, .ref q5, .ref q6, .null, .null, .null])), (q1, .inl (cs 0, 24, .inl (fun _ => 0))), (q2, .inl (cs 0, 24, .inl (fun _ => 0))), (q3, .inl (cs 0, 24, .inl (fun _ => 0))), (q4, .inl (cs 0, 24, .inl (fun _ => 0))), (q5, .inl (cs 0, 24, .inl (fun _ => 0))), (q6, .inl (cs 0, 24, .inl (fun _ => 0)))] H _ := h
  refine lv_aload_n S.1 S.2.1 dX5_init_52 rfl (lv_at hl 0 rfl) ?_
  refine lv_bipush (v := 24) S.1 S.2.1 dX5_init_53 (by decide) ?_
  refine n_newI S h 24 (by decide) rfl (Nat.le_of_ble_eq_true rfl) (Nat.le_of_ble_eq_true rfl) (Nat.le_of_ble_eq_true rfl) dX5_init_55 (fun q7 H h => ?_)
  refine n_putF S hin h wi_X5 tyX5 tyX5_ok nmX5 0 rfl rfl 10 (by decide) rfl rfl rfl (ty := (tyX5 10)) (by decide +kernel) rfl rfl (Nat.le_of_ble_eq_true rfl) kf_X5_30 dX5_init_57 (fun H locs h => ?_)
  have h : Hc D cs (va_A [(h0, .inr (5, [.null, .null, .null, .int 0, .null, .null, .null, .null, .null, .null, .null, .null, .null]))] s.heap.size) s [(h0, .inr (5, [.null, .null, .null, .int 0, .ref q1, .ref q2, .ref q3, .ref q4, .ref q5, .ref q6, .ref q7, .null, .null])), (q1, .inl (cs 0, 24, .inl (fun _ => 0))), (q2, .inl (cs 0, 24, .inl (fun _ => 0))), (q3, .inl (cs 0, 24, .inl (fun _ => 0))), (q4, .inl (cs 0, 24, .inl (fun _ => 0))), (q5, .inl (cs 0, 24, .inl (fun _ => 0))), (q6, .inl (cs 0, 24, .inl (fun _ => 0))), (q7, .inl (cs 0, 24, .inl (fun _ => 0)))] H _ := h
  refine lv_aload_n S.1 S.2.1 dX5_init_60 rfl (lv_at hl 0 rfl) ?_
  refine lv_bipush (v := 24) S.1 S.2.1 dX5_init_61 (by decide) ?_
  refine n_newZ S h 24 (by decide) rfl (Nat.le_of_ble_eq_true rfl) (Nat.le_of_ble_eq_true rfl) (Nat.le_of_ble_eq_true rfl) dX5_init_63 (fun q8 H h => ?_)
  refine n_putF S hin h wi_X5 tyX5 tyX5_ok nmX5 0 rfl rfl 11 (by decide) rfl rfl rfl (ty := (tyX5 11)) (by decide +kernel) rfl rfl (Nat.le_of_ble_eq_true rfl) kf_X5_33 dX5_init_65 (fun H locs h => ?_)
  have h : Hc D cs (va_A [(h0, .inr (5, [.null, .null, .null, .int 0, .null, .null, .null, .null, .null, .null, .null, .null, .null]))] s.heap.size) s [(h0, .inr (5, [.null, .null, .null, .int 0, .ref q1, .ref q2, .ref q3, .ref q4, .ref q5, .ref q6, .ref q7, .ref q8, .null])), (q1, .inl (cs 0, 24, .inl (fun _ => 0))), (q2, .inl (cs 0, 24, .inl (fun _ => 0))), (q3, .inl (cs 0, 24, .inl (fun _ => 0))), (q4, .inl (cs 0, 24, .inl (fun _ => 0))), (q5, .inl (cs 0, 24, .inl (fun _ => 0))), (q6, .inl (cs 0, 24, .inl (fun _ => 0))), (q7, .inl (cs 0, 24, .inl (fun _ => 0))), (q8, .inl (cs 2, 24, .inl (fun _ => 0)))] H _ := h
  refine lv_aload_n S.1 S.2.1 dX5_init_68 rfl (lv_at hl 0 rfl) ?_
  refine lv_bipush (v := 24) S.1 S.2.1 dX5_init_69 (by decide) ?_
  refine n_newZ S h 24 (by decide) rfl (Nat.le_of_ble_eq_true rfl) (Nat.le_of_ble_eq_true rfl) (Nat.le_of_ble_eq_true rfl) dX5_init_71 (fun q9 H h => ?_)
  refine n_putF S hin h wi_X5 tyX5 tyX5_ok nmX5 0 rfl rfl 12 (by decide) rfl rfl rfl (ty := (tyX5 12)) (by decide +kernel) rfl rfl (Nat.le_of_ble_eq_true rfl) kf_X5_37 dX5_init_73 (fun H locs h => ?_)
  have h : Hc D cs (va_A [(h0, .inr (5, [.null, .null, .null, .int 0, .null, .null, .null, .null, .null, .null, .null, .null, .null]))] s.heap.size) s [(h0, .inr (5, [.null, .null, .null, .int 0, .ref q1, .ref q2, .ref q3, .ref q4, .ref q5, .ref q6, .ref q7, .ref q8, .ref q9])), (q1, .inl (cs 0, 24, .inl (fun _ => 0))), (q2, .inl (cs 0, 24, .inl (fun _ => 0))), (q3, .inl (cs 0, 24, .inl (fun _ => 0))), (q4, .inl (cs 0, 24, .inl (fun _ => 0))), (q5, .inl (cs 0, 24, .inl (fun _ => 0))), (q6, .inl (cs 0, 24, .inl (fun _ => 0))), (q7, .inl (cs 0, 24, .inl (fun _ => 0))), (q8, .inl (cs 2, 24, .inl (fun _ => 0))), (q9, .inl (cs 2, 24, .inl (fun _ => 0)))] H _ := h
  refine lv_aload_n S.1 S.2.1 dX5_init_76 rfl (lv_at hl 0 rfl) ?_
  refine lv_aload_n S.1 S.2.1 dX5_init_77 rfl (lv_at hl 1 rfl) ?_
  refine n_putF S hin h wi_X5 tyX5 tyX5_ok nmX5 0 rfl rfl 0 (by decide) rfl rfl rfl (ty := (tyX5 0)) (by decide +kernel) rfl rfl (Nat.le_of_ble_eq_true rfl) kf_X5_40 dX5_init_78 (fun H locs h => ?_)
  have h : Hc D cs (va_A [(h0, .inr (5, [.null, .null, .null, .int 0, .null, .null, .null, .null, .null, .null, .null, .null, .null]))] s.heap.size) s [(h0, .inr (5, [.ref a1, .null, .null, .int 0, .ref q1, .ref q2, .ref q3, .ref q4, .ref q5, .ref q6, .ref q7, .ref q8, .ref q9])), (q1, .inl (cs 0, 24, .inl (fun _ => 0))), (q2, .inl (cs 0, 24, .inl (fun _ => 0))), (q3, .inl (cs 0, 24, .inl (fun _ => 0))), (q4, .inl (cs 0, 24, .inl (fun _ => 0))), (q5, .inl (cs 0, 24, .inl (fun _ => 0))), (q6, .inl (cs 0, 24, .inl (fun _ => 0))), (q7, .inl (cs 0, 24, .inl (fun _ => 0))), (q8, .inl (cs 2, 24, .inl (fun _ => 0))), (q9, .inl (cs 2, 24, .inl (fun _ => 0)))] H _ := h
  refine lv_aload_n S.1 S.2.1 dX5_init_81 rfl (lv_at hl 0 rfl) ?_
  refine lv_aload_n S.1 S.2.1 dX5_init_82 rfl (lv_at hl 2 rfl) ?_
  refine n_putF S hin h wi_X5 tyX5 tyX5_ok nmX5 0 rfl rfl 1 (by decide) rfl rfl rfl (ty := (tyX5 1)) (by decide +kernel) rfl rfl (Nat.le_of_ble_eq_true rfl) kf_X5_44 dX5_init_83 (fun H locs h => ?_)
  have h : Hc D cs (va_A [(h0, .inr (5, [.null, .null, .null, .int 0, .null, .null, .null, .null, .null, .null, .null, .null, .null]))] s.heap.size) s [(h0, .inr (5, [.ref a1, .ref a2, .null, .int 0, .ref q1, .ref q2, .ref q3, .ref q4, .ref q5, .ref q6, .ref q7, .ref q8, .ref q9])), (q1, .inl (cs 0, 24, .inl (fun _ => 0))), (q2, .inl (cs 0, 24, .inl (fun _ => 0))), (q3, .inl (cs 0, 24, .inl (fun _ => 0))), (q4, .inl (cs 0, 24, .inl (fun _ => 0))), (q5, .inl (cs 0, 24, .inl (fun _ => 0))), (q6, .inl (cs 0, 24, .inl (fun _ => 0))), (q7, .inl (cs 0, 24, .inl (fun _ => 0))), (q8, .inl (cs 2, 24, .inl (fun _ => 0))), (q9, .inl (cs 2, 24, .inl (fun _ => 0)))] H _ := h
  refine lv_aload_n S.1 S.2.1 dX5_init_86 rfl (lv_at hl 0 rfl) ?_
  refine lv_aload_n S.1 S.2.1 dX5_init_87 rfl (lv_at hl 3 rfl) ?_
  refine n_putF S hin h wi_X5 tyX5 tyX5_ok nmX5 0 rfl rfl 2 (by decide) rfl rfl rfl (ty := (tyX5 2)) (by decide +kernel) rfl rfl (Nat.le_of_ble_eq_true rfl) kf_X5_48 dX5_init_88 (fun H locs h => ?_)
  have h : Hc D cs (va_A [(h0, .inr (5, [.null, .null, .null, .int 0, .null, .null, .null, .null, .null, .null, .null, .null, .null]))] s.heap.size) s [(h0, .inr (5, [.ref a1, .ref a2, .ref a3, .int 0, .ref q1, .ref q2, .ref q3, .ref q4, .ref q5, .ref q6, .ref q7, .ref q8, .ref q9])), (q1, .inl (cs 0, 24, .inl (fun _ => 0))), (q2, .inl (cs 0, 24, .inl (fun _ => 0))), (q3, .inl (cs 0, 24, .inl (fun _ => 0))), (q4, .inl (cs 0, 24, .inl (fun _ => 0))), (q5, .inl (cs 0, 24, .inl (fun _ => 0))), (q6, .inl (cs 0, 24, .inl (fun _ => 0))), (q7, .inl (cs 0, 24, .inl (fun _ => 0))), (q8, .inl (cs 2, 24, .inl (fun _ => 0))), (q9, .inl (cs 2, 24, .inl (fun _ => 0)))] H _ := h
  refine W.cs (cells' := 9) (slots' := 216) rfl rfl ?_
  exact n_end S hr hlk h ⟨q1, q2, q3, q4, q5, q6, q7, q8, q9, rfl⟩ dX5_init_91
set_option maxHeartbeats 20000000 in
set_option maxRecDepth 20000 in
theorem iX8_init {l : Launch} {D : va_G} {cs : Nat → ClassId} (h0 : Nat) : CC l D cs yX8_init cX8_init 1 1 5 803 12 [.ref h0] (h0, .inr (8, [.null, .int 0, .null, .null, .null, .int 0, .int 0, .null, .int 0, .int 0])) (fun ws => ∃ (q1 : Nat) (q2 : Nat) (q3 : Nat) (q4 : Nat) (q5 : Nat), ws = [(h0, .inr (8, [.ref q1, .int 0, .ref q2, .ref q3, .ref q4, .int 0, .int 0, .ref q5, .int 0, .int 0])), (q1, .inl (cs 0, 160, .inl (fun _ => 0))), (q2, .inl (cs 0, 161, .inl (fun _ => 0))), (q3, .inl (cs 0, 161, .inl (fun _ => 0))), (q4, .inl (cs 0, 161, .inl (fun _ => 0))), (q5, .inl (cs 0, 160, .inl (fun _ => 0)))]) := by
  refine CC.of (by decide) rfl (Nat.le_of_ble_eq_true rfl) ?_
  intro p e s m below meth c ls S hr hlk hin h hl
  have hl : lv_has ls 1 [(0, .ref h0)] := hl
  refine lv_aload_n S.1 S.2.1 dX8_init_0 rfl (lv_at hl 0 rfl) ?_
  refine n_obj S hl.1 (BG_tb (i := 203) (by decide +kernel) rfl) (Nat.le_of_ble_eq_true rfl) (Nat.le_of_ble_eq_true rfl) dX8_init_1 ?_
  refine lv_aload_n S.1 S.2.1 dX8_init_4 rfl (lv_at hl 0 rfl) ?_
  refine lv_sipush (v := 160) S.1 S.2.1 dX8_init_5 (by decide) ?_
  refine n_newI S h 160 (by decide) rfl (Nat.le_of_ble_eq_true rfl) (Nat.le_of_ble_eq_true rfl) (Nat.le_of_ble_eq_true rfl) dX8_init_8 (fun q1 H h => ?_)
  refine n_putF S hin h wi_X8 tyX8 tyX8_ok nmX8 0 rfl rfl 0 (by decide) rfl rfl rfl (ty := (tyX8 0)) (by decide +kernel) rfl rfl (Nat.le_of_ble_eq_true rfl) kf_X8_9 dX8_init_10 (fun H locs h => ?_)
  have h : Hc D cs (va_A [(h0, .inr (8, [.null, .int 0, .null, .null, .null, .int 0, .int 0, .null, .int 0, .int 0]))] s.heap.size) s [(h0, .inr (8, [.ref q1, .int 0, .null, .null, .null, .int 0, .int 0, .null, .int 0, .int 0])), (q1, .inl (cs 0, 160, .inl (fun _ => 0)))] H _ := h
  refine lv_aload_n S.1 S.2.1 dX8_init_13 rfl (lv_at hl 0 rfl) ?_
  refine lv_sipush (v := 161) S.1 S.2.1 dX8_init_14 (by decide) ?_
  refine n_newI S h 161 (by decide) rfl (Nat.le_of_ble_eq_true rfl) (Nat.le_of_ble_eq_true rfl) (Nat.le_of_ble_eq_true rfl) dX8_init_17 (fun q2 H h => ?_)
  refine n_putF S hin h wi_X8 tyX8 tyX8_ok nmX8 0 rfl rfl 2 (by decide) rfl rfl rfl (ty := (tyX8 2)) (by decide +kernel) rfl rfl (Nat.le_of_ble_eq_true rfl) kf_X8_15 dX8_init_19 (fun H locs h => ?_)
  have h : Hc D cs (va_A [(h0, .inr (8, [.null, .int 0, .null, .null, .null, .int 0, .int 0, .null, .int 0, .int 0]))] s.heap.size) s [(h0, .inr (8, [.ref q1, .int 0, .ref q2, .null, .null, .int 0, .int 0, .null, .int 0, .int 0])), (q1, .inl (cs 0, 160, .inl (fun _ => 0))), (q2, .inl (cs 0, 161, .inl (fun _ => 0)))] H _ := h
  refine lv_aload_n S.1 S.2.1 dX8_init_22 rfl (lv_at hl 0 rfl) ?_
  refine lv_sipush (v := 161) S.1 S.2.1 dX8_init_23 (by decide) ?_
  refine n_newI S h 161 (by decide) rfl (Nat.le_of_ble_eq_true rfl) (Nat.le_of_ble_eq_true rfl) (Nat.le_of_ble_eq_true rfl) dX8_init_26 (fun q3 H h => ?_)
  refine n_putF S hin h wi_X8 tyX8 tyX8_ok nmX8 0 rfl rfl 3 (by decide) rfl rfl rfl (ty := (tyX8 3)) (by decide +kernel) rfl rfl (Nat.le_of_ble_eq_true rfl) kf_X8_18 dX8_init_28 (fun H locs h => ?_)
  have h : Hc D cs (va_A [(h0, .inr (8, [.null, .int 0, .null, .null, .null, .int 0, .int 0, .null, .int 0, .int 0]))] s.heap.size) s [(h0, .inr (8, [.ref q1, .int 0, .ref q2, .ref q3, .null, .int 0, .int 0, .null, .int 0, .int 0])), (q1, .inl (cs 0, 160, .inl (fun _ => 0))), (q2, .inl (cs 0, 161, .inl (fun _ => 0))), (q3, .inl (cs 0, 161, .inl (fun _ => 0)))] H _ := h
  refine lv_aload_n S.1 S.2.1 dX8_init_31 rfl (lv_at hl 0 rfl) ?_
  refine lv_sipush (v := 161) S.1 S.2.1 dX8_init_32 (by decide) ?_
  refine n_newI S h 161 (by decide) rfl (Nat.le_of_ble_eq_true rfl) (Nat.le_of_ble_eq_true rfl) (Nat.le_of_ble_eq_true rfl) dX8_init_35 (fun q4 H h => ?_)
  refine n_putF S hin h wi_X8 tyX8 tyX8_ok nmX8 0 rfl rfl 4 (by decide) rfl rfl rfl (ty := (tyX8 4)) (by decide +kernel) rfl rfl (Nat.le_of_ble_eq_true rfl) kf_X8_21 dX8_init_37 (fun H locs h => ?_)
  have h : Hc D cs (va_A [(h0, .inr (8, [.null, .int 0, .null, .null, .null, .int 0, .int 0, .null, .int 0, .int 0]))] s.heap.size) s [(h0, .inr (8, [.ref q1, .int 0, .ref q2, .ref q3, .ref q4, .int 0, .int 0, .null, .int 0, .int 0])), (q1, .inl (cs 0, 160, .inl (fun _ => 0))), (q2, .inl (cs 0, 161, .inl (fun _ => 0))), (q3, .inl (cs 0, 161, .inl (fun _ => 0))), (q4, .inl (cs 0, 161, .inl (fun _ => 0)))] H _ := h
  refine lv_aload_n S.1 S.2.1 dX8_init_40 rfl (lv_at hl 0 rfl) ?_
  refine lv_sipush (v := 160) S.1 S.2.1 dX8_init_41 (by decide) ?_
  refine n_newI S h 160 (by decide) rfl (Nat.le_of_ble_eq_true rfl) (Nat.le_of_ble_eq_true rfl) (Nat.le_of_ble_eq_true rfl) dX8_init_44 (fun q5 H h => ?_)
  refine n_putF S hin h wi_X8 tyX8 tyX8_ok nmX8 0 rfl rfl 7 (by decide) rfl rfl rfl (ty := (tyX8 7)) (by decide +kernel) rfl rfl (Nat.le_of_ble_eq_true rfl) kf_X8_24 dX8_init_46 (fun H locs h => ?_)
  have h : Hc D cs (va_A [(h0, .inr (8, [.null, .int 0, .null, .null, .null, .int 0, .int 0, .null, .int 0, .int 0]))] s.heap.size) s [(h0, .inr (8, [.ref q1, .int 0, .ref q2, .ref q3, .ref q4, .int 0, .int 0, .ref q5, .int 0, .int 0])), (q1, .inl (cs 0, 160, .inl (fun _ => 0))), (q2, .inl (cs 0, 161, .inl (fun _ => 0))), (q3, .inl (cs 0, 161, .inl (fun _ => 0))), (q4, .inl (cs 0, 161, .inl (fun _ => 0))), (q5, .inl (cs 0, 160, .inl (fun _ => 0)))] H _ := h
  refine W.cs (cells' := 5) (slots' := 803) rfl rfl ?_
  exact n_end S hr hlk h ⟨q1, q2, q3, q4, q5, rfl⟩ dX8_init_49
set_option maxHeartbeats 20000000 in
set_option maxRecDepth 20000 in
theorem iX0_init {l : Launch} {D : va_G} {cs : Nat → ClassId} (h0 : Nat) (a1 : Nat) (a2 : Nat) : CC l D cs yX0_init cX0_init 3 1 10 1138 12 [.ref h0, .ref a1, .ref a2] (h0, .inr (0, [.null, .null, .int 0, .int 0, .null, .null, .null, .null, .int 0])) (fun ws => ∃ (q1 : Nat) (r1 : Nat → Nat) (q2 : Nat) (q3 : Nat) (q4 : Nat), ws = [(h0, .inr (0, [.ref a1, .ref a2, .int 0, .int 0, .ref q1, .ref q2, .ref q3, .ref q4, .int 0])), (q1, .inl (cs 3, 6, .inr (.inr (.inr (.inr (fun i => some (r1 i))))))), ((r1 0), .inl (cs 0, 160, .inl (fun _ => 0))), ((r1 1), .inl (cs 0, 160, .inl (fun _ => 0))), ((r1 2), .inl (cs 0, 160, .inl (fun _ => 0))), ((r1 3), .inl (cs 0, 160, .inl (fun _ => 0))), ((r1 4), .inl (cs 0, 160, .inl (fun _ => 0))), ((r1 5), .inl (cs 0, 160, .inl (fun _ => 0))), (q2, .inl (cs 0, 6, .inl (fun _ => 0))), (q3, .inl (cs 0, 6, .inl (fun _ => 0))), (q4, .inl (cs 0, 160, .inl (fun _ => 0)))]) := by
  refine CC.of (by decide) rfl (Nat.le_of_ble_eq_true rfl) ?_
  intro p e s m below meth c ls S hr hlk hin h hl
  have hl : lv_has ls 3 [(0, .ref h0), (1, .ref a1), (2, .ref a2)] := hl
  refine lv_aload_n S.1 S.2.1 dX0_init_0 rfl (lv_at hl 0 rfl) ?_
  refine n_obj S hl.1 (BG_tb (i := 244) (by decide +kernel) rfl) (Nat.le_of_ble_eq_true rfl) (Nat.le_of_ble_eq_true rfl) dX0_init_1 ?_
  refine lv_aload_n S.1 S.2.1 dX0_init_4 rfl (lv_at hl 0 rfl) ?_
  refine lv_bipush (v := 6) S.1 S.2.1 dX0_init_5 (by decide) ?_
  refine lv_sipush (v := 160) S.1 S.2.1 dX0_init_7 (by decide) ?_
  refine n_mna S h (BG_tb (i := 245) (by decide +kernel) rfl) 6 160 (by decide) (by decide) rfl rfl (Nat.le_of_ble_eq_true rfl) (Nat.le_of_ble_eq_true rfl) (Nat.le_of_ble_eq_true rfl) (Nat.le_of_ble_eq_true rfl) dX0_init_10 (fun q1 r1 H h => ?_)
  have h : Hc D cs (va_A [(h0, .inr (0, [.null, .null, .int 0, .int 0, .null, .null, .null, .null, .int 0]))] s.heap.size) s [(h0, .inr (0, [.null, .null, .int 0, .int 0, .null, .null, .null, .null, .int 0])), (q1, .inl (cs 3, 6, .inr (.inr (.inr (.inr (fun i => some (r1 i))))))), ((r1 0), .inl (cs 0, 160, .inl (fun _ => 0))), ((r1 1), .inl (cs 0, 160, .inl (fun _ => 0))), ((r1 2), .inl (cs 0, 160, .inl (fun _ => 0))), ((r1 3), .inl (cs 0, 160, .inl (fun _ => 0))), ((r1 4), .inl (cs 0, 160, .inl (fun _ => 0))), ((r1 5), .inl (cs 0, 160, .inl (fun _ => 0)))] H _ := h
  refine n_putF S hin h wi_X0 tyX0 tyX0_ok nmX0 0 rfl rfl 4 (by decide) rfl rfl rfl (ty := (tyX0 4)) (by decide +kernel) rfl rfl (Nat.le_of_ble_eq_true rfl) kf_X0_11 dX0_init_14 (fun H locs h => ?_)
  have h : Hc D cs (va_A [(h0, .inr (0, [.null, .null, .int 0, .int 0, .null, .null, .null, .null, .int 0]))] s.heap.size) s [(h0, .inr (0, [.null, .null, .int 0, .int 0, .ref q1, .null, .null, .null, .int 0])), (q1, .inl (cs 3, 6, .inr (.inr (.inr (.inr (fun i => some (r1 i))))))), ((r1 0), .inl (cs 0, 160, .inl (fun _ => 0))), ((r1 1), .inl (cs 0, 160, .inl (fun _ => 0))), ((r1 2), .inl (cs 0, 160, .inl (fun _ => 0))), ((r1 3), .inl (cs 0, 160, .inl (fun _ => 0))), ((r1 4), .inl (cs 0, 160, .inl (fun _ => 0))), ((r1 5), .inl (cs 0, 160, .inl (fun _ => 0)))] H _ := h
  refine lv_aload_n S.1 S.2.1 dX0_init_17 rfl (lv_at hl 0 rfl) ?_
  refine lv_bipush (v := 6) S.1 S.2.1 dX0_init_18 (by decide) ?_
  refine n_newI S h 6 (by decide) rfl (Nat.le_of_ble_eq_true rfl) (Nat.le_of_ble_eq_true rfl) (Nat.le_of_ble_eq_true rfl) dX0_init_20 (fun q2 H h => ?_)
  refine n_putF S hin h wi_X0 tyX0 tyX0_ok nmX0 0 rfl rfl 5 (by decide) rfl rfl rfl (ty := (tyX0 5)) (by decide +kernel) rfl rfl (Nat.le_of_ble_eq_true rfl) kf_X0_16 dX0_init_22 (fun H locs h => ?_)
  have h : Hc D cs (va_A [(h0, .inr (0, [.null, .null, .int 0, .int 0, .null, .null, .null, .null, .int 0]))] s.heap.size) s [(h0, .inr (0, [.null, .null, .int 0, .int 0, .ref q1, .ref q2, .null, .null, .int 0])), (q1, .inl (cs 3, 6, .inr (.inr (.inr (.inr (fun i => some (r1 i))))))), ((r1 0), .inl (cs 0, 160, .inl (fun _ => 0))), ((r1 1), .inl (cs 0, 160, .inl (fun _ => 0))), ((r1 2), .inl (cs 0, 160, .inl (fun _ => 0))), ((r1 3), .inl (cs 0, 160, .inl (fun _ => 0))), ((r1 4), .inl (cs 0, 160, .inl (fun _ => 0))), ((r1 5), .inl (cs 0, 160, .inl (fun _ => 0))), (q2, .inl (cs 0, 6, .inl (fun _ => 0)))] H _ := h
  refine lv_aload_n S.1 S.2.1 dX0_init_25 rfl (lv_at hl 0 rfl) ?_
  refine lv_bipush (v := 6) S.1 S.2.1 dX0_init_26 (by decide) ?_
  refine n_newI S h 6 (by decide) rfl (Nat.le_of_ble_eq_true rfl) (Nat.le_of_ble_eq_true rfl) (Nat.le_of_ble_eq_true rfl) dX0_init_28 (fun q3 H h => ?_)
  refine n_putF S hin h wi_X0 tyX0 tyX0_ok nmX0 0 rfl rfl 6 (by decide) rfl rfl rfl (ty := (tyX0 6)) (by decide +kernel) rfl rfl (Nat.le_of_ble_eq_true rfl) kf_X0_20 dX0_init_30 (fun H locs h => ?_)
  have h : Hc D cs (va_A [(h0, .inr (0, [.null, .null, .int 0, .int 0, .null, .null, .null, .null, .int 0]))] s.heap.size) s [(h0, .inr (0, [.null, .null, .int 0, .int 0, .ref q1, .ref q2, .ref q3, .null, .int 0])), (q1, .inl (cs 3, 6, .inr (.inr (.inr (.inr (fun i => some (r1 i))))))), ((r1 0), .inl (cs 0, 160, .inl (fun _ => 0))), ((r1 1), .inl (cs 0, 160, .inl (fun _ => 0))), ((r1 2), .inl (cs 0, 160, .inl (fun _ => 0))), ((r1 3), .inl (cs 0, 160, .inl (fun _ => 0))), ((r1 4), .inl (cs 0, 160, .inl (fun _ => 0))), ((r1 5), .inl (cs 0, 160, .inl (fun _ => 0))), (q2, .inl (cs 0, 6, .inl (fun _ => 0))), (q3, .inl (cs 0, 6, .inl (fun _ => 0)))] H _ := h
  refine lv_aload_n S.1 S.2.1 dX0_init_33 rfl (lv_at hl 0 rfl) ?_
  refine lv_sipush (v := 160) S.1 S.2.1 dX0_init_34 (by decide) ?_
  refine n_newI S h 160 (by decide) rfl (Nat.le_of_ble_eq_true rfl) (Nat.le_of_ble_eq_true rfl) (Nat.le_of_ble_eq_true rfl) dX0_init_37 (fun q4 H h => ?_)
  refine n_putF S hin h wi_X0 tyX0 tyX0_ok nmX0 0 rfl rfl 7 (by decide) rfl rfl rfl (ty := (tyX0 7)) (by decide +kernel) rfl rfl (Nat.le_of_ble_eq_true rfl) kf_X0_23 dX0_init_39 (fun H locs h => ?_)
  have h : Hc D cs (va_A [(h0, .inr (0, [.null, .null, .int 0, .int 0, .null, .null, .null, .null, .int 0]))] s.heap.size) s [(h0, .inr (0, [.null, .null, .int 0, .int 0, .ref q1, .ref q2, .ref q3, .ref q4, .int 0])), (q1, .inl (cs 3, 6, .inr (.inr (.inr (.inr (fun i => some (r1 i))))))), ((r1 0), .inl (cs 0, 160, .inl (fun _ => 0))), ((r1 1), .inl (cs 0, 160, .inl (fun _ => 0))), ((r1 2), .inl (cs 0, 160, .inl (fun _ => 0))), ((r1 3), .inl (cs 0, 160, .inl (fun _ => 0))), ((r1 4), .inl (cs 0, 160, .inl (fun _ => 0))), ((r1 5), .inl (cs 0, 160, .inl (fun _ => 0))), (q2, .inl (cs 0, 6, .inl (fun _ => 0))), (q3, .inl (cs 0, 6, .inl (fun _ => 0))), (q4, .inl (cs 0, 160, .inl (fun _ => 0)))] H _ := h
  refine lv_aload_n S.1 S.2.1 dX0_init_42 rfl (lv_at hl 0 rfl) ?_
  refine lv_aload_n S.1 S.2.1 dX0_init_43 rfl (lv_at hl 1 rfl) ?_
  refine n_putF S hin h wi_X0 tyX0 tyX0_ok nmX0 0 rfl rfl 0 (by decide) rfl rfl rfl (ty := (tyX0 0)) (by decide +kernel) rfl rfl (Nat.le_of_ble_eq_true rfl) kf_X0_26 dX0_init_44 (fun H locs h => ?_)
  have h : Hc D cs (va_A [(h0, .inr (0, [.null, .null, .int 0, .int 0, .null, .null, .null, .null, .int 0]))] s.heap.size) s [(h0, .inr (0, [.ref a1, .null, .int 0, .int 0, .ref q1, .ref q2, .ref q3, .ref q4, .int 0])), (q1, .inl (cs 3, 6, .inr (.inr (.inr (.inr (fun i => some (r1 i))))))), ((r1 0), .inl (cs 0, 160, .inl (fun _ => 0))), ((r1 1), .inl (cs 0, 160, .inl (fun _ => 0))), ((r1 2), .inl (cs 0, 160, .inl (fun _ => 0))), ((r1 3), .inl (cs 0, 160, .inl (fun _ => 0))), ((r1 4), .inl (cs 0, 160, .inl (fun _ => 0))), ((r1 5), .inl (cs 0, 160, .inl (fun _ => 0))), (q2, .inl (cs 0, 6, .inl (fun _ => 0))), (q3, .inl (cs 0, 6, .inl (fun _ => 0))), (q4, .inl (cs 0, 160, .inl (fun _ => 0)))] H _ := h
  refine lv_aload_n S.1 S.2.1 dX0_init_47 rfl (lv_at hl 0 rfl) ?_
  refine lv_aload_n S.1 S.2.1 dX0_init_48 rfl (lv_at hl 2 rfl) ?_
  refine n_putF S hin h wi_X0 tyX0 tyX0_ok nmX0 0 rfl rfl 1 (by decide) rfl rfl rfl (ty := (tyX0 1)) (by decide +kernel) rfl rfl (Nat.le_of_ble_eq_true rfl) kf_X0_30 dX0_init_49 (fun H locs h => ?_)
  have h : Hc D cs (va_A [(h0, .inr (0, [.null, .null, .int 0, .int 0, .null, .null, .null, .null, .int 0]))] s.heap.size) s [(h0, .inr (0, [.ref a1, .ref a2, .int 0, .int 0, .ref q1, .ref q2, .ref q3, .ref q4, .int 0])), (q1, .inl (cs 3, 6, .inr (.inr (.inr (.inr (fun i => some (r1 i))))))), ((r1 0), .inl (cs 0, 160, .inl (fun _ => 0))), ((r1 1), .inl (cs 0, 160, .inl (fun _ => 0))), ((r1 2), .inl (cs 0, 160, .inl (fun _ => 0))), ((r1 3), .inl (cs 0, 160, .inl (fun _ => 0))), ((r1 4), .inl (cs 0, 160, .inl (fun _ => 0))), ((r1 5), .inl (cs 0, 160, .inl (fun _ => 0))), (q2, .inl (cs 0, 6, .inl (fun _ => 0))), (q3, .inl (cs 0, 6, .inl (fun _ => 0))), (q4, .inl (cs 0, 160, .inl (fun _ => 0)))] H _ := h
  refine W.cs (cells' := 10) (slots' := 1138) rfl rfl ?_
  exact n_end S hr hlk h ⟨q1, r1, q2, q3, q4, rfl⟩ dX0_init_52
set_option maxHeartbeats 20000000 in
set_option maxRecDepth 20000 in
theorem iX2_init {l : Launch} {D : va_G} {cs : Nat → ClassId} (h0 : Nat) (a1 : Nat) (a2 : Nat) (a3 : Nat) (a4 : Nat) : CC l D cs yX2_init cX2_init 5 1 3 90 12 [.ref h0, .ref a1, .ref a2, .ref a3, .ref a4] (h0, .inr (2, [.null, .null, .null, .null, .int 0, .int 0, .null, .null, .null])) (fun ws => ∃ (q1 : Nat) (q2 : Nat) (q3 : Nat), ws = [(h0, .inr (2, [.ref a1, .ref a2, .ref a3, .ref a4, .int 0, .int 0, .ref q1, .ref q2, .ref q3])), (q1, .inl (cs 0, 30, .inl (fun _ => 0))), (q2, .inl (cs 0, 30, .inl (fun _ => 0))), (q3, .inl (cs 0, 30, .inl (fun _ => 0)))]) := by
  refine CC.of (by decide) rfl (Nat.le_of_ble_eq_true rfl) ?_
  intro p e s m below meth c ls S hr hlk hin h hl
  have hl : lv_has ls 5 [(0, .ref h0), (1, .ref a1), (2, .ref a2), (3, .ref a3), (4, .ref a4)] := hl
  refine lv_aload_n S.1 S.2.1 dX2_init_0 rfl (lv_at hl 0 rfl) ?_
  refine n_obj S hl.1 (BG_tb (i := 281) (by decide +kernel) rfl) (Nat.le_of_ble_eq_true rfl) (Nat.le_of_ble_eq_true rfl) dX2_init_1 ?_
  refine lv_aload_n S.1 S.2.1 dX2_init_4 rfl (lv_at hl 0 rfl) ?_
  refine lv_bipush (v := 30) S.1 S.2.1 dX2_init_5 (by decide) ?_
  refine n_newI S h 30 (by decide) rfl (Nat.le_of_ble_eq_true rfl) (Nat.le_of_ble_eq_true rfl) (Nat.le_of_ble_eq_true rfl) dX2_init_7 (fun q1 H h => ?_)
  refine n_putF S hin h wi_X2 tyX2 tyX2_ok nmX2 0 rfl rfl 6 (by decide) rfl rfl rfl (ty := (tyX2 6)) (by decide +kernel) rfl rfl (Nat.le_of_ble_eq_true rfl) kf_X2_9 dX2_init_9 (fun H locs h => ?_)
  have h : Hc D cs (va_A [(h0, .inr (2, [.null, .null, .null, .null, .int 0, .int 0, .null, .null, .null]))] s.heap.size) s [(h0, .inr (2, [.null, .null, .null, .null, .int 0, .int 0, .ref q1, .null, .null])), (q1, .inl (cs 0, 30, .inl (fun _ => 0)))] H _ := h
  refine lv_aload_n S.1 S.2.1 dX2_init_12 rfl (lv_at hl 0 rfl) ?_
  refine lv_bipush (v := 30) S.1 S.2.1 dX2_init_13 (by decide) ?_
  refine n_newI S h 30 (by decide) rfl (Nat.le_of_ble_eq_true rfl) (Nat.le_of_ble_eq_true rfl) (Nat.le_of_ble_eq_true rfl) dX2_init_15 (fun q2 H h => ?_)
  refine n_putF S hin h wi_X2 tyX2 tyX2_ok nmX2 0 rfl rfl 7 (by decide) rfl rfl rfl (ty := (tyX2 7)) (by decide +kernel) rfl rfl (Nat.le_of_ble_eq_true rfl) kf_X2_15 dX2_init_17 (fun H locs h => ?_)
  have h : Hc D cs (va_A [(h0, .inr (2, [.null, .null, .null, .null, .int 0, .int 0, .null, .null, .null]))] s.heap.size) s [(h0, .inr (2, [.null, .null, .null, .null, .int 0, .int 0, .ref q1, .ref q2, .null])), (q1, .inl (cs 0, 30, .inl (fun _ => 0))), (q2, .inl (cs 0, 30, .inl (fun _ => 0)))] H _ := h
  refine lv_aload_n S.1 S.2.1 dX2_init_20 rfl (lv_at hl 0 rfl) ?_
  refine lv_bipush (v := 30) S.1 S.2.1 dX2_init_21 (by decide) ?_
  refine n_newI S h 30 (by decide) rfl (Nat.le_of_ble_eq_true rfl) (Nat.le_of_ble_eq_true rfl) (Nat.le_of_ble_eq_true rfl) dX2_init_23 (fun q3 H h => ?_)
  refine n_putF S hin h wi_X2 tyX2 tyX2_ok nmX2 0 rfl rfl 8 (by decide) rfl rfl rfl (ty := (tyX2 8)) (by decide +kernel) rfl rfl (Nat.le_of_ble_eq_true rfl) kf_X2_18 dX2_init_25 (fun H locs h => ?_)
  have h : Hc D cs (va_A [(h0, .inr (2, [.null, .null, .null, .null, .int 0, .int 0, .null, .null, .null]))] s.heap.size) s [(h0, .inr (2, [.null, .null, .null, .null, .int 0, .int 0, .ref q1, .ref q2, .ref q3])), (q1, .inl (cs 0, 30, .inl (fun _ => 0))), (q2, .inl (cs 0, 30, .inl (fun _ => 0))), (q3, .inl (cs 0, 30, .inl (fun _ => 0)))] H _ := h
  refine lv_aload_n S.1 S.2.1 dX2_init_28 rfl (lv_at hl 0 rfl) ?_
  refine lv_aload_n S.1 S.2.1 dX2_init_29 rfl (lv_at hl 1 rfl) ?_
  refine n_putF S hin h wi_X2 tyX2 tyX2_ok nmX2 0 rfl rfl 0 (by decide) rfl rfl rfl (ty := (tyX2 0)) (by decide +kernel) rfl rfl (Nat.le_of_ble_eq_true rfl) kf_X2_21 dX2_init_30 (fun H locs h => ?_)
  have h : Hc D cs (va_A [(h0, .inr (2, [.null, .null, .null, .null, .int 0, .int 0, .null, .null, .null]))] s.heap.size) s [(h0, .inr (2, [.ref a1, .null, .null, .null, .int 0, .int 0, .ref q1, .ref q2, .ref q3])), (q1, .inl (cs 0, 30, .inl (fun _ => 0))), (q2, .inl (cs 0, 30, .inl (fun _ => 0))), (q3, .inl (cs 0, 30, .inl (fun _ => 0)))] H _ := h
  refine lv_aload_n S.1 S.2.1 dX2_init_33 rfl (lv_at hl 0 rfl) ?_
  refine lv_aload_n S.1 S.2.1 dX2_init_34 rfl (lv_at hl 2 rfl) ?_
  refine n_putF S hin h wi_X2 tyX2 tyX2_ok nmX2 0 rfl rfl 1 (by decide) rfl rfl rfl (ty := (tyX2 1)) (by decide +kernel) rfl rfl (Nat.le_of_ble_eq_true rfl) kf_X2_25 dX2_init_35 (fun H locs h => ?_)
  have h : Hc D cs (va_A [(h0, .inr (2, [.null, .null, .null, .null, .int 0, .int 0, .null, .null, .null]))] s.heap.size) s [(h0, .inr (2, [.ref a1, .ref a2, .null, .null, .int 0, .int 0, .ref q1, .ref q2, .ref q3])), (q1, .inl (cs 0, 30, .inl (fun _ => 0))), (q2, .inl (cs 0, 30, .inl (fun _ => 0))), (q3, .inl (cs 0, 30, .inl (fun _ => 0)))] H _ := h
  refine lv_aload_n S.1 S.2.1 dX2_init_38 rfl (lv_at hl 0 rfl) ?_
  refine lv_aload_n S.1 S.2.1 dX2_init_39 rfl (lv_at hl 3 rfl) ?_
  refine n_putF S hin h wi_X2 tyX2 tyX2_ok nmX2 0 rfl rfl 2 (by decide) rfl rfl rfl (ty := (tyX2 2)) (by decide +kernel) rfl rfl (Nat.le_of_ble_eq_true rfl) kf_X2_29 dX2_init_40 (fun H locs h => ?_)
  have h : Hc D cs (va_A [(h0, .inr (2, [.null, .null, .null, .null, .int 0, .int 0, .null, .null, .null]))] s.heap.size) s [(h0, .inr (2, [.ref a1, .ref a2, .ref a3, .null, .int 0, .int 0, .ref q1, .ref q2, .ref q3])), (q1, .inl (cs 0, 30, .inl (fun _ => 0))), (q2, .inl (cs 0, 30, .inl (fun _ => 0))), (q3, .inl (cs 0, 30, .inl (fun _ => 0)))] H _ := h
  refine lv_aload_n S.1 S.2.1 dX2_init_43 rfl (lv_at hl 0 rfl) ?_
  refine lv_aload S.1 S.2.1 dX2_init_44 (lv_at hl 4 rfl) ?_
  refine n_putF S hin h wi_X2 tyX2 tyX2_ok nmX2 0 rfl rfl 3 (by decide) rfl rfl rfl (ty := (tyX2 3)) (by decide +kernel) rfl rfl (Nat.le_of_ble_eq_true rfl) kf_X2_33 dX2_init_46 (fun H locs h => ?_)
  have h : Hc D cs (va_A [(h0, .inr (2, [.null, .null, .null, .null, .int 0, .int 0, .null, .null, .null]))] s.heap.size) s [(h0, .inr (2, [.ref a1, .ref a2, .ref a3, .ref a4, .int 0, .int 0, .ref q1, .ref q2, .ref q3])), (q1, .inl (cs 0, 30, .inl (fun _ => 0))), (q2, .inl (cs 0, 30, .inl (fun _ => 0))), (q3, .inl (cs 0, 30, .inl (fun _ => 0)))] H _ := h
  refine W.cs (cells' := 3) (slots' := 90) rfl rfl ?_
  exact n_end S hr hlk h ⟨q1, q2, q3, rfl⟩ dX2_init_49
set_option maxHeartbeats 20000000 in
set_option maxRecDepth 20000 in
theorem iX7_init {l : Launch} {D : va_G} {cs : Nat → ClassId} (h0 : Nat) : CC l D cs yX7_init cX7_init 1 1 3 60 12 [.ref h0] (h0, .inr (7, [.int 0, .null, .null, .null])) (fun ws => ∃ (q1 : Nat) (q2 : Nat) (q3 : Nat), ws = [(h0, .inr (7, [.int 0, .ref q1, .ref q2, .ref q3])), (q1, .inl (cs 0, 20, .inl (fun _ => 0))), (q2, .inl (cs 0, 20, .inl (fun _ => 0))), (q3, .inl (cs 0, 20, .inl (fun _ => 0)))]) := by
  refine CC.of (by decide) rfl (Nat.le_of_ble_eq_true rfl) ?_
  intro p e s m below meth c ls S hr hlk hin h hl
  have hl : lv_has ls 1 [(0, .ref h0)] := hl
  refine lv_aload_n S.1 S.2.1 dX7_init_0 rfl (lv_at hl 0 rfl) ?_
  refine n_obj S hl.1 (BG_tb (i := 317) (by decide +kernel) rfl) (Nat.le_of_ble_eq_true rfl) (Nat.le_of_ble_eq_true rfl) dX7_init_1 ?_
  refine lv_aload_n S.1 S.2.1 dX7_init_4 rfl (lv_at hl 0 rfl) ?_
  refine lv_bipush (v := 20) S.1 S.2.1 dX7_init_5 (by decide) ?_
  refine n_newI S h 20 (by decide) rfl (Nat.le_of_ble_eq_true rfl) (Nat.le_of_ble_eq_true rfl) (Nat.le_of_ble_eq_true rfl) dX7_init_7 (fun q1 H h => ?_)
  refine n_putF S hin h wi_X7 tyX7 tyX7_ok nmX7 0 rfl rfl 1 (by decide) rfl rfl rfl (ty := (tyX7 1)) (by decide +kernel) rfl rfl (Nat.le_of_ble_eq_true rfl) kf_X7_9 dX7_init_9 (fun H locs h => ?_)
  have h : Hc D cs (va_A [(h0, .inr (7, [.int 0, .null, .null, .null]))] s.heap.size) s [(h0, .inr (7, [.int 0, .ref q1, .null, .null])), (q1, .inl (cs 0, 20, .inl (fun _ => 0)))] H _ := h
  refine lv_aload_n S.1 S.2.1 dX7_init_12 rfl (lv_at hl 0 rfl) ?_
  refine lv_bipush (v := 20) S.1 S.2.1 dX7_init_13 (by decide) ?_
  refine n_newI S h 20 (by decide) rfl (Nat.le_of_ble_eq_true rfl) (Nat.le_of_ble_eq_true rfl) (Nat.le_of_ble_eq_true rfl) dX7_init_15 (fun q2 H h => ?_)
  refine n_putF S hin h wi_X7 tyX7 tyX7_ok nmX7 0 rfl rfl 2 (by decide) rfl rfl rfl (ty := (tyX7 2)) (by decide +kernel) rfl rfl (Nat.le_of_ble_eq_true rfl) kf_X7_15 dX7_init_17 (fun H locs h => ?_)
  have h : Hc D cs (va_A [(h0, .inr (7, [.int 0, .null, .null, .null]))] s.heap.size) s [(h0, .inr (7, [.int 0, .ref q1, .ref q2, .null])), (q1, .inl (cs 0, 20, .inl (fun _ => 0))), (q2, .inl (cs 0, 20, .inl (fun _ => 0)))] H _ := h
  refine lv_aload_n S.1 S.2.1 dX7_init_20 rfl (lv_at hl 0 rfl) ?_
  refine lv_bipush (v := 20) S.1 S.2.1 dX7_init_21 (by decide) ?_
  refine n_newI S h 20 (by decide) rfl (Nat.le_of_ble_eq_true rfl) (Nat.le_of_ble_eq_true rfl) (Nat.le_of_ble_eq_true rfl) dX7_init_23 (fun q3 H h => ?_)
  refine n_putF S hin h wi_X7 tyX7 tyX7_ok nmX7 0 rfl rfl 3 (by decide) rfl rfl rfl (ty := (tyX7 3)) (by decide +kernel) rfl rfl (Nat.le_of_ble_eq_true rfl) kf_X7_18 dX7_init_25 (fun H locs h => ?_)
  have h : Hc D cs (va_A [(h0, .inr (7, [.int 0, .null, .null, .null]))] s.heap.size) s [(h0, .inr (7, [.int 0, .ref q1, .ref q2, .ref q3])), (q1, .inl (cs 0, 20, .inl (fun _ => 0))), (q2, .inl (cs 0, 20, .inl (fun _ => 0))), (q3, .inl (cs 0, 20, .inl (fun _ => 0)))] H _ := h
  refine W.cs (cells' := 3) (slots' := 60) rfl rfl ?_
  exact n_end S hr hlk h ⟨q1, q2, q3, rfl⟩ dX7_init_28
set_option maxHeartbeats 20000000 in
set_option maxRecDepth 20000 in
theorem iX10_init {l : Launch} {D : va_G} {cs : Nat → ClassId} (h0 : Nat) (a1 : Nat) : CC l D cs yX10_init cX10_init 2 1 2 96 12 [.ref h0, .ref a1] (h0, .inr (10, [.null, .null, .null])) (fun ws => ∃ (q1 : Nat) (q2 : Nat), ws = [(h0, .inr (10, [.ref a1, .ref q1, .ref q2])), (q1, .inl (cs 0, 48, .inl (fun _ => 0))), (q2, .inl (cs 0, 48, .inl (fun _ => 0)))]) := by
  refine CC.of (by decide) rfl (Nat.le_of_ble_eq_true rfl) ?_
  intro p e s m below meth c ls S hr hlk hin h hl
  have hl : lv_has ls 2 [(0, .ref h0), (1, .ref a1)] := hl
  refine lv_aload_n S.1 S.2.1 dX10_init_0 rfl (lv_at hl 0 rfl) ?_
  refine n_obj S hl.1 (BG_tb (i := 337) (by decide +kernel) rfl) (Nat.le_of_ble_eq_true rfl) (Nat.le_of_ble_eq_true rfl) dX10_init_1 ?_
  refine lv_aload_n S.1 S.2.1 dX10_init_4 rfl (lv_at hl 0 rfl) ?_
  refine lv_bipush (v := 48) S.1 S.2.1 dX10_init_5 (by decide) ?_
  refine n_newI S h 48 (by decide) rfl (Nat.le_of_ble_eq_true rfl) (Nat.le_of_ble_eq_true rfl) (Nat.le_of_ble_eq_true rfl) dX10_init_7 (fun q1 H h => ?_)
  refine n_putF S hin h wi_X10 tyX10 tyX10_ok nmX10 0 rfl rfl 1 (by decide) rfl rfl rfl (ty := (tyX10 1)) (by decide +kernel) rfl rfl (Nat.le_of_ble_eq_true rfl) kf_X10_9 dX10_init_9 (fun H locs h => ?_)
  have h : Hc D cs (va_A [(h0, .inr (10, [.null, .null, .null]))] s.heap.size) s [(h0, .inr (10, [.null, .ref q1, .null])), (q1, .inl (cs 0, 48, .inl (fun _ => 0)))] H _ := h
  refine lv_aload_n S.1 S.2.1 dX10_init_12 rfl (lv_at hl 0 rfl) ?_
  refine lv_bipush (v := 48) S.1 S.2.1 dX10_init_13 (by decide) ?_
  refine n_newI S h 48 (by decide) rfl (Nat.le_of_ble_eq_true rfl) (Nat.le_of_ble_eq_true rfl) (Nat.le_of_ble_eq_true rfl) dX10_init_15 (fun q2 H h => ?_)
  refine n_putF S hin h wi_X10 tyX10 tyX10_ok nmX10 0 rfl rfl 2 (by decide) rfl rfl rfl (ty := (tyX10 2)) (by decide +kernel) rfl rfl (Nat.le_of_ble_eq_true rfl) kf_X10_15 dX10_init_17 (fun H locs h => ?_)
  have h : Hc D cs (va_A [(h0, .inr (10, [.null, .null, .null]))] s.heap.size) s [(h0, .inr (10, [.null, .ref q1, .ref q2])), (q1, .inl (cs 0, 48, .inl (fun _ => 0))), (q2, .inl (cs 0, 48, .inl (fun _ => 0)))] H _ := h
  refine lv_aload_n S.1 S.2.1 dX10_init_20 rfl (lv_at hl 0 rfl) ?_
  refine lv_aload_n S.1 S.2.1 dX10_init_21 rfl (lv_at hl 1 rfl) ?_
  refine n_putF S hin h wi_X10 tyX10 tyX10_ok nmX10 0 rfl rfl 0 (by decide) rfl rfl rfl (ty := (tyX10 0)) (by decide +kernel) rfl rfl (Nat.le_of_ble_eq_true rfl) kf_X10_18 dX10_init_22 (fun H locs h => ?_)
  have h : Hc D cs (va_A [(h0, .inr (10, [.null, .null, .null]))] s.heap.size) s [(h0, .inr (10, [.ref a1, .ref q1, .ref q2])), (q1, .inl (cs 0, 48, .inl (fun _ => 0))), (q2, .inl (cs 0, 48, .inl (fun _ => 0)))] H _ := h
  refine W.cs (cells' := 2) (slots' := 96) rfl rfl ?_
  exact n_end S hr hlk h ⟨q1, q2, rfl⟩ dX10_init_25
set_option maxHeartbeats 20000000 in
set_option maxRecDepth 20000 in
theorem iX1_init {l : Launch} {D : va_G} {cs : Nat → ClassId} (h0 : Nat) (a1 : Nat) (a2 : Nat) (a3 : Nat) : CC l D cs yX1_init cX1_init 4 1 4 140 12 [.ref h0, .ref a1, .ref a2, .ref a3] (h0, .inr (1, [.null, .null, .null, .int 0, .null, .null, .null, .null])) (fun ws => ∃ (q1 : Nat) (q2 : Nat) (q3 : Nat) (q4 : Nat), ws = [(h0, .inr (1, [.ref a1, .ref a2, .ref a3, .int 0, .ref q1, .ref q2, .ref q3, .ref q4])), (q1, .inl (cs 0, 6, .inl (fun _ => 0))), (q2, .inl (cs 0, 6, .inl (fun _ => 0))), (q3, .inl (cs 0, 64, .inl (fun _ => 0))), (q4, .inl (cs 0, 64, .inl (fun _ => 0)))]) := by
  refine CC.of (by decide) rfl (Nat.le_of_ble_eq_true rfl) ?_
  intro p e s m below meth c ls S hr hlk hin h hl
  have hl : lv_has ls 4 [(0, .ref h0), (1, .ref a1), (2, .ref a2), (3, .ref a3)] := hl
  refine lv_aload_n S.1 S.2.1 dX1_init_0 rfl (lv_at hl 0 rfl) ?_
  refine n_obj S hl.1 (BG_tb (i := 353) (by decide +kernel) rfl) (Nat.le_of_ble_eq_true rfl) (Nat.le_of_ble_eq_true rfl) dX1_init_1 ?_
  refine lv_aload_n S.1 S.2.1 dX1_init_4 rfl (lv_at hl 0 rfl) ?_
  refine lv_bipush (v := 6) S.1 S.2.1 dX1_init_5 (by decide) ?_
  refine n_newI S h 6 (by decide) rfl (Nat.le_of_ble_eq_true rfl) (Nat.le_of_ble_eq_true rfl) (Nat.le_of_ble_eq_true rfl) dX1_init_7 (fun q1 H h => ?_)
  refine n_putF S hin h wi_X1 tyX1 tyX1_ok nmX1 0 rfl rfl 4 (by decide) rfl rfl rfl (ty := (tyX1 4)) (by decide +kernel) rfl rfl (Nat.le_of_ble_eq_true rfl) kf_X1_9 dX1_init_9 (fun H locs h => ?_)
  have h : Hc D cs (va_A [(h0, .inr (1, [.null, .null, .null, .int 0, .null, .null, .null, .null]))] s.heap.size) s [(h0, .inr (1, [.null, .null, .null, .int 0, .ref q1, .null, .null, .null])), (q1, .inl (cs 0, 6, .inl (fun _ => 0)))] H _ := h
  refine lv_aload_n S.1 S.2.1 dX1_init_12 rfl (lv_at hl 0 rfl) ?_
  refine lv_bipush (v := 6) S.1 S.2.1 dX1_init_13 (by decide) ?_
  refine n_newI S h 6 (by decide) rfl (Nat.le_of_ble_eq_true rfl) (Nat.le_of_ble_eq_true rfl) (Nat.le_of_ble_eq_true rfl) dX1_init_15 (fun q2 H h => ?_)
  refine n_putF S hin h wi_X1 tyX1 tyX1_ok nmX1 0 rfl rfl 5 (by decide) rfl rfl rfl (ty := (tyX1 5)) (by decide +kernel) rfl rfl (Nat.le_of_ble_eq_true rfl) kf_X1_15 dX1_init_17 (fun H locs h => ?_)
  have h : Hc D cs (va_A [(h0, .inr (1, [.null, .null, .null, .int 0, .null, .null, .null, .null]))] s.heap.size) s [(h0, .inr (1, [.null, .null, .null, .int 0, .ref q1, .ref q2, .null, .null])), (q1, .inl (cs 0, 6, .inl (fun _ => 0))), (q2, .inl (cs 0, 6, .inl (fun _ => 0)))] H _ := h
  refine lv_aload_n S.1 S.2.1 dX1_init_20 rfl (lv_at hl 0 rfl) ?_
  refine lv_bipush (v := 64) S.1 S.2.1 dX1_init_21 (by decide) ?_
  refine n_newI S h 64 (by decide) rfl (Nat.le_of_ble_eq_true rfl) (Nat.le_of_ble_eq_true rfl) (Nat.le_of_ble_eq_true rfl) dX1_init_23 (fun q3 H h => ?_)
  refine n_putF S hin h wi_X1 tyX1 tyX1_ok nmX1 0 rfl rfl 6 (by decide) rfl rfl rfl (ty := (tyX1 6)) (by decide +kernel) rfl rfl (Nat.le_of_ble_eq_true rfl) kf_X1_18 dX1_init_25 (fun H locs h => ?_)
  have h : Hc D cs (va_A [(h0, .inr (1, [.null, .null, .null, .int 0, .null, .null, .null, .null]))] s.heap.size) s [(h0, .inr (1, [.null, .null, .null, .int 0, .ref q1, .ref q2, .ref q3, .null])), (q1, .inl (cs 0, 6, .inl (fun _ => 0))), (q2, .inl (cs 0, 6, .inl (fun _ => 0))), (q3, .inl (cs 0, 64, .inl (fun _ => 0)))] H _ := h
  refine lv_aload_n S.1 S.2.1 dX1_init_28 rfl (lv_at hl 0 rfl) ?_
  refine lv_bipush (v := 64) S.1 S.2.1 dX1_init_29 (by decide) ?_
  refine n_newI S h 64 (by decide) rfl (Nat.le_of_ble_eq_true rfl) (Nat.le_of_ble_eq_true rfl) (Nat.le_of_ble_eq_true rfl) dX1_init_31 (fun q4 H h => ?_)
  refine n_putF S hin h wi_X1 tyX1 tyX1_ok nmX1 0 rfl rfl 7 (by decide) rfl rfl rfl (ty := (tyX1 7)) (by decide +kernel) rfl rfl (Nat.le_of_ble_eq_true rfl) kf_X1_21 dX1_init_33 (fun H locs h => ?_)
  have h : Hc D cs (va_A [(h0, .inr (1, [.null, .null, .null, .int 0, .null, .null, .null, .null]))] s.heap.size) s [(h0, .inr (1, [.null, .null, .null, .int 0, .ref q1, .ref q2, .ref q3, .ref q4])), (q1, .inl (cs 0, 6, .inl (fun _ => 0))), (q2, .inl (cs 0, 6, .inl (fun _ => 0))), (q3, .inl (cs 0, 64, .inl (fun _ => 0))), (q4, .inl (cs 0, 64, .inl (fun _ => 0)))] H _ := h
  refine lv_aload_n S.1 S.2.1 dX1_init_36 rfl (lv_at hl 0 rfl) ?_
  refine lv_aload_n S.1 S.2.1 dX1_init_37 rfl (lv_at hl 1 rfl) ?_
  refine n_putF S hin h wi_X1 tyX1 tyX1_ok nmX1 0 rfl rfl 0 (by decide) rfl rfl rfl (ty := (tyX1 0)) (by decide +kernel) rfl rfl (Nat.le_of_ble_eq_true rfl) kf_X1_24 dX1_init_38 (fun H locs h => ?_)
  have h : Hc D cs (va_A [(h0, .inr (1, [.null, .null, .null, .int 0, .null, .null, .null, .null]))] s.heap.size) s [(h0, .inr (1, [.ref a1, .null, .null, .int 0, .ref q1, .ref q2, .ref q3, .ref q4])), (q1, .inl (cs 0, 6, .inl (fun _ => 0))), (q2, .inl (cs 0, 6, .inl (fun _ => 0))), (q3, .inl (cs 0, 64, .inl (fun _ => 0))), (q4, .inl (cs 0, 64, .inl (fun _ => 0)))] H _ := h
  refine lv_aload_n S.1 S.2.1 dX1_init_41 rfl (lv_at hl 0 rfl) ?_
  refine lv_aload_n S.1 S.2.1 dX1_init_42 rfl (lv_at hl 2 rfl) ?_
  refine n_putF S hin h wi_X1 tyX1 tyX1_ok nmX1 0 rfl rfl 1 (by decide) rfl rfl rfl (ty := (tyX1 1)) (by decide +kernel) rfl rfl (Nat.le_of_ble_eq_true rfl) kf_X1_28 dX1_init_43 (fun H locs h => ?_)
  have h : Hc D cs (va_A [(h0, .inr (1, [.null, .null, .null, .int 0, .null, .null, .null, .null]))] s.heap.size) s [(h0, .inr (1, [.ref a1, .ref a2, .null, .int 0, .ref q1, .ref q2, .ref q3, .ref q4])), (q1, .inl (cs 0, 6, .inl (fun _ => 0))), (q2, .inl (cs 0, 6, .inl (fun _ => 0))), (q3, .inl (cs 0, 64, .inl (fun _ => 0))), (q4, .inl (cs 0, 64, .inl (fun _ => 0)))] H _ := h
  refine lv_aload_n S.1 S.2.1 dX1_init_46 rfl (lv_at hl 0 rfl) ?_
  refine lv_aload_n S.1 S.2.1 dX1_init_47 rfl (lv_at hl 3 rfl) ?_
  refine n_putF S hin h wi_X1 tyX1 tyX1_ok nmX1 0 rfl rfl 2 (by decide) rfl rfl rfl (ty := (tyX1 2)) (by decide +kernel) rfl rfl (Nat.le_of_ble_eq_true rfl) kf_X1_32 dX1_init_48 (fun H locs h => ?_)
  have h : Hc D cs (va_A [(h0, .inr (1, [.null, .null, .null, .int 0, .null, .null, .null, .null]))] s.heap.size) s [(h0, .inr (1, [.ref a1, .ref a2, .ref a3, .int 0, .ref q1, .ref q2, .ref q3, .ref q4])), (q1, .inl (cs 0, 6, .inl (fun _ => 0))), (q2, .inl (cs 0, 6, .inl (fun _ => 0))), (q3, .inl (cs 0, 64, .inl (fun _ => 0))), (q4, .inl (cs 0, 64, .inl (fun _ => 0)))] H _ := h
  refine W.cs (cells' := 4) (slots' := 140) rfl rfl ?_
  exact n_end S hr hlk h ⟨q1, q2, q3, q4, rfl⟩ dX1_init_51
set_option maxHeartbeats 20000000 in
set_option maxRecDepth 20000 in
theorem iX9_init {l : Launch} {D : va_G} {cs : Nat → ClassId} (h0 : Nat) (a1 : Nat) : CC l D cs yX9_init cX9_init 2 1 7 172 23 [.ref h0, .ref a1] (h0, .inr (9, [.null, .null, .null, .null])) (fun ws => ∃ (q1 : Nat) (q2 : Nat) (q3 : Nat) (r3 : Nat → Nat), ws = [(h0, .inr (9, [.ref a1, .ref q1, .ref q2, .ref q3])), (q1, .inl (cs 0, 4, .inl (flI (fun _ => 0) 4 (-1)))), (q2, .inl (cs 0, 4, .inl (fun _ => 0))), (q3, .inl (cs 3, 4, .inr (.inr (.inr (.inr (fun i => some (r3 i))))))), ((r3 0), .inl (cs 0, 40, .inl (fun _ => 0))), ((r3 1), .inl (cs 0, 40, .inl (fun _ => 0))), ((r3 2), .inl (cs 0, 40, .inl (fun _ => 0))), ((r3 3), .inl (cs 0, 40, .inl (fun _ => 0)))]) := by
  refine CC.of (by decide) rfl (Nat.le_of_ble_eq_true rfl) ?_
  intro p e s m below meth c ls S hr hlk hin h hl
  have hl : lv_has ls 2 [(0, .ref h0), (1, .ref a1)] := hl
  refine lv_aload_n S.1 S.2.1 dX9_init_0 rfl (lv_at hl 0 rfl) ?_
  refine n_obj S hl.1 (BG_tb (i := 384) (by decide +kernel) rfl) (Nat.le_of_ble_eq_true rfl) (Nat.le_of_ble_eq_true rfl) dX9_init_1 ?_
  refine lv_aload_n S.1 S.2.1 dX9_init_4 rfl (lv_at hl 0 rfl) ?_
  refine lv_iconst (v := 4) S.1 S.2.1 dX9_init_5 (by decide) ?_
  refine n_newI S h 4 (by decide) rfl (Nat.le_of_ble_eq_true rfl) (Nat.le_of_ble_eq_true rfl) (Nat.le_of_ble_eq_true rfl) dX9_init_6 (fun q1 H h => ?_)
  refine n_putF S hin h wi_X9 tyX9 tyX9_ok nmX9 0 rfl rfl 1 (by decide) rfl rfl rfl (ty := (tyX9 1)) (by decide +kernel) rfl rfl (Nat.le_of_ble_eq_true rfl) kf_X9_11 dX9_init_8 (fun H locs h => ?_)
  have h : Hc D cs (va_A [(h0, .inr (9, [.null, .null, .null, .null]))] s.heap.size) s [(h0, .inr (9, [.null, .ref q1, .null, .null])), (q1, .inl (cs 0, 4, .inl (fun _ => 0)))] H _ := h
  refine lv_aload_n S.1 S.2.1 dX9_init_11 rfl (lv_at hl 0 rfl) ?_
  refine lv_iconst (v := 4) S.1 S.2.1 dX9_init_12 (by decide) ?_
  refine n_newI S h 4 (by decide) rfl (Nat.le_of_ble_eq_true rfl) (Nat.le_of_ble_eq_true rfl) (Nat.le_of_ble_eq_true rfl) dX9_init_13 (fun q2 H h => ?_)
  refine n_putF S hin h wi_X9 tyX9 tyX9_ok nmX9 0 rfl rfl 2 (by decide) rfl rfl rfl (ty := (tyX9 2)) (by decide +kernel) rfl rfl (Nat.le_of_ble_eq_true rfl) kf_X9_15 dX9_init_15 (fun H locs h => ?_)
  have h : Hc D cs (va_A [(h0, .inr (9, [.null, .null, .null, .null]))] s.heap.size) s [(h0, .inr (9, [.null, .ref q1, .ref q2, .null])), (q1, .inl (cs 0, 4, .inl (fun _ => 0))), (q2, .inl (cs 0, 4, .inl (fun _ => 0)))] H _ := h
  refine lv_aload_n S.1 S.2.1 dX9_init_18 rfl (lv_at hl 0 rfl) ?_
  refine lv_iconst (v := 4) S.1 S.2.1 dX9_init_19 (by decide) ?_
  refine lv_bipush (v := 40) S.1 S.2.1 dX9_init_20 (by decide) ?_
  refine n_mna S h (BG_tb (i := 385) (by decide +kernel) rfl) 4 40 (by decide) (by decide) rfl rfl (Nat.le_of_ble_eq_true rfl) (Nat.le_of_ble_eq_true rfl) (Nat.le_of_ble_eq_true rfl) (Nat.le_of_ble_eq_true rfl) dX9_init_22 (fun q3 r3 H h => ?_)
  have h : Hc D cs (va_A [(h0, .inr (9, [.null, .null, .null, .null]))] s.heap.size) s [(h0, .inr (9, [.null, .ref q1, .ref q2, .null])), (q1, .inl (cs 0, 4, .inl (fun _ => 0))), (q2, .inl (cs 0, 4, .inl (fun _ => 0))), (q3, .inl (cs 3, 4, .inr (.inr (.inr (.inr (fun i => some (r3 i))))))), ((r3 0), .inl (cs 0, 40, .inl (fun _ => 0))), ((r3 1), .inl (cs 0, 40, .inl (fun _ => 0))), ((r3 2), .inl (cs 0, 40, .inl (fun _ => 0))), ((r3 3), .inl (cs 0, 40, .inl (fun _ => 0)))] H _ := h
  refine n_putF S hin h wi_X9 tyX9 tyX9_ok nmX9 0 rfl rfl 3 (by decide) rfl rfl rfl (ty := (tyX9 3)) (by decide +kernel) rfl rfl (Nat.le_of_ble_eq_true rfl) kf_X9_20 dX9_init_26 (fun H locs h => ?_)
  have h : Hc D cs (va_A [(h0, .inr (9, [.null, .null, .null, .null]))] s.heap.size) s [(h0, .inr (9, [.null, .ref q1, .ref q2, .ref q3])), (q1, .inl (cs 0, 4, .inl (fun _ => 0))), (q2, .inl (cs 0, 4, .inl (fun _ => 0))), (q3, .inl (cs 3, 4, .inr (.inr (.inr (.inr (fun i => some (r3 i))))))), ((r3 0), .inl (cs 0, 40, .inl (fun _ => 0))), ((r3 1), .inl (cs 0, 40, .inl (fun _ => 0))), ((r3 2), .inl (cs 0, 40, .inl (fun _ => 0))), ((r3 3), .inl (cs 0, 40, .inl (fun _ => 0)))] H _ := h
  refine lv_aload_n S.1 S.2.1 dX9_init_29 rfl (lv_at hl 0 rfl) ?_
  refine lv_aload_n S.1 S.2.1 dX9_init_30 rfl (lv_at hl 1 rfl) ?_
  refine n_putF S hin h wi_X9 tyX9 tyX9_ok nmX9 0 rfl rfl 0 (by decide) rfl rfl rfl (ty := (tyX9 0)) (by decide +kernel) rfl rfl (Nat.le_of_ble_eq_true rfl) kf_X9_23 dX9_init_31 (fun H locs h => ?_)
  have h : Hc D cs (va_A [(h0, .inr (9, [.null, .null, .null, .null]))] s.heap.size) s [(h0, .inr (9, [.ref a1, .ref q1, .ref q2, .ref q3])), (q1, .inl (cs 0, 4, .inl (fun _ => 0))), (q2, .inl (cs 0, 4, .inl (fun _ => 0))), (q3, .inl (cs 3, 4, .inr (.inr (.inr (.inr (fun i => some (r3 i))))))), ((r3 0), .inl (cs 0, 40, .inl (fun _ => 0))), ((r3 1), .inl (cs 0, 40, .inl (fun _ => 0))), ((r3 2), .inl (cs 0, 40, .inl (fun _ => 0))), ((r3 3), .inl (cs 0, 40, .inl (fun _ => 0)))] H _ := h
  refine lv_aload_n S.1 S.2.1 dX9_init_34 rfl (lv_at hl 0 rfl) ?_
  refine n_get S h wi_X9 0 rfl rfl 1 (by decide) rfl rfl kf_X9_11 dX9_init_35 ?_
  refine lv_iconst (v := -1) S.1 S.2.1 dX9_init_38 (by decide) ?_
  refine n_fill S h 1 rfl (by decide) kt_X9_27 ⟨Nat.le_of_ble_eq_true rfl, Nat.le_of_ble_eq_true rfl⟩ hl.1 (Nat.le_of_ble_eq_true rfl) ⟨Nat.le_of_ble_eq_true rfl, Nat.le_of_ble_eq_true rfl⟩ dX9_init_39 (fun H locs h => ?_)
  have h : Hc D cs (va_A [(h0, .inr (9, [.null, .null, .null, .null]))] s.heap.size) s [(h0, .inr (9, [.ref a1, .ref q1, .ref q2, .ref q3])), (q1, .inl (cs 0, 4, .inl (flI (fun _ => 0) 4 (-1)))), (q2, .inl (cs 0, 4, .inl (fun _ => 0))), (q3, .inl (cs 3, 4, .inr (.inr (.inr (.inr (fun i => some (r3 i))))))), ((r3 0), .inl (cs 0, 40, .inl (fun _ => 0))), ((r3 1), .inl (cs 0, 40, .inl (fun _ => 0))), ((r3 2), .inl (cs 0, 40, .inl (fun _ => 0))), ((r3 3), .inl (cs 0, 40, .inl (fun _ => 0)))] H _ := h
  refine W.cs (cells' := 7) (slots' := 172) rfl rfl ?_
  exact n_end S hr hlk h ⟨q1, q2, q3, r3, rfl⟩ dX9_init_42
