theorem n_ext {D : va_G} {A : Nat → Prop} {ws : va_W} {s : State} {H : Heap} {locs : List Loc} (w : WI D A ws s H locs) (q0 : Nat) {a n : Nat} {cA : ClassId} {f : Nat → Option Nat} (ha : ws[q0]? = some (a, .inl (cA, n, .inr (.inr (.inr (.inr f)))))) (g : Nat → Option Nat) (hg : ∀ j, j < n → f j = g j) : WI D A (ws.set q0 (a, .inl (cA, n, .inr (.inr (.inr (.inr g)))))) s H locs := by
  refine ⟨w.1.set w.2.1 ha ?_ (fun _ _ => rfl), w.2.1.set ha, w.2.2.1, w.2.2.2⟩
  have h1 : H[a]? = some (vp_cell cA (n, .inr (.inr (.inr (.inr f))))) := w.1 q0 _ ha
  show H[a]? = some (vp_cell cA (n, .inr (.inr (.inr (.inr g)))))
  rw [h1, vp_cell_q, vp_cell_q]
  unfold arrV
  congr 2
  apply congrArg
  funext j
  show va_rf (f j.val) = va_rf (g j.val)
  rw [hg j.val j.isLt]
section SI
variable {l : Launch} {cy : Nat → ClassId} {D : va_G}
abbrev rm_X0_init : Room := { frames := 1, cells := 2, slots := 12, locals := 20 }
theorem wn_X0 : Wy yX0_init cX0_init 1 none 0 := ⟨w_co_yX0_init_cX0_init_1_none, w_ini_RX0, by decide +kernel, by decide +kernel, by decide +kernel⟩
set_option maxHeartbeats 4000000 in
set_option maxRecDepth 100000 in
theorem c_X0_init {h0 sz t i : Nat} : MtN l cy D EC V0 yX0_init cX0_init 1 rm_X0_init [(22, t, i), (23, t, i), (24, t, i)] (22, t, i) (.inr (0, [.null, .null, .int 0, .int 0])) 2 12 h0 sz := by
  refine ofN (by decide +kernel) rfl (Nat.le_of_ble_eq_true rfl) (fun p e s m args below meth c A C hr hlk hin9 w ls hl => ?_)
  have hx := C.1.1
  have hb := C.1.2.1
  refine lv_aload_n hx hb dX0_init_0 rfl (lv_at hl 0 rfl) ?_
  refine n_obj C w_ml_RX0_3_objectInit hl.1 dX0_init_1 (Nat.le_of_ble_eq_true rfl) (Nat.le_of_ble_eq_true rfl) ?_
  refine lv_aload_n hx hb dX0_init_4 rfl (lv_at hl 0 rfl) ?_
  refine lv_iconst (v := 4) hx hb dX0_init_5 (by decide) ?_
  refine n_newI (N' := 4) C w (by decide) rfl (Nat.le_of_ble_eq_true rfl) (Nat.le_of_ble_eq_true rfl) (Nat.le_of_ble_eq_true rfl) dX0_init_6 (fun q1 H w => ?_)
  have w : WI D A [(h0, .inr (0, [.null, .null, .int 0, .int 0])), (q1, .inl (cy 0, 4, .inl (fun _ => 0)))] s _ _ := w
  refine n_putF C hin9 w inlX0 tyX0 tyX0_ok nmX0 0 rfl vc0 0 (by decide) w_fl_RX0_9_Mark_registers_I rfl rfl (by rfl) (by rfl) (Nat.le_of_ble_eq_true rfl) dX0_init_8 (fun H locs w => ?_)
  have w : WI D A [(h0, .inr (0, [.ref q1, .null, .int 0, .int 0])), (q1, .inl (cy 0, 4, .inl (fun _ => 0)))] s _ _ := w
  refine lv_aload_n hx hb dX0_init_11 rfl (lv_at hl 0 rfl) ?_
  refine lv_bipush (v := 8) hx hb dX0_init_12 (by decide) ?_
  refine n_newI (N' := 8) C w (by decide) rfl (Nat.le_of_ble_eq_true rfl) (Nat.le_of_ble_eq_true rfl) (Nat.le_of_ble_eq_true rfl) dX0_init_14 (fun q2 H w => ?_)
  have w : WI D A [(h0, .inr (0, [.ref q1, .null, .int 0, .int 0])), (q1, .inl (cy 0, 4, .inl (fun _ => 0))), (q2, .inl (cy 0, 8, .inl (fun _ => 0)))] s _ _ := w
  refine n_putF C hin9 w inlX0 tyX0 tyX0_ok nmX0 0 rfl vc0 1 (by decide) w_fl_RX0_15_Mark_writtenValues_I rfl rfl (by rfl) (by rfl) (Nat.le_of_ble_eq_true rfl) dX0_init_16 (fun H locs w => ?_)
  have w : WI D A [(h0, .inr (0, [.ref q1, .ref q2, .int 0, .int 0])), (q1, .inl (cy 0, 4, .inl (fun _ => 0))), (q2, .inl (cy 0, 8, .inl (fun _ => 0)))] s _ _ := w
  exact n_ret C hr hlk w (fun q => match q.1 with | 22 => h0 | 23 => q1 | _ => q2) rfl rfl dX0_init_19
abbrev rm_X1_init : Room := { frames := 1, cells := 2, slots := 16, locals := 20 }
theorem wn_X1 : Wy yX1_init cX1_init 1 none 0 := ⟨w_co_yX1_init_cX1_init_1_none, w_ini_RX1, by decide +kernel, by decide +kernel, by decide +kernel⟩
set_option maxHeartbeats 4000000 in
set_option maxRecDepth 100000 in
theorem c_X1_init {h0 sz : Nat} : MtN l cy D EC V0 yX1_init cX1_init 1 rm_X1_init [(1, 0, 0), (2, 0, 0), (3, 0, 0)] (1, 0, 0) (.inr (1, [.null, .null, .int 0])) 2 16 h0 sz := by
  refine ofN (by decide +kernel) rfl (Nat.le_of_ble_eq_true rfl) (fun p e s m args below meth c A C hr hlk hin9 w ls hl => ?_)
  have hx := C.1.1
  have hb := C.1.2.1
  refine lv_aload_n hx hb dX1_init_0 rfl (lv_at hl 0 rfl) ?_
  refine n_obj C w_ml_RX1_3_objectInit hl.1 dX1_init_1 (Nat.le_of_ble_eq_true rfl) (Nat.le_of_ble_eq_true rfl) ?_
  refine lv_aload_n hx hb dX1_init_4 rfl (lv_at hl 0 rfl) ?_
  refine lv_bipush (v := 8) hx hb dX1_init_5 (by decide) ?_
  refine n_newI (N' := 8) C w (by decide) rfl (Nat.le_of_ble_eq_true rfl) (Nat.le_of_ble_eq_true rfl) (Nat.le_of_ble_eq_true rfl) dX1_init_7 (fun q1 H w => ?_)
  have w : WI D A [(h0, .inr (1, [.null, .null, .int 0])), (q1, .inl (cy 0, 8, .inl (fun _ => 0)))] s _ _ := w
  refine n_putF C hin9 w inlX1 tyX1 tyX1_ok nmX1 0 rfl vc1 0 (by decide) w_fl_RX1_9_Memory_values_I rfl rfl (by rfl) (by rfl) (Nat.le_of_ble_eq_true rfl) dX1_init_9 (fun H locs w => ?_)
  have w : WI D A [(h0, .inr (1, [.ref q1, .null, .int 0])), (q1, .inl (cy 0, 8, .inl (fun _ => 0)))] s _ _ := w
  refine lv_aload_n hx hb dX1_init_12 rfl (lv_at hl 0 rfl) ?_
  refine lv_bipush (v := 8) hx hb dX1_init_13 (by decide) ?_
  refine n_newI (N' := 8) C w (by decide) rfl (Nat.le_of_ble_eq_true rfl) (Nat.le_of_ble_eq_true rfl) (Nat.le_of_ble_eq_true rfl) dX1_init_15 (fun q2 H w => ?_)
  have w : WI D A [(h0, .inr (1, [.ref q1, .null, .int 0])), (q1, .inl (cy 0, 8, .inl (fun _ => 0))), (q2, .inl (cy 0, 8, .inl (fun _ => 0)))] s _ _ := w
  refine n_putF C hin9 w inlX1 tyX1 tyX1_ok nmX1 0 rfl vc1 1 (by decide) w_fl_RX1_15_Memory_versions_I rfl rfl (by rfl) (by rfl) (Nat.le_of_ble_eq_true rfl) dX1_init_17 (fun H locs w => ?_)
  have w : WI D A [(h0, .inr (1, [.ref q1, .ref q2, .int 0])), (q1, .inl (cy 0, 8, .inl (fun _ => 0))), (q2, .inl (cy 0, 8, .inl (fun _ => 0)))] s _ _ := w
  exact n_ret C hr hlk w (fun q => match q.1 with | 1 => h0 | 2 => q1 | _ => q2) rfl rfl dX1_init_20
abbrev rm_X2_init : Room := { frames := 1, cells := 1, slots := 16, locals := 20 }
theorem wn_X2 : Wy yX2_init cX2_init 1 none 0 := ⟨w_co_yX2_init_cX2_init_1_none, w_ini_RX2, by decide +kernel, by decide +kernel, by decide +kernel⟩
set_option maxHeartbeats 4000000 in
set_option maxRecDepth 100000 in
theorem c_X2_init {h0 sz : Nat} : MtN l cy D EC V0 yX2_init cX2_init 1 rm_X2_init [(4, 0, 0), (5, 0, 0)] (4, 0, 0) (.inr (2, [.null, .int 0])) 1 16 h0 sz := by
  refine ofN (by decide +kernel) rfl (Nat.le_of_ble_eq_true rfl) (fun p e s m args below meth c A C hr hlk hin9 w ls hl => ?_)
  have hx := C.1.1
  have hb := C.1.2.1
  refine lv_aload_n hx hb dX2_init_0 rfl (lv_at hl 0 rfl) ?_
  refine n_obj C w_ml_RX2_3_objectInit hl.1 dX2_init_1 (Nat.le_of_ble_eq_true rfl) (Nat.le_of_ble_eq_true rfl) ?_
  refine lv_aload_n hx hb dX2_init_4 rfl (lv_at hl 0 rfl) ?_
  refine lv_bipush (v := 16) hx hb dX2_init_5 (by decide) ?_
  refine n_newI (N' := 16) C w (by decide) rfl (Nat.le_of_ble_eq_true rfl) (Nat.le_of_ble_eq_true rfl) (Nat.le_of_ble_eq_true rfl) dX2_init_7 (fun q1 H w => ?_)
  have w : WI D A [(h0, .inr (2, [.null, .int 0])), (q1, .inl (cy 0, 16, .inl (fun _ => 0)))] s _ _ := w
  refine n_putF C hin9 w inlX2 tyX2 tyX2_ok nmX2 0 rfl vc2 0 (by decide) w_fl_RX2_9_Paper_ring_I rfl rfl (by rfl) (by rfl) (Nat.le_of_ble_eq_true rfl) dX2_init_9 (fun H locs w => ?_)
  have w : WI D A [(h0, .inr (2, [.ref q1, .int 0])), (q1, .inl (cy 0, 16, .inl (fun _ => 0)))] s _ _ := w
  exact n_ret C hr hlk w (fun q => match q.1 with | 4 => h0 | _ => q1) rfl rfl dX2_init_12
abbrev rm_X3_init : Room := { frames := 1, cells := 7, slots := 185, locals := 20 }
theorem wn_X3 : Wy yX3_init cX3_init 1 none 0 := ⟨w_co_yX3_init_cX3_init_1_none, w_ini_RX3, by decide +kernel, by decide +kernel, by decide +kernel⟩
set_option maxHeartbeats 4000000 in
set_option maxRecDepth 100000 in
theorem c_X3_init {h0 sz t : Nat} : MtN l cy D EC V0 yX3_init cX3_init 1 rm_X3_init [(11, t, 0), (12, t, 0), (13, t, 0), (14, t, 0), (15, t, 0), (16, t, 0), (17, t, 0), (18, t, 0)] (11, t, 0) (.inr (3, [.null, .null, .null, .null, .null, .null, .null, .int 0, .int 0])) 7 185 h0 sz := by
  refine ofN (by decide +kernel) rfl (Nat.le_of_ble_eq_true rfl) (fun p e s m args below meth c A C hr hlk hin9 w ls hl => ?_)
  have hx := C.1.1
  have hb := C.1.2.1
  refine lv_aload_n hx hb dX3_init_0 rfl (lv_at hl 0 rfl) ?_
  refine n_obj C w_ml_RX3_3_objectInit hl.1 dX3_init_1 (Nat.le_of_ble_eq_true rfl) (Nat.le_of_ble_eq_true rfl) ?_
  refine lv_aload_n hx hb dX3_init_4 rfl (lv_at hl 0 rfl) ?_
  refine lv_bipush (v := 30) hx hb dX3_init_5 (by decide) ?_
  refine n_newI (N' := 30) C w (by decide) rfl (Nat.le_of_ble_eq_true rfl) (Nat.le_of_ble_eq_true rfl) (Nat.le_of_ble_eq_true rfl) dX3_init_7 (fun q1 H w => ?_)
  have w : WI D A [(h0, .inr (3, [.null, .null, .null, .null, .null, .null, .null, .int 0, .int 0])), (q1, .inl (cy 0, 30, .inl (fun _ => 0)))] s _ _ := w
  refine n_putF C hin9 w inlX3 tyX3 tyX3_ok nmX3 0 rfl vc3 0 (by decide) w_fl_RX3_9_Program_kinds_I rfl rfl (by rfl) (by rfl) (Nat.le_of_ble_eq_true rfl) dX3_init_9 (fun H locs w => ?_)
  have w : WI D A [(h0, .inr (3, [.ref q1, .null, .null, .null, .null, .null, .null, .int 0, .int 0])), (q1, .inl (cy 0, 30, .inl (fun _ => 0)))] s _ _ := w
  refine lv_aload_n hx hb dX3_init_12 rfl (lv_at hl 0 rfl) ?_
  refine lv_bipush (v := 30) hx hb dX3_init_13 (by decide) ?_
  refine n_newI (N' := 30) C w (by decide) rfl (Nat.le_of_ble_eq_true rfl) (Nat.le_of_ble_eq_true rfl) (Nat.le_of_ble_eq_true rfl) dX3_init_15 (fun q2 H w => ?_)
  have w : WI D A [(h0, .inr (3, [.ref q1, .null, .null, .null, .null, .null, .null, .int 0, .int 0])), (q1, .inl (cy 0, 30, .inl (fun _ => 0))), (q2, .inl (cy 0, 30, .inl (fun _ => 0)))] s _ _ := w
  refine n_putF C hin9 w inlX3 tyX3 tyX3_ok nmX3 0 rfl vc3 1 (by decide) w_fl_RX3_15_Program_firsts_I rfl rfl (by rfl) (by rfl) (Nat.le_of_ble_eq_true rfl) dX3_init_17 (fun H locs w => ?_)
  have w : WI D A [(h0, .inr (3, [.ref q1, .ref q2, .null, .null, .null, .null, .null, .int 0, .int 0])), (q1, .inl (cy 0, 30, .inl (fun _ => 0))), (q2, .inl (cy 0, 30, .inl (fun _ => 0)))] s _ _ := w
  refine lv_aload_n hx hb dX3_init_20 rfl (lv_at hl 0 rfl) ?_
  refine lv_bipush (v := 30) hx hb dX3_init_21 (by decide) ?_
  refine n_newI (N' := 30) C w (by decide) rfl (Nat.le_of_ble_eq_true rfl) (Nat.le_of_ble_eq_true rfl) (Nat.le_of_ble_eq_true rfl) dX3_init_23 (fun q3 H w => ?_)
  have w : WI D A [(h0, .inr (3, [.ref q1, .ref q2, .null, .null, .null, .null, .null, .int 0, .int 0])), (q1, .inl (cy 0, 30, .inl (fun _ => 0))), (q2, .inl (cy 0, 30, .inl (fun _ => 0))), (q3, .inl (cy 0, 30, .inl (fun _ => 0)))] s _ _ := w
  refine n_putF C hin9 w inlX3 tyX3 tyX3_ok nmX3 0 rfl vc3 2 (by decide) w_fl_RX3_18_Program_seconds_I rfl rfl (by rfl) (by rfl) (Nat.le_of_ble_eq_true rfl) dX3_init_25 (fun H locs w => ?_)
  have w : WI D A [(h0, .inr (3, [.ref q1, .ref q2, .ref q3, .null, .null, .null, .null, .int 0, .int 0])), (q1, .inl (cy 0, 30, .inl (fun _ => 0))), (q2, .inl (cy 0, 30, .inl (fun _ => 0))), (q3, .inl (cy 0, 30, .inl (fun _ => 0)))] s _ _ := w
  refine lv_aload_n hx hb dX3_init_28 rfl (lv_at hl 0 rfl) ?_
  refine lv_bipush (v := 30) hx hb dX3_init_29 (by decide) ?_
  refine n_newI (N' := 30) C w (by decide) rfl (Nat.le_of_ble_eq_true rfl) (Nat.le_of_ble_eq_true rfl) (Nat.le_of_ble_eq_true rfl) dX3_init_31 (fun q4 H w => ?_)
  have w : WI D A [(h0, .inr (3, [.ref q1, .ref q2, .ref q3, .null, .null, .null, .null, .int 0, .int 0])), (q1, .inl (cy 0, 30, .inl (fun _ => 0))), (q2, .inl (cy 0, 30, .inl (fun _ => 0))), (q3, .inl (cy 0, 30, .inl (fun _ => 0))), (q4, .inl (cy 0, 30, .inl (fun _ => 0)))] s _ _ := w
  refine n_putF C hin9 w inlX3 tyX3 tyX3_ok nmX3 0 rfl vc3 3 (by decide) w_fl_RX3_21_Program_openers_I rfl rfl (by rfl) (by rfl) (Nat.le_of_ble_eq_true rfl) dX3_init_33 (fun H locs w => ?_)
  have w : WI D A [(h0, .inr (3, [.ref q1, .ref q2, .ref q3, .ref q4, .null, .null, .null, .int 0, .int 0])), (q1, .inl (cy 0, 30, .inl (fun _ => 0))), (q2, .inl (cy 0, 30, .inl (fun _ => 0))), (q3, .inl (cy 0, 30, .inl (fun _ => 0))), (q4, .inl (cy 0, 30, .inl (fun _ => 0)))] s _ _ := w
  refine lv_aload_n hx hb dX3_init_36 rfl (lv_at hl 0 rfl) ?_
  refine lv_bipush (v := 30) hx hb dX3_init_37 (by decide) ?_
  refine n_newI (N' := 30) C w (by decide) rfl (Nat.le_of_ble_eq_true rfl) (Nat.le_of_ble_eq_true rfl) (Nat.le_of_ble_eq_true rfl) dX3_init_39 (fun q5 H w => ?_)
  have w : WI D A [(h0, .inr (3, [.ref q1, .ref q2, .ref q3, .ref q4, .null, .null, .null, .int 0, .int 0])), (q1, .inl (cy 0, 30, .inl (fun _ => 0))), (q2, .inl (cy 0, 30, .inl (fun _ => 0))), (q3, .inl (cy 0, 30, .inl (fun _ => 0))), (q4, .inl (cy 0, 30, .inl (fun _ => 0))), (q5, .inl (cy 0, 30, .inl (fun _ => 0)))] s _ _ := w
  refine n_putF C hin9 w inlX3 tyX3 tyX3_ok nmX3 0 rfl vc3 4 (by decide) w_fl_RX3_24_Program_middles_I rfl rfl (by rfl) (by rfl) (Nat.le_of_ble_eq_true rfl) dX3_init_41 (fun H locs w => ?_)
  have w : WI D A [(h0, .inr (3, [.ref q1, .ref q2, .ref q3, .ref q4, .ref q5, .null, .null, .int 0, .int 0])), (q1, .inl (cy 0, 30, .inl (fun _ => 0))), (q2, .inl (cy 0, 30, .inl (fun _ => 0))), (q3, .inl (cy 0, 30, .inl (fun _ => 0))), (q4, .inl (cy 0, 30, .inl (fun _ => 0))), (q5, .inl (cy 0, 30, .inl (fun _ => 0)))] s _ _ := w
  refine lv_aload_n hx hb dX3_init_44 rfl (lv_at hl 0 rfl) ?_
  refine lv_bipush (v := 30) hx hb dX3_init_45 (by decide) ?_
  refine n_newI (N' := 30) C w (by decide) rfl (Nat.le_of_ble_eq_true rfl) (Nat.le_of_ble_eq_true rfl) (Nat.le_of_ble_eq_true rfl) dX3_init_47 (fun q6 H w => ?_)
  have w : WI D A [(h0, .inr (3, [.ref q1, .ref q2, .ref q3, .ref q4, .ref q5, .null, .null, .int 0, .int 0])), (q1, .inl (cy 0, 30, .inl (fun _ => 0))), (q2, .inl (cy 0, 30, .inl (fun _ => 0))), (q3, .inl (cy 0, 30, .inl (fun _ => 0))), (q4, .inl (cy 0, 30, .inl (fun _ => 0))), (q5, .inl (cy 0, 30, .inl (fun _ => 0))), (q6, .inl (cy 0, 30, .inl (fun _ => 0)))] s _ _ := w
  refine n_putF C hin9 w inlX3 tyX3 tyX3_ok nmX3 0 rfl vc3 5 (by decide) w_fl_RX3_27_Program_ends_I rfl rfl (by rfl) (by rfl) (Nat.le_of_ble_eq_true rfl) dX3_init_49 (fun H locs w => ?_)
  have w : WI D A [(h0, .inr (3, [.ref q1, .ref q2, .ref q3, .ref q4, .ref q5, .ref q6, .null, .int 0, .int 0])), (q1, .inl (cy 0, 30, .inl (fun _ => 0))), (q2, .inl (cy 0, 30, .inl (fun _ => 0))), (q3, .inl (cy 0, 30, .inl (fun _ => 0))), (q4, .inl (cy 0, 30, .inl (fun _ => 0))), (q5, .inl (cy 0, 30, .inl (fun _ => 0))), (q6, .inl (cy 0, 30, .inl (fun _ => 0)))] s _ _ := w
  refine lv_aload_n hx hb dX3_init_52 rfl (lv_at hl 0 rfl) ?_
  refine lv_iconst (v := 5) hx hb dX3_init_53 (by decide) ?_
  refine n_newI (N' := 5) C w (by decide) rfl (Nat.le_of_ble_eq_true rfl) (Nat.le_of_ble_eq_true rfl) (Nat.le_of_ble_eq_true rfl) dX3_init_54 (fun q7 H w => ?_)
  have w : WI D A [(h0, .inr (3, [.ref q1, .ref q2, .ref q3, .ref q4, .ref q5, .ref q6, .null, .int 0, .int 0])), (q1, .inl (cy 0, 30, .inl (fun _ => 0))), (q2, .inl (cy 0, 30, .inl (fun _ => 0))), (q3, .inl (cy 0, 30, .inl (fun _ => 0))), (q4, .inl (cy 0, 30, .inl (fun _ => 0))), (q5, .inl (cy 0, 30, .inl (fun _ => 0))), (q6, .inl (cy 0, 30, .inl (fun _ => 0))), (q7, .inl (cy 0, 5, .inl (fun _ => 0)))] s _ _ := w
  refine n_putF C hin9 w inlX3 tyX3 tyX3_ok nmX3 0 rfl vc3 6 (by decide) w_fl_RX3_30_Program_open_I rfl rfl (by rfl) (by rfl) (Nat.le_of_ble_eq_true rfl) dX3_init_56 (fun H locs w => ?_)
  have w : WI D A [(h0, .inr (3, [.ref q1, .ref q2, .ref q3, .ref q4, .ref q5, .ref q6, .ref q7, .int 0, .int 0])), (q1, .inl (cy 0, 30, .inl (fun _ => 0))), (q2, .inl (cy 0, 30, .inl (fun _ => 0))), (q3, .inl (cy 0, 30, .inl (fun _ => 0))), (q4, .inl (cy 0, 30, .inl (fun _ => 0))), (q5, .inl (cy 0, 30, .inl (fun _ => 0))), (q6, .inl (cy 0, 30, .inl (fun _ => 0))), (q7, .inl (cy 0, 5, .inl (fun _ => 0)))] s _ _ := w
  exact n_ret C hr hlk w (fun q => match q.1 with | 11 => h0 | 12 => q1 | 13 => q2 | 14 => q3 | 15 => q4 | 16 => q5 | 17 => q6 | _ => q7) rfl rfl dX3_init_59
abbrev rm_X4_init : Room := { frames := 2, cells := 26, slots := 291, locals := 40 }
theorem wn_X4 : Wy yX4_init cX4_init 2 none 0 := ⟨w_co_yX4_init_cX4_init_2_none, w_ini_RX4, by decide +kernel, by decide +kernel, by decide +kernel⟩
set_option maxHeartbeats 4000000 in
set_option maxRecDepth 100000 in
theorem c_X4_init {h0 sz t : Nat} : MtN l cy D EC V0 yX4_init cX4_init 2 rm_X4_init [(10, t, 0), (11, t, 0), (12, t, 0), (13, t, 0), (14, t, 0), (15, t, 0), (16, t, 0), (17, t, 0), (18, t, 0), (19, t, 0), (20, t, 0), (21, t, 0), (22, t, 0), (23, t, 0), (24, t, 0), (22, t, 1), (23, t, 1), (24, t, 1), (22, t, 2), (23, t, 2), (24, t, 2), (22, t, 3), (23, t, 3), (24, t, 3), (22, t, 4), (23, t, 4), (24, t, 4)] (10, t, 0) (.inr (4, [.null, .null, .null, .null, .int 0, .int 0, .int 0, .int 0, .int 0, .int 0, .int 0, .int 0])) 26 291 h0 sz := by
  refine ofN (by decide +kernel) rfl (Nat.le_of_ble_eq_true rfl) (fun p e s m args below meth c A C hr hlk hin9 w ls hl => ?_)
  have hx := C.1.1
  have hb := C.1.2.1
  refine lv_aload_n hx hb dX4_init_0 rfl (lv_at hl 0 rfl) ?_
  refine n_obj C w_ml_RX4_3_objectInit hl.1 dX4_init_1 (Nat.le_of_ble_eq_true rfl) (Nat.le_of_ble_eq_true rfl) ?_
  refine lv_aload_n hx hb dX4_init_4 rfl (lv_at hl 0 rfl) ?_
  refine n_new C w inlX3 tyX3 tyX3_ok w_cl_RX4_9_RX3 w_inst_RX3_9 w_ini_RX3 vc3 (fs := [.null, .null, .null, .null, .null, .null, .null, .int 0, .int 0]) (fun j hj => by rcases (show j = 0 ∨ j = 1 ∨ j = 2 ∨ j = 3 ∨ j = 4 ∨ j = 5 ∨ j = 6 ∨ j = 7 ∨ j = 8 by omega) with rfl | rfl | rfl | rfl | rfl | rfl | rfl | rfl | rfl <;> rfl) (Nat.le_of_ble_eq_true rfl) (Nat.le_of_ble_eq_true rfl) dX4_init_5 (fun q1 H w => ?_)
  refine lv_dup hx hb dX4_init_8 rfl ?_
  refine n_callN C w (c_X3_init (t := t)) wn_X3 rfl w_im_yX3_init nw_m_X4_11 rfl rfl ⟨Nat.le_of_ble_eq_true rfl, Nat.le_of_ble_eq_true rfl⟩ hl.1 (Nat.le_of_ble_eq_true rfl) dX4_init_9 ⟨Nat.le_of_ble_eq_true rfl, Nat.le_of_ble_eq_true rfl⟩ (fun b2 H locs hb2 w1 => ?_)
  clear w
  subst hb2
  have w := w1
  clear w1
  have w : WI D A [(h0, .inr (4, [.null, .null, .null, .null, .int 0, .int 0, .int 0, .int 0, .int 0, .int 0, .int 0, .int 0])), ((b2 (11, t, 0)), .inr (3, [.ref (b2 (12, t, 0)), .ref (b2 (13, t, 0)), .ref (b2 (14, t, 0)), .ref (b2 (15, t, 0)), .ref (b2 (16, t, 0)), .ref (b2 (17, t, 0)), .ref (b2 (18, t, 0)), .int 0, .int 0])), ((b2 (12, t, 0)), .inl (cy 0, 30, .inl (fun _ => 0))), ((b2 (13, t, 0)), .inl (cy 0, 30, .inl (fun _ => 0))), ((b2 (14, t, 0)), .inl (cy 0, 30, .inl (fun _ => 0))), ((b2 (15, t, 0)), .inl (cy 0, 30, .inl (fun _ => 0))), ((b2 (16, t, 0)), .inl (cy 0, 30, .inl (fun _ => 0))), ((b2 (17, t, 0)), .inl (cy 0, 30, .inl (fun _ => 0))), ((b2 (18, t, 0)), .inl (cy 0, 5, .inl (fun _ => 0)))] s _ _ := w
  refine n_putF C hin9 w inlX4 tyX4 tyX4_ok nmX4 0 rfl vc4 0 (by decide) w_fl_RX4_12_Strand_program_LAtomicThreads_Program rfl rfl (by rfl) (by rfl) (Nat.le_of_ble_eq_true rfl) dX4_init_12 (fun H locs w => ?_)
  have w : WI D A [(h0, .inr (4, [.ref (b2 (11, t, 0)), .null, .null, .null, .int 0, .int 0, .int 0, .int 0, .int 0, .int 0, .int 0, .int 0])), ((b2 (11, t, 0)), .inr (3, [.ref (b2 (12, t, 0)), .ref (b2 (13, t, 0)), .ref (b2 (14, t, 0)), .ref (b2 (15, t, 0)), .ref (b2 (16, t, 0)), .ref (b2 (17, t, 0)), .ref (b2 (18, t, 0)), .int 0, .int 0])), ((b2 (12, t, 0)), .inl (cy 0, 30, .inl (fun _ => 0))), ((b2 (13, t, 0)), .inl (cy 0, 30, .inl (fun _ => 0))), ((b2 (14, t, 0)), .inl (cy 0, 30, .inl (fun _ => 0))), ((b2 (15, t, 0)), .inl (cy 0, 30, .inl (fun _ => 0))), ((b2 (16, t, 0)), .inl (cy 0, 30, .inl (fun _ => 0))), ((b2 (17, t, 0)), .inl (cy 0, 30, .inl (fun _ => 0))), ((b2 (18, t, 0)), .inl (cy 0, 5, .inl (fun _ => 0)))] s _ _ := w
  refine lv_aload_n hx hb dX4_init_15 rfl (lv_at hl 0 rfl) ?_
  refine lv_iconst (v := 4) hx hb dX4_init_16 (by decide) ?_
  refine n_newI (N' := 4) C w (by decide) rfl (Nat.le_of_ble_eq_true rfl) (Nat.le_of_ble_eq_true rfl) (Nat.le_of_ble_eq_true rfl) dX4_init_17 (fun q3 H w => ?_)
  have w : WI D A [(h0, .inr (4, [.ref (b2 (11, t, 0)), .null, .null, .null, .int 0, .int 0, .int 0, .int 0, .int 0, .int 0, .int 0, .int 0])), ((b2 (11, t, 0)), .inr (3, [.ref (b2 (12, t, 0)), .ref (b2 (13, t, 0)), .ref (b2 (14, t, 0)), .ref (b2 (15, t, 0)), .ref (b2 (16, t, 0)), .ref (b2 (17, t, 0)), .ref (b2 (18, t, 0)), .int 0, .int 0])), ((b2 (12, t, 0)), .inl (cy 0, 30, .inl (fun _ => 0))), ((b2 (13, t, 0)), .inl (cy 0, 30, .inl (fun _ => 0))), ((b2 (14, t, 0)), .inl (cy 0, 30, .inl (fun _ => 0))), ((b2 (15, t, 0)), .inl (cy 0, 30, .inl (fun _ => 0))), ((b2 (16, t, 0)), .inl (cy 0, 30, .inl (fun _ => 0))), ((b2 (17, t, 0)), .inl (cy 0, 30, .inl (fun _ => 0))), ((b2 (18, t, 0)), .inl (cy 0, 5, .inl (fun _ => 0))), (q3, .inl (cy 0, 4, .inl (fun _ => 0)))] s _ _ := w
  refine n_putF C hin9 w inlX4 tyX4 tyX4_ok nmX4 0 rfl vc4 1 (by decide) w_fl_RX4_18_Strand_registers_I rfl rfl (by rfl) (by rfl) (Nat.le_of_ble_eq_true rfl) dX4_init_19 (fun H locs w => ?_)
  have w : WI D A [(h0, .inr (4, [.ref (b2 (11, t, 0)), .ref q3, .null, .null, .int 0, .int 0, .int 0, .int 0, .int 0, .int 0, .int 0, .int 0])), ((b2 (11, t, 0)), .inr (3, [.ref (b2 (12, t, 0)), .ref (b2 (13, t, 0)), .ref (b2 (14, t, 0)), .ref (b2 (15, t, 0)), .ref (b2 (16, t, 0)), .ref (b2 (17, t, 0)), .ref (b2 (18, t, 0)), .int 0, .int 0])), ((b2 (12, t, 0)), .inl (cy 0, 30, .inl (fun _ => 0))), ((b2 (13, t, 0)), .inl (cy 0, 30, .inl (fun _ => 0))), ((b2 (14, t, 0)), .inl (cy 0, 30, .inl (fun _ => 0))), ((b2 (15, t, 0)), .inl (cy 0, 30, .inl (fun _ => 0))), ((b2 (16, t, 0)), .inl (cy 0, 30, .inl (fun _ => 0))), ((b2 (17, t, 0)), .inl (cy 0, 30, .inl (fun _ => 0))), ((b2 (18, t, 0)), .inl (cy 0, 5, .inl (fun _ => 0))), (q3, .inl (cy 0, 4, .inl (fun _ => 0)))] s _ _ := w
  refine lv_aload_n hx hb dX4_init_22 rfl (lv_at hl 0 rfl) ?_
  refine lv_bipush (v := 8) hx hb dX4_init_23 (by decide) ?_
  refine n_newI (N' := 8) C w (by decide) rfl (Nat.le_of_ble_eq_true rfl) (Nat.le_of_ble_eq_true rfl) (Nat.le_of_ble_eq_true rfl) dX4_init_25 (fun q4 H w => ?_)
  have w : WI D A [(h0, .inr (4, [.ref (b2 (11, t, 0)), .ref q3, .null, .null, .int 0, .int 0, .int 0, .int 0, .int 0, .int 0, .int 0, .int 0])), ((b2 (11, t, 0)), .inr (3, [.ref (b2 (12, t, 0)), .ref (b2 (13, t, 0)), .ref (b2 (14, t, 0)), .ref (b2 (15, t, 0)), .ref (b2 (16, t, 0)), .ref (b2 (17, t, 0)), .ref (b2 (18, t, 0)), .int 0, .int 0])), ((b2 (12, t, 0)), .inl (cy 0, 30, .inl (fun _ => 0))), ((b2 (13, t, 0)), .inl (cy 0, 30, .inl (fun _ => 0))), ((b2 (14, t, 0)), .inl (cy 0, 30, .inl (fun _ => 0))), ((b2 (15, t, 0)), .inl (cy 0, 30, .inl (fun _ => 0))), ((b2 (16, t, 0)), .inl (cy 0, 30, .inl (fun _ => 0))), ((b2 (17, t, 0)), .inl (cy 0, 30, .inl (fun _ => 0))), ((b2 (18, t, 0)), .inl (cy 0, 5, .inl (fun _ => 0))), (q3, .inl (cy 0, 4, .inl (fun _ => 0))), (q4, .inl (cy 0, 8, .inl (fun _ => 0)))] s _ _ := w
  refine n_putF C hin9 w inlX4 tyX4 tyX4_ok nmX4 0 rfl vc4 2 (by decide) w_fl_RX4_22_Strand_writtenValues_I rfl rfl (by rfl) (by rfl) (Nat.le_of_ble_eq_true rfl) dX4_init_27 (fun H locs w => ?_)
  have w : WI D A [(h0, .inr (4, [.ref (b2 (11, t, 0)), .ref q3, .ref q4, .null, .int 0, .int 0, .int 0, .int 0, .int 0, .int 0, .int 0, .int 0])), ((b2 (11, t, 0)), .inr (3, [.ref (b2 (12, t, 0)), .ref (b2 (13, t, 0)), .ref (b2 (14, t, 0)), .ref (b2 (15, t, 0)), .ref (b2 (16, t, 0)), .ref (b2 (17, t, 0)), .ref (b2 (18, t, 0)), .int 0, .int 0])), ((b2 (12, t, 0)), .inl (cy 0, 30, .inl (fun _ => 0))), ((b2 (13, t, 0)), .inl (cy 0, 30, .inl (fun _ => 0))), ((b2 (14, t, 0)), .inl (cy 0, 30, .inl (fun _ => 0))), ((b2 (15, t, 0)), .inl (cy 0, 30, .inl (fun _ => 0))), ((b2 (16, t, 0)), .inl (cy 0, 30, .inl (fun _ => 0))), ((b2 (17, t, 0)), .inl (cy 0, 30, .inl (fun _ => 0))), ((b2 (18, t, 0)), .inl (cy 0, 5, .inl (fun _ => 0))), (q3, .inl (cy 0, 4, .inl (fun _ => 0))), (q4, .inl (cy 0, 8, .inl (fun _ => 0)))] s _ _ := w
  refine lv_aload_n hx hb dX4_init_30 rfl (lv_at hl 0 rfl) ?_
  refine lv_iconst (v := 5) hx hb dX4_init_31 (by decide) ?_
  refine n_newQ (k := 2) (N' := 5) C w rfl C.2.2.2.1 w_cl_RX4_25_RX0 (by decide) rfl (Nat.le_of_ble_eq_true rfl) (Nat.le_of_ble_eq_true rfl) (Nat.le_of_ble_eq_true rfl) dX4_init_32 (fun q5 H w => ?_)
  have w : WI D A [(h0, .inr (4, [.ref (b2 (11, t, 0)), .ref q3, .ref q4, .null, .int 0, .int 0, .int 0, .int 0, .int 0, .int 0, .int 0, .int 0])), ((b2 (11, t, 0)), .inr (3, [.ref (b2 (12, t, 0)), .ref (b2 (13, t, 0)), .ref (b2 (14, t, 0)), .ref (b2 (15, t, 0)), .ref (b2 (16, t, 0)), .ref (b2 (17, t, 0)), .ref (b2 (18, t, 0)), .int 0, .int 0])), ((b2 (12, t, 0)), .inl (cy 0, 30, .inl (fun _ => 0))), ((b2 (13, t, 0)), .inl (cy 0, 30, .inl (fun _ => 0))), ((b2 (14, t, 0)), .inl (cy 0, 30, .inl (fun _ => 0))), ((b2 (15, t, 0)), .inl (cy 0, 30, .inl (fun _ => 0))), ((b2 (16, t, 0)), .inl (cy 0, 30, .inl (fun _ => 0))), ((b2 (17, t, 0)), .inl (cy 0, 30, .inl (fun _ => 0))), ((b2 (18, t, 0)), .inl (cy 0, 5, .inl (fun _ => 0))), (q3, .inl (cy 0, 4, .inl (fun _ => 0))), (q4, .inl (cy 0, 8, .inl (fun _ => 0))), (q5, .inl (cy 2, 5, .inr (.inr (.inr (.inr (fun _ => none))))))] s _ _ := w
  refine n_putF C hin9 w inlX4 tyX4 tyX4_ok nmX4 0 rfl vc4 3 (by decide) w_fl_RX4_27_Strand_marks_LAtomicThreads_Mark rfl rfl (by rfl) (by rfl) (Nat.le_of_ble_eq_true rfl) dX4_init_35 (fun H locs w => ?_)
  have w : WI D A [(h0, .inr (4, [.ref (b2 (11, t, 0)), .ref q3, .ref q4, .ref q5, .int 0, .int 0, .int 0, .int 0, .int 0, .int 0, .int 0, .int 0])), ((b2 (11, t, 0)), .inr (3, [.ref (b2 (12, t, 0)), .ref (b2 (13, t, 0)), .ref (b2 (14, t, 0)), .ref (b2 (15, t, 0)), .ref (b2 (16, t, 0)), .ref (b2 (17, t, 0)), .ref (b2 (18, t, 0)), .int 0, .int 0])), ((b2 (12, t, 0)), .inl (cy 0, 30, .inl (fun _ => 0))), ((b2 (13, t, 0)), .inl (cy 0, 30, .inl (fun _ => 0))), ((b2 (14, t, 0)), .inl (cy 0, 30, .inl (fun _ => 0))), ((b2 (15, t, 0)), .inl (cy 0, 30, .inl (fun _ => 0))), ((b2 (16, t, 0)), .inl (cy 0, 30, .inl (fun _ => 0))), ((b2 (17, t, 0)), .inl (cy 0, 30, .inl (fun _ => 0))), ((b2 (18, t, 0)), .inl (cy 0, 5, .inl (fun _ => 0))), (q3, .inl (cy 0, 4, .inl (fun _ => 0))), (q4, .inl (cy 0, 8, .inl (fun _ => 0))), (q5, .inl (cy 2, 5, .inr (.inr (.inr (.inr (fun _ => none))))))] s _ _ := w
  refine lv_aload_n hx hb dX4_init_38 rfl (lv_at hl 0 rfl) ?_
  refine lv_iconst (v := (-1)) hx hb dX4_init_39 (by decide) ?_
  refine n_put C w inlX4 tyX4 tyX4_ok nmX4 0 rfl vc4 5 (by decide) w_fl_RX4_31_Strand_attemptMark_I rfl (by rfl) (by rfl) (Nat.le_of_ble_eq_true rfl) dX4_init_40 (fun H locs w => ?_)
  have w : WI D A [(h0, .inr (4, [.ref (b2 (11, t, 0)), .ref q3, .ref q4, .ref q5, .int 0, .int (-1), .int 0, .int 0, .int 0, .int 0, .int 0, .int 0])), ((b2 (11, t, 0)), .inr (3, [.ref (b2 (12, t, 0)), .ref (b2 (13, t, 0)), .ref (b2 (14, t, 0)), .ref (b2 (15, t, 0)), .ref (b2 (16, t, 0)), .ref (b2 (17, t, 0)), .ref (b2 (18, t, 0)), .int 0, .int 0])), ((b2 (12, t, 0)), .inl (cy 0, 30, .inl (fun _ => 0))), ((b2 (13, t, 0)), .inl (cy 0, 30, .inl (fun _ => 0))), ((b2 (14, t, 0)), .inl (cy 0, 30, .inl (fun _ => 0))), ((b2 (15, t, 0)), .inl (cy 0, 30, .inl (fun _ => 0))), ((b2 (16, t, 0)), .inl (cy 0, 30, .inl (fun _ => 0))), ((b2 (17, t, 0)), .inl (cy 0, 30, .inl (fun _ => 0))), ((b2 (18, t, 0)), .inl (cy 0, 5, .inl (fun _ => 0))), (q3, .inl (cy 0, 4, .inl (fun _ => 0))), (q4, .inl (cy 0, 8, .inl (fun _ => 0))), (q5, .inl (cy 2, 5, .inr (.inr (.inr (.inr (fun _ => none))))))] s _ _ := w
  refine lv_aload_n hx hb dX4_init_43 rfl (lv_at hl 0 rfl) ?_
  refine lv_iconst (v := 0) hx hb dX4_init_44 (by decide) ?_
  refine n_put C w inlX4 tyX4 tyX4_ok nmX4 0 rfl vc4 9 (by decide) w_fl_RX4_35_Strand_state_I rfl (by rfl) (by rfl) (Nat.le_of_ble_eq_true rfl) dX4_init_45 (fun H locs w => ?_)
  have w : WI D A [(h0, .inr (4, [.ref (b2 (11, t, 0)), .ref q3, .ref q4, .ref q5, .int 0, .int (-1), .int 0, .int 0, .int 0, .int 0, .int 0, .int 0])), ((b2 (11, t, 0)), .inr (3, [.ref (b2 (12, t, 0)), .ref (b2 (13, t, 0)), .ref (b2 (14, t, 0)), .ref (b2 (15, t, 0)), .ref (b2 (16, t, 0)), .ref (b2 (17, t, 0)), .ref (b2 (18, t, 0)), .int 0, .int 0])), ((b2 (12, t, 0)), .inl (cy 0, 30, .inl (fun _ => 0))), ((b2 (13, t, 0)), .inl (cy 0, 30, .inl (fun _ => 0))), ((b2 (14, t, 0)), .inl (cy 0, 30, .inl (fun _ => 0))), ((b2 (15, t, 0)), .inl (cy 0, 30, .inl (fun _ => 0))), ((b2 (16, t, 0)), .inl (cy 0, 30, .inl (fun _ => 0))), ((b2 (17, t, 0)), .inl (cy 0, 30, .inl (fun _ => 0))), ((b2 (18, t, 0)), .inl (cy 0, 5, .inl (fun _ => 0))), (q3, .inl (cy 0, 4, .inl (fun _ => 0))), (q4, .inl (cy 0, 8, .inl (fun _ => 0))), (q5, .inl (cy 2, 5, .inr (.inr (.inr (.inr (fun _ => none))))))] s _ _ := w
  refine lv_iconst (v := 0) hx hb dX4_init_48 (by decide) ?_
  refine lv_istore_n hx hb dX4_init_49 rfl hl (by decide) rfl (fun ls hl => ?_)
  refine lv_iload_n hx hb dX4_init_50 rfl (lv_at hl 0 rfl) ?_
  refine lv_iconst (v := 5) hx hb dX4_init_51 (by decide) ?_
  refine lv_icmp_ge (tgt := 74) hx hb dX4_init_52 (by decide) (fun q => absurd q (by decide)) (fun _ => ?_)
  refine lv_aload_n hx hb dX4_init_55 rfl (lv_at hl 1 rfl) ?_
  refine n_get C w inlX4 0 rfl vc4 3 (by decide) w_fl_RX4_27_Strand_marks_LAtomicThreads_Mark rfl dX4_init_56 ?_
  refine lv_iload_n hx hb dX4_init_59 rfl (lv_at hl 0 rfl) ?_
  refine n_new C w inlX0 tyX0 tyX0_ok w_cl_RX4_25_RX0 w_inst_RX0_4 w_ini_RX0 vc0 (fs := [.null, .null, .int 0, .int 0]) (fun j hj => by rcases (show j = 0 ∨ j = 1 ∨ j = 2 ∨ j = 3 by omega) with rfl | rfl | rfl | rfl <;> rfl) (Nat.le_of_ble_eq_true rfl) (Nat.le_of_ble_eq_true rfl) dX4_init_60 (fun q6 H w => ?_)
  refine lv_dup hx hb dX4_init_63 rfl ?_
  refine n_callN C w (c_X0_init (t := t) (i := 0)) wn_X0 rfl w_im_yX0_init nw_m_X4_38 rfl rfl ⟨Nat.le_of_ble_eq_true rfl, Nat.le_of_ble_eq_true rfl⟩ hl.1 (Nat.le_of_ble_eq_true rfl) dX4_init_64 ⟨Nat.le_of_ble_eq_true rfl, Nat.le_of_ble_eq_true rfl⟩ (fun b7 H locs hb7 w1 => ?_)
  clear w
  subst hb7
  have w := w1
  clear w1
  have w : WI D A [(h0, .inr (4, [.ref (b2 (11, t, 0)), .ref q3, .ref q4, .ref q5, .int 0, .int (-1), .int 0, .int 0, .int 0, .int 0, .int 0, .int 0])), ((b2 (11, t, 0)), .inr (3, [.ref (b2 (12, t, 0)), .ref (b2 (13, t, 0)), .ref (b2 (14, t, 0)), .ref (b2 (15, t, 0)), .ref (b2 (16, t, 0)), .ref (b2 (17, t, 0)), .ref (b2 (18, t, 0)), .int 0, .int 0])), ((b2 (12, t, 0)), .inl (cy 0, 30, .inl (fun _ => 0))), ((b2 (13, t, 0)), .inl (cy 0, 30, .inl (fun _ => 0))), ((b2 (14, t, 0)), .inl (cy 0, 30, .inl (fun _ => 0))), ((b2 (15, t, 0)), .inl (cy 0, 30, .inl (fun _ => 0))), ((b2 (16, t, 0)), .inl (cy 0, 30, .inl (fun _ => 0))), ((b2 (17, t, 0)), .inl (cy 0, 30, .inl (fun _ => 0))), ((b2 (18, t, 0)), .inl (cy 0, 5, .inl (fun _ => 0))), (q3, .inl (cy 0, 4, .inl (fun _ => 0))), (q4, .inl (cy 0, 8, .inl (fun _ => 0))), (q5, .inl (cy 2, 5, .inr (.inr (.inr (.inr (fun _ => none)))))), ((b7 (22, t, 0)), .inr (0, [.ref (b7 (23, t, 0)), .ref (b7 (24, t, 0)), .int 0, .int 0])), ((b7 (23, t, 0)), .inl (cy 0, 4, .inl (fun _ => 0))), ((b7 (24, t, 0)), .inl (cy 0, 8, .inl (fun _ => 0)))] s _ _ := w
  refine n_aast (k := 2) (j := 0) C w rfl 11 12 0 rfl rfl vc0 rfl (Nat.le_of_ble_eq_true rfl) (Nat.le_of_ble_eq_true rfl) dX4_init_67 (fun H locs w => ?_)
  have w : WI D A [(h0, .inr (4, [.ref (b2 (11, t, 0)), .ref q3, .ref q4, .ref q5, .int 0, .int (-1), .int 0, .int 0, .int 0, .int 0, .int 0, .int 0])), ((b2 (11, t, 0)), .inr (3, [.ref (b2 (12, t, 0)), .ref (b2 (13, t, 0)), .ref (b2 (14, t, 0)), .ref (b2 (15, t, 0)), .ref (b2 (16, t, 0)), .ref (b2 (17, t, 0)), .ref (b2 (18, t, 0)), .int 0, .int 0])), ((b2 (12, t, 0)), .inl (cy 0, 30, .inl (fun _ => 0))), ((b2 (13, t, 0)), .inl (cy 0, 30, .inl (fun _ => 0))), ((b2 (14, t, 0)), .inl (cy 0, 30, .inl (fun _ => 0))), ((b2 (15, t, 0)), .inl (cy 0, 30, .inl (fun _ => 0))), ((b2 (16, t, 0)), .inl (cy 0, 30, .inl (fun _ => 0))), ((b2 (17, t, 0)), .inl (cy 0, 30, .inl (fun _ => 0))), ((b2 (18, t, 0)), .inl (cy 0, 5, .inl (fun _ => 0))), (q3, .inl (cy 0, 4, .inl (fun _ => 0))), (q4, .inl (cy 0, 8, .inl (fun _ => 0))), (q5, .inl (cy 2, 5, .inr (.inr (.inr (.inr (va_up (fun _ => none) 0 (some (b7 (22, t, 0))))))))), ((b7 (22, t, 0)), .inr (0, [.ref (b7 (23, t, 0)), .ref (b7 (24, t, 0)), .int 0, .int 0])), ((b7 (23, t, 0)), .inl (cy 0, 4, .inl (fun _ => 0))), ((b7 (24, t, 0)), .inl (cy 0, 8, .inl (fun _ => 0)))] s _ _ := w
  refine lv_iinc (v := 1) hx hb dX4_init_68 hl (k := 0) rfl (by decide) (by decide) rfl (fun ls hl => ?_)
  refine lv_goto (tgt := 50) hx hb dX4_init_71 (by decide) ?_
  refine lv_iload_n hx hb dX4_init_50 rfl (lv_at hl 0 rfl) ?_
  refine lv_iconst (v := 5) hx hb dX4_init_51 (by decide) ?_
  refine lv_icmp_ge (tgt := 74) hx hb dX4_init_52 (by decide) (fun q => absurd q (by decide)) (fun _ => ?_)
  refine lv_aload_n hx hb dX4_init_55 rfl (lv_at hl 1 rfl) ?_
  refine n_get C w inlX4 0 rfl vc4 3 (by decide) w_fl_RX4_27_Strand_marks_LAtomicThreads_Mark rfl dX4_init_56 ?_
  refine lv_iload_n hx hb dX4_init_59 rfl (lv_at hl 0 rfl) ?_
  refine n_new C w inlX0 tyX0 tyX0_ok w_cl_RX4_25_RX0 w_inst_RX0_4 w_ini_RX0 vc0 (fs := [.null, .null, .int 0, .int 0]) (fun j hj => by rcases (show j = 0 ∨ j = 1 ∨ j = 2 ∨ j = 3 by omega) with rfl | rfl | rfl | rfl <;> rfl) (Nat.le_of_ble_eq_true rfl) (Nat.le_of_ble_eq_true rfl) dX4_init_60 (fun q8 H w => ?_)
  refine lv_dup hx hb dX4_init_63 rfl ?_
  refine n_callN C w (c_X0_init (t := t) (i := 1)) wn_X0 rfl w_im_yX0_init nw_m_X4_38 rfl rfl ⟨Nat.le_of_ble_eq_true rfl, Nat.le_of_ble_eq_true rfl⟩ hl.1 (Nat.le_of_ble_eq_true rfl) dX4_init_64 ⟨Nat.le_of_ble_eq_true rfl, Nat.le_of_ble_eq_true rfl⟩ (fun b9 H locs hb9 w1 => ?_)
  clear w
  subst hb9
  have w := w1
  clear w1
  have w : WI D A [(h0, .inr (4, [.ref (b2 (11, t, 0)), .ref q3, .ref q4, .ref q5, .int 0, .int (-1), .int 0, .int 0, .int 0, .int 0, .int 0, .int 0])), ((b2 (11, t, 0)), .inr (3, [.ref (b2 (12, t, 0)), .ref (b2 (13, t, 0)), .ref (b2 (14, t, 0)), .ref (b2 (15, t, 0)), .ref (b2 (16, t, 0)), .ref (b2 (17, t, 0)), .ref (b2 (18, t, 0)), .int 0, .int 0])), ((b2 (12, t, 0)), .inl (cy 0, 30, .inl (fun _ => 0))), ((b2 (13, t, 0)), .inl (cy 0, 30, .inl (fun _ => 0))), ((b2 (14, t, 0)), .inl (cy 0, 30, .inl (fun _ => 0))), ((b2 (15, t, 0)), .inl (cy 0, 30, .inl (fun _ => 0))), ((b2 (16, t, 0)), .inl (cy 0, 30, .inl (fun _ => 0))), ((b2 (17, t, 0)), .inl (cy 0, 30, .inl (fun _ => 0))), ((b2 (18, t, 0)), .inl (cy 0, 5, .inl (fun _ => 0))), (q3, .inl (cy 0, 4, .inl (fun _ => 0))), (q4, .inl (cy 0, 8, .inl (fun _ => 0))), (q5, .inl (cy 2, 5, .inr (.inr (.inr (.inr (va_up (fun _ => none) 0 (some (b7 (22, t, 0))))))))), ((b7 (22, t, 0)), .inr (0, [.ref (b7 (23, t, 0)), .ref (b7 (24, t, 0)), .int 0, .int 0])), ((b7 (23, t, 0)), .inl (cy 0, 4, .inl (fun _ => 0))), ((b7 (24, t, 0)), .inl (cy 0, 8, .inl (fun _ => 0))), ((b9 (22, t, 1)), .inr (0, [.ref (b9 (23, t, 1)), .ref (b9 (24, t, 1)), .int 0, .int 0])), ((b9 (23, t, 1)), .inl (cy 0, 4, .inl (fun _ => 0))), ((b9 (24, t, 1)), .inl (cy 0, 8, .inl (fun _ => 0)))] s _ _ := w
  refine n_aast (k := 2) (j := 1) C w rfl 11 15 0 rfl rfl vc0 rfl (Nat.le_of_ble_eq_true rfl) (Nat.le_of_ble_eq_true rfl) dX4_init_67 (fun H locs w => ?_)
  have w : WI D A [(h0, .inr (4, [.ref (b2 (11, t, 0)), .ref q3, .ref q4, .ref q5, .int 0, .int (-1), .int 0, .int 0, .int 0, .int 0, .int 0, .int 0])), ((b2 (11, t, 0)), .inr (3, [.ref (b2 (12, t, 0)), .ref (b2 (13, t, 0)), .ref (b2 (14, t, 0)), .ref (b2 (15, t, 0)), .ref (b2 (16, t, 0)), .ref (b2 (17, t, 0)), .ref (b2 (18, t, 0)), .int 0, .int 0])), ((b2 (12, t, 0)), .inl (cy 0, 30, .inl (fun _ => 0))), ((b2 (13, t, 0)), .inl (cy 0, 30, .inl (fun _ => 0))), ((b2 (14, t, 0)), .inl (cy 0, 30, .inl (fun _ => 0))), ((b2 (15, t, 0)), .inl (cy 0, 30, .inl (fun _ => 0))), ((b2 (16, t, 0)), .inl (cy 0, 30, .inl (fun _ => 0))), ((b2 (17, t, 0)), .inl (cy 0, 30, .inl (fun _ => 0))), ((b2 (18, t, 0)), .inl (cy 0, 5, .inl (fun _ => 0))), (q3, .inl (cy 0, 4, .inl (fun _ => 0))), (q4, .inl (cy 0, 8, .inl (fun _ => 0))), (q5, .inl (cy 2, 5, .inr (.inr (.inr (.inr (va_up (va_up (fun _ => none) 0 (some (b7 (22, t, 0)))) 1 (some (b9 (22, t, 1))))))))), ((b7 (22, t, 0)), .inr (0, [.ref (b7 (23, t, 0)), .ref (b7 (24, t, 0)), .int 0, .int 0])), ((b7 (23, t, 0)), .inl (cy 0, 4, .inl (fun _ => 0))), ((b7 (24, t, 0)), .inl (cy 0, 8, .inl (fun _ => 0))), ((b9 (22, t, 1)), .inr (0, [.ref (b9 (23, t, 1)), .ref (b9 (24, t, 1)), .int 0, .int 0])), ((b9 (23, t, 1)), .inl (cy 0, 4, .inl (fun _ => 0))), ((b9 (24, t, 1)), .inl (cy 0, 8, .inl (fun _ => 0)))] s _ _ := w
  refine lv_iinc (v := 2) hx hb dX4_init_68 hl (k := 0) rfl (by decide) (by decide) rfl (fun ls hl => ?_)
  refine lv_goto (tgt := 50) hx hb dX4_init_71 (by decide) ?_
  refine lv_iload_n hx hb dX4_init_50 rfl (lv_at hl 0 rfl) ?_
  refine lv_iconst (v := 5) hx hb dX4_init_51 (by decide) ?_
  refine lv_icmp_ge (tgt := 74) hx hb dX4_init_52 (by decide) (fun q => absurd q (by decide)) (fun _ => ?_)
  refine lv_aload_n hx hb dX4_init_55 rfl (lv_at hl 1 rfl) ?_
  refine n_get C w inlX4 0 rfl vc4 3 (by decide) w_fl_RX4_27_Strand_marks_LAtomicThreads_Mark rfl dX4_init_56 ?_
  refine lv_iload_n hx hb dX4_init_59 rfl (lv_at hl 0 rfl) ?_
  refine n_new C w inlX0 tyX0 tyX0_ok w_cl_RX4_25_RX0 w_inst_RX0_4 w_ini_RX0 vc0 (fs := [.null, .null, .int 0, .int 0]) (fun j hj => by rcases (show j = 0 ∨ j = 1 ∨ j = 2 ∨ j = 3 by omega) with rfl | rfl | rfl | rfl <;> rfl) (Nat.le_of_ble_eq_true rfl) (Nat.le_of_ble_eq_true rfl) dX4_init_60 (fun q10 H w => ?_)
  refine lv_dup hx hb dX4_init_63 rfl ?_
  refine n_callN C w (c_X0_init (t := t) (i := 2)) wn_X0 rfl w_im_yX0_init nw_m_X4_38 rfl rfl ⟨Nat.le_of_ble_eq_true rfl, Nat.le_of_ble_eq_true rfl⟩ hl.1 (Nat.le_of_ble_eq_true rfl) dX4_init_64 ⟨Nat.le_of_ble_eq_true rfl, Nat.le_of_ble_eq_true rfl⟩ (fun b11 H locs hb11 w1 => ?_)
  clear w
  subst hb11
  have w := w1
  clear w1
  have w : WI D A [(h0, .inr (4, [.ref (b2 (11, t, 0)), .ref q3, .ref q4, .ref q5, .int 0, .int (-1), .int 0, .int 0, .int 0, .int 0, .int 0, .int 0])), ((b2 (11, t, 0)), .inr (3, [.ref (b2 (12, t, 0)), .ref (b2 (13, t, 0)), .ref (b2 (14, t, 0)), .ref (b2 (15, t, 0)), .ref (b2 (16, t, 0)), .ref (b2 (17, t, 0)), .ref (b2 (18, t, 0)), .int 0, .int 0])), ((b2 (12, t, 0)), .inl (cy 0, 30, .inl (fun _ => 0))), ((b2 (13, t, 0)), .inl (cy 0, 30, .inl (fun _ => 0))), ((b2 (14, t, 0)), .inl (cy 0, 30, .inl (fun _ => 0))), ((b2 (15, t, 0)), .inl (cy 0, 30, .inl (fun _ => 0))), ((b2 (16, t, 0)), .inl (cy 0, 30, .inl (fun _ => 0))), ((b2 (17, t, 0)), .inl (cy 0, 30, .inl (fun _ => 0))), ((b2 (18, t, 0)), .inl (cy 0, 5, .inl (fun _ => 0))), (q3, .inl (cy 0, 4, .inl (fun _ => 0))), (q4, .inl (cy 0, 8, .inl (fun _ => 0))), (q5, .inl (cy 2, 5, .inr (.inr (.inr (.inr (va_up (va_up (fun _ => none) 0 (some (b7 (22, t, 0)))) 1 (some (b9 (22, t, 1))))))))), ((b7 (22, t, 0)), .inr (0, [.ref (b7 (23, t, 0)), .ref (b7 (24, t, 0)), .int 0, .int 0])), ((b7 (23, t, 0)), .inl (cy 0, 4, .inl (fun _ => 0))), ((b7 (24, t, 0)), .inl (cy 0, 8, .inl (fun _ => 0))), ((b9 (22, t, 1)), .inr (0, [.ref (b9 (23, t, 1)), .ref (b9 (24, t, 1)), .int 0, .int 0])), ((b9 (23, t, 1)), .inl (cy 0, 4, .inl (fun _ => 0))), ((b9 (24, t, 1)), .inl (cy 0, 8, .inl (fun _ => 0))), ((b11 (22, t, 2)), .inr (0, [.ref (b11 (23, t, 2)), .ref (b11 (24, t, 2)), .int 0, .int 0])), ((b11 (23, t, 2)), .inl (cy 0, 4, .inl (fun _ => 0))), ((b11 (24, t, 2)), .inl (cy 0, 8, .inl (fun _ => 0)))] s _ _ := w
  refine n_aast (k := 2) (j := 2) C w rfl 11 18 0 rfl rfl vc0 rfl (Nat.le_of_ble_eq_true rfl) (Nat.le_of_ble_eq_true rfl) dX4_init_67 (fun H locs w => ?_)
  have w : WI D A [(h0, .inr (4, [.ref (b2 (11, t, 0)), .ref q3, .ref q4, .ref q5, .int 0, .int (-1), .int 0, .int 0, .int 0, .int 0, .int 0, .int 0])), ((b2 (11, t, 0)), .inr (3, [.ref (b2 (12, t, 0)), .ref (b2 (13, t, 0)), .ref (b2 (14, t, 0)), .ref (b2 (15, t, 0)), .ref (b2 (16, t, 0)), .ref (b2 (17, t, 0)), .ref (b2 (18, t, 0)), .int 0, .int 0])), ((b2 (12, t, 0)), .inl (cy 0, 30, .inl (fun _ => 0))), ((b2 (13, t, 0)), .inl (cy 0, 30, .inl (fun _ => 0))), ((b2 (14, t, 0)), .inl (cy 0, 30, .inl (fun _ => 0))), ((b2 (15, t, 0)), .inl (cy 0, 30, .inl (fun _ => 0))), ((b2 (16, t, 0)), .inl (cy 0, 30, .inl (fun _ => 0))), ((b2 (17, t, 0)), .inl (cy 0, 30, .inl (fun _ => 0))), ((b2 (18, t, 0)), .inl (cy 0, 5, .inl (fun _ => 0))), (q3, .inl (cy 0, 4, .inl (fun _ => 0))), (q4, .inl (cy 0, 8, .inl (fun _ => 0))), (q5, .inl (cy 2, 5, .inr (.inr (.inr (.inr (va_up (va_up (va_up (fun _ => none) 0 (some (b7 (22, t, 0)))) 1 (some (b9 (22, t, 1)))) 2 (some (b11 (22, t, 2))))))))), ((b7 (22, t, 0)), .inr (0, [.ref (b7 (23, t, 0)), .ref (b7 (24, t, 0)), .int 0, .int 0])), ((b7 (23, t, 0)), .inl (cy 0, 4, .inl (fun _ => 0))), ((b7 (24, t, 0)), .inl (cy 0, 8, .inl (fun _ => 0))), ((b9 (22, t, 1)), .inr (0, [.ref (b9 (23, t, 1)), .ref (b9 (24, t, 1)), .int 0, .int 0])), ((b9 (23, t, 1)), .inl (cy 0, 4, .inl (fun _ => 0))), ((b9 (24, t, 1)), .inl (cy 0, 8, .inl (fun _ => 0))), ((b11 (22, t, 2)), .inr (0, [.ref (b11 (23, t, 2)), .ref (b11 (24, t, 2)), .int 0, .int 0])), ((b11 (23, t, 2)), .inl (cy 0, 4, .inl (fun _ => 0))), ((b11 (24, t, 2)), .inl (cy 0, 8, .inl (fun _ => 0)))] s _ _ := w
  refine lv_iinc (v := 3) hx hb dX4_init_68 hl (k := 0) rfl (by decide) (by decide) rfl (fun ls hl => ?_)
  refine lv_goto (tgt := 50) hx hb dX4_init_71 (by decide) ?_
  refine lv_iload_n hx hb dX4_init_50 rfl (lv_at hl 0 rfl) ?_
  refine lv_iconst (v := 5) hx hb dX4_init_51 (by decide) ?_
  refine lv_icmp_ge (tgt := 74) hx hb dX4_init_52 (by decide) (fun q => absurd q (by decide)) (fun _ => ?_)
  refine lv_aload_n hx hb dX4_init_55 rfl (lv_at hl 1 rfl) ?_
  refine n_get C w inlX4 0 rfl vc4 3 (by decide) w_fl_RX4_27_Strand_marks_LAtomicThreads_Mark rfl dX4_init_56 ?_
  refine lv_iload_n hx hb dX4_init_59 rfl (lv_at hl 0 rfl) ?_
  refine n_new C w inlX0 tyX0 tyX0_ok w_cl_RX4_25_RX0 w_inst_RX0_4 w_ini_RX0 vc0 (fs := [.null, .null, .int 0, .int 0]) (fun j hj => by rcases (show j = 0 ∨ j = 1 ∨ j = 2 ∨ j = 3 by omega) with rfl | rfl | rfl | rfl <;> rfl) (Nat.le_of_ble_eq_true rfl) (Nat.le_of_ble_eq_true rfl) dX4_init_60 (fun q12 H w => ?_)
  refine lv_dup hx hb dX4_init_63 rfl ?_
  refine n_callN C w (c_X0_init (t := t) (i := 3)) wn_X0 rfl w_im_yX0_init nw_m_X4_38 rfl rfl ⟨Nat.le_of_ble_eq_true rfl, Nat.le_of_ble_eq_true rfl⟩ hl.1 (Nat.le_of_ble_eq_true rfl) dX4_init_64 ⟨Nat.le_of_ble_eq_true rfl, Nat.le_of_ble_eq_true rfl⟩ (fun b13 H locs hb13 w1 => ?_)
  clear w
  subst hb13
  have w := w1
  clear w1
  have w : WI D A [(h0, .inr (4, [.ref (b2 (11, t, 0)), .ref q3, .ref q4, .ref q5, .int 0, .int (-1), .int 0, .int 0, .int 0, .int 0, .int 0, .int 0])), ((b2 (11, t, 0)), .inr (3, [.ref (b2 (12, t, 0)), .ref (b2 (13, t, 0)), .ref (b2 (14, t, 0)), .ref (b2 (15, t, 0)), .ref (b2 (16, t, 0)), .ref (b2 (17, t, 0)), .ref (b2 (18, t, 0)), .int 0, .int 0])), ((b2 (12, t, 0)), .inl (cy 0, 30, .inl (fun _ => 0))), ((b2 (13, t, 0)), .inl (cy 0, 30, .inl (fun _ => 0))), ((b2 (14, t, 0)), .inl (cy 0, 30, .inl (fun _ => 0))), ((b2 (15, t, 0)), .inl (cy 0, 30, .inl (fun _ => 0))), ((b2 (16, t, 0)), .inl (cy 0, 30, .inl (fun _ => 0))), ((b2 (17, t, 0)), .inl (cy 0, 30, .inl (fun _ => 0))), ((b2 (18, t, 0)), .inl (cy 0, 5, .inl (fun _ => 0))), (q3, .inl (cy 0, 4, .inl (fun _ => 0))), (q4, .inl (cy 0, 8, .inl (fun _ => 0))), (q5, .inl (cy 2, 5, .inr (.inr (.inr (.inr (va_up (va_up (va_up (fun _ => none) 0 (some (b7 (22, t, 0)))) 1 (some (b9 (22, t, 1)))) 2 (some (b11 (22, t, 2))))))))), ((b7 (22, t, 0)), .inr (0, [.ref (b7 (23, t, 0)), .ref (b7 (24, t, 0)), .int 0, .int 0])), ((b7 (23, t, 0)), .inl (cy 0, 4, .inl (fun _ => 0))), ((b7 (24, t, 0)), .inl (cy 0, 8, .inl (fun _ => 0))), ((b9 (22, t, 1)), .inr (0, [.ref (b9 (23, t, 1)), .ref (b9 (24, t, 1)), .int 0, .int 0])), ((b9 (23, t, 1)), .inl (cy 0, 4, .inl (fun _ => 0))), ((b9 (24, t, 1)), .inl (cy 0, 8, .inl (fun _ => 0))), ((b11 (22, t, 2)), .inr (0, [.ref (b11 (23, t, 2)), .ref (b11 (24, t, 2)), .int 0, .int 0])), ((b11 (23, t, 2)), .inl (cy 0, 4, .inl (fun _ => 0))), ((b11 (24, t, 2)), .inl (cy 0, 8, .inl (fun _ => 0))), ((b13 (22, t, 3)), .inr (0, [.ref (b13 (23, t, 3)), .ref (b13 (24, t, 3)), .int 0, .int 0])), ((b13 (23, t, 3)), .inl (cy 0, 4, .inl (fun _ => 0))), ((b13 (24, t, 3)), .inl (cy 0, 8, .inl (fun _ => 0)))] s _ _ := w
  refine n_aast (k := 2) (j := 3) C w rfl 11 21 0 rfl rfl vc0 rfl (Nat.le_of_ble_eq_true rfl) (Nat.le_of_ble_eq_true rfl) dX4_init_67 (fun H locs w => ?_)
  have w : WI D A [(h0, .inr (4, [.ref (b2 (11, t, 0)), .ref q3, .ref q4, .ref q5, .int 0, .int (-1), .int 0, .int 0, .int 0, .int 0, .int 0, .int 0])), ((b2 (11, t, 0)), .inr (3, [.ref (b2 (12, t, 0)), .ref (b2 (13, t, 0)), .ref (b2 (14, t, 0)), .ref (b2 (15, t, 0)), .ref (b2 (16, t, 0)), .ref (b2 (17, t, 0)), .ref (b2 (18, t, 0)), .int 0, .int 0])), ((b2 (12, t, 0)), .inl (cy 0, 30, .inl (fun _ => 0))), ((b2 (13, t, 0)), .inl (cy 0, 30, .inl (fun _ => 0))), ((b2 (14, t, 0)), .inl (cy 0, 30, .inl (fun _ => 0))), ((b2 (15, t, 0)), .inl (cy 0, 30, .inl (fun _ => 0))), ((b2 (16, t, 0)), .inl (cy 0, 30, .inl (fun _ => 0))), ((b2 (17, t, 0)), .inl (cy 0, 30, .inl (fun _ => 0))), ((b2 (18, t, 0)), .inl (cy 0, 5, .inl (fun _ => 0))), (q3, .inl (cy 0, 4, .inl (fun _ => 0))), (q4, .inl (cy 0, 8, .inl (fun _ => 0))), (q5, .inl (cy 2, 5, .inr (.inr (.inr (.inr (va_up (va_up (va_up (va_up (fun _ => none) 0 (some (b7 (22, t, 0)))) 1 (some (b9 (22, t, 1)))) 2 (some (b11 (22, t, 2)))) 3 (some (b13 (22, t, 3))))))))), ((b7 (22, t, 0)), .inr (0, [.ref (b7 (23, t, 0)), .ref (b7 (24, t, 0)), .int 0, .int 0])), ((b7 (23, t, 0)), .inl (cy 0, 4, .inl (fun _ => 0))), ((b7 (24, t, 0)), .inl (cy 0, 8, .inl (fun _ => 0))), ((b9 (22, t, 1)), .inr (0, [.ref (b9 (23, t, 1)), .ref (b9 (24, t, 1)), .int 0, .int 0])), ((b9 (23, t, 1)), .inl (cy 0, 4, .inl (fun _ => 0))), ((b9 (24, t, 1)), .inl (cy 0, 8, .inl (fun _ => 0))), ((b11 (22, t, 2)), .inr (0, [.ref (b11 (23, t, 2)), .ref (b11 (24, t, 2)), .int 0, .int 0])), ((b11 (23, t, 2)), .inl (cy 0, 4, .inl (fun _ => 0))), ((b11 (24, t, 2)), .inl (cy 0, 8, .inl (fun _ => 0))), ((b13 (22, t, 3)), .inr (0, [.ref (b13 (23, t, 3)), .ref (b13 (24, t, 3)), .int 0, .int 0])), ((b13 (23, t, 3)), .inl (cy 0, 4, .inl (fun _ => 0))), ((b13 (24, t, 3)), .inl (cy 0, 8, .inl (fun _ => 0)))] s _ _ := w
  refine lv_iinc (v := 4) hx hb dX4_init_68 hl (k := 0) rfl (by decide) (by decide) rfl (fun ls hl => ?_)
  refine lv_goto (tgt := 50) hx hb dX4_init_71 (by decide) ?_
  refine lv_iload_n hx hb dX4_init_50 rfl (lv_at hl 0 rfl) ?_
  refine lv_iconst (v := 5) hx hb dX4_init_51 (by decide) ?_
  refine lv_icmp_ge (tgt := 74) hx hb dX4_init_52 (by decide) (fun q => absurd q (by decide)) (fun _ => ?_)
  refine lv_aload_n hx hb dX4_init_55 rfl (lv_at hl 1 rfl) ?_
  refine n_get C w inlX4 0 rfl vc4 3 (by decide) w_fl_RX4_27_Strand_marks_LAtomicThreads_Mark rfl dX4_init_56 ?_
  refine lv_iload_n hx hb dX4_init_59 rfl (lv_at hl 0 rfl) ?_
  refine n_new C w inlX0 tyX0 tyX0_ok w_cl_RX4_25_RX0 w_inst_RX0_4 w_ini_RX0 vc0 (fs := [.null, .null, .int 0, .int 0]) (fun j hj => by rcases (show j = 0 ∨ j = 1 ∨ j = 2 ∨ j = 3 by omega) with rfl | rfl | rfl | rfl <;> rfl) (Nat.le_of_ble_eq_true rfl) (Nat.le_of_ble_eq_true rfl) dX4_init_60 (fun q14 H w => ?_)
  refine lv_dup hx hb dX4_init_63 rfl ?_
  refine n_callN C w (c_X0_init (t := t) (i := 4)) wn_X0 rfl w_im_yX0_init nw_m_X4_38 rfl rfl ⟨Nat.le_of_ble_eq_true rfl, Nat.le_of_ble_eq_true rfl⟩ hl.1 (Nat.le_of_ble_eq_true rfl) dX4_init_64 ⟨Nat.le_of_ble_eq_true rfl, Nat.le_of_ble_eq_true rfl⟩ (fun b15 H locs hb15 w1 => ?_)
  clear w
  subst hb15
  have w := w1
  clear w1
  have w : WI D A [(h0, .inr (4, [.ref (b2 (11, t, 0)), .ref q3, .ref q4, .ref q5, .int 0, .int (-1), .int 0, .int 0, .int 0, .int 0, .int 0, .int 0])), ((b2 (11, t, 0)), .inr (3, [.ref (b2 (12, t, 0)), .ref (b2 (13, t, 0)), .ref (b2 (14, t, 0)), .ref (b2 (15, t, 0)), .ref (b2 (16, t, 0)), .ref (b2 (17, t, 0)), .ref (b2 (18, t, 0)), .int 0, .int 0])), ((b2 (12, t, 0)), .inl (cy 0, 30, .inl (fun _ => 0))), ((b2 (13, t, 0)), .inl (cy 0, 30, .inl (fun _ => 0))), ((b2 (14, t, 0)), .inl (cy 0, 30, .inl (fun _ => 0))), ((b2 (15, t, 0)), .inl (cy 0, 30, .inl (fun _ => 0))), ((b2 (16, t, 0)), .inl (cy 0, 30, .inl (fun _ => 0))), ((b2 (17, t, 0)), .inl (cy 0, 30, .inl (fun _ => 0))), ((b2 (18, t, 0)), .inl (cy 0, 5, .inl (fun _ => 0))), (q3, .inl (cy 0, 4, .inl (fun _ => 0))), (q4, .inl (cy 0, 8, .inl (fun _ => 0))), (q5, .inl (cy 2, 5, .inr (.inr (.inr (.inr (va_up (va_up (va_up (va_up (fun _ => none) 0 (some (b7 (22, t, 0)))) 1 (some (b9 (22, t, 1)))) 2 (some (b11 (22, t, 2)))) 3 (some (b13 (22, t, 3))))))))), ((b7 (22, t, 0)), .inr (0, [.ref (b7 (23, t, 0)), .ref (b7 (24, t, 0)), .int 0, .int 0])), ((b7 (23, t, 0)), .inl (cy 0, 4, .inl (fun _ => 0))), ((b7 (24, t, 0)), .inl (cy 0, 8, .inl (fun _ => 0))), ((b9 (22, t, 1)), .inr (0, [.ref (b9 (23, t, 1)), .ref (b9 (24, t, 1)), .int 0, .int 0])), ((b9 (23, t, 1)), .inl (cy 0, 4, .inl (fun _ => 0))), ((b9 (24, t, 1)), .inl (cy 0, 8, .inl (fun _ => 0))), ((b11 (22, t, 2)), .inr (0, [.ref (b11 (23, t, 2)), .ref (b11 (24, t, 2)), .int 0, .int 0])), ((b11 (23, t, 2)), .inl (cy 0, 4, .inl (fun _ => 0))), ((b11 (24, t, 2)), .inl (cy 0, 8, .inl (fun _ => 0))), ((b13 (22, t, 3)), .inr (0, [.ref (b13 (23, t, 3)), .ref (b13 (24, t, 3)), .int 0, .int 0])), ((b13 (23, t, 3)), .inl (cy 0, 4, .inl (fun _ => 0))), ((b13 (24, t, 3)), .inl (cy 0, 8, .inl (fun _ => 0))), ((b15 (22, t, 4)), .inr (0, [.ref (b15 (23, t, 4)), .ref (b15 (24, t, 4)), .int 0, .int 0])), ((b15 (23, t, 4)), .inl (cy 0, 4, .inl (fun _ => 0))), ((b15 (24, t, 4)), .inl (cy 0, 8, .inl (fun _ => 0)))] s _ _ := w
  refine n_aast (k := 2) (j := 4) C w rfl 11 24 0 rfl rfl vc0 rfl (Nat.le_of_ble_eq_true rfl) (Nat.le_of_ble_eq_true rfl) dX4_init_67 (fun H locs w => ?_)
  have w : WI D A [(h0, .inr (4, [.ref (b2 (11, t, 0)), .ref q3, .ref q4, .ref q5, .int 0, .int (-1), .int 0, .int 0, .int 0, .int 0, .int 0, .int 0])), ((b2 (11, t, 0)), .inr (3, [.ref (b2 (12, t, 0)), .ref (b2 (13, t, 0)), .ref (b2 (14, t, 0)), .ref (b2 (15, t, 0)), .ref (b2 (16, t, 0)), .ref (b2 (17, t, 0)), .ref (b2 (18, t, 0)), .int 0, .int 0])), ((b2 (12, t, 0)), .inl (cy 0, 30, .inl (fun _ => 0))), ((b2 (13, t, 0)), .inl (cy 0, 30, .inl (fun _ => 0))), ((b2 (14, t, 0)), .inl (cy 0, 30, .inl (fun _ => 0))), ((b2 (15, t, 0)), .inl (cy 0, 30, .inl (fun _ => 0))), ((b2 (16, t, 0)), .inl (cy 0, 30, .inl (fun _ => 0))), ((b2 (17, t, 0)), .inl (cy 0, 30, .inl (fun _ => 0))), ((b2 (18, t, 0)), .inl (cy 0, 5, .inl (fun _ => 0))), (q3, .inl (cy 0, 4, .inl (fun _ => 0))), (q4, .inl (cy 0, 8, .inl (fun _ => 0))), (q5, .inl (cy 2, 5, .inr (.inr (.inr (.inr (va_up (va_up (va_up (va_up (va_up (fun _ => none) 0 (some (b7 (22, t, 0)))) 1 (some (b9 (22, t, 1)))) 2 (some (b11 (22, t, 2)))) 3 (some (b13 (22, t, 3)))) 4 (some (b15 (22, t, 4))))))))), ((b7 (22, t, 0)), .inr (0, [.ref (b7 (23, t, 0)), .ref (b7 (24, t, 0)), .int 0, .int 0])), ((b7 (23, t, 0)), .inl (cy 0, 4, .inl (fun _ => 0))), ((b7 (24, t, 0)), .inl (cy 0, 8, .inl (fun _ => 0))), ((b9 (22, t, 1)), .inr (0, [.ref (b9 (23, t, 1)), .ref (b9 (24, t, 1)), .int 0, .int 0])), ((b9 (23, t, 1)), .inl (cy 0, 4, .inl (fun _ => 0))), ((b9 (24, t, 1)), .inl (cy 0, 8, .inl (fun _ => 0))), ((b11 (22, t, 2)), .inr (0, [.ref (b11 (23, t, 2)), .ref (b11 (24, t, 2)), .int 0, .int 0])), ((b11 (23, t, 2)), .inl (cy 0, 4, .inl (fun _ => 0))), ((b11 (24, t, 2)), .inl (cy 0, 8, .inl (fun _ => 0))), ((b13 (22, t, 3)), .inr (0, [.ref (b13 (23, t, 3)), .ref (b13 (24, t, 3)), .int 0, .int 0])), ((b13 (23, t, 3)), .inl (cy 0, 4, .inl (fun _ => 0))), ((b13 (24, t, 3)), .inl (cy 0, 8, .inl (fun _ => 0))), ((b15 (22, t, 4)), .inr (0, [.ref (b15 (23, t, 4)), .ref (b15 (24, t, 4)), .int 0, .int 0])), ((b15 (23, t, 4)), .inl (cy 0, 4, .inl (fun _ => 0))), ((b15 (24, t, 4)), .inl (cy 0, 8, .inl (fun _ => 0)))] s _ _ := w
  refine lv_iinc (v := 5) hx hb dX4_init_68 hl (k := 0) rfl (by decide) (by decide) rfl (fun ls hl => ?_)
  refine lv_goto (tgt := 50) hx hb dX4_init_71 (by decide) ?_
  refine lv_iload_n hx hb dX4_init_50 rfl (lv_at hl 0 rfl) ?_
  refine lv_iconst (v := 5) hx hb dX4_init_51 (by decide) ?_
  refine lv_icmp_ge (tgt := 74) hx hb dX4_init_52 (by decide) (fun _ => ?_) (fun q => absurd (by decide) q)
  obtain ⟨bb, ebb⟩ : ∃ bb : Id3 → Nat, bb = (fun q => match q.1 with | 10 => h0 | 19 => q3 | 20 => q4 | 21 => q5 | 22 => (match q.2.2 with | 0 => b7 q | 1 => b9 q | 2 => b11 q | 3 => b13 q | _ => b15 q) | 23 => (match q.2.2 with | 0 => b7 q | 1 => b9 q | 2 => b11 q | 3 => b13 q | _ => b15 q) | 24 => (match q.2.2 with | 0 => b7 q | 1 => b9 q | 2 => b11 q | 3 => b13 q | _ => b15 q) | _ => b2 q) := ⟨_, rfl⟩
  have w := n_ext w 11 rfl (fun j => some (bb (22, t, j))) (fun j hj => by subst ebb; rcases (show j = 0 ∨ j = 1 ∨ j = 2 ∨ j = 3 ∨ j = 4 by omega) with rfl | rfl | rfl | rfl | rfl <;> rfl)
  subst ebb
  exact n_ret C hr hlk w (fun q => match q.1 with | 10 => h0 | 19 => q3 | 20 => q4 | 21 => q5 | 22 => (match q.2.2 with | 0 => b7 q | 1 => b9 q | 2 => b11 q | 3 => b13 q | _ => b15 q) | 23 => (match q.2.2 with | 0 => b7 q | 1 => b9 q | 2 => b11 q | 3 => b13 q | _ => b15 q) | 24 => (match q.2.2 with | 0 => b7 q | 1 => b9 q | 2 => b11 q | 3 => b13 q | _ => b15 q) | _ => b2 q) rfl rfl dX4_init_74
end SI
