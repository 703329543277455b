section SI0
variable {l : Launch} {cy : Nat → ClassId} {D : va_G}
abbrev rm_X5_init : Room := { frames := 3, cells := 114, slots := 1253, locals := 61 }
theorem wn_X5 : Wy yX5_init cX5_init 2 none 0 := ⟨w_co_yX5_init_cX5_init_2_none, w_ini_RX5, by decide +kernel, by decide +kernel, by decide +kernel⟩
set_option maxHeartbeats 4000000 in
set_option maxRecDepth 100000 in
theorem c_X5_init {h0 sz : Nat} : MtN l cy D EC V0 yX5_init cX5_init 2 rm_X5_init idC (0, 0, 0) (.inr (5, [.null, .null, .null])) 114 1253 h0 sz := by
  refine ofN (by decide +kernel) rfl (Nat.le_of_ble_eq_true rfl) (fun p e s m args below meth c A C hr hlk hin9 w ls hl => ?_)
  have hx := C.1.1
  have hb := C.1.2.1
  refine lv_aload_n hx hb dX5_init_0 rfl (lv_at hl 0 rfl) ?_
  refine n_obj C w_ml_RX5_1_objectInit hl.1 dX5_init_1 (Nat.le_of_ble_eq_true rfl) (Nat.le_of_ble_eq_true rfl) ?_
  refine lv_aload_n hx hb dX5_init_4 rfl (lv_at hl 0 rfl) ?_
  refine n_new C w inlX1 tyX1 tyX1_ok w_cl_RX5_7_RX1 w_inst_RX1_3 w_ini_RX1 vc1 (fs := [.null, .null, .int 0]) (fun j hj => by rcases (show j = 0 ∨ j = 1 ∨ j = 2 by omega) with rfl | rfl | rfl <;> rfl) (Nat.le_of_ble_eq_true rfl) (Nat.le_of_ble_eq_true rfl) dX5_init_5 (fun q1 H w => ?_)
  refine lv_dup hx hb dX5_init_8 rfl ?_
  refine n_callN C w (c_X1_init) wn_X1 rfl w_im_yX1_init nw_m_X5_9 rfl rfl ⟨Nat.le_of_ble_eq_true rfl, Nat.le_of_ble_eq_true rfl⟩ hl.1 (Nat.le_of_ble_eq_true rfl) dX5_init_9 ⟨Nat.le_of_ble_eq_true rfl, Nat.le_of_ble_eq_true rfl⟩ (fun b2 H locs hb2 w1 => ?_)
  clear w
  subst hb2
  have w := w1
  clear w1
  have w : WI D A [(h0, .inr (5, [.null, .null, .null])), ((b2 (1, 0, 0)), .inr (1, [.ref (b2 (2, 0, 0)), .ref (b2 (3, 0, 0)), .int 0])), ((b2 (2, 0, 0)), .inl (cy 0, 8, .inl (fun _ => 0))), ((b2 (3, 0, 0)), .inl (cy 0, 8, .inl (fun _ => 0)))] s _ _ := w
  refine n_putF C hin9 w inlX5 tyX5 tyX5_ok nmX5 0 rfl vc5 0 (by decide) w_fl_RX5_10_AtomicThreads_memory_LAtomicThreads_Memory rfl rfl (by rfl) (by rfl) (Nat.le_of_ble_eq_true rfl) dX5_init_12 (fun H locs w => ?_)
  have w : WI D A [(h0, .inr (5, [.ref (b2 (1, 0, 0)), .null, .null])), ((b2 (1, 0, 0)), .inr (1, [.ref (b2 (2, 0, 0)), .ref (b2 (3, 0, 0)), .int 0])), ((b2 (2, 0, 0)), .inl (cy 0, 8, .inl (fun _ => 0))), ((b2 (3, 0, 0)), .inl (cy 0, 8, .inl (fun _ => 0)))] s _ _ := w
  refine lv_aload_n hx hb dX5_init_15 rfl (lv_at hl 0 rfl) ?_
  refine n_new C w inlX2 tyX2 tyX2_ok w_cl_RX5_16_RX2 w_inst_RX2_2 w_ini_RX2 vc2 (fs := [.null, .int 0]) (fun j hj => by rcases (show j = 0 ∨ j = 1 by omega) with rfl | rfl <;> rfl) (Nat.le_of_ble_eq_true rfl) (Nat.le_of_ble_eq_true rfl) dX5_init_16 (fun q3 H w => ?_)
  refine lv_dup hx hb dX5_init_19 rfl ?_
  refine n_callN C w (c_X2_init) wn_X2 rfl w_im_yX2_init nw_m_X5_18 rfl rfl ⟨Nat.le_of_ble_eq_true rfl, Nat.le_of_ble_eq_true rfl⟩ hl.1 (Nat.le_of_ble_eq_true rfl) dX5_init_20 ⟨Nat.le_of_ble_eq_true rfl, Nat.le_of_ble_eq_true rfl⟩ (fun b4 H locs hb4 w1 => ?_)
  clear w
  subst hb4
  have w := w1
  clear w1
  have w : WI D A [(h0, .inr (5, [.ref (b2 (1, 0, 0)), .null, .null])), ((b2 (1, 0, 0)), .inr (1, [.ref (b2 (2, 0, 0)), .ref (b2 (3, 0, 0)), .int 0])), ((b2 (2, 0, 0)), .inl (cy 0, 8, .inl (fun _ => 0))), ((b2 (3, 0, 0)), .inl (cy 0, 8, .inl (fun _ => 0))), ((b4 (4, 0, 0)), .inr (2, [.ref (b4 (5, 0, 0)), .int 0])), ((b4 (5, 0, 0)), .inl (cy 0, 16, .inl (fun _ => 0)))] s _ _ := w
  refine n_putF C hin9 w inlX5 tyX5 tyX5_ok nmX5 0 rfl vc5 1 (by decide) w_fl_RX5_19_AtomicThreads_paper_LAtomicThreads_Paper rfl rfl (by rfl) (by rfl) (Nat.le_of_ble_eq_true rfl) dX5_init_23 (fun H locs w => ?_)
  have w : WI D A [(h0, .inr (5, [.ref (b2 (1, 0, 0)), .ref (b4 (4, 0, 0)), .null])), ((b2 (1, 0, 0)), .inr (1, [.ref (b2 (2, 0, 0)), .ref (b2 (3, 0, 0)), .int 0])), ((b2 (2, 0, 0)), .inl (cy 0, 8, .inl (fun _ => 0))), ((b2 (3, 0, 0)), .inl (cy 0, 8, .inl (fun _ => 0))), ((b4 (4, 0, 0)), .inr (2, [.ref (b4 (5, 0, 0)), .int 0])), ((b4 (5, 0, 0)), .inl (cy 0, 16, .inl (fun _ => 0)))] s _ _ := w
  refine lv_aload_n hx hb dX5_init_26 rfl (lv_at hl 0 rfl) ?_
  refine lv_iconst (v := 4) hx hb dX5_init_27 (by decide) ?_
  refine n_newQ (k := 3) (N' := 4) C w rfl C.2.2.2.2 w_cl_RX5_23_RX4 (by decide) rfl (Nat.le_of_ble_eq_true rfl) (Nat.le_of_ble_eq_true rfl) (Nat.le_of_ble_eq_true rfl) dX5_init_28 (fun q5 H w => ?_)
  have w : WI D A [(h0, .inr (5, [.ref (b2 (1, 0, 0)), .ref (b4 (4, 0, 0)), .null])), ((b2 (1, 0, 0)), .inr (1, [.ref (b2 (2, 0, 0)), .ref (b2 (3, 0, 0)), .int 0])), ((b2 (2, 0, 0)), .inl (cy 0, 8, .inl (fun _ => 0))), ((b2 (3, 0, 0)), .inl (cy 0, 8, .inl (fun _ => 0))), ((b4 (4, 0, 0)), .inr (2, [.ref (b4 (5, 0, 0)), .int 0])), ((b4 (5, 0, 0)), .inl (cy 0, 16, .inl (fun _ => 0))), (q5, .inl (cy 3, 4, .inr (.inr (.inr (.inr (fun _ => none))))))] s _ _ := w
  refine n_putF C hin9 w inlX5 tyX5 tyX5_ok nmX5 0 rfl vc5 2 (by decide) w_fl_RX5_25_AtomicThreads_strands_LAtomicThreads_Strand rfl rfl (by rfl) (by rfl) (Nat.le_of_ble_eq_true rfl) dX5_init_31 (fun H locs w => ?_)
  have w : WI D A [(h0, .inr (5, [.ref (b2 (1, 0, 0)), .ref (b4 (4, 0, 0)), .ref q5])), ((b2 (1, 0, 0)), .inr (1, [.ref (b2 (2, 0, 0)), .ref (b2 (3, 0, 0)), .int 0])), ((b2 (2, 0, 0)), .inl (cy 0, 8, .inl (fun _ => 0))), ((b2 (3, 0, 0)), .inl (cy 0, 8, .inl (fun _ => 0))), ((b4 (4, 0, 0)), .inr (2, [.ref (b4 (5, 0, 0)), .int 0])), ((b4 (5, 0, 0)), .inl (cy 0, 16, .inl (fun _ => 0))), (q5, .inl (cy 3, 4, .inr (.inr (.inr (.inr (fun _ => none))))))] s _ _ := w
  refine lv_iconst (v := 0) hx hb dX5_init_34 (by decide) ?_
  refine lv_istore_n hx hb dX5_init_35 rfl hl (by decide) rfl (fun ls hl => ?_)
  refine lv_iload_n hx hb dX5_init_36 rfl (lv_at hl 0 rfl) ?_
  refine lv_iconst (v := 4) hx hb dX5_init_37 (by decide) ?_
  refine lv_icmp_ge (tgt := 60) hx hb dX5_init_38 (by decide) (fun q => absurd q (by decide)) (fun _ => ?_)
  refine lv_aload_n hx hb dX5_init_41 rfl (lv_at hl 1 rfl) ?_
  refine n_get C w inlX5 0 rfl vc5 2 (by decide) w_fl_RX5_25_AtomicThreads_strands_LAtomicThreads_Strand rfl dX5_init_42 ?_
  refine lv_iload_n hx hb dX5_init_45 rfl (lv_at hl 0 rfl) ?_
  refine n_new C w inlX4 tyX4 tyX4_ok w_cl_RX5_23_RX4 w_inst_RX4_12 w_ini_RX4 vc4 (fs := [.null, .null, .null, .null, .int 0, .int 0, .int 0, .int 0, .int 0, .int 0, .int 0, .int 0]) (fun j hj => by rcases (show j = 0 ∨ j = 1 ∨ j = 2 ∨ j = 3 ∨ j = 4 ∨ j = 5 ∨ j = 6 ∨ j = 7 ∨ j = 8 ∨ j = 9 ∨ j = 10 ∨ j = 11 by omega) with rfl | rfl | rfl | rfl | rfl | rfl | rfl | rfl | rfl | rfl | rfl | rfl <;> rfl) (Nat.le_of_ble_eq_true rfl) (Nat.le_of_ble_eq_true rfl) dX5_init_46 (fun q6 H w => ?_)
  refine lv_dup hx hb dX5_init_49 rfl ?_
  refine n_callN C w (c_X4_init (t := 0)) wn_X4 rfl w_im_yX4_init nw_m_X5_29 rfl rfl ⟨Nat.le_of_ble_eq_true rfl, Nat.le_of_ble_eq_true rfl⟩ hl.1 (Nat.le_of_ble_eq_true rfl) dX5_init_50 ⟨Nat.le_of_ble_eq_true rfl, Nat.le_of_ble_eq_true rfl⟩ (fun b7 H locs hb7 w1 => ?_)
  clear w
  subst hb7
  have w := w1
  clear w1
  have w : WI D A ([(h0, .inr (5, [.ref (b2 (1, 0, 0)), .ref (b4 (4, 0, 0)), .ref q5])), ((b2 (1, 0, 0)), .inr (1, [.ref (b2 (2, 0, 0)), .ref (b2 (3, 0, 0)), .int 0])), ((b2 (2, 0, 0)), .inl (cy 0, 8, .inl (fun _ => 0))), ((b2 (3, 0, 0)), .inl (cy 0, 8, .inl (fun _ => 0))), ((b4 (4, 0, 0)), .inr (2, [.ref (b4 (5, 0, 0)), .int 0])), ((b4 (5, 0, 0)), .inl (cy 0, 16, .inl (fun _ => 0))), (q5, .inl (cy 3, 4, .inr (.inr (.inr (.inr (fun _ => none))))))] ++ cel EC [(10, 0, 0), (11, 0, 0), (12, 0, 0), (13, 0, 0), (14, 0, 0), (15, 0, 0), (16, 0, 0), (17, 0, 0), (18, 0, 0), (19, 0, 0), (20, 0, 0), (21, 0, 0), (22, 0, 0), (23, 0, 0), (24, 0, 0), (22, 0, 1), (23, 0, 1), (24, 0, 1), (22, 0, 2), (23, 0, 2), (24, 0, 2), (22, 0, 3), (23, 0, 3), (24, 0, 3), (22, 0, 4), (23, 0, 4), (24, 0, 4)] cy b7 V0) s _ _ := w
  refine n_aast (k := 3) (j := 0) C w rfl 6 7 4 rfl rfl vc4 rfl (Nat.le_of_ble_eq_true rfl) (Nat.le_of_ble_eq_true rfl) dX5_init_53 (fun H locs w => ?_)
  have w : WI D A ([(h0, .inr (5, [.ref (b2 (1, 0, 0)), .ref (b4 (4, 0, 0)), .ref q5])), ((b2 (1, 0, 0)), .inr (1, [.ref (b2 (2, 0, 0)), .ref (b2 (3, 0, 0)), .int 0])), ((b2 (2, 0, 0)), .inl (cy 0, 8, .inl (fun _ => 0))), ((b2 (3, 0, 0)), .inl (cy 0, 8, .inl (fun _ => 0))), ((b4 (4, 0, 0)), .inr (2, [.ref (b4 (5, 0, 0)), .int 0])), ((b4 (5, 0, 0)), .inl (cy 0, 16, .inl (fun _ => 0))), (q5, .inl (cy 3, 4, .inr (.inr (.inr (.inr (va_up (fun _ => none) 0 (some (b7 (10, 0, 0)))))))))] ++ cel EC [(10, 0, 0), (11, 0, 0), (12, 0, 0), (13, 0, 0), (14, 0, 0), (15, 0, 0), (16, 0, 0), (17, 0, 0), (18, 0, 0), (19, 0, 0), (20, 0, 0), (21, 0, 0), (22, 0, 0), (23, 0, 0), (24, 0, 0), (22, 0, 1), (23, 0, 1), (24, 0, 1), (22, 0, 2), (23, 0, 2), (24, 0, 2), (22, 0, 3), (23, 0, 3), (24, 0, 3), (22, 0, 4), (23, 0, 4), (24, 0, 4)] cy b7 V0) s _ _ := w
  refine lv_iinc (v := 1) hx hb dX5_init_54 hl (k := 0) rfl (by decide) (by decide) rfl (fun ls hl => ?_)
  refine lv_goto (tgt := 36) hx hb dX5_init_57 (by decide) ?_
  refine lv_iload_n hx hb dX5_init_36 rfl (lv_at hl 0 rfl) ?_
  refine lv_iconst (v := 4) hx hb dX5_init_37 (by decide) ?_
  refine lv_icmp_ge (tgt := 60) hx hb dX5_init_38 (by decide) (fun q => absurd q (by decide)) (fun _ => ?_)
  refine lv_aload_n hx hb dX5_init_41 rfl (lv_at hl 1 rfl) ?_
  refine n_get C w inlX5 0 rfl vc5 2 (by decide) w_fl_RX5_25_AtomicThreads_strands_LAtomicThreads_Strand rfl dX5_init_42 ?_
  refine lv_iload_n hx hb dX5_init_45 rfl (lv_at hl 0 rfl) ?_
  refine n_new C w inlX4 tyX4 tyX4_ok w_cl_RX5_23_RX4 w_inst_RX4_12 w_ini_RX4 vc4 (fs := [.null, .null, .null, .null, .int 0, .int 0, .int 0, .int 0, .int 0, .int 0, .int 0, .int 0]) (fun j hj => by rcases (show j = 0 ∨ j = 1 ∨ j = 2 ∨ j = 3 ∨ j = 4 ∨ j = 5 ∨ j = 6 ∨ j = 7 ∨ j = 8 ∨ j = 9 ∨ j = 10 ∨ j = 11 by omega) with rfl | rfl | rfl | rfl | rfl | rfl | rfl | rfl | rfl | rfl | rfl | rfl <;> rfl) (Nat.le_of_ble_eq_true rfl) (Nat.le_of_ble_eq_true rfl) dX5_init_46 (fun q8 H w => ?_)
  refine lv_dup hx hb dX5_init_49 rfl ?_
  refine n_callN C w (c_X4_init (t := 1)) wn_X4 rfl w_im_yX4_init nw_m_X5_29 rfl rfl ⟨Nat.le_of_ble_eq_true rfl, Nat.le_of_ble_eq_true rfl⟩ hl.1 (Nat.le_of_ble_eq_true rfl) dX5_init_50 ⟨Nat.le_of_ble_eq_true rfl, Nat.le_of_ble_eq_true rfl⟩ (fun b9 H locs hb9 w1 => ?_)
  clear w
  subst hb9
  have w := w1
  clear w1
  have w : WI D A (([(h0, .inr (5, [.ref (b2 (1, 0, 0)), .ref (b4 (4, 0, 0)), .ref q5])), ((b2 (1, 0, 0)), .inr (1, [.ref (b2 (2, 0, 0)), .ref (b2 (3, 0, 0)), .int 0])), ((b2 (2, 0, 0)), .inl (cy 0, 8, .inl (fun _ => 0))), ((b2 (3, 0, 0)), .inl (cy 0, 8, .inl (fun _ => 0))), ((b4 (4, 0, 0)), .inr (2, [.ref (b4 (5, 0, 0)), .int 0])), ((b4 (5, 0, 0)), .inl (cy 0, 16, .inl (fun _ => 0))), (q5, .inl (cy 3, 4, .inr (.inr (.inr (.inr (va_up (fun _ => none) 0 (some (b7 (10, 0, 0)))))))))] ++ cel EC [(10, 0, 0), (11, 0, 0), (12, 0, 0), (13, 0, 0), (14, 0, 0), (15, 0, 0), (16, 0, 0), (17, 0, 0), (18, 0, 0), (19, 0, 0), (20, 0, 0), (21, 0, 0), (22, 0, 0), (23, 0, 0), (24, 0, 0), (22, 0, 1), (23, 0, 1), (24, 0, 1), (22, 0, 2), (23, 0, 2), (24, 0, 2), (22, 0, 3), (23, 0, 3), (24, 0, 3), (22, 0, 4), (23, 0, 4), (24, 0, 4)] cy b7 V0) ++ cel EC [(10, 1, 0), (11, 1, 0), (12, 1, 0), (13, 1, 0), (14, 1, 0), (15, 1, 0), (16, 1, 0), (17, 1, 0), (18, 1, 0), (19, 1, 0), (20, 1, 0), (21, 1, 0), (22, 1, 0), (23, 1, 0), (24, 1, 0), (22, 1, 1), (23, 1, 1), (24, 1, 1), (22, 1, 2), (23, 1, 2), (24, 1, 2), (22, 1, 3), (23, 1, 3), (24, 1, 3), (22, 1, 4), (23, 1, 4), (24, 1, 4)] cy b9 V0) s _ _ := w
  refine n_aast (k := 3) (j := 1) C w rfl 6 34 4 rfl rfl vc4 rfl (Nat.le_of_ble_eq_true rfl) (Nat.le_of_ble_eq_true rfl) dX5_init_53 (fun H locs w => ?_)
  have w : WI D A (([(h0, .inr (5, [.ref (b2 (1, 0, 0)), .ref (b4 (4, 0, 0)), .ref q5])), ((b2 (1, 0, 0)), .inr (1, [.ref (b2 (2, 0, 0)), .ref (b2 (3, 0, 0)), .int 0])), ((b2 (2, 0, 0)), .inl (cy 0, 8, .inl (fun _ => 0))), ((b2 (3, 0, 0)), .inl (cy 0, 8, .inl (fun _ => 0))), ((b4 (4, 0, 0)), .inr (2, [.ref (b4 (5, 0, 0)), .int 0])), ((b4 (5, 0, 0)), .inl (cy 0, 16, .inl (fun _ => 0))), (q5, .inl (cy 3, 4, .inr (.inr (.inr (.inr (va_up (va_up (fun _ => none) 0 (some (b7 (10, 0, 0)))) 1 (some (b9 (10, 1, 0)))))))))] ++ cel EC [(10, 0, 0), (11, 0, 0), (12, 0, 0), (13, 0, 0), (14, 0, 0), (15, 0, 0), (16, 0, 0), (17, 0, 0), (18, 0, 0), (19, 0, 0), (20, 0, 0), (21, 0, 0), (22, 0, 0), (23, 0, 0), (24, 0, 0), (22, 0, 1), (23, 0, 1), (24, 0, 1), (22, 0, 2), (23, 0, 2), (24, 0, 2), (22, 0, 3), (23, 0, 3), (24, 0, 3), (22, 0, 4), (23, 0, 4), (24, 0, 4)] cy b7 V0) ++ cel EC [(10, 1, 0), (11, 1, 0), (12, 1, 0), (13, 1, 0), (14, 1, 0), (15, 1, 0), (16, 1, 0), (17, 1, 0), (18, 1, 0), (19, 1, 0), (20, 1, 0), (21, 1, 0), (22, 1, 0), (23, 1, 0), (24, 1, 0), (22, 1, 1), (23, 1, 1), (24, 1, 1), (22, 1, 2), (23, 1, 2), (24, 1, 2), (22, 1, 3), (23, 1, 3), (24, 1, 3), (22, 1, 4), (23, 1, 4), (24, 1, 4)] cy b9 V0) s _ _ := w
  refine lv_iinc (v := 2) hx hb dX5_init_54 hl (k := 0) rfl (by decide) (by decide) rfl (fun ls hl => ?_)
  refine lv_goto (tgt := 36) hx hb dX5_init_57 (by decide) ?_
  refine lv_iload_n hx hb dX5_init_36 rfl (lv_at hl 0 rfl) ?_
  refine lv_iconst (v := 4) hx hb dX5_init_37 (by decide) ?_
  refine lv_icmp_ge (tgt := 60) hx hb dX5_init_38 (by decide) (fun q => absurd q (by decide)) (fun _ => ?_)
  refine lv_aload_n hx hb dX5_init_41 rfl (lv_at hl 1 rfl) ?_
  refine n_get C w inlX5 0 rfl vc5 2 (by decide) w_fl_RX5_25_AtomicThreads_strands_LAtomicThreads_Strand rfl dX5_init_42 ?_
  refine lv_iload_n hx hb dX5_init_45 rfl (lv_at hl 0 rfl) ?_
  refine n_new C w inlX4 tyX4 tyX4_ok w_cl_RX5_23_RX4 w_inst_RX4_12 w_ini_RX4 vc4 (fs := [.null, .null, .null, .null, .int 0, .int 0, .int 0, .int 0, .int 0, .int 0, .int 0, .int 0]) (fun j hj => by rcases (show j = 0 ∨ j = 1 ∨ j = 2 ∨ j = 3 ∨ j = 4 ∨ j = 5 ∨ j = 6 ∨ j = 7 ∨ j = 8 ∨ j = 9 ∨ j = 10 ∨ j = 11 by omega) with rfl | rfl | rfl | rfl | rfl | rfl | rfl | rfl | rfl | rfl | rfl | rfl <;> rfl) (Nat.le_of_ble_eq_true rfl) (Nat.le_of_ble_eq_true rfl) dX5_init_46 (fun q10 H w => ?_)
  refine lv_dup hx hb dX5_init_49 rfl ?_
  refine n_callN C w (c_X4_init (t := 2)) wn_X4 rfl w_im_yX4_init nw_m_X5_29 rfl rfl ⟨Nat.le_of_ble_eq_true rfl, Nat.le_of_ble_eq_true rfl⟩ hl.1 (Nat.le_of_ble_eq_true rfl) dX5_init_50 ⟨Nat.le_of_ble_eq_true rfl, Nat.le_of_ble_eq_true rfl⟩ (fun b11 H locs hb11 w1 => ?_)
  clear w
  subst hb11
  have w := w1
  clear w1
  have w : WI D A ((([(h0, .inr (5, [.ref (b2 (1, 0, 0)), .ref (b4 (4, 0, 0)), .ref q5])), ((b2 (1, 0, 0)), .inr (1, [.ref (b2 (2, 0, 0)), .ref (b2 (3, 0, 0)), .int 0])), ((b2 (2, 0, 0)), .inl (cy 0, 8, .inl (fun _ => 0))), ((b2 (3, 0, 0)), .inl (cy 0, 8, .inl (fun _ => 0))), ((b4 (4, 0, 0)), .inr (2, [.ref (b4 (5, 0, 0)), .int 0])), ((b4 (5, 0, 0)), .inl (cy 0, 16, .inl (fun _ => 0))), (q5, .inl (cy 3, 4, .inr (.inr (.inr (.inr (va_up (va_up (fun _ => none) 0 (some (b7 (10, 0, 0)))) 1 (some (b9 (10, 1, 0)))))))))] ++ cel EC [(10, 0, 0), (11, 0, 0), (12, 0, 0), (13, 0, 0), (14, 0, 0), (15, 0, 0), (16, 0, 0), (17, 0, 0), (18, 0, 0), (19, 0, 0), (20, 0, 0), (21, 0, 0), (22, 0, 0), (23, 0, 0), (24, 0, 0), (22, 0, 1), (23, 0, 1), (24, 0, 1), (22, 0, 2), (23, 0, 2), (24, 0, 2), (22, 0, 3), (23, 0, 3), (24, 0, 3), (22, 0, 4), (23, 0, 4), (24, 0, 4)] cy b7 V0) ++ cel EC [(10, 1, 0), (11, 1, 0), (12, 1, 0), (13, 1, 0), (14, 1, 0), (15, 1, 0), (16, 1, 0), (17, 1, 0), (18, 1, 0), (19, 1, 0), (20, 1, 0), (21, 1, 0), (22, 1, 0), (23, 1, 0), (24, 1, 0), (22, 1, 1), (23, 1, 1), (24, 1, 1), (22, 1, 2), (23, 1, 2), (24, 1, 2), (22, 1, 3), (23, 1, 3), (24, 1, 3), (22, 1, 4), (23, 1, 4), (24, 1, 4)] cy b9 V0) ++ cel EC [(10, 2, 0), (11, 2, 0), (12, 2, 0), (13, 2, 0), (14, 2, 0), (15, 2, 0), (16, 2, 0), (17, 2, 0), (18, 2, 0), (19, 2, 0), (20, 2, 0), (21, 2, 0), (22, 2, 0), (23, 2, 0), (24, 2, 0), (22, 2, 1), (23, 2, 1), (24, 2, 1), (22, 2, 2), (23, 2, 2), (24, 2, 2), (22, 2, 3), (23, 2, 3), (24, 2, 3), (22, 2, 4), (23, 2, 4), (24, 2, 4)] cy b11 V0) s _ _ := w
  refine n_aast (k := 3) (j := 2) C w rfl 6 61 4 rfl rfl vc4 rfl (Nat.le_of_ble_eq_true rfl) (Nat.le_of_ble_eq_true rfl) dX5_init_53 (fun H locs w => ?_)
  have w : WI D A ((([(h0, .inr (5, [.ref (b2 (1, 0, 0)), .ref (b4 (4, 0, 0)), .ref q5])), ((b2 (1, 0, 0)), .inr (1, [.ref (b2 (2, 0, 0)), .ref (b2 (3, 0, 0)), .int 0])), ((b2 (2, 0, 0)), .inl (cy 0, 8, .inl (fun _ => 0))), ((b2 (3, 0, 0)), .inl (cy 0, 8, .inl (fun _ => 0))), ((b4 (4, 0, 0)), .inr (2, [.ref (b4 (5, 0, 0)), .int 0])), ((b4 (5, 0, 0)), .inl (cy 0, 16, .inl (fun _ => 0))), (q5, .inl (cy 3, 4, .inr (.inr (.inr (.inr (va_up (va_up (va_up (fun _ => none) 0 (some (b7 (10, 0, 0)))) 1 (some (b9 (10, 1, 0)))) 2 (some (b11 (10, 2, 0)))))))))] ++ cel EC [(10, 0, 0), (11, 0, 0), (12, 0, 0), (13, 0, 0), (14, 0, 0), (15, 0, 0), (16, 0, 0), (17, 0, 0), (18, 0, 0), (19, 0, 0), (20, 0, 0), (21, 0, 0), (22, 0, 0), (23, 0, 0), (24, 0, 0), (22, 0, 1), (23, 0, 1), (24, 0, 1), (22, 0, 2), (23, 0, 2), (24, 0, 2), (22, 0, 3), (23, 0, 3), (24, 0, 3), (22, 0, 4), (23, 0, 4), (24, 0, 4)] cy b7 V0) ++ cel EC [(10, 1, 0), (11, 1, 0), (12, 1, 0), (13, 1, 0), (14, 1, 0), (15, 1, 0), (16, 1, 0), (17, 1, 0), (18, 1, 0), (19, 1, 0), (20, 1, 0), (21, 1, 0), (22, 1, 0), (23, 1, 0), (24, 1, 0), (22, 1, 1), (23, 1, 1), (24, 1, 1), (22, 1, 2), (23, 1, 2), (24, 1, 2), (22, 1, 3), (23, 1, 3), (24, 1, 3), (22, 1, 4), (23, 1, 4), (24, 1, 4)] cy b9 V0) ++ cel EC [(10, 2, 0), (11, 2, 0), (12, 2, 0), (13, 2, 0), (14, 2, 0), (15, 2, 0), (16, 2, 0), (17, 2, 0), (18, 2, 0), (19, 2, 0), (20, 2, 0), (21, 2, 0), (22, 2, 0), (23, 2, 0), (24, 2, 0), (22, 2, 1), (23, 2, 1), (24, 2, 1), (22, 2, 2), (23, 2, 2), (24, 2, 2), (22, 2, 3), (23, 2, 3), (24, 2, 3), (22, 2, 4), (23, 2, 4), (24, 2, 4)] cy b11 V0) s _ _ := w
  refine lv_iinc (v := 3) hx hb dX5_init_54 hl (k := 0) rfl (by decide) (by decide) rfl (fun ls hl => ?_)
  refine lv_goto (tgt := 36) hx hb dX5_init_57 (by decide) ?_
  refine lv_iload_n hx hb dX5_init_36 rfl (lv_at hl 0 rfl) ?_
  refine lv_iconst (v := 4) hx hb dX5_init_37 (by decide) ?_
  refine lv_icmp_ge (tgt := 60) hx hb dX5_init_38 (by decide) (fun q => absurd q (by decide)) (fun _ => ?_)
  refine lv_aload_n hx hb dX5_init_41 rfl (lv_at hl 1 rfl) ?_
  refine n_get C w inlX5 0 rfl vc5 2 (by decide) w_fl_RX5_25_AtomicThreads_strands_LAtomicThreads_Strand rfl dX5_init_42 ?_
  refine lv_iload_n hx hb dX5_init_45 rfl (lv_at hl 0 rfl) ?_
  refine n_new C w inlX4 tyX4 tyX4_ok w_cl_RX5_23_RX4 w_inst_RX4_12 w_ini_RX4 vc4 (fs := [.null, .null, .null, .null, .int 0, .int 0, .int 0, .int 0, .int 0, .int 0, .int 0, .int 0]) (fun j hj => by rcases (show j = 0 ∨ j = 1 ∨ j = 2 ∨ j = 3 ∨ j = 4 ∨ j = 5 ∨ j = 6 ∨ j = 7 ∨ j = 8 ∨ j = 9 ∨ j = 10 ∨ j = 11 by omega) with rfl | rfl | rfl | rfl | rfl | rfl | rfl | rfl | rfl | rfl | rfl | rfl <;> rfl) (Nat.le_of_ble_eq_true rfl) (Nat.le_of_ble_eq_true rfl) dX5_init_46 (fun q12 H w => ?_)
  refine lv_dup hx hb dX5_init_49 rfl ?_
  refine n_callN C w (c_X4_init (t := 3)) wn_X4 rfl w_im_yX4_init nw_m_X5_29 rfl rfl ⟨Nat.le_of_ble_eq_true rfl, Nat.le_of_ble_eq_true rfl⟩ hl.1 (Nat.le_of_ble_eq_true rfl) dX5_init_50 ⟨Nat.le_of_ble_eq_true rfl, Nat.le_of_ble_eq_true rfl⟩ (fun b13 H locs hb13 w1 => ?_)
  clear w
  subst hb13
  have w := w1
  clear w1
  have w : WI D A (((([(h0, .inr (5, [.ref (b2 (1, 0, 0)), .ref (b4 (4, 0, 0)), .ref q5])), ((b2 (1, 0, 0)), .inr (1, [.ref (b2 (2, 0, 0)), .ref (b2 (3, 0, 0)), .int 0])), ((b2 (2, 0, 0)), .inl (cy 0, 8, .inl (fun _ => 0))), ((b2 (3, 0, 0)), .inl (cy 0, 8, .inl (fun _ => 0))), ((b4 (4, 0, 0)), .inr (2, [.ref (b4 (5, 0, 0)), .int 0])), ((b4 (5, 0, 0)), .inl (cy 0, 16, .inl (fun _ => 0))), (q5, .inl (cy 3, 4, .inr (.inr (.inr (.inr (va_up (va_up (va_up (fun _ => none) 0 (some (b7 (10, 0, 0)))) 1 (some (b9 (10, 1, 0)))) 2 (some (b11 (10, 2, 0)))))))))] ++ cel EC [(10, 0, 0), (11, 0, 0), (12, 0, 0), (13, 0, 0), (14, 0, 0), (15, 0, 0), (16, 0, 0), (17, 0, 0), (18, 0, 0), (19, 0, 0), (20, 0, 0), (21, 0, 0), (22, 0, 0), (23, 0, 0), (24, 0, 0), (22, 0, 1), (23, 0, 1), (24, 0, 1), (22, 0, 2), (23, 0, 2), (24, 0, 2), (22, 0, 3), (23, 0, 3), (24, 0, 3), (22, 0, 4), (23, 0, 4), (24, 0, 4)] cy b7 V0) ++ cel EC [(10, 1, 0), (11, 1, 0), (12, 1, 0), (13, 1, 0), (14, 1, 0), (15, 1, 0), (16, 1, 0), (17, 1, 0), (18, 1, 0), (19, 1, 0), (20, 1, 0), (21, 1, 0), (22, 1, 0), (23, 1, 0), (24, 1, 0), (22, 1, 1), (23, 1, 1), (24, 1, 1), (22, 1, 2), (23, 1, 2), (24, 1, 2), (22, 1, 3), (23, 1, 3), (24, 1, 3), (22, 1, 4), (23, 1, 4), (24, 1, 4)] cy b9 V0) ++ cel EC [(10, 2, 0), (11, 2, 0), (12, 2, 0), (13, 2, 0), (14, 2, 0), (15, 2, 0), (16, 2, 0), (17, 2, 0), (18, 2, 0), (19, 2, 0), (20, 2, 0), (21, 2, 0), (22, 2, 0), (23, 2, 0), (24, 2, 0), (22, 2, 1), (23, 2, 1), (24, 2, 1), (22, 2, 2), (23, 2, 2), (24, 2, 2), (22, 2, 3), (23, 2, 3), (24, 2, 3), (22, 2, 4), (23, 2, 4), (24, 2, 4)] cy b11 V0) ++ cel EC [(10, 3, 0), (11, 3, 0), (12, 3, 0), (13, 3, 0), (14, 3, 0), (15, 3, 0), (16, 3, 0), (17, 3, 0), (18, 3, 0), (19, 3, 0), (20, 3, 0), (21, 3, 0), (22, 3, 0), (23, 3, 0), (24, 3, 0), (22, 3, 1), (23, 3, 1), (24, 3, 1), (22, 3, 2), (23, 3, 2), (24, 3, 2), (22, 3, 3), (23, 3, 3), (24, 3, 3), (22, 3, 4), (23, 3, 4), (24, 3, 4)] cy b13 V0) s _ _ := w
  refine n_aast (k := 3) (j := 3) C w rfl 6 88 4 rfl rfl vc4 rfl (Nat.le_of_ble_eq_true rfl) (Nat.le_of_ble_eq_true rfl) dX5_init_53 (fun H locs w => ?_)
  have w : WI D A (((([(h0, .inr (5, [.ref (b2 (1, 0, 0)), .ref (b4 (4, 0, 0)), .ref q5])), ((b2 (1, 0, 0)), .inr (1, [.ref (b2 (2, 0, 0)), .ref (b2 (3, 0, 0)), .int 0])), ((b2 (2, 0, 0)), .inl (cy 0, 8, .inl (fun _ => 0))), ((b2 (3, 0, 0)), .inl (cy 0, 8, .inl (fun _ => 0))), ((b4 (4, 0, 0)), .inr (2, [.ref (b4 (5, 0, 0)), .int 0])), ((b4 (5, 0, 0)), .inl (cy 0, 16, .inl (fun _ => 0))), (q5, .inl (cy 3, 4, .inr (.inr (.inr (.inr (va_up (va_up (va_up (va_up (fun _ => none) 0 (some (b7 (10, 0, 0)))) 1 (some (b9 (10, 1, 0)))) 2 (some (b11 (10, 2, 0)))) 3 (some (b13 (10, 3, 0)))))))))] ++ cel EC [(10, 0, 0), (11, 0, 0), (12, 0, 0), (13, 0, 0), (14, 0, 0), (15, 0, 0), (16, 0, 0), (17, 0, 0), (18, 0, 0), (19, 0, 0), (20, 0, 0), (21, 0, 0), (22, 0, 0), (23, 0, 0), (24, 0, 0), (22, 0, 1), (23, 0, 1), (24, 0, 1), (22, 0, 2), (23, 0, 2), (24, 0, 2), (22, 0, 3), (23, 0, 3), (24, 0, 3), (22, 0, 4), (23, 0, 4), (24, 0, 4)] cy b7 V0) ++ cel EC [(10, 1, 0), (11, 1, 0), (12, 1, 0), (13, 1, 0), (14, 1, 0), (15, 1, 0), (16, 1, 0), (17, 1, 0), (18, 1, 0), (19, 1, 0), (20, 1, 0), (21, 1, 0), (22, 1, 0), (23, 1, 0), (24, 1, 0), (22, 1, 1), (23, 1, 1), (24, 1, 1), (22, 1, 2), (23, 1, 2), (24, 1, 2), (22, 1, 3), (23, 1, 3), (24, 1, 3), (22, 1, 4), (23, 1, 4), (24, 1, 4)] cy b9 V0) ++ cel EC [(10, 2, 0), (11, 2, 0), (12, 2, 0), (13, 2, 0), (14, 2, 0), (15, 2, 0), (16, 2, 0), (17, 2, 0), (18, 2, 0), (19, 2, 0), (20, 2, 0), (21, 2, 0), (22, 2, 0), (23, 2, 0), (24, 2, 0), (22, 2, 1), (23, 2, 1), (24, 2, 1), (22, 2, 2), (23, 2, 2), (24, 2, 2), (22, 2, 3), (23, 2, 3), (24, 2, 3), (22, 2, 4), (23, 2, 4), (24, 2, 4)] cy b11 V0) ++ cel EC [(10, 3, 0), (11, 3, 0), (12, 3, 0), (13, 3, 0), (14, 3, 0), (15, 3, 0), (16, 3, 0), (17, 3, 0), (18, 3, 0), (19, 3, 0), (20, 3, 0), (21, 3, 0), (22, 3, 0), (23, 3, 0), (24, 3, 0), (22, 3, 1), (23, 3, 1), (24, 3, 1), (22, 3, 2), (23, 3, 2), (24, 3, 2), (22, 3, 3), (23, 3, 3), (24, 3, 3), (22, 3, 4), (23, 3, 4), (24, 3, 4)] cy b13 V0) s _ _ := w
  refine lv_iinc (v := 4) hx hb dX5_init_54 hl (k := 0) rfl (by decide) (by decide) rfl (fun ls hl => ?_)
  refine lv_goto (tgt := 36) hx hb dX5_init_57 (by decide) ?_
  refine lv_iload_n hx hb dX5_init_36 rfl (lv_at hl 0 rfl) ?_
  refine lv_iconst (v := 4) hx hb dX5_init_37 (by decide) ?_
  refine lv_icmp_ge (tgt := 60) hx hb dX5_init_38 (by decide) (fun _ => ?_) (fun q => absurd (by decide) q)
  obtain ⟨bb, ebb⟩ : ∃ bb : Id3 → Nat, bb = (fun q => match q.1 with | 0 => h0 | 1 => b2 q | 2 => b2 q | 3 => b2 q | 4 => b4 q | 5 => b4 q | 6 => q5 | _ => (match q.2.1 with | 0 => b7 q | 1 => b9 q | 2 => b11 q | _ => b13 q)) := ⟨_, rfl⟩
  have w := n_ext w 6 rfl (fun j => some (bb (10, j, 0))) (fun j hj => by subst ebb; rcases (show j = 0 ∨ j = 1 ∨ j = 2 ∨ j = 3 by omega) with rfl | rfl | rfl | rfl <;> rfl)
  subst ebb
  exact n_ret C hr hlk w (fun q => match q.1 with | 0 => h0 | 1 => b2 q | 2 => b2 q | 3 => b2 q | 4 => b4 q | 5 => b4 q | 6 => q5 | _ => (match q.2.1 with | 0 => b7 q | 1 => b9 q | 2 => b11 q | _ => b13 q)) rfl rfl dX5_init_60
end SI0
