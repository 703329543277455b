section S31_metC02
variable {p : Program} {l : Launch} {e : Env} {R : Room} {s : State} {m : MethodId} {args : Array Value} {below : List Frame} {meth : Method} {c : Code} {cy : Nat → ClassId} {D : va_G} {a : Id3 → Nat}
set_option maxHeartbeats 4000000 in
set_option maxRecDepth 100000 in
theorem jX4_latestFirstPart_L7 (C : Cx cy D EC idC a p s m args c RX4 cX4_latestFirstPart 3) (hr : meth.sig.returnType = some .int) (hlk : meth.locks = false) {t : Nat} (ht : t < 4) : ∀ (n : Nat) {V : Sto} {r : Int32} {x1 : Int32} {x2 : Int32} {H : Heap} {locs : List Loc} {ls : Array Slot}, Wd cy D EC idC a V s H locs → lv_has ls 3 [(0, .ref (a (10, t, 0))), (1, .int x1), (2, .int x2)] → fX4_latestFirstPart_L7 n V t x1 x2 = some r → W p l e rm_X4_latestFirstPart s m args below meth c H locs 0 0 (MQ below (QI cy D EC idC a r V) args s 0 0 (inA idC a)) (F0 m 7 ls []) := by
  have hx := C.1.1
  have hb := C.1.2.1
  have ok := C.2.2.2
  intro n
  induction n with
  | zero => intro V r x1 x2 H locs ls w hl hf; cases hf
  | succ n ih =>
    intro V r x1 x2 H locs ls w hl hf
    rw [fX4_latestFirstPart_L7] at hf
    refine lv_iload_n hx hb dX4_latestFirstPart_7 rfl (lv_at hl 2 rfl) ?_
    refine lv_aload_n hx hb dX4_latestFirstPart_8 rfl (lv_at hl 0 rfl) ?_
    refine r_get C w (iC10 ht) eC10 vc4 inlX4 5 (by decide) w_fl_RX4_31_Strand_attemptMark_I rfl dX4_latestFirstPart_9 ?_
    refine lv_icmp_le (tgt := 48) hx hb dX4_latestFirstPart_12 (by decide) (fun c1 => ?_) (fun c1 => ?_)
    · rw [if_pos c1] at hf
      refine lv_iconst (v := (-1)) hx hb dX4_latestFirstPart_48 (by decide) ?_
      cases hf
      exact r_iret C hr hlk w dX4_latestFirstPart_49
    · rw [if_neg c1] at hf
      refine lv_iload_n hx hb dX4_latestFirstPart_15 rfl (lv_at hl 2 rfl) ?_
      refine lv_iconst (v := 5) hx hb dX4_latestFirstPart_16 (by decide) ?_
      refine lv_icmp_ge (tgt := 42) hx hb dX4_latestFirstPart_17 (by decide) (fun c2 => ?_) (fun c2 => ?_)
      · rw [if_pos c2] at hf
        refine lv_iinc (v := (x2 + (-1))) hx hb dX4_latestFirstPart_42 hl (k := 2) rfl (by rfl) (by decide) rfl (fun ls hl => ?_)
        refine lv_goto (tgt := 7) hx hb dX4_latestFirstPart_45 (by decide) ?_
        exact ih w (lv_sub hl [1, 2, 0] rfl) hf
      · rw [if_neg c2] at hf
        refine lv_aload_n hx hb dX4_latestFirstPart_20 rfl (lv_at hl 0 rfl) ?_
        refine r_get C w (iC10 ht) eC10 vc4 inlX4 0 (by decide) w_fl_RX4_12_Strand_program_LAtomicThreads_Program rfl dX4_latestFirstPart_21 ?_
        refine lv_aload_n hx hb dX4_latestFirstPart_24 rfl (lv_at hl 0 rfl) ?_
        refine r_get C w (iC10 ht) eC10 vc4 inlX4 3 (by decide) w_fl_RX4_27_Strand_marks_LAtomicThreads_Mark rfl dX4_latestFirstPart_25 ?_
        refine lv_iload_n hx hb dX4_latestFirstPart_28 rfl (lv_at hl 2 rfl) ?_
        obtain ⟨g3, hf⟩ := gd_some hf
        refine r_aald C w (iC21 ht) qC21 rfl g3 dX4_latestFirstPart_29 ?_
        refine r_getN C w (iC22 ht (inb_lt g3)) eC22 vc0 inlX0 3 (by decide) nw_f_X4_79 rfl dX4_latestFirstPart_30 ?_
        obtain ⟨r5, hc4, hf⟩ := ob_some hf
        refine k_I w (q_VN C w (c_X3_kindAt ok ht hc4) wy_X3_kindAt wi_X3_kindAt nw_m_X4_92 (iC11 ht) eC11 vc3 rfl rfl ⟨Nat.le_of_ble_eq_true rfl, Nat.le_of_ble_eq_true rfl⟩ rfl hl.1 rfl (Nat.le_of_ble_eq_true rfl) dX4_latestFirstPart_33 ⟨Nat.le_refl _, Nat.le_refl _⟩) (fun H locs w => ?_)
        refine lv_iload_n hx hb dX4_latestFirstPart_36 rfl (lv_at hl 1 rfl) ?_
        refine lv_icmp_ne (tgt := 42) hx hb dX4_latestFirstPart_37 (by decide) (fun c7 => ?_) (fun c7 => ?_)
        · rw [if_neg c7] at hf
          refine lv_iinc (v := (x2 + (-1))) hx hb dX4_latestFirstPart_42 hl (k := 2) rfl (by rfl) (by decide) rfl (fun ls hl => ?_)
          refine lv_goto (tgt := 7) hx hb dX4_latestFirstPart_45 (by decide) ?_
          exact ih w (lv_sub hl [1, 2, 0] rfl) hf
        · rw [if_pos c7] at hf
          refine lv_iload_n hx hb dX4_latestFirstPart_40 rfl (lv_at hl 2 rfl) ?_
          cases hf
          exact r_iret C hr hlk w dX4_latestFirstPart_41
set_option maxHeartbeats 4000000 in
set_option maxRecDepth 100000 in
theorem c_X4_latestFirstPart (ok : Wok EC idC a) {t : Nat} (ht : t < 4) {V : Sto} {r : Int32} {x1 : Int32} (hf : fX4_latestFirstPart V t x1 = some r) : MtI l cy D EC idC a yX4_latestFirstPart cX4_latestFirstPart 3 .int rm_X4_latestFirstPart [.ref (a (10, t, 0)), .int x1] V r V := by
  refine ofM (by decide +kernel) ok (Nat.le_of_ble_eq_true rfl) (fun p e s m args below meth c C hr hlk w ls hl => ?_)
  have hx := C.1.1
  have hb := C.1.2.1
  rw [fX4_latestFirstPart] at hf
  skip
  refine lv_aload_n hx hb dX4_latestFirstPart_0 rfl (lv_at hl 0 rfl) ?_
  refine r_get C w (iC10 ht) eC10 vc4 inlX4 4 (by decide) w_fl_RX4_52_Strand_markCount_I rfl dX4_latestFirstPart_1 ?_
  refine lv_iconst (v := 1) hx hb dX4_latestFirstPart_4 (by decide) ?_
  refine lv_isub hx hb dX4_latestFirstPart_5 ?_
  refine lv_istore_n hx hb dX4_latestFirstPart_6 rfl hl (by decide) rfl (fun ls hl => ?_)
  exact jX4_latestFirstPart_L7 C hr hlk ht 40 w (lv_sub hl [1, 2, 0] rfl) hf
set_option maxHeartbeats 4000000 in
set_option maxRecDepth 100000 in
theorem c_X4_goBackTo (ok : Wok EC idC a) {t : Nat} (ht : t < 4) {V : Sto} {V' : Sto} {x1 : Int32} (hf : fX4_goBackTo V t x1 = some V') : MtV l cy D EC idC a yX4_goBackTo cX4_goBackTo 3 rm_X4_goBackTo [.ref (a (10, t, 0)), .int x1] V V' := by
  refine ofM (by decide +kernel) ok (Nat.le_of_ble_eq_true rfl) (fun p e s m args below meth c C hr hlk w ls hl => ?_)
  have hx := C.1.1
  have hb := C.1.2.1
  rw [fX4_goBackTo] at hf
  skip
  refine lv_iload_n hx hb dX4_goBackTo_0 rfl (lv_at hl 1 rfl) ?_
  refine lv_if_lt (tgt := 66) hx hb dX4_goBackTo_1 (by decide) (fun c1 => ?_) (fun c1 => ?_)
  · rw [if_pos c1] at hf
    cases hf
    exact r_vret C hr hlk w dX4_goBackTo_66
  · rw [if_neg c1] at hf
    refine lv_iload_n hx hb dX4_goBackTo_4 rfl (lv_at hl 1 rfl) ?_
    refine lv_iconst (v := 5) hx hb dX4_goBackTo_5 (by decide) ?_
    refine lv_icmp_ge (tgt := 66) hx hb dX4_goBackTo_6 (by decide) (fun c2 => ?_) (fun c2 => ?_)
    · rw [if_pos c2] at hf
      cases hf
      exact r_vret C hr hlk w dX4_goBackTo_66
    · rw [if_neg c2] at hf
      refine lv_aload_n hx hb dX4_goBackTo_9 rfl (lv_at hl 0 rfl) ?_
      refine r_get C w (iC10 ht) eC10 vc4 inlX4 3 (by decide) w_fl_RX4_27_Strand_marks_LAtomicThreads_Mark rfl dX4_goBackTo_10 ?_
      refine lv_iload_n hx hb dX4_goBackTo_13 rfl (lv_at hl 1 rfl) ?_
      obtain ⟨g3, hf⟩ := gd_some hf
      refine r_aald C w (iC21 ht) qC21 rfl g3 dX4_goBackTo_14 ?_
      refine lv_astore_n hx hb dX4_goBackTo_15 rfl hl (by decide) rfl (fun ls hl => ?_)
      refine lv_aload_n hx hb dX4_goBackTo_16 rfl (lv_at hl 1 rfl) ?_
      refine lv_aload_n hx hb dX4_goBackTo_17 rfl (lv_at hl 0 rfl) ?_
      refine r_getN C w (iC22 ht (inb_lt g3)) eC22 vc0 inlX0 3 (by decide) nw_f_X4_79 rfl dX4_goBackTo_18 ?_
      refine r_put C w (iC10 ht) eC10 vc4 inlX4 tyX4 tyX4_ok nmX4 10 (by decide) w_fl_RX4_59_Strand_place_I rfl pd_I uC10_10 (Nat.le_of_ble_eq_true rfl) dX4_goBackTo_21 (fun H locs w => ?_)
      obtain ⟨V4, e5, hf⟩ := bnd_some hf
      rw [← e5] at w
      refine lv_aload_n hx hb dX4_goBackTo_24 rfl (lv_at hl 1 rfl) ?_
      refine lv_aload_n hx hb dX4_goBackTo_25 rfl (lv_at hl 0 rfl) ?_
      refine r_getN C w (iC22 ht (inb_lt g3)) eC22 vc0 inlX0 2 (by decide) nw_f_X4_80 rfl dX4_goBackTo_26 ?_
      refine r_put C w (iC10 ht) eC10 vc4 inlX4 tyX4 tyX4_ok nmX4 8 (by decide) w_fl_RX4_39_Strand_written_I rfl pd_I uC10_8 (Nat.le_of_ble_eq_true rfl) dX4_goBackTo_29 (fun H locs w => ?_)
      obtain ⟨V6, e7, hf⟩ := bnd_some hf
      rw [← e7] at w
      refine lv_aload_n hx hb dX4_goBackTo_32 rfl (lv_at hl 0 rfl) ?_
      refine r_getN C w (iC22 ht (inb_lt g3)) eC22 vc0 inlX0 0 (by decide) nw_f_X4_81 rfl dX4_goBackTo_33 ?_
      refine lv_iconst (v := 0) hx hb dX4_goBackTo_36 (by decide) ?_
      refine lv_aload_n hx hb dX4_goBackTo_37 rfl (lv_at hl 1 rfl) ?_
      refine r_get C w (iC10 ht) eC10 vc4 inlX4 1 (by decide) w_fl_RX4_18_Strand_registers_I rfl dX4_goBackTo_38 ?_
      refine lv_iconst (v := 0) hx hb dX4_goBackTo_41 (by decide) ?_
      refine lv_iconst (v := 4) hx hb dX4_goBackTo_42 (by decide) ?_
      refine r_copy (N := 4) C w (iC23 ht (inb_lt g3)) aC23 (iC19 ht) aC19 (by decide) rfl (Nat.le_of_ble_eq_true rfl) (Nat.le_of_ble_eq_true rfl) w_ml_RX4_82_arraycopyName hl.1 (Nat.le_of_ble_eq_true rfl) (Nat.le_of_ble_eq_true rfl) dX4_goBackTo_43 (fun H locs w => ?_)
      obtain ⟨V8, e9, hf⟩ := bnd_some hf
      rw [← e9] at w
      refine lv_aload_n hx hb dX4_goBackTo_46 rfl (lv_at hl 0 rfl) ?_
      refine r_getN C w (iC22 ht (inb_lt g3)) eC22 vc0 inlX0 1 (by decide) nw_f_X4_88 rfl dX4_goBackTo_47 ?_
      refine lv_iconst (v := 0) hx hb dX4_goBackTo_50 (by decide) ?_
      refine lv_aload_n hx hb dX4_goBackTo_51 rfl (lv_at hl 1 rfl) ?_
      refine r_get C w (iC10 ht) eC10 vc4 inlX4 2 (by decide) w_fl_RX4_22_Strand_writtenValues_I rfl dX4_goBackTo_52 ?_
      refine lv_iconst (v := 0) hx hb dX4_goBackTo_55 (by decide) ?_
      refine lv_bipush (v := 8) hx hb dX4_goBackTo_56 (by decide) ?_
      refine r_copy (N := 8) C w (iC24 ht (inb_lt g3)) aC24 (iC20 ht) aC20 (by decide) rfl (Nat.le_of_ble_eq_true rfl) (Nat.le_of_ble_eq_true rfl) w_ml_RX4_82_arraycopyName hl.1 (Nat.le_of_ble_eq_true rfl) (Nat.le_of_ble_eq_true rfl) dX4_goBackTo_58 (fun H locs w => ?_)
      obtain ⟨V10, e11, hf⟩ := bnd_some hf
      rw [← e11] at w
      refine lv_aload_n hx hb dX4_goBackTo_61 rfl (lv_at hl 1 rfl) ?_
      refine lv_iload_n hx hb dX4_goBackTo_62 rfl (lv_at hl 2 rfl) ?_
      refine r_put C w (iC10 ht) eC10 vc4 inlX4 tyX4 tyX4_ok nmX4 4 (by decide) w_fl_RX4_52_Strand_markCount_I rfl pd_I uC10_4 (Nat.le_of_ble_eq_true rfl) dX4_goBackTo_63 (fun H locs w => ?_)
      obtain ⟨V12, e13, hf⟩ := bnd_some hf
      rw [← e13] at w
      cases hf
      exact r_vret C hr hlk w dX4_goBackTo_66
set_option maxHeartbeats 4000000 in
set_option maxRecDepth 100000 in
theorem c_X4_handle (ok : Wok EC idC a) {t : Nat} (ht : t < 4) {V : Sto} {V' : Sto} {x1 : Int32} {x2 : Int32} (hf : fX4_handle V t x1 x2 = some V') : MtV l cy D EC idC a yX4_handle cX4_handle 3 rm_X4_handle [.ref (a (10, t, 0)), .int x1, .int x2] V V' := by
  refine ofM (by decide +kernel) ok (Nat.le_of_ble_eq_true rfl) (fun p e s m args below meth c C hr hlk w ls hl => ?_)
  have hx := C.1.1
  have hb := C.1.2.1
  rw [fX4_handle] at hf
  skip
  refine lv_aload_n hx hb dX4_handle_0 rfl (lv_at hl 0 rfl) ?_
  refine lv_iload_n hx hb dX4_handle_1 rfl (lv_at hl 1 rfl) ?_
  obtain ⟨V3, hc1, hf⟩ := ob_some hf
  refine k_V w (q_V C w (c_X4_goBackTo ok ht hc1) wy_X4_goBackTo wi_X4_goBackTo w_ml_RX4_95_yX4_goBackTo (iC10 ht) eC10 vc4 rfl rfl ⟨Nat.le_of_ble_eq_true rfl, Nat.le_of_ble_eq_true rfl⟩ rfl hl.1 rfl (Nat.le_of_ble_eq_true rfl) dX4_handle_2 ⟨Nat.le_refl _, Nat.le_refl _⟩) (fun H locs w => ?_)
  refine lv_aload_n hx hb dX4_handle_5 rfl (lv_at hl 0 rfl) ?_
  refine lv_aload_n hx hb dX4_handle_6 rfl (lv_at hl 0 rfl) ?_
  refine r_get C w (iC10 ht) eC10 vc4 inlX4 0 (by decide) w_fl_RX4_12_Strand_program_LAtomicThreads_Program rfl dX4_handle_7 ?_
  refine lv_aload_n hx hb dX4_handle_10 rfl (lv_at hl 0 rfl) ?_
  refine r_get C w (iC10 ht) eC10 vc4 inlX4 0 (by decide) w_fl_RX4_12_Strand_program_LAtomicThreads_Program rfl dX4_handle_11 ?_
  refine lv_aload_n hx hb dX4_handle_14 rfl (lv_at hl 0 rfl) ?_
  refine r_get C w (iC10 ht) eC10 vc4 inlX4 10 (by decide) w_fl_RX4_59_Strand_place_I rfl dX4_handle_15 ?_
  obtain ⟨r5, hc4, hf⟩ := ob_some hf
  refine k_I w (q_VN C w (c_X3_middleOf ok ht hc4) wy_X3_middleOf wi_X3_middleOf nw_m_X4_99 (iC11 ht) eC11 vc3 rfl rfl ⟨Nat.le_of_ble_eq_true rfl, Nat.le_of_ble_eq_true rfl⟩ rfl hl.1 rfl (Nat.le_of_ble_eq_true rfl) dX4_handle_18 ⟨Nat.le_refl _, Nat.le_refl _⟩) (fun H locs w => ?_)
  obtain ⟨r8, hc7, hf⟩ := ob_some hf
  refine k_I w (q_VN C w (c_X3_firstAt ok ht hc7) wy_X3_firstAt wi_X3_firstAt nw_m_X4_102 (iC11 ht) eC11 vc3 rfl rfl ⟨Nat.le_of_ble_eq_true rfl, Nat.le_of_ble_eq_true rfl⟩ rfl hl.1 rfl (Nat.le_of_ble_eq_true rfl) dX4_handle_21 ⟨Nat.le_refl _, Nat.le_refl _⟩) (fun H locs w => ?_)
  refine lv_iload_n hx hb dX4_handle_24 rfl (lv_at hl 2 rfl) ?_
  obtain ⟨V12, hc10, hf⟩ := ob_some hf
  refine k_V w (q_V C w (c_X4_setRegister ok ht hc10) wy_X4_setRegister wi_X4_setRegister w_ml_RX4_65_yX4_setRegister (iC10 ht) eC10 vc4 rfl rfl ⟨Nat.le_of_ble_eq_true rfl, Nat.le_of_ble_eq_true rfl⟩ rfl hl.1 rfl (Nat.le_of_ble_eq_true rfl) dX4_handle_25 ⟨Nat.le_refl _, Nat.le_refl _⟩) (fun H locs w => ?_)
  refine lv_aload_n hx hb dX4_handle_28 rfl (lv_at hl 0 rfl) ?_
  refine lv_aload_n hx hb dX4_handle_29 rfl (lv_at hl 0 rfl) ?_
  refine r_get C w (iC10 ht) eC10 vc4 inlX4 0 (by decide) w_fl_RX4_12_Strand_program_LAtomicThreads_Program rfl dX4_handle_30 ?_
  refine lv_aload_n hx hb dX4_handle_33 rfl (lv_at hl 0 rfl) ?_
  refine r_get C w (iC10 ht) eC10 vc4 inlX4 10 (by decide) w_fl_RX4_59_Strand_place_I rfl dX4_handle_34 ?_
  obtain ⟨r14, hc13, hf⟩ := ob_some hf
  refine k_I w (q_VN C w (c_X3_secondPart ok ht hc13) wy_X3_secondPart wi_X3_secondPart nw_m_X4_105 (iC11 ht) eC11 vc3 rfl rfl ⟨Nat.le_of_ble_eq_true rfl, Nat.le_of_ble_eq_true rfl⟩ rfl hl.1 rfl (Nat.le_of_ble_eq_true rfl) dX4_handle_37 ⟨Nat.le_refl _, Nat.le_refl _⟩) (fun H locs w => ?_)
  obtain ⟨r17, V18, hc16, hf⟩ := ob2_some hf
  refine k_I w (q_V C w (c_X4_goOnTo ok ht hc16) wy_X4_goOnTo wi_X4_goOnTo w_ml_RX4_55_yX4_goOnTo (iC10 ht) eC10 vc4 rfl rfl ⟨Nat.le_of_ble_eq_true rfl, Nat.le_of_ble_eq_true rfl⟩ rfl hl.1 rfl (Nat.le_of_ble_eq_true rfl) dX4_handle_40 ⟨Nat.le_refl _, Nat.le_refl _⟩) (fun H locs w => ?_)
  refine lv_pop hx hb dX4_handle_43 rfl ?_
  cases hf
  exact r_vret C hr hlk w dX4_handle_44
set_option maxHeartbeats 4000000 in
set_option maxRecDepth 100000 in
theorem c_X4_fail (ok : Wok EC idC a) {t : Nat} (ht : t < 4) {V : Sto} {V' : Sto} {x1 : Int32} (hf : fX4_fail V t x1 = some V') : MtV l cy D EC idC a yX4_fail cX4_fail 2 rm_X4_fail [.ref (a (10, t, 0)), .int x1] V V' := by
  refine ofM (by decide +kernel) ok (Nat.le_of_ble_eq_true rfl) (fun p e s m args below meth c C hr hlk w ls hl => ?_)
  have hx := C.1.1
  have hb := C.1.2.1
  rw [fX4_fail] at hf
  skip
  refine lv_aload_n hx hb dX4_fail_0 rfl (lv_at hl 0 rfl) ?_
  refine lv_iconst (v := 0) hx hb dX4_fail_1 (by decide) ?_
  refine lv_iload_n hx hb dX4_fail_2 rfl (lv_at hl 1 rfl) ?_
  obtain ⟨V3, hc1, hf⟩ := ob_some hf
  refine k_V w (q_V C w (c_X4_setRegister ok ht hc1) wy_X4_setRegister wi_X4_setRegister w_ml_RX4_65_yX4_setRegister (iC10 ht) eC10 vc4 rfl rfl ⟨Nat.le_of_ble_eq_true rfl, Nat.le_of_ble_eq_true rfl⟩ rfl hl.1 rfl (Nat.le_of_ble_eq_true rfl) dX4_fail_3 ⟨Nat.le_refl _, Nat.le_refl _⟩) (fun H locs w => ?_)
  refine lv_aload_n hx hb dX4_fail_6 rfl (lv_at hl 0 rfl) ?_
  refine lv_iconst (v := 4) hx hb dX4_fail_7 (by decide) ?_
  refine r_put C w (iC10 ht) eC10 vc4 inlX4 tyX4 tyX4_ok nmX4 9 (by decide) w_fl_RX4_35_Strand_state_I rfl pd_I uC10_9 (Nat.le_of_ble_eq_true rfl) dX4_fail_8 (fun H locs w => ?_)
  obtain ⟨V4, e5, hf⟩ := bnd_some hf
  rw [← e5] at w
  cases hf
  exact r_vret C hr hlk w dX4_fail_11
set_option maxHeartbeats 4000000 in
set_option maxRecDepth 100000 in
theorem c_X4_leaveAttempt (ok : Wok EC idC a) {t : Nat} (ht : t < 4) {V : Sto} {V' : Sto} (hf : fX4_leaveAttempt V t = some V') : MtV l cy D EC idC a yX4_leaveAttempt cX4_leaveAttempt 1 rm_X4_leaveAttempt [.ref (a (10, t, 0))] V V' := by
  refine ofM (by decide +kernel) ok (Nat.le_of_ble_eq_true rfl) (fun p e s m args below meth c C hr hlk w ls hl => ?_)
  have hx := C.1.1
  have hb := C.1.2.1
  rw [fX4_leaveAttempt] at hf
  skip
  refine lv_aload_n hx hb dX4_leaveAttempt_0 rfl (lv_at hl 0 rfl) ?_
  obtain ⟨r2, hc1, hf⟩ := ob_some hf
  refine k_I w (q_V C w (c_X4_isInAttempt ok ht hc1) wy_X4_isInAttempt wi_X4_isInAttempt w_ml_RX4_108_yX4_isInAttempt (iC10 ht) eC10 vc4 rfl rfl ⟨Nat.le_of_ble_eq_true rfl, Nat.le_of_ble_eq_true rfl⟩ rfl hl.1 rfl (Nat.le_of_ble_eq_true rfl) dX4_leaveAttempt_1 ⟨Nat.le_refl _, Nat.le_refl _⟩) (fun H locs w => ?_)
  refine lv_if_eq (tgt := 15) hx hb dX4_leaveAttempt_4 (by decide) (fun c4 => ?_) (fun c4 => ?_)
  · rw [if_pos c4] at hf
    refine lv_aload_n hx hb dX4_leaveAttempt_15 rfl (lv_at hl 0 rfl) ?_
    refine lv_iconst (v := (-1)) hx hb dX4_leaveAttempt_16 (by decide) ?_
    refine r_put C w (iC10 ht) eC10 vc4 inlX4 tyX4 tyX4_ok nmX4 5 (by decide) w_fl_RX4_31_Strand_attemptMark_I rfl pd_I uC10_5 (Nat.le_of_ble_eq_true rfl) dX4_leaveAttempt_17 (fun H locs w => ?_)
    obtain ⟨V5, e6, hf⟩ := bnd_some hf
    rw [← e6] at w
    refine lv_aload_n hx hb dX4_leaveAttempt_20 rfl (lv_at hl 0 rfl) ?_
    refine lv_iconst (v := 0) hx hb dX4_leaveAttempt_21 (by decide) ?_
    refine r_put C w (iC10 ht) eC10 vc4 inlX4 tyX4 tyX4_ok nmX4 7 (by decide) w_fl_RX4_42_Strand_readSet_I rfl pd_I uC10_7 (Nat.le_of_ble_eq_true rfl) dX4_leaveAttempt_22 (fun H locs w => ?_)
    obtain ⟨V7, e8, hf⟩ := bnd_some hf
    rw [← e8] at w
    refine lv_aload_n hx hb dX4_leaveAttempt_25 rfl (lv_at hl 0 rfl) ?_
    refine lv_iconst (v := 0) hx hb dX4_leaveAttempt_26 (by decide) ?_
    refine r_put C w (iC10 ht) eC10 vc4 inlX4 tyX4 tyX4_ok nmX4 8 (by decide) w_fl_RX4_39_Strand_written_I rfl pd_I uC10_8 (Nat.le_of_ble_eq_true rfl) dX4_leaveAttempt_27 (fun H locs w => ?_)
    obtain ⟨V9, e10, hf⟩ := bnd_some hf
    rw [← e10] at w
    cases hf
    exact r_vret C hr hlk w dX4_leaveAttempt_30
  · rw [if_neg c4] at hf
    refine lv_aload_n hx hb dX4_leaveAttempt_7 rfl (lv_at hl 0 rfl) ?_
    refine lv_aload_n hx hb dX4_leaveAttempt_8 rfl (lv_at hl 0 rfl) ?_
    refine r_get C w (iC10 ht) eC10 vc4 inlX4 5 (by decide) w_fl_RX4_31_Strand_attemptMark_I rfl dX4_leaveAttempt_9 ?_
    refine r_put C w (iC10 ht) eC10 vc4 inlX4 tyX4 tyX4_ok nmX4 4 (by decide) w_fl_RX4_52_Strand_markCount_I rfl pd_I uC10_4 (Nat.le_of_ble_eq_true rfl) dX4_leaveAttempt_12 (fun H locs w => ?_)
    obtain ⟨V11, e12, hf⟩ := bnd_some hf
    rw [← e12] at w
    refine lv_aload_n hx hb dX4_leaveAttempt_15 rfl (lv_at hl 0 rfl) ?_
    refine lv_iconst (v := (-1)) hx hb dX4_leaveAttempt_16 (by decide) ?_
    refine r_put C w (iC10 ht) eC10 vc4 inlX4 tyX4 tyX4_ok nmX4 5 (by decide) w_fl_RX4_31_Strand_attemptMark_I rfl pd_I uC10_5 (Nat.le_of_ble_eq_true rfl) dX4_leaveAttempt_17 (fun H locs w => ?_)
    obtain ⟨V13, e14, hf⟩ := bnd_some hf
    rw [← e14] at w
    refine lv_aload_n hx hb dX4_leaveAttempt_20 rfl (lv_at hl 0 rfl) ?_
    refine lv_iconst (v := 0) hx hb dX4_leaveAttempt_21 (by decide) ?_
    refine r_put C w (iC10 ht) eC10 vc4 inlX4 tyX4 tyX4_ok nmX4 7 (by decide) w_fl_RX4_42_Strand_readSet_I rfl pd_I uC10_7 (Nat.le_of_ble_eq_true rfl) dX4_leaveAttempt_22 (fun H locs w => ?_)
    obtain ⟨V15, e16, hf⟩ := bnd_some hf
    rw [← e16] at w
    refine lv_aload_n hx hb dX4_leaveAttempt_25 rfl (lv_at hl 0 rfl) ?_
    refine lv_iconst (v := 0) hx hb dX4_leaveAttempt_26 (by decide) ?_
    refine r_put C w (iC10 ht) eC10 vc4 inlX4 tyX4 tyX4_ok nmX4 8 (by decide) w_fl_RX4_39_Strand_written_I rfl pd_I uC10_8 (Nat.le_of_ble_eq_true rfl) dX4_leaveAttempt_27 (fun H locs w => ?_)
    obtain ⟨V17, e18, hf⟩ := bnd_some hf
    rw [← e18] at w
    cases hf
    exact r_vret C hr hlk w dX4_leaveAttempt_30
set_option maxHeartbeats 4000000 in
set_option maxRecDepth 100000 in
theorem c_X4_undoAttempt (ok : Wok EC idC a) {t : Nat} (ht : t < 4) {V : Sto} {V' : Sto} (hf : fX4_undoAttempt V t = some V') : MtV l cy D EC idC a yX4_undoAttempt cX4_undoAttempt 1 rm_X4_undoAttempt [.ref (a (10, t, 0))] V V' := by
  refine ofM (by decide +kernel) ok (Nat.le_of_ble_eq_true rfl) (fun p e s m args below meth c C hr hlk w ls hl => ?_)
  have hx := C.1.1
  have hb := C.1.2.1
  rw [fX4_undoAttempt] at hf
  skip
  refine lv_aload_n hx hb dX4_undoAttempt_0 rfl (lv_at hl 0 rfl) ?_
  refine lv_aload_n hx hb dX4_undoAttempt_1 rfl (lv_at hl 0 rfl) ?_
  refine r_get C w (iC10 ht) eC10 vc4 inlX4 5 (by decide) w_fl_RX4_31_Strand_attemptMark_I rfl dX4_undoAttempt_2 ?_
  obtain ⟨V3, hc1, hf⟩ := ob_some hf
  refine k_V w (q_V C w (c_X4_goBackTo ok ht hc1) wy_X4_goBackTo wi_X4_goBackTo w_ml_RX4_95_yX4_goBackTo (iC10 ht) eC10 vc4 rfl rfl ⟨Nat.le_of_ble_eq_true rfl, Nat.le_of_ble_eq_true rfl⟩ rfl hl.1 rfl (Nat.le_of_ble_eq_true rfl) dX4_undoAttempt_5 ⟨Nat.le_refl _, Nat.le_refl _⟩) (fun H locs w => ?_)
  refine lv_aload_n hx hb dX4_undoAttempt_8 rfl (lv_at hl 0 rfl) ?_
  obtain ⟨V6, hc4, hf⟩ := ob_some hf
  refine k_V w (q_V C w (c_X4_leaveAttempt ok ht hc4) wy_X4_leaveAttempt wi_X4_leaveAttempt w_ml_RX4_112_yX4_leaveAttempt (iC10 ht) eC10 vc4 rfl rfl ⟨Nat.le_of_ble_eq_true rfl, Nat.le_of_ble_eq_true rfl⟩ rfl hl.1 rfl (Nat.le_of_ble_eq_true rfl) dX4_undoAttempt_9 ⟨Nat.le_refl _, Nat.le_refl _⟩) (fun H locs w => ?_)
  cases hf
  exact r_vret C hr hlk w dX4_undoAttempt_12
set_option maxHeartbeats 4000000 in
set_option maxRecDepth 100000 in
theorem c_X4_discard (ok : Wok EC idC a) {t : Nat} (ht : t < 4) {V : Sto} {r : Int32} {V' : Sto} (hf : fX4_discard V t = some (r, V')) : MtI l cy D EC idC a yX4_discard cX4_discard 1 .int rm_X4_discard [.ref (a (10, t, 0))] V r V' := by
  refine ofM (by decide +kernel) ok (Nat.le_of_ble_eq_true rfl) (fun p e s m args below meth c C hr hlk w ls hl => ?_)
  have hx := C.1.1
  have hb := C.1.2.1
  rw [fX4_discard] at hf
  skip
  refine lv_aload_n hx hb dX4_discard_0 rfl (lv_at hl 0 rfl) ?_
  obtain ⟨V3, hc1, hf⟩ := ob_some hf
  refine k_V w (q_V C w (c_X4_undoAttempt ok ht hc1) wy_X4_undoAttempt wi_X4_undoAttempt w_ml_RX4_115_yX4_undoAttempt (iC10 ht) eC10 vc4 rfl rfl ⟨Nat.le_of_ble_eq_true rfl, Nat.le_of_ble_eq_true rfl⟩ rfl hl.1 rfl (Nat.le_of_ble_eq_true rfl) dX4_discard_1 ⟨Nat.le_refl _, Nat.le_refl _⟩) (fun H locs w => ?_)
  refine lv_aload_n hx hb dX4_discard_4 rfl (lv_at hl 0 rfl) ?_
  refine lv_dup hx hb dX4_discard_5 rfl ?_
  refine r_get C w (iC10 ht) eC10 vc4 inlX4 11 (by decide) w_fl_RX4_49_Strand_discarded_I rfl dX4_discard_6 ?_
  refine lv_iconst (v := 1) hx hb dX4_discard_9 (by decide) ?_
  refine lv_iadd hx hb dX4_discard_10 ?_
  refine r_put C w (iC10 ht) eC10 vc4 inlX4 tyX4 tyX4_ok nmX4 11 (by decide) w_fl_RX4_49_Strand_discarded_I rfl pd_I uC10_11 (Nat.le_of_ble_eq_true rfl) dX4_discard_11 (fun H locs w => ?_)
  obtain ⟨V4, e5, hf⟩ := bnd_some hf
  rw [← e5] at w
  refine lv_iconst (v := 2) hx hb dX4_discard_14 (by decide) ?_
  cases hf
  exact r_iret C hr hlk w dX4_discard_15
set_option maxHeartbeats 4000000 in
set_option maxRecDepth 100000 in
theorem c_X4_park (ok : Wok EC idC a) {t : Nat} (ht : t < 4) {V : Sto} {r : Int32} {V' : Sto} (hf : fX4_park V t = some (r, V')) : MtI l cy D EC idC a yX4_park cX4_park 2 .int rm_X4_park [.ref (a (10, t, 0))] V r V' := by
  refine ofM (by decide +kernel) ok (Nat.le_of_ble_eq_true rfl) (fun p e s m args below meth c C hr hlk w ls hl => ?_)
  have hx := C.1.1
  have hb := C.1.2.1
  rw [fX4_park] at hf
  skip
  refine lv_aload_n hx hb dX4_park_0 rfl (lv_at hl 0 rfl) ?_
  refine r_get C w (iC10 ht) eC10 vc4 inlX4 7 (by decide) w_fl_RX4_42_Strand_readSet_I rfl dX4_park_1 ?_
  refine lv_istore_n hx hb dX4_park_4 rfl hl (by decide) rfl (fun ls hl => ?_)
  refine lv_aload_n hx hb dX4_park_5 rfl (lv_at hl 1 rfl) ?_
  obtain ⟨V3, hc1, hf⟩ := ob_some hf
  refine k_V w (q_V C w (c_X4_undoAttempt ok ht hc1) wy_X4_undoAttempt wi_X4_undoAttempt w_ml_RX4_115_yX4_undoAttempt (iC10 ht) eC10 vc4 rfl rfl ⟨Nat.le_of_ble_eq_true rfl, Nat.le_of_ble_eq_true rfl⟩ rfl hl.1 rfl (Nat.le_of_ble_eq_true rfl) dX4_park_6 ⟨Nat.le_refl _, Nat.le_refl _⟩) (fun H locs w => ?_)
  refine lv_aload_n hx hb dX4_park_9 rfl (lv_at hl 1 rfl) ?_
  refine lv_iload_n hx hb dX4_park_10 rfl (lv_at hl 0 rfl) ?_
  refine r_put C w (iC10 ht) eC10 vc4 inlX4 tyX4 tyX4_ok nmX4 7 (by decide) w_fl_RX4_42_Strand_readSet_I rfl pd_I uC10_7 (Nat.le_of_ble_eq_true rfl) dX4_park_11 (fun H locs w => ?_)
  obtain ⟨V4, e5, hf⟩ := bnd_some hf
  rw [← e5] at w
  refine lv_aload_n hx hb dX4_park_14 rfl (lv_at hl 1 rfl) ?_
  refine lv_iconst (v := 2) hx hb dX4_park_15 (by decide) ?_
  refine r_put C w (iC10 ht) eC10 vc4 inlX4 tyX4 tyX4_ok nmX4 9 (by decide) w_fl_RX4_35_Strand_state_I rfl pd_I uC10_9 (Nat.le_of_ble_eq_true rfl) dX4_park_16 (fun H locs w => ?_)
  obtain ⟨V6, e7, hf⟩ := bnd_some hf
  rw [← e7] at w
  refine lv_iconst (v := 3) hx hb dX4_park_19 (by decide) ?_
  cases hf
  exact r_iret C hr hlk w dX4_park_20
set_option maxHeartbeats 4000000 in
set_option maxRecDepth 100000 in
theorem c_X4_wakeUp (ok : Wok EC idC a) {t : Nat} (ht : t < 4) {V : Sto} {V' : Sto} (hf : fX4_wakeUp V t = some V') : MtV l cy D EC idC a yX4_wakeUp cX4_wakeUp 1 rm_X4_wakeUp [.ref (a (10, t, 0))] V V' := by
  refine ofM (by decide +kernel) ok (Nat.le_of_ble_eq_true rfl) (fun p e s m args below meth c C hr hlk w ls hl => ?_)
  have hx := C.1.1
  have hb := C.1.2.1
  rw [fX4_wakeUp] at hf
  skip
  refine lv_aload_n hx hb dX4_wakeUp_0 rfl (lv_at hl 0 rfl) ?_
  refine lv_iconst (v := 0) hx hb dX4_wakeUp_1 (by decide) ?_
  refine r_put C w (iC10 ht) eC10 vc4 inlX4 tyX4 tyX4_ok nmX4 7 (by decide) w_fl_RX4_42_Strand_readSet_I rfl pd_I uC10_7 (Nat.le_of_ble_eq_true rfl) dX4_wakeUp_2 (fun H locs w => ?_)
  obtain ⟨V1, e2, hf⟩ := bnd_some hf
  rw [← e2] at w
  refine lv_aload_n hx hb dX4_wakeUp_5 rfl (lv_at hl 0 rfl) ?_
  refine lv_iconst (v := 1) hx hb dX4_wakeUp_6 (by decide) ?_
  refine r_put C w (iC10 ht) eC10 vc4 inlX4 tyX4 tyX4_ok nmX4 9 (by decide) w_fl_RX4_35_Strand_state_I rfl pd_I uC10_9 (Nat.le_of_ble_eq_true rfl) dX4_wakeUp_7 (fun H locs w => ?_)
  obtain ⟨V3, e4, hf⟩ := bnd_some hf
  rw [← e4] at w
  cases hf
  exact r_vret C hr hlk w dX4_wakeUp_10
set_option maxHeartbeats 4000000 in
set_option maxRecDepth 100000 in
theorem c_X5_isWord (ok : Wok EC idC a) {V : Sto} {r : Int32} {x0 : Int32} {x1 : Int32} {x2 : Int32} (hf : fX5_isWord V x0 x1 x2 = some r) : MtI l cy D EC idC a yX5_isWord cX5_isWord 3 .boolean rm_X5_isWord [.int x0, .int x1, .int x2] V r V := by
  refine ofM (by decide +kernel) ok (Nat.le_of_ble_eq_true rfl) (fun p e s m args below meth c C hr hlk w ls hl => ?_)
  have hx := C.1.1
  have hb := C.1.2.1
  rw [fX5_isWord] at hf
  skip
  refine lv_iload_n hx hb dX5_isWord_0 rfl (lv_at hl 0 rfl) ?_
  by_cases c1 : x0 = 0
  · rw [if_pos c1] at hf
    refine lv_tableIn (off := 143) (tgt := 144) hx hb dX5_isWord_1 (by rw [c1]; decide) (by rw [c1]; decide) (by rw [c1]; rfl) (by decide) ?_
    refine lv_iload_n hx hb dX5_isWord_144 rfl (lv_at hl 1 rfl) ?_
    obtain ⟨r3, hc2, hf⟩ := ob_some hf
    refine k_I w (q_S C w (c_X5_isRegister ok hc2) wy_X5_isRegister w_sta_yX5_isRegister w_ml_RX5_132_yX5_isRegister rfl rfl ⟨Nat.le_of_ble_eq_true rfl, Nat.le_of_ble_eq_true rfl⟩ rfl hl.1 rfl (Nat.le_of_ble_eq_true rfl) dX5_isWord_145 ⟨Nat.le_refl _, Nat.le_refl _⟩) (fun H locs w => ?_)
    obtain ⟨g5, hf⟩ := gd_some hf
    cases hf
    exact r_zret C hr hlk w g5 dX5_isWord_148
  rw [if_neg c1] at hf
  by_cases c6 : x0 = 1
  · rw [if_pos c6] at hf
    refine lv_tableIn (off := 83) (tgt := 84) hx hb dX5_isWord_1 (by rw [c6]; decide) (by rw [c6]; decide) (by rw [c6]; rfl) (by decide) ?_
    refine lv_iload_n hx hb dX5_isWord_84 rfl (lv_at hl 1 rfl) ?_
    obtain ⟨r8, hc7, hf⟩ := ob_some hf
    refine k_I w (q_S C w (c_X5_isRegister ok hc7) wy_X5_isRegister w_sta_yX5_isRegister w_ml_RX5_132_yX5_isRegister rfl rfl ⟨Nat.le_of_ble_eq_true rfl, Nat.le_of_ble_eq_true rfl⟩ rfl hl.1 rfl (Nat.le_of_ble_eq_true rfl) dX5_isWord_85 ⟨Nat.le_refl _, Nat.le_refl _⟩) (fun H locs w => ?_)
    refine lv_if_eq (tgt := 102) hx hb dX5_isWord_88 (by decide) (fun c10 => ?_) (fun c10 => ?_)
    · rw [if_pos c10] at hf
      refine lv_iconst (v := 0) hx hb dX5_isWord_102 (by decide) ?_
      cases hf
      exact r_zret C hr hlk w (by decide) dX5_isWord_103
    · rw [if_neg c10] at hf
      refine lv_iload_n hx hb dX5_isWord_91 rfl (lv_at hl 2 rfl) ?_
      obtain ⟨r12, hc11, hf⟩ := ob_some hf
      refine k_I w (q_S C w (c_X5_isRegister ok hc11) wy_X5_isRegister w_sta_yX5_isRegister w_ml_RX5_132_yX5_isRegister rfl rfl ⟨Nat.le_of_ble_eq_true rfl, Nat.le_of_ble_eq_true rfl⟩ rfl hl.1 rfl (Nat.le_of_ble_eq_true rfl) dX5_isWord_92 ⟨Nat.le_refl _, Nat.le_refl _⟩) (fun H locs w => ?_)
      refine lv_if_eq (tgt := 102) hx hb dX5_isWord_95 (by decide) (fun c14 => ?_) (fun c14 => ?_)
      · rw [if_pos c14] at hf
        refine lv_iconst (v := 0) hx hb dX5_isWord_102 (by decide) ?_
        cases hf
        exact r_zret C hr hlk w (by decide) dX5_isWord_103
      · rw [if_neg c14] at hf
        refine lv_iconst (v := 1) hx hb dX5_isWord_98 (by decide) ?_
        refine lv_goto (tgt := 103) hx hb dX5_isWord_99 (by decide) ?_
        cases hf
        exact r_zret C hr hlk w (by decide) dX5_isWord_103
  rw [if_neg c6] at hf
  by_cases c15 : x0 = 2
  · rw [if_pos c15] at hf
    refine lv_tableIn (off := 83) (tgt := 84) hx hb dX5_isWord_1 (by rw [c15]; decide) (by rw [c15]; decide) (by rw [c15]; rfl) (by decide) ?_
    refine lv_iload_n hx hb dX5_isWord_84 rfl (lv_at hl 1 rfl) ?_
    obtain ⟨r17, hc16, hf⟩ := ob_some hf
    refine k_I w (q_S C w (c_X5_isRegister ok hc16) wy_X5_isRegister w_sta_yX5_isRegister w_ml_RX5_132_yX5_isRegister rfl rfl ⟨Nat.le_of_ble_eq_true rfl, Nat.le_of_ble_eq_true rfl⟩ rfl hl.1 rfl (Nat.le_of_ble_eq_true rfl) dX5_isWord_85 ⟨Nat.le_refl _, Nat.le_refl _⟩) (fun H locs w => ?_)
    refine lv_if_eq (tgt := 102) hx hb dX5_isWord_88 (by decide) (fun c19 => ?_) (fun c19 => ?_)
    · rw [if_pos c19] at hf
      refine lv_iconst (v := 0) hx hb dX5_isWord_102 (by decide) ?_
      cases hf
      exact r_zret C hr hlk w (by decide) dX5_isWord_103
    · rw [if_neg c19] at hf
      refine lv_iload_n hx hb dX5_isWord_91 rfl (lv_at hl 2 rfl) ?_
      obtain ⟨r21, hc20, hf⟩ := ob_some hf
      refine k_I w (q_S C w (c_X5_isRegister ok hc20) wy_X5_isRegister w_sta_yX5_isRegister w_ml_RX5_132_yX5_isRegister rfl rfl ⟨Nat.le_of_ble_eq_true rfl, Nat.le_of_ble_eq_true rfl⟩ rfl hl.1 rfl (Nat.le_of_ble_eq_true rfl) dX5_isWord_92 ⟨Nat.le_refl _, Nat.le_refl _⟩) (fun H locs w => ?_)
      refine lv_if_eq (tgt := 102) hx hb dX5_isWord_95 (by decide) (fun c23 => ?_) (fun c23 => ?_)
      · rw [if_pos c23] at hf
        refine lv_iconst (v := 0) hx hb dX5_isWord_102 (by decide) ?_
        cases hf
        exact r_zret C hr hlk w (by decide) dX5_isWord_103
      · rw [if_neg c23] at hf
        refine lv_iconst (v := 1) hx hb dX5_isWord_98 (by decide) ?_
        refine lv_goto (tgt := 103) hx hb dX5_isWord_99 (by decide) ?_
        cases hf
        exact r_zret C hr hlk w (by decide) dX5_isWord_103
  rw [if_neg c15] at hf
  by_cases c24 : x0 = 3
  · rw [if_pos c24] at hf
    refine lv_tableIn (off := 103) (tgt := 104) hx hb dX5_isWord_1 (by rw [c24]; decide) (by rw [c24]; decide) (by rw [c24]; rfl) (by decide) ?_
    refine lv_iload_n hx hb dX5_isWord_104 rfl (lv_at hl 1 rfl) ?_
    obtain ⟨r26, hc25, hf⟩ := ob_some hf
    refine k_I w (q_S C w (c_X5_isRegister ok hc25) wy_X5_isRegister w_sta_yX5_isRegister w_ml_RX5_132_yX5_isRegister rfl rfl ⟨Nat.le_of_ble_eq_true rfl, Nat.le_of_ble_eq_true rfl⟩ rfl hl.1 rfl (Nat.le_of_ble_eq_true rfl) dX5_isWord_105 ⟨Nat.le_refl _, Nat.le_refl _⟩) (fun H locs w => ?_)
    refine lv_if_eq (tgt := 122) hx hb dX5_isWord_108 (by decide) (fun c28 => ?_) (fun c28 => ?_)
    · rw [if_pos c28] at hf
      refine lv_iconst (v := 0) hx hb dX5_isWord_122 (by decide) ?_
      cases hf
      exact r_zret C hr hlk w (by decide) dX5_isWord_123
    · rw [if_neg c28] at hf
      refine lv_iload_n hx hb dX5_isWord_111 rfl (lv_at hl 2 rfl) ?_
      obtain ⟨r30, hc29, hf⟩ := ob_some hf
      refine k_I w (q_S C w (c_X5_isVariable ok hc29) wy_X5_isVariable w_sta_yX5_isVariable w_ml_RX5_76_yX5_isVariable rfl rfl ⟨Nat.le_of_ble_eq_true rfl, Nat.le_of_ble_eq_true rfl⟩ rfl hl.1 rfl (Nat.le_of_ble_eq_true rfl) dX5_isWord_112 ⟨Nat.le_refl _, Nat.le_refl _⟩) (fun H locs w => ?_)
      refine lv_if_eq (tgt := 122) hx hb dX5_isWord_115 (by decide) (fun c32 => ?_) (fun c32 => ?_)
      · rw [if_pos c32] at hf
        refine lv_iconst (v := 0) hx hb dX5_isWord_122 (by decide) ?_
        cases hf
        exact r_zret C hr hlk w (by decide) dX5_isWord_123
      · rw [if_neg c32] at hf
        refine lv_iconst (v := 1) hx hb dX5_isWord_118 (by decide) ?_
        refine lv_goto (tgt := 123) hx hb dX5_isWord_119 (by decide) ?_
        cases hf
        exact r_zret C hr hlk w (by decide) dX5_isWord_123
  rw [if_neg c24] at hf
  by_cases c33 : x0 = 4
  · rw [if_pos c33] at hf
    refine lv_tableIn (off := 123) (tgt := 124) hx hb dX5_isWord_1 (by rw [c33]; decide) (by rw [c33]; decide) (by rw [c33]; rfl) (by decide) ?_
    refine lv_iload_n hx hb dX5_isWord_124 rfl (lv_at hl 1 rfl) ?_
    obtain ⟨r35, hc34, hf⟩ := ob_some hf
    refine k_I w (q_S C w (c_X5_isVariable ok hc34) wy_X5_isVariable w_sta_yX5_isVariable w_ml_RX5_76_yX5_isVariable rfl rfl ⟨Nat.le_of_ble_eq_true rfl, Nat.le_of_ble_eq_true rfl⟩ rfl hl.1 rfl (Nat.le_of_ble_eq_true rfl) dX5_isWord_125 ⟨Nat.le_refl _, Nat.le_refl _⟩) (fun H locs w => ?_)
    refine lv_if_eq (tgt := 142) hx hb dX5_isWord_128 (by decide) (fun c37 => ?_) (fun c37 => ?_)
    · rw [if_pos c37] at hf
      refine lv_iconst (v := 0) hx hb dX5_isWord_142 (by decide) ?_
      cases hf
      exact r_zret C hr hlk w (by decide) dX5_isWord_143
    · rw [if_neg c37] at hf
      refine lv_iload_n hx hb dX5_isWord_131 rfl (lv_at hl 2 rfl) ?_
      obtain ⟨r39, hc38, hf⟩ := ob_some hf
      refine k_I w (q_S C w (c_X5_isRegister ok hc38) wy_X5_isRegister w_sta_yX5_isRegister w_ml_RX5_132_yX5_isRegister rfl rfl ⟨Nat.le_of_ble_eq_true rfl, Nat.le_of_ble_eq_true rfl⟩ rfl hl.1 rfl (Nat.le_of_ble_eq_true rfl) dX5_isWord_132 ⟨Nat.le_refl _, Nat.le_refl _⟩) (fun H locs w => ?_)
      refine lv_if_eq (tgt := 142) hx hb dX5_isWord_135 (by decide) (fun c41 => ?_) (fun c41 => ?_)
      · rw [if_pos c41] at hf
        refine lv_iconst (v := 0) hx hb dX5_isWord_142 (by decide) ?_
        cases hf
        exact r_zret C hr hlk w (by decide) dX5_isWord_143
      · rw [if_neg c41] at hf
        refine lv_iconst (v := 1) hx hb dX5_isWord_138 (by decide) ?_
        refine lv_goto (tgt := 143) hx hb dX5_isWord_139 (by decide) ?_
        cases hf
        exact r_zret C hr hlk w (by decide) dX5_isWord_143
  rw [if_neg c33] at hf
  by_cases c42 : x0 = 5
  · rw [if_pos c42] at hf
    refine lv_tableIn (off := 143) (tgt := 144) hx hb dX5_isWord_1 (by rw [c42]; decide) (by rw [c42]; decide) (by rw [c42]; rfl) (by decide) ?_
    refine lv_iload_n hx hb dX5_isWord_144 rfl (lv_at hl 1 rfl) ?_
    obtain ⟨r44, hc43, hf⟩ := ob_some hf
    refine k_I w (q_S C w (c_X5_isRegister ok hc43) wy_X5_isRegister w_sta_yX5_isRegister w_ml_RX5_132_yX5_isRegister rfl rfl ⟨Nat.le_of_ble_eq_true rfl, Nat.le_of_ble_eq_true rfl⟩ rfl hl.1 rfl (Nat.le_of_ble_eq_true rfl) dX5_isWord_145 ⟨Nat.le_refl _, Nat.le_refl _⟩) (fun H locs w => ?_)
    obtain ⟨g46, hf⟩ := gd_some hf
    cases hf
    exact r_zret C hr hlk w g46 dX5_isWord_148
  rw [if_neg c42] at hf
  by_cases c47 : x0 = 6
  · rw [if_pos c47] at hf
    refine lv_tableIn (off := 148) (tgt := 149) hx hb dX5_isWord_1 (by rw [c47]; decide) (by rw [c47]; decide) (by rw [c47]; rfl) (by decide) ?_
    refine lv_iload_n hx hb dX5_isWord_149 rfl (lv_at hl 0 rfl) ?_
    refine lv_if_lt (tgt := 163) hx hb dX5_isWord_150 (by decide) (fun c48 => ?_) (fun c48 => ?_)
    · rw [if_pos c48] at hf
      refine lv_iconst (v := 0) hx hb dX5_isWord_163 (by decide) ?_
      cases hf
      exact r_zret C hr hlk w (by decide) dX5_isWord_164
    · rw [if_neg c48] at hf
      refine lv_iload_n hx hb dX5_isWord_153 rfl (lv_at hl 0 rfl) ?_
      refine lv_bipush (v := 16) hx hb dX5_isWord_154 (by decide) ?_
      refine lv_icmp_gt (tgt := 163) hx hb dX5_isWord_156 (by decide) (fun c49 => ?_) (fun c49 => ?_)
      · rw [if_pos c49] at hf
        refine lv_iconst (v := 0) hx hb dX5_isWord_163 (by decide) ?_
        cases hf
        exact r_zret C hr hlk w (by decide) dX5_isWord_164
      · rw [if_neg c49] at hf
        refine lv_iconst (v := 1) hx hb dX5_isWord_159 (by decide) ?_
        refine lv_goto (tgt := 164) hx hb dX5_isWord_160 (by decide) ?_
        cases hf
        exact r_zret C hr hlk w (by decide) dX5_isWord_164
  rw [if_neg c47] at hf
  by_cases c50 : x0 = 7
  · rw [if_pos c50] at hf
    refine lv_tableIn (off := 148) (tgt := 149) hx hb dX5_isWord_1 (by rw [c50]; decide) (by rw [c50]; decide) (by rw [c50]; rfl) (by decide) ?_
    refine lv_iload_n hx hb dX5_isWord_149 rfl (lv_at hl 0 rfl) ?_
    refine lv_if_lt (tgt := 163) hx hb dX5_isWord_150 (by decide) (fun c51 => ?_) (fun c51 => ?_)
    · rw [if_pos c51] at hf
      refine lv_iconst (v := 0) hx hb dX5_isWord_163 (by decide) ?_
      cases hf
      exact r_zret C hr hlk w (by decide) dX5_isWord_164
    · rw [if_neg c51] at hf
      refine lv_iload_n hx hb dX5_isWord_153 rfl (lv_at hl 0 rfl) ?_
      refine lv_bipush (v := 16) hx hb dX5_isWord_154 (by decide) ?_
      refine lv_icmp_gt (tgt := 163) hx hb dX5_isWord_156 (by decide) (fun c52 => ?_) (fun c52 => ?_)
      · rw [if_pos c52] at hf
        refine lv_iconst (v := 0) hx hb dX5_isWord_163 (by decide) ?_
        cases hf
        exact r_zret C hr hlk w (by decide) dX5_isWord_164
      · rw [if_neg c52] at hf
        refine lv_iconst (v := 1) hx hb dX5_isWord_159 (by decide) ?_
        refine lv_goto (tgt := 164) hx hb dX5_isWord_160 (by decide) ?_
        cases hf
        exact r_zret C hr hlk w (by decide) dX5_isWord_164
  rw [if_neg c50] at hf
  by_cases c53 : x0 = 8
  · rw [if_pos c53] at hf
    refine lv_tableIn (off := 148) (tgt := 149) hx hb dX5_isWord_1 (by rw [c53]; decide) (by rw [c53]; decide) (by rw [c53]; rfl) (by decide) ?_
    refine lv_iload_n hx hb dX5_isWord_149 rfl (lv_at hl 0 rfl) ?_
    refine lv_if_lt (tgt := 163) hx hb dX5_isWord_150 (by decide) (fun c54 => ?_) (fun c54 => ?_)
    · rw [if_pos c54] at hf
      refine lv_iconst (v := 0) hx hb dX5_isWord_163 (by decide) ?_
      cases hf
      exact r_zret C hr hlk w (by decide) dX5_isWord_164
    · rw [if_neg c54] at hf
      refine lv_iload_n hx hb dX5_isWord_153 rfl (lv_at hl 0 rfl) ?_
      refine lv_bipush (v := 16) hx hb dX5_isWord_154 (by decide) ?_
      refine lv_icmp_gt (tgt := 163) hx hb dX5_isWord_156 (by decide) (fun c55 => ?_) (fun c55 => ?_)
      · rw [if_pos c55] at hf
        refine lv_iconst (v := 0) hx hb dX5_isWord_163 (by decide) ?_
        cases hf
        exact r_zret C hr hlk w (by decide) dX5_isWord_164
      · rw [if_neg c55] at hf
        refine lv_iconst (v := 1) hx hb dX5_isWord_159 (by decide) ?_
        refine lv_goto (tgt := 164) hx hb dX5_isWord_160 (by decide) ?_
        cases hf
        exact r_zret C hr hlk w (by decide) dX5_isWord_164
  rw [if_neg c53] at hf
  by_cases c56 : x0 = 9
  · rw [if_pos c56] at hf
    refine lv_tableIn (off := 148) (tgt := 149) hx hb dX5_isWord_1 (by rw [c56]; decide) (by rw [c56]; decide) (by rw [c56]; rfl) (by decide) ?_
    refine lv_iload_n hx hb dX5_isWord_149 rfl (lv_at hl 0 rfl) ?_
    refine lv_if_lt (tgt := 163) hx hb dX5_isWord_150 (by decide) (fun c57 => ?_) (fun c57 => ?_)
    · rw [if_pos c57] at hf
      refine lv_iconst (v := 0) hx hb dX5_isWord_163 (by decide) ?_
      cases hf
      exact r_zret C hr hlk w (by decide) dX5_isWord_164
    · rw [if_neg c57] at hf
      refine lv_iload_n hx hb dX5_isWord_153 rfl (lv_at hl 0 rfl) ?_
      refine lv_bipush (v := 16) hx hb dX5_isWord_154 (by decide) ?_
      refine lv_icmp_gt (tgt := 163) hx hb dX5_isWord_156 (by decide) (fun c58 => ?_) (fun c58 => ?_)
      · rw [if_pos c58] at hf
        refine lv_iconst (v := 0) hx hb dX5_isWord_163 (by decide) ?_
        cases hf
        exact r_zret C hr hlk w (by decide) dX5_isWord_164
      · rw [if_neg c58] at hf
        refine lv_iconst (v := 1) hx hb dX5_isWord_159 (by decide) ?_
        refine lv_goto (tgt := 164) hx hb dX5_isWord_160 (by decide) ?_
        cases hf
        exact r_zret C hr hlk w (by decide) dX5_isWord_164
  rw [if_neg c56] at hf
  by_cases c59 : x0 = 10
  · rw [if_pos c59] at hf
    refine lv_tableIn (off := 148) (tgt := 149) hx hb dX5_isWord_1 (by rw [c59]; decide) (by rw [c59]; decide) (by rw [c59]; rfl) (by decide) ?_
    refine lv_iload_n hx hb dX5_isWord_149 rfl (lv_at hl 0 rfl) ?_
    refine lv_if_lt (tgt := 163) hx hb dX5_isWord_150 (by decide) (fun c60 => ?_) (fun c60 => ?_)
    · rw [if_pos c60] at hf
      refine lv_iconst (v := 0) hx hb dX5_isWord_163 (by decide) ?_
      cases hf
      exact r_zret C hr hlk w (by decide) dX5_isWord_164
    · rw [if_neg c60] at hf
      refine lv_iload_n hx hb dX5_isWord_153 rfl (lv_at hl 0 rfl) ?_
      refine lv_bipush (v := 16) hx hb dX5_isWord_154 (by decide) ?_
      refine lv_icmp_gt (tgt := 163) hx hb dX5_isWord_156 (by decide) (fun c61 => ?_) (fun c61 => ?_)
      · rw [if_pos c61] at hf
        refine lv_iconst (v := 0) hx hb dX5_isWord_163 (by decide) ?_
        cases hf
        exact r_zret C hr hlk w (by decide) dX5_isWord_164
      · rw [if_neg c61] at hf
        refine lv_iconst (v := 1) hx hb dX5_isWord_159 (by decide) ?_
        refine lv_goto (tgt := 164) hx hb dX5_isWord_160 (by decide) ?_
        cases hf
        exact r_zret C hr hlk w (by decide) dX5_isWord_164
  rw [if_neg c59] at hf
  by_cases c62 : x0 = 11
  · rw [if_pos c62] at hf
    refine lv_tableIn (off := 143) (tgt := 144) hx hb dX5_isWord_1 (by rw [c62]; decide) (by rw [c62]; decide) (by rw [c62]; rfl) (by decide) ?_
    refine lv_iload_n hx hb dX5_isWord_144 rfl (lv_at hl 1 rfl) ?_
    obtain ⟨r64, hc63, hf⟩ := ob_some hf
    refine k_I w (q_S C w (c_X5_isRegister ok hc63) wy_X5_isRegister w_sta_yX5_isRegister w_ml_RX5_132_yX5_isRegister rfl rfl ⟨Nat.le_of_ble_eq_true rfl, Nat.le_of_ble_eq_true rfl⟩ rfl hl.1 rfl (Nat.le_of_ble_eq_true rfl) dX5_isWord_145 ⟨Nat.le_refl _, Nat.le_refl _⟩) (fun H locs w => ?_)
    obtain ⟨g66, hf⟩ := gd_some hf
    cases hf
    exact r_zret C hr hlk w g66 dX5_isWord_148
  rw [if_neg c62] at hf
  by_cases c67 : x0 = 12
  · rw [if_pos c67] at hf
    refine lv_tableIn (off := 148) (tgt := 149) hx hb dX5_isWord_1 (by rw [c67]; decide) (by rw [c67]; decide) (by rw [c67]; rfl) (by decide) ?_
    refine lv_iload_n hx hb dX5_isWord_149 rfl (lv_at hl 0 rfl) ?_
    refine lv_if_lt (tgt := 163) hx hb dX5_isWord_150 (by decide) (fun c68 => ?_) (fun c68 => ?_)
    · rw [if_pos c68] at hf
      refine lv_iconst (v := 0) hx hb dX5_isWord_163 (by decide) ?_
      cases hf
      exact r_zret C hr hlk w (by decide) dX5_isWord_164
    · rw [if_neg c68] at hf
      refine lv_iload_n hx hb dX5_isWord_153 rfl (lv_at hl 0 rfl) ?_
      refine lv_bipush (v := 16) hx hb dX5_isWord_154 (by decide) ?_
      refine lv_icmp_gt (tgt := 163) hx hb dX5_isWord_156 (by decide) (fun c69 => ?_) (fun c69 => ?_)
      · rw [if_pos c69] at hf
        refine lv_iconst (v := 0) hx hb dX5_isWord_163 (by decide) ?_
        cases hf
        exact r_zret C hr hlk w (by decide) dX5_isWord_164
      · rw [if_neg c69] at hf
        refine lv_iconst (v := 1) hx hb dX5_isWord_159 (by decide) ?_
        refine lv_goto (tgt := 164) hx hb dX5_isWord_160 (by decide) ?_
        cases hf
        exact r_zret C hr hlk w (by decide) dX5_isWord_164
  rw [if_neg c67] at hf
  by_cases c70 : x0 = 13
  · rw [if_pos c70] at hf
    refine lv_tableIn (off := 143) (tgt := 144) hx hb dX5_isWord_1 (by rw [c70]; decide) (by rw [c70]; decide) (by rw [c70]; rfl) (by decide) ?_
    refine lv_iload_n hx hb dX5_isWord_144 rfl (lv_at hl 1 rfl) ?_
    obtain ⟨r72, hc71, hf⟩ := ob_some hf
    refine k_I w (q_S C w (c_X5_isRegister ok hc71) wy_X5_isRegister w_sta_yX5_isRegister w_ml_RX5_132_yX5_isRegister rfl rfl ⟨Nat.le_of_ble_eq_true rfl, Nat.le_of_ble_eq_true rfl⟩ rfl hl.1 rfl (Nat.le_of_ble_eq_true rfl) dX5_isWord_145 ⟨Nat.le_refl _, Nat.le_refl _⟩) (fun H locs w => ?_)
    obtain ⟨g74, hf⟩ := gd_some hf
    cases hf
    exact r_zret C hr hlk w g74 dX5_isWord_148
  rw [if_neg c70] at hf
  by_cases c75 : x0 = 14
  · rw [if_pos c75] at hf
    refine lv_tableIn (off := 143) (tgt := 144) hx hb dX5_isWord_1 (by rw [c75]; decide) (by rw [c75]; decide) (by rw [c75]; rfl) (by decide) ?_
    refine lv_iload_n hx hb dX5_isWord_144 rfl (lv_at hl 1 rfl) ?_
    obtain ⟨r77, hc76, hf⟩ := ob_some hf
    refine k_I w (q_S C w (c_X5_isRegister ok hc76) wy_X5_isRegister w_sta_yX5_isRegister w_ml_RX5_132_yX5_isRegister rfl rfl ⟨Nat.le_of_ble_eq_true rfl, Nat.le_of_ble_eq_true rfl⟩ rfl hl.1 rfl (Nat.le_of_ble_eq_true rfl) dX5_isWord_145 ⟨Nat.le_refl _, Nat.le_refl _⟩) (fun H locs w => ?_)
    obtain ⟨g79, hf⟩ := gd_some hf
    cases hf
    exact r_zret C hr hlk w g79 dX5_isWord_148
  rw [if_neg c75] at hf
  by_cases c80 : x0 = 15
  · rw [if_pos c80] at hf
    refine lv_tableIn (off := 148) (tgt := 149) hx hb dX5_isWord_1 (by rw [c80]; decide) (by rw [c80]; decide) (by rw [c80]; rfl) (by decide) ?_
    refine lv_iload_n hx hb dX5_isWord_149 rfl (lv_at hl 0 rfl) ?_
    refine lv_if_lt (tgt := 163) hx hb dX5_isWord_150 (by decide) (fun c81 => ?_) (fun c81 => ?_)
    · rw [if_pos c81] at hf
      refine lv_iconst (v := 0) hx hb dX5_isWord_163 (by decide) ?_
      cases hf
      exact r_zret C hr hlk w (by decide) dX5_isWord_164
    · rw [if_neg c81] at hf
      refine lv_iload_n hx hb dX5_isWord_153 rfl (lv_at hl 0 rfl) ?_
      refine lv_bipush (v := 16) hx hb dX5_isWord_154 (by decide) ?_
      refine lv_icmp_gt (tgt := 163) hx hb dX5_isWord_156 (by decide) (fun c82 => ?_) (fun c82 => ?_)
      · rw [if_pos c82] at hf
        refine lv_iconst (v := 0) hx hb dX5_isWord_163 (by decide) ?_
        cases hf
        exact r_zret C hr hlk w (by decide) dX5_isWord_164
      · rw [if_neg c82] at hf
        refine lv_iconst (v := 1) hx hb dX5_isWord_159 (by decide) ?_
        refine lv_goto (tgt := 164) hx hb dX5_isWord_160 (by decide) ?_
        cases hf
        exact r_zret C hr hlk w (by decide) dX5_isWord_164
  rw [if_neg c80] at hf
  by_cases c83 : x0 = 16
  · rw [if_pos c83] at hf
    refine lv_tableIn (off := 143) (tgt := 144) hx hb dX5_isWord_1 (by rw [c83]; decide) (by rw [c83]; decide) (by rw [c83]; rfl) (by decide) ?_
    refine lv_iload_n hx hb dX5_isWord_144 rfl (lv_at hl 1 rfl) ?_
    obtain ⟨r85, hc84, hf⟩ := ob_some hf
    refine k_I w (q_S C w (c_X5_isRegister ok hc84) wy_X5_isRegister w_sta_yX5_isRegister w_ml_RX5_132_yX5_isRegister rfl rfl ⟨Nat.le_of_ble_eq_true rfl, Nat.le_of_ble_eq_true rfl⟩ rfl hl.1 rfl (Nat.le_of_ble_eq_true rfl) dX5_isWord_145 ⟨Nat.le_refl _, Nat.le_refl _⟩) (fun H locs w => ?_)
    obtain ⟨g87, hf⟩ := gd_some hf
    cases hf
    exact r_zret C hr hlk w g87 dX5_isWord_148
  rw [if_neg c83] at hf
  refine lv_tableOut (tgt := 149) hx hb dX5_isWord_1 (by have nc1 := lv_neT c1 (a := 0) (by decide); have nc6 := lv_neT c6 (a := 1) (by decide); have nc15 := lv_neT c15 (a := 2) (by decide); have nc24 := lv_neT c24 (a := 3) (by decide); have nc33 := lv_neT c33 (a := 4) (by decide); have nc42 := lv_neT c42 (a := 5) (by decide); have nc47 := lv_neT c47 (a := 6) (by decide); have nc50 := lv_neT c50 (a := 7) (by decide); have nc53 := lv_neT c53 (a := 8) (by decide); have nc56 := lv_neT c56 (a := 9) (by decide); have nc59 := lv_neT c59 (a := 10) (by decide); have nc62 := lv_neT c62 (a := 11) (by decide); have nc67 := lv_neT c67 (a := 12) (by decide); have nc70 := lv_neT c70 (a := 13) (by decide); have nc75 := lv_neT c75 (a := 14) (by decide); have nc80 := lv_neT c80 (a := 15) (by decide); have nc83 := lv_neT c83 (a := 16) (by decide); omega) (by decide) ?_
  refine lv_iload_n hx hb dX5_isWord_149 rfl (lv_at hl 0 rfl) ?_
  refine lv_if_lt (tgt := 163) hx hb dX5_isWord_150 (by decide) (fun c88 => ?_) (fun c88 => ?_)
  · rw [if_pos c88] at hf
    refine lv_iconst (v := 0) hx hb dX5_isWord_163 (by decide) ?_
    cases hf
    exact r_zret C hr hlk w (by decide) dX5_isWord_164
  · rw [if_neg c88] at hf
    refine lv_iload_n hx hb dX5_isWord_153 rfl (lv_at hl 0 rfl) ?_
    refine lv_bipush (v := 16) hx hb dX5_isWord_154 (by decide) ?_
    refine lv_icmp_gt (tgt := 163) hx hb dX5_isWord_156 (by decide) (fun c89 => ?_) (fun c89 => ?_)
    · rw [if_pos c89] at hf
      refine lv_iconst (v := 0) hx hb dX5_isWord_163 (by decide) ?_
      cases hf
      exact r_zret C hr hlk w (by decide) dX5_isWord_164
    · rw [if_neg c89] at hf
      refine lv_iconst (v := 1) hx hb dX5_isWord_159 (by decide) ?_
      refine lv_goto (tgt := 164) hx hb dX5_isWord_160 (by decide) ?_
      cases hf
      exact r_zret C hr hlk w (by decide) dX5_isWord_164
set_option maxHeartbeats 4000000 in
set_option maxRecDepth 100000 in
theorem c_X5_add (ok : Wok EC idC a) {V : Sto} {r : Int32} {V' : Sto} {x1 : Int32} {x2 : Int32} {x3 : Int32} {x4 : Int32} (hf : fX5_add V x1 x2 x3 x4 = some (r, V')) : MtI l cy D EC idC a yX5_add cX5_add 6 .boolean rm_X5_add [.ref (a (0, 0, 0)), .int x1, .int x2, .int x3, .int x4] V r V' := by
  refine ofM (by decide +kernel) ok (Nat.le_of_ble_eq_true rfl) (fun p e s m args below meth c C hr hlk w ls hl => ?_)
  have hx := C.1.1
  have hb := C.1.2.1
  rw [fX5_add] at hf
  skip
  refine lv_aload_n hx hb dX5_add_0 rfl (lv_at hl 0 rfl) ?_
  refine lv_iload_n hx hb dX5_add_1 rfl (lv_at hl 1 rfl) ?_
  rcases hs1 : sOf x1 with _ | t2
  · rw [om_none hs1] at hf
    refine k_R w (q_V C w (c_strandOf_none ok hs1) wy_X5_strandOf wi_X5_strandOf w_ml_RX5_30_yX5_strandOf iC0 eC0 vc5 rfl rfl ⟨Nat.le_of_ble_eq_true rfl, Nat.le_of_ble_eq_true rfl⟩ rfl hl.1 rfl (Nat.le_of_ble_eq_true rfl) dX5_add_2 ⟨Nat.le_refl _, Nat.le_refl _⟩) (fun H locs w => ?_)
    refine lv_astoreN hx hb dX5_add_5 hl (by decide) rfl (fun ls hl => ?_)
    refine lv_aloadN hx hb dX5_add_7 (lv_at hl 0 rfl) ?_
    refine lv_ifnullN (tgt := 41) hx hb dX5_add_9 (by decide) ?_
    refine lv_iconst (v := 0) hx hb dX5_add_41 (by decide) ?_
    cases hf
    exact r_zret C hr hlk w (by decide) dX5_add_42
  · rw [om_some hs1] at hf
    have ht2 : t2 < 4 := sOf_lt hs1
    refine k_R w (q_V C w (c_strandOf_some ok hs1) wy_X5_strandOf wi_X5_strandOf w_ml_RX5_30_yX5_strandOf iC0 eC0 vc5 rfl rfl ⟨Nat.le_of_ble_eq_true rfl, Nat.le_of_ble_eq_true rfl⟩ rfl hl.1 rfl (Nat.le_of_ble_eq_true rfl) dX5_add_2 ⟨Nat.le_refl _, Nat.le_refl _⟩) (fun H locs w => ?_)
    refine lv_astore hx hb dX5_add_5 hl (by decide) rfl (fun ls hl => ?_)
    refine lv_aload hx hb dX5_add_7 (lv_at hl 0 rfl) ?_
    refine lv_ifnull hx hb dX5_add_9 ?_
    refine lv_aload hx hb dX5_add_12 (lv_at hl 0 rfl) ?_
    obtain ⟨r4, hc3, hf⟩ := ob_some hf
    refine k_I w (q_VN C w (c_X4_isUnderWay ok ht2 hc3) wy_X4_isUnderWay wi_X4_isUnderWay nw_m_X5_34 (iC10 ht2) eC10 vc4 rfl rfl ⟨Nat.le_of_ble_eq_true rfl, Nat.le_of_ble_eq_true rfl⟩ rfl hl.1 rfl (Nat.le_of_ble_eq_true rfl) dX5_add_14 ⟨Nat.le_refl _, Nat.le_refl _⟩) (fun H locs w => ?_)
    refine lv_if_ne (tgt := 41) hx hb dX5_add_17 (by decide) (fun c6 => ?_) (fun c6 => ?_)
    · rw [if_neg c6] at hf
      refine lv_iconst (v := 0) hx hb dX5_add_41 (by decide) ?_
      cases hf
      exact r_zret C hr hlk w (by decide) dX5_add_42
    · rw [if_pos c6] at hf
      refine lv_aload hx hb dX5_add_20 (lv_at hl 0 rfl) ?_
      refine r_getN C w (iC10 ht2) eC10 vc4 inlX4 0 (by decide) nw_f_X5_38 rfl dX5_add_22 ?_
      obtain ⟨r8, hc7, hf⟩ := ob_some hf
      refine k_I w (q_VN C w (c_X3_isFull ok ht2 hc7) wy_X3_isFull wi_X3_isFull nw_m_X5_42 (iC11 ht2) eC11 vc3 rfl rfl ⟨Nat.le_of_ble_eq_true rfl, Nat.le_of_ble_eq_true rfl⟩ rfl hl.1 rfl (Nat.le_of_ble_eq_true rfl) dX5_add_25 ⟨Nat.le_refl _, Nat.le_refl _⟩) (fun H locs w => ?_)
      refine lv_if_ne (tgt := 41) hx hb dX5_add_28 (by decide) (fun c10 => ?_) (fun c10 => ?_)
      · rw [if_neg c10] at hf
        refine lv_iconst (v := 0) hx hb dX5_add_41 (by decide) ?_
        cases hf
        exact r_zret C hr hlk w (by decide) dX5_add_42
      · rw [if_pos c10] at hf
        refine lv_iload_n hx hb dX5_add_31 rfl (lv_at hl 3 rfl) ?_
        refine lv_iload_n hx hb dX5_add_32 rfl (lv_at hl 4 rfl) ?_
        refine lv_iload hx hb dX5_add_33 (lv_at hl 5 rfl) ?_
        obtain ⟨r12, hc11, hf⟩ := ob_some hf
        refine k_I w (q_S C w (c_X5_isWord ok hc11) wy_X5_isWord w_sta_yX5_isWord w_ml_RX5_47_yX5_isWord rfl rfl ⟨Nat.le_of_ble_eq_true rfl, Nat.le_of_ble_eq_true rfl⟩ rfl hl.1 rfl (Nat.le_of_ble_eq_true rfl) dX5_add_35 ⟨Nat.le_refl _, Nat.le_refl _⟩) (fun H locs w => ?_)
        refine lv_if_ne (tgt := 43) hx hb dX5_add_38 (by decide) (fun c14 => ?_) (fun c14 => ?_)
        · rw [if_neg c14] at hf
          refine lv_aload hx hb dX5_add_43 (lv_at hl 0 rfl) ?_
          refine r_getN C w (iC10 ht2) eC10 vc4 inlX4 0 (by decide) nw_f_X5_38 rfl dX5_add_45 ?_
          refine lv_iload_n hx hb dX5_add_48 rfl (lv_at hl 3 rfl) ?_
          refine lv_iload_n hx hb dX5_add_49 rfl (lv_at hl 4 rfl) ?_
          refine lv_iload hx hb dX5_add_50 (lv_at hl 5 rfl) ?_
          obtain ⟨V17, hc15, hf⟩ := ob_some hf
          refine k_V w (q_VN C w (c_X3_append ok ht2 hc15) wy_X3_append wi_X3_append nw_m_X5_51 (iC11 ht2) eC11 vc3 rfl rfl ⟨Nat.le_of_ble_eq_true rfl, Nat.le_of_ble_eq_true rfl⟩ rfl hl.1 rfl (Nat.le_of_ble_eq_true rfl) dX5_add_52 ⟨Nat.le_refl _, Nat.le_refl _⟩) (fun H locs w => ?_)
          refine lv_aload hx hb dX5_add_55 (lv_at hl 0 rfl) ?_
          refine lv_iconst (v := 0) hx hb dX5_add_57 (by decide) ?_
          refine r_putN C w (iC10 ht2) eC10 vc4 inlX4 tyX4 tyX4_ok nmX4 9 (by decide) nw_f_X5_55 rfl pd_I uC10_9 (Nat.le_of_ble_eq_true rfl) dX5_add_58 (fun H locs w => ?_)
          obtain ⟨V18, e19, hf⟩ := bnd_some hf
          rw [← e19] at w
          refine lv_iconst (v := 1) hx hb dX5_add_61 (by decide) ?_
          cases hf
          exact r_zret C hr hlk w (by decide) dX5_add_62
        · rw [if_pos c14] at hf
          refine lv_iconst (v := 0) hx hb dX5_add_41 (by decide) ?_
          cases hf
          exact r_zret C hr hlk w (by decide) dX5_add_42
end S31_metC02
