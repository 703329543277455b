section S32_metM04
variable {p : Program} {l : Launch} {e : Env} {R : Room} {s : State} {m : MethodId} {args : Array Value} {below : List Frame} {meth : Method} {c : Code} {cy : Nat → ClassId} {D : va_G} {a : Id3 → Nat}
set_option maxHeartbeats 4000000 in
set_option maxRecDepth 100000 in
theorem jX6_branch_J45 (C : Cx cy D EM idM a p s m args c RX6 cX6_branch 6) (hr : meth.sig.returnType = none) (hlk : meth.locks = false) {V : Sto} {V' : Sto} {x1 : Int32} {x2 : Int32} {x4 : Int32} {H : Heap} {locs : List Loc} {ls : Array Slot} (w : Wd cy D EM idM a V s H locs) (hl : lv_has ls 6 [(0, .ref (a (0, 0, 0))), (1, .int x1), (2, .int x2), (4, .int x4)]) (hf : fX6_branch_J45 V x1 x2 x4 = some V') : W p l e rm_X6_branch s m args below meth c H locs 0 0 (MQ below (QV cy D EM idM a V') args s 0 0 (inA idM a)) (F0 m 45 ls []) := by
  have hx := C.1.1
  have hb := C.1.2.1
  have ok := C.2.2.2
  rw [fX6_branch_J45] at hf
  refine lv_aload_n hx hb dX6_branch_45 rfl (lv_at hl 0 rfl) ?_
  refine lv_iload_n hx hb dX6_branch_46 rfl (lv_at hl 1 rfl) ?_
  refine lv_iload hx hb dX6_branch_47 (lv_at hl 3 rfl) ?_
  refine lv_iload_n hx hb dX6_branch_49 rfl (lv_at hl 2 rfl) ?_
  refine lv_bipush (v := 11) hx hb dX6_branch_50 (by decide) ?_
  refine lv_icmp_ne (tgt := 59) hx hb dX6_branch_52 (by decide) (fun c5 => ?_) (fun c5 => ?_)
  · rw [if_neg c5] at hf
    refine lv_iconst (v := 0) hx hb dX6_branch_59 (by decide) ?_
    obtain ⟨r7, hc6, hf⟩ := ob_some hf
    refine k_I w (q_V C w (c_X6_partner ok hc6) wy_X6_partner wi_X6_partner w_ml_RX6_139_yX6_partner iM0 eM0 vc6 rfl rfl ⟨Nat.le_of_ble_eq_true rfl, Nat.le_of_ble_eq_true rfl⟩ rfl hl.1 rfl (Nat.le_of_ble_eq_true rfl) dX6_branch_60 ⟨Nat.le_refl _, Nat.le_refl _⟩) (fun H locs w => ?_)
    refine lv_istore hx hb dX6_branch_63 hl (by decide) rfl (fun ls hl => ?_)
    refine lv_aload_n hx hb dX6_branch_65 rfl (lv_at hl 1 rfl) ?_
    refine lv_iload_n hx hb dX6_branch_66 rfl (lv_at hl 2 rfl) ?_
    refine lv_iload hx hb dX6_branch_67 (lv_at hl 0 rfl) ?_
    refine lv_iconst (v := 1) hx hb dX6_branch_69 (by decide) ?_
    refine lv_iadd hx hb dX6_branch_70 ?_
    obtain ⟨V11, hc9, hf⟩ := ob_some hf
    refine k_V w (q_V C w (c_X6_go ok hc9) wy_X6_go wi_X6_go w_ml_RX6_119_yX6_go iM0 eM0 vc6 rfl rfl ⟨Nat.le_of_ble_eq_true rfl, Nat.le_of_ble_eq_true rfl⟩ rfl hl.1 rfl (Nat.le_of_ble_eq_true rfl) dX6_branch_71 ⟨Nat.le_refl _, Nat.le_refl _⟩) (fun H locs w => ?_)
    cases hf
    exact r_vret C hr hlk w dX6_branch_74
  · rw [if_pos c5] at hf
    refine lv_iconst (v := 1) hx hb dX6_branch_55 (by decide) ?_
    refine lv_goto (tgt := 60) hx hb dX6_branch_56 (by decide) ?_
    obtain ⟨r13, hc12, hf⟩ := ob_some hf
    refine k_I w (q_V C w (c_X6_partner ok hc12) wy_X6_partner wi_X6_partner w_ml_RX6_139_yX6_partner iM0 eM0 vc6 rfl rfl ⟨Nat.le_of_ble_eq_true rfl, Nat.le_of_ble_eq_true rfl⟩ rfl hl.1 rfl (Nat.le_of_ble_eq_true rfl) dX6_branch_60 ⟨Nat.le_refl _, Nat.le_refl _⟩) (fun H locs w => ?_)
    refine lv_istore hx hb dX6_branch_63 hl (by decide) rfl (fun ls hl => ?_)
    refine lv_aload_n hx hb dX6_branch_65 rfl (lv_at hl 1 rfl) ?_
    refine lv_iload_n hx hb dX6_branch_66 rfl (lv_at hl 2 rfl) ?_
    refine lv_iload hx hb dX6_branch_67 (lv_at hl 0 rfl) ?_
    refine lv_iconst (v := 1) hx hb dX6_branch_69 (by decide) ?_
    refine lv_iadd hx hb dX6_branch_70 ?_
    obtain ⟨V17, hc15, hf⟩ := ob_some hf
    refine k_V w (q_V C w (c_X6_go ok hc15) wy_X6_go wi_X6_go w_ml_RX6_119_yX6_go iM0 eM0 vc6 rfl rfl ⟨Nat.le_of_ble_eq_true rfl, Nat.le_of_ble_eq_true rfl⟩ rfl hl.1 rfl (Nat.le_of_ble_eq_true rfl) dX6_branch_71 ⟨Nat.le_refl _, Nat.le_refl _⟩) (fun H locs w => ?_)
    cases hf
    exact r_vret C hr hlk w dX6_branch_74
set_option maxHeartbeats 4000000 in
set_option maxRecDepth 100000 in
theorem jX6_branch_J20 (C : Cx cy D EM idM a p s m args c RX6 cX6_branch 6) (hr : meth.sig.returnType = none) (hlk : meth.locks = false) {V : Sto} {V' : Sto} {x1 : Int32} {x2 : Int32} {x3 : Int32} {x4 : Int32} {H : Heap} {locs : List Loc} {ls : Array Slot} (w : Wd cy D EM idM a V s H locs) (hl : lv_has ls 6 [(0, .ref (a (0, 0, 0))), (1, .int x1), (2, .int x2), (3, .int x3), (4, .int x4)]) (hf : fX6_branch_J20 V x1 x2 x3 x4 = some V') : W p l e rm_X6_branch s m args below meth c H locs 0 0 (MQ below (QV cy D EM idM a V') args s 0 0 (inA idM a)) (F0 m 20 ls []) := by
  have hx := C.1.1
  have hb := C.1.2.1
  have ok := C.2.2.2
  rw [fX6_branch_J20] at hf
  refine lv_aload_n hx hb dX6_branch_20 rfl (lv_at hl 0 rfl) ?_
  refine r_get C w iM0 eM0 vc6 inlX6 7 (by decide) w_fl_RX6_31_AtomicThreadsModel_register_I rfl dX6_branch_21 ?_
  refine lv_iconst (v := 4) hx hb dX6_branch_24 (by decide) ?_
  refine lv_iload_n hx hb dX6_branch_25 rfl (lv_at hl 1 rfl) ?_
  refine lv_imul hx hb dX6_branch_26 ?_
  refine lv_iload_n hx hb dX6_branch_27 rfl (lv_at hl 3 rfl) ?_
  refine lv_iadd hx hb dX6_branch_28 ?_
  obtain ⟨g3, hf⟩ := gd_some hf
  refine r_iald C w iM8 aM8 g3 dX6_branch_29 ?_
  refine lv_if_le (tgt := 45) hx hb dX6_branch_30 (by decide) (fun c4 => ?_) (fun c4 => ?_)
  · rw [if_pos c4] at hf
    exact jX6_branch_J45 C hr hlk w (lv_sub hl [0, 1, 2, 4] rfl) hf
  · rw [if_neg c4] at hf
    refine lv_aload_n hx hb dX6_branch_33 rfl (lv_at hl 0 rfl) ?_
    refine lv_iload_n hx hb dX6_branch_34 rfl (lv_at hl 1 rfl) ?_
    refine lv_iload hx hb dX6_branch_35 (lv_at hl 4 rfl) ?_
    refine lv_iconst (v := 1) hx hb dX6_branch_37 (by decide) ?_
    refine lv_iadd hx hb dX6_branch_38 ?_
    obtain ⟨V20, hc18, hf⟩ := ob_some hf
    refine k_V w (q_V C w (c_X6_go ok hc18) wy_X6_go wi_X6_go w_ml_RX6_119_yX6_go iM0 eM0 vc6 rfl rfl ⟨Nat.le_of_ble_eq_true rfl, Nat.le_of_ble_eq_true rfl⟩ rfl hl.1 rfl (Nat.le_of_ble_eq_true rfl) dX6_branch_39 ⟨Nat.le_refl _, Nat.le_refl _⟩) (fun H locs w => ?_)
    refine lv_goto (tgt := 74) hx hb dX6_branch_42 (by decide) ?_
    cases hf
    exact r_vret C hr hlk w dX6_branch_74
set_option maxHeartbeats 4000000 in
set_option maxRecDepth 100000 in
theorem c_X6_branch (ok : Wok EM idM a) {V : Sto} {V' : Sto} {x1 : Int32} {x2 : Int32} {x3 : Int32} (hf : fX6_branch V x1 x2 x3 = some V') : MtV l cy D EM idM a yX6_branch cX6_branch 6 rm_X6_branch [.ref (a (0, 0, 0)), .int x1, .int x2, .int x3] V V' := by
  refine ofM (by decide +kernel) ok (Nat.le_of_ble_eq_true rfl) (fun p e s m args below meth c C hr hlk w ls hl => ?_)
  have hx := C.1.1
  have hb := C.1.2.1
  rw [fX6_branch] at hf
  skip
  refine lv_aload_n hx hb dX6_branch_0 rfl (lv_at hl 0 rfl) ?_
  refine r_get C w iM0 eM0 vc6 inlX6 5 (by decide) w_fl_RX6_25_AtomicThreadsModel_place_I rfl dX6_branch_1 ?_
  refine lv_iload_n hx hb dX6_branch_4 rfl (lv_at hl 1 rfl) ?_
  obtain ⟨g1, hf⟩ := gd_some hf
  refine r_iald C w iM6 aM6 g1 dX6_branch_5 ?_
  refine lv_istore hx hb dX6_branch_6 hl (by decide) rfl (fun ls hl => ?_)
  refine lv_iload_n hx hb dX6_branch_8 rfl (lv_at hl 3 rfl) ?_
  refine lv_bipush (v := 11) hx hb dX6_branch_9 (by decide) ?_
  refine lv_icmp_eq (tgt := 20) hx hb dX6_branch_11 (by decide) (fun c2 => ?_) (fun c2 => ?_)
  · rw [if_pos c2] at hf
    exact jX6_branch_J20 C hr hlk w (lv_sub hl [1, 2, 3, 4, 0] rfl) hf
  · rw [if_neg c2] at hf
    refine lv_iload_n hx hb dX6_branch_14 rfl (lv_at hl 3 rfl) ?_
    refine lv_bipush (v := 13) hx hb dX6_branch_15 (by decide) ?_
    refine lv_icmp_ne (tgt := 45) hx hb dX6_branch_17 (by decide) (fun c21 => ?_) (fun c21 => ?_)
    · rw [if_neg c21] at hf
      exact jX6_branch_J45 C hr hlk w (lv_sub hl [1, 2, 3, 0] rfl) hf
    · rw [if_pos c21] at hf
      exact jX6_branch_J20 C hr hlk w (lv_sub hl [1, 2, 3, 4, 0] rfl) hf
set_option maxHeartbeats 4000000 in
set_option maxRecDepth 100000 in
theorem c_X6_end (ok : Wok EM idM a) {V : Sto} {r : Int32} {V' : Sto} {x1 : Int32} (hf : fX6_end V x1 = some (r, V')) : MtI l cy D EM idM a yX6_end cX6_end 4 .int rm_X6_end [.ref (a (0, 0, 0)), .int x1] V r V' := by
  refine ofM (by decide +kernel) ok (Nat.le_of_ble_eq_true rfl) (fun p e s m args below meth c C hr hlk w ls hl => ?_)
  have hx := C.1.1
  have hb := C.1.2.1
  rw [fX6_end] at hf
  skip
  refine lv_aload_n hx hb dX6_end_0 rfl (lv_at hl 0 rfl) ?_
  refine lv_iload_n hx hb dX6_end_1 rfl (lv_at hl 1 rfl) ?_
  refine lv_aload_n hx hb dX6_end_2 rfl (lv_at hl 0 rfl) ?_
  refine r_get C w iM0 eM0 vc6 inlX6 5 (by decide) w_fl_RX6_25_AtomicThreadsModel_place_I rfl dX6_end_3 ?_
  refine lv_iload_n hx hb dX6_end_6 rfl (lv_at hl 1 rfl) ?_
  obtain ⟨g1, hf⟩ := gd_some hf
  refine r_iald C w iM6 aM6 g1 dX6_end_7 ?_
  obtain ⟨r3, hc2, hf⟩ := ob_some hf
  refine k_I w (q_V C w (c_X6_origin ok hc2) wy_X6_origin wi_X6_origin w_ml_RX6_154_yX6_origin iM0 eM0 vc6 rfl rfl ⟨Nat.le_of_ble_eq_true rfl, Nat.le_of_ble_eq_true rfl⟩ rfl hl.1 rfl (Nat.le_of_ble_eq_true rfl) dX6_end_8 ⟨Nat.le_refl _, Nat.le_refl _⟩) (fun H locs w => ?_)
  refine lv_istore_n hx hb dX6_end_11 rfl hl (by decide) rfl (fun ls hl => ?_)
  refine lv_aload_n hx hb dX6_end_12 rfl (lv_at hl 1 rfl) ?_
  refine r_get C w iM0 eM0 vc6 inlX6 0 (by decide) w_fl_RX6_7_AtomicThreadsModel_kind_I rfl dX6_end_13 ?_
  refine lv_bipush (v := 30) hx hb dX6_end_16 (by decide) ?_
  refine lv_iload_n hx hb dX6_end_18 rfl (lv_at hl 2 rfl) ?_
  refine lv_imul hx hb dX6_end_19 ?_
  refine lv_iload_n hx hb dX6_end_20 rfl (lv_at hl 0 rfl) ?_
  refine lv_iadd hx hb dX6_end_21 ?_
  obtain ⟨g5, hf⟩ := gd_some hf
  refine r_iald C w iM1 aM1 g5 dX6_end_22 ?_
  refine lv_istore_n hx hb dX6_end_23 rfl hl (by decide) rfl (fun ls hl => ?_)
  refine lv_iload_n hx hb dX6_end_24 rfl (lv_at hl 0 rfl) ?_
  refine lv_bipush (v := 6) hx hb dX6_end_25 (by decide) ?_
  refine lv_icmp_ne (tgt := 36) hx hb dX6_end_27 (by decide) (fun c6 => ?_) (fun c6 => ?_)
  · rw [if_neg c6] at hf
    refine lv_aload_n hx hb dX6_end_36 rfl (lv_at hl 2 rfl) ?_
    refine lv_iload_n hx hb dX6_end_37 rfl (lv_at hl 3 rfl) ?_
    refine lv_iload_n hx hb dX6_end_38 rfl (lv_at hl 0 rfl) ?_
    refine lv_bipush (v := 13) hx hb dX6_end_39 (by decide) ?_
    refine lv_icmp_ne (tgt := 48) hx hb dX6_end_41 (by decide) (fun c7 => ?_) (fun c7 => ?_)
    · rw [if_neg c7] at hf
      refine lv_aload_n hx hb dX6_end_48 rfl (lv_at hl 2 rfl) ?_
      refine r_get C w iM0 eM0 vc6 inlX6 5 (by decide) w_fl_RX6_25_AtomicThreadsModel_place_I rfl dX6_end_49 ?_
      refine lv_iload_n hx hb dX6_end_52 rfl (lv_at hl 3 rfl) ?_
      obtain ⟨g8, hf⟩ := gd_some hf
      refine r_iald C w iM6 aM6 g8 dX6_end_53 ?_
      refine lv_iconst (v := 1) hx hb dX6_end_54 (by decide) ?_
      refine lv_iadd hx hb dX6_end_55 ?_
      obtain ⟨V11, hc9, hf⟩ := ob_some hf
      refine k_V w (q_V C w (c_X6_go ok hc9) wy_X6_go wi_X6_go w_ml_RX6_119_yX6_go iM0 eM0 vc6 rfl rfl ⟨Nat.le_of_ble_eq_true rfl, Nat.le_of_ble_eq_true rfl⟩ rfl hl.1 rfl (Nat.le_of_ble_eq_true rfl) dX6_end_56 ⟨Nat.le_refl _, Nat.le_refl _⟩) (fun H locs w => ?_)
      refine lv_iconst (v := 0) hx hb dX6_end_59 (by decide) ?_
      cases hf
      exact r_iret C hr hlk w dX6_end_60
    · rw [if_pos c7] at hf
      refine lv_iload_n hx hb dX6_end_44 rfl (lv_at hl 1 rfl) ?_
      refine lv_goto (tgt := 56) hx hb dX6_end_45 (by decide) ?_
      obtain ⟨V14, hc12, hf⟩ := ob_some hf
      refine k_V w (q_V C w (c_X6_go ok hc12) wy_X6_go wi_X6_go w_ml_RX6_119_yX6_go iM0 eM0 vc6 rfl rfl ⟨Nat.le_of_ble_eq_true rfl, Nat.le_of_ble_eq_true rfl⟩ rfl hl.1 rfl (Nat.le_of_ble_eq_true rfl) dX6_end_56 ⟨Nat.le_refl _, Nat.le_refl _⟩) (fun H locs w => ?_)
      refine lv_iconst (v := 0) hx hb dX6_end_59 (by decide) ?_
      cases hf
      exact r_iret C hr hlk w dX6_end_60
  · rw [if_pos c6] at hf
    refine lv_aload_n hx hb dX6_end_30 rfl (lv_at hl 2 rfl) ?_
    refine lv_iload_n hx hb dX6_end_31 rfl (lv_at hl 3 rfl) ?_
    obtain ⟨r16, V17, hc15, hf⟩ := ob2_some hf
    refine k_I w (q_V C w (c_X6_commit ok hc15) wy_X6_commit wi_X6_commit w_ml_RX6_157_yX6_commit iM0 eM0 vc6 rfl rfl ⟨Nat.le_of_ble_eq_true rfl, Nat.le_of_ble_eq_true rfl⟩ rfl hl.1 rfl (Nat.le_of_ble_eq_true rfl) dX6_end_32 ⟨Nat.le_refl _, Nat.le_refl _⟩) (fun H locs w => ?_)
    cases hf
    exact r_iret C hr hlk w dX6_end_35
set_option maxHeartbeats 4000000 in
set_option maxRecDepth 100000 in
theorem jX6_step_J204 (C : Cx cy D EM idM a p s m args c RX6 cX6_step 6) (hr : meth.sig.returnType = some .int) (hlk : meth.locks = false) {V : Sto} {r : Int32} {V' : Sto} {x1 : Int32} {x3 : Int32} {x4 : Int32} {x5 : Int32} {H : Heap} {locs : List Loc} {ls : Array Slot} (w : Wd cy D EM idM a V s H locs) (hl : lv_has ls 6 [(0, .ref (a (0, 0, 0))), (1, .int x1), (3, .int x3), (4, .int x4), (5, .int x5)]) (hf : fX6_step_J204 V x1 x3 x4 x5 = some (r, V')) : W p l e rm_X6_step s m args below meth c H locs 0 0 (MQ below (QI cy D EM idM a r V') args s 0 0 (inA idM a)) (F0 m 204 ls []) := by
  have hx := C.1.1
  have hb := C.1.2.1
  have ok := C.2.2.2
  rw [fX6_step_J204] at hf
  refine lv_iload_n hx hb dX6_step_204 rfl (lv_at hl 2 rfl) ?_
  refine lv_bipush (v := 9) hx hb dX6_step_205 (by decide) ?_
  refine lv_icmp_eq (tgt := 216) hx hb dX6_step_207 (by decide) (fun c26 => ?_) (fun c26 => ?_)
  · rw [if_pos c26] at hf
    refine lv_aload_n hx hb dX6_step_216 rfl (lv_at hl 0 rfl) ?_
    refine lv_iload_n hx hb dX6_step_217 rfl (lv_at hl 1 rfl) ?_
    obtain ⟨V29, hc27, hf⟩ := ob_some hf
    refine k_V w (q_V C w (c_X6_beginPart ok hc27) wy_X6_beginPart wi_X6_beginPart w_ml_RX6_176_yX6_beginPart iM0 eM0 vc6 rfl rfl ⟨Nat.le_of_ble_eq_true rfl, Nat.le_of_ble_eq_true rfl⟩ rfl hl.1 rfl (Nat.le_of_ble_eq_true rfl) dX6_step_218 ⟨Nat.le_refl _, Nat.le_refl _⟩) (fun H locs w => ?_)
    refine lv_goto (tgt := 251) hx hb dX6_step_221 (by decide) ?_
    refine lv_iconst (v := 0) hx hb dX6_step_251 (by decide) ?_
    cases hf
    exact r_iret C hr hlk w dX6_step_252
  · rw [if_neg c26] at hf
    refine lv_iload_n hx hb dX6_step_210 rfl (lv_at hl 2 rfl) ?_
    refine lv_bipush (v := 15) hx hb dX6_step_211 (by decide) ?_
    refine lv_icmp_ne (tgt := 224) hx hb dX6_step_213 (by decide) (fun c30 => ?_) (fun c30 => ?_)
    · rw [if_neg c30] at hf
      refine lv_iload_n hx hb dX6_step_224 rfl (lv_at hl 2 rfl) ?_
      refine lv_bipush (v := 10) hx hb dX6_step_225 (by decide) ?_
      refine lv_icmp_lt (tgt := 241) hx hb dX6_step_227 (by decide) (fun c31 => ?_) (fun c31 => ?_)
      · rw [if_pos c31] at hf
        refine lv_aload_n hx hb dX6_step_241 rfl (lv_at hl 0 rfl) ?_
        refine lv_iload_n hx hb dX6_step_242 rfl (lv_at hl 1 rfl) ?_
        refine lv_iload_n hx hb dX6_step_243 rfl (lv_at hl 2 rfl) ?_
        refine lv_iload hx hb dX6_step_244 (lv_at hl 3 rfl) ?_
        refine lv_iload hx hb dX6_step_246 (lv_at hl 4 rfl) ?_
        obtain ⟨V34, hc32, hf⟩ := ob_some hf
        refine k_V w (q_V C w (c_X6_plain ok hc32) wy_X6_plain wi_X6_plain w_ml_RX6_183_yX6_plain iM0 eM0 vc6 rfl rfl ⟨Nat.le_of_ble_eq_true rfl, Nat.le_of_ble_eq_true rfl⟩ rfl hl.1 rfl (Nat.le_of_ble_eq_true rfl) dX6_step_248 ⟨Nat.le_refl _, Nat.le_refl _⟩) (fun H locs w => ?_)
        refine lv_iconst (v := 0) hx hb dX6_step_251 (by decide) ?_
        cases hf
        exact r_iret C hr hlk w dX6_step_252
      · rw [if_neg c31] at hf
        refine lv_aload_n hx hb dX6_step_230 rfl (lv_at hl 0 rfl) ?_
        refine lv_iload_n hx hb dX6_step_231 rfl (lv_at hl 1 rfl) ?_
        refine lv_iload_n hx hb dX6_step_232 rfl (lv_at hl 2 rfl) ?_
        refine lv_iload hx hb dX6_step_233 (lv_at hl 3 rfl) ?_
        obtain ⟨V37, hc35, hf⟩ := ob_some hf
        refine k_V w (q_V C w (c_X6_branch ok hc35) wy_X6_branch wi_X6_branch w_ml_RX6_179_yX6_branch iM0 eM0 vc6 rfl rfl ⟨Nat.le_of_ble_eq_true rfl, Nat.le_of_ble_eq_true rfl⟩ rfl hl.1 rfl (Nat.le_of_ble_eq_true rfl) dX6_step_235 ⟨Nat.le_refl _, Nat.le_refl _⟩) (fun H locs w => ?_)
        refine lv_goto (tgt := 251) hx hb dX6_step_238 (by decide) ?_
        refine lv_iconst (v := 0) hx hb dX6_step_251 (by decide) ?_
        cases hf
        exact r_iret C hr hlk w dX6_step_252
    · rw [if_pos c30] at hf
      refine lv_aload_n hx hb dX6_step_216 rfl (lv_at hl 0 rfl) ?_
      refine lv_iload_n hx hb dX6_step_217 rfl (lv_at hl 1 rfl) ?_
      obtain ⟨V40, hc38, hf⟩ := ob_some hf
      refine k_V w (q_V C w (c_X6_beginPart ok hc38) wy_X6_beginPart wi_X6_beginPart w_ml_RX6_176_yX6_beginPart iM0 eM0 vc6 rfl rfl ⟨Nat.le_of_ble_eq_true rfl, Nat.le_of_ble_eq_true rfl⟩ rfl hl.1 rfl (Nat.le_of_ble_eq_true rfl) dX6_step_218 ⟨Nat.le_refl _, Nat.le_refl _⟩) (fun H locs w => ?_)
      refine lv_goto (tgt := 251) hx hb dX6_step_221 (by decide) ?_
      refine lv_iconst (v := 0) hx hb dX6_step_251 (by decide) ?_
      cases hf
      exact r_iret C hr hlk w dX6_step_252
set_option maxHeartbeats 4000000 in
set_option maxRecDepth 100000 in
theorem jX6_step_J194 (C : Cx cy D EM idM a p s m args c RX6 cX6_step 6) (hr : meth.sig.returnType = some .int) (hlk : meth.locks = false) {V : Sto} {r : Int32} {V' : Sto} {x1 : Int32} {x3 : Int32} {x4 : Int32} {x5 : Int32} {H : Heap} {locs : List Loc} {ls : Array Slot} (w : Wd cy D EM idM a V s H locs) (hl : lv_has ls 6 [(0, .ref (a (0, 0, 0))), (1, .int x1), (3, .int x3), (4, .int x4), (5, .int x5)]) (hf : fX6_step_J194 V x1 x3 x4 x5 = some (r, V')) : W p l e rm_X6_step s m args below meth c H locs 0 0 (MQ below (QI cy D EM idM a r V') args s 0 0 (inA idM a)) (F0 m 194 ls []) := by
  have hx := C.1.1
  have hb := C.1.2.1
  have ok := C.2.2.2
  rw [fX6_step_J194] at hf
  refine lv_aload_n hx hb dX6_step_194 rfl (lv_at hl 0 rfl) ?_
  refine r_get C w iM0 eM0 vc6 inlX6 19 (by decide) w_fl_RX6_65_AtomicThreadsModel_parts_I rfl dX6_step_195 ?_
  refine lv_iload_n hx hb dX6_step_198 rfl (lv_at hl 1 rfl) ?_
  refine lv_dup2_11 hx hb dX6_step_199 rfl rfl ?_
  obtain ⟨g22, hf⟩ := gd_some hf
  refine r_iald C w iM20 aM20 g22 dX6_step_200 ?_
  refine lv_iconst (v := 1) hx hb dX6_step_201 (by decide) ?_
  refine lv_isub hx hb dX6_step_202 ?_
  obtain ⟨g23, hf⟩ := gd_some hf
  refine r_iast C w iM20 aM20 g23 dX6_step_203 (fun H locs w => ?_)
  obtain ⟨V24, e25, hf⟩ := bnd_some hf
  rw [← e25] at w
  exact jX6_step_J204 C hr hlk w (lv_sub hl [0, 1, 2, 3, 4] rfl) hf
set_option maxHeartbeats 4000000 in
set_option maxRecDepth 100000 in
theorem jX6_step_J182 (C : Cx cy D EM idM a p s m args c RX6 cX6_step 6) (hr : meth.sig.returnType = some .int) (hlk : meth.locks = false) {V : Sto} {r : Int32} {V' : Sto} {x1 : Int32} {x3 : Int32} {x4 : Int32} {x5 : Int32} {H : Heap} {locs : List Loc} {ls : Array Slot} (w : Wd cy D EM idM a V s H locs) (hl : lv_has ls 6 [(0, .ref (a (0, 0, 0))), (1, .int x1), (3, .int x3), (4, .int x4), (5, .int x5)]) (hf : fX6_step_J182 V x1 x3 x4 x5 = some (r, V')) : W p l e rm_X6_step s m args below meth c H locs 0 0 (MQ below (QI cy D EM idM a r V') args s 0 0 (inA idM a)) (F0 m 182 ls []) := by
  have hx := C.1.1
  have hb := C.1.2.1
  have ok := C.2.2.2
  rw [fX6_step_J182] at hf
  refine lv_iload_n hx hb dX6_step_182 rfl (lv_at hl 2 rfl) ?_
  refine lv_bipush (v := 10) hx hb dX6_step_183 (by decide) ?_
  refine lv_icmp_eq (tgt := 194) hx hb dX6_step_185 (by decide) (fun c21 => ?_) (fun c21 => ?_)
  · rw [if_pos c21] at hf
    exact jX6_step_J194 C hr hlk w (lv_sub hl [0, 1, 2, 3, 4] rfl) hf
  · rw [if_neg c21] at hf
    refine lv_iload_n hx hb dX6_step_188 rfl (lv_at hl 2 rfl) ?_
    refine lv_bipush (v := 16) hx hb dX6_step_189 (by decide) ?_
    refine lv_icmp_ne (tgt := 204) hx hb dX6_step_191 (by decide) (fun c41 => ?_) (fun c41 => ?_)
    · rw [if_neg c41] at hf
      exact jX6_step_J204 C hr hlk w (lv_sub hl [0, 1, 2, 3, 4] rfl) hf
    · rw [if_pos c41] at hf
      exact jX6_step_J194 C hr hlk w (lv_sub hl [0, 1, 2, 3, 4] rfl) hf
set_option maxHeartbeats 4000000 in
set_option maxRecDepth 100000 in
theorem jX6_step_J171 (C : Cx cy D EM idM a p s m args c RX6 cX6_step 6) (hr : meth.sig.returnType = some .int) (hlk : meth.locks = false) {V : Sto} {r : Int32} {V' : Sto} {x1 : Int32} {x3 : Int32} {x4 : Int32} {x5 : Int32} {H : Heap} {locs : List Loc} {ls : Array Slot} (w : Wd cy D EM idM a V s H locs) (hl : lv_has ls 6 [(0, .ref (a (0, 0, 0))), (1, .int x1), (3, .int x3), (4, .int x4), (5, .int x5)]) (hf : fX6_step_J171 V x1 x3 x4 x5 = some (r, V')) : W p l e rm_X6_step s m args below meth c H locs 0 0 (MQ below (QI cy D EM idM a r V') args s 0 0 (inA idM a)) (F0 m 171 ls []) := by
  have hx := C.1.1
  have hb := C.1.2.1
  have ok := C.2.2.2
  rw [fX6_step_J171] at hf
  refine lv_iload_n hx hb dX6_step_171 rfl (lv_at hl 2 rfl) ?_
  refine lv_bipush (v := 6) hx hb dX6_step_172 (by decide) ?_
  refine lv_icmp_ne (tgt := 182) hx hb dX6_step_174 (by decide) (fun c20 => ?_) (fun c20 => ?_)
  · rw [if_neg c20] at hf
    exact jX6_step_J182 C hr hlk w (lv_sub hl [0, 1, 2, 3, 4] rfl) hf
  · rw [if_pos c20] at hf
    refine lv_aload_n hx hb dX6_step_177 rfl (lv_at hl 0 rfl) ?_
    refine lv_iload_n hx hb dX6_step_178 rfl (lv_at hl 1 rfl) ?_
    obtain ⟨V44, hc42, hf⟩ := ob_some hf
    refine k_V w (q_V C w (c_X6_begin ok hc42) wy_X6_begin wi_X6_begin w_ml_RX6_173_yX6_begin iM0 eM0 vc6 rfl rfl ⟨Nat.le_of_ble_eq_true rfl, Nat.le_of_ble_eq_true rfl⟩ rfl hl.1 rfl (Nat.le_of_ble_eq_true rfl) dX6_step_179 ⟨Nat.le_refl _, Nat.le_refl _⟩) (fun H locs w => ?_)
    exact jX6_step_J182 C hr hlk w (lv_sub hl [0, 1, 2, 3, 4] rfl) hf
set_option maxHeartbeats 4000000 in
set_option maxRecDepth 100000 in
theorem c_X6_step (ok : Wok EM idM a) {V : Sto} {r : Int32} {V' : Sto} {x1 : Int32} (hf : fX6_step V x1 = some (r, V')) : MtI l cy D EM idM a yX6_step cX6_step 6 .int rm_X6_step [.ref (a (0, 0, 0)), .int x1] V r V' := by
  refine ofM (by decide +kernel) ok (Nat.le_of_ble_eq_true rfl) (fun p e s m args below meth c C hr hlk w ls hl => ?_)
  have hx := C.1.1
  have hb := C.1.2.1
  rw [fX6_step] at hf
  skip
  refine lv_iload_n hx hb dX6_step_0 rfl (lv_at hl 1 rfl) ?_
  refine lv_iconst (v := 4) hx hb dX6_step_1 (by decide) ?_
  obtain ⟨r2, hc1, hf⟩ := ob_some hf
  refine k_I w (q_S C w (c_X6_out ok hc1) wy_X6_out w_sta_yX6_out w_ml_RX6_89_yX6_out rfl rfl ⟨Nat.le_of_ble_eq_true rfl, Nat.le_of_ble_eq_true rfl⟩ rfl hl.1 rfl (Nat.le_of_ble_eq_true rfl) dX6_step_2 ⟨Nat.le_refl _, Nat.le_refl _⟩) (fun H locs w => ?_)
  refine lv_if_eq (tgt := 10) hx hb dX6_step_5 (by decide) (fun c4 => ?_) (fun c4 => ?_)
  · rw [if_pos c4] at hf
    refine lv_aload_n hx hb dX6_step_10 rfl (lv_at hl 0 rfl) ?_
    refine r_get C w iM0 eM0 vc6 inlX6 4 (by decide) w_fl_RX6_22_AtomicThreadsModel_state_I rfl dX6_step_11 ?_
    refine lv_iload_n hx hb dX6_step_14 rfl (lv_at hl 1 rfl) ?_
    obtain ⟨g5, hf⟩ := gd_some hf
    refine r_iald C w iM5 aM5 g5 dX6_step_15 ?_
    refine lv_iconst (v := 1) hx hb dX6_step_16 (by decide) ?_
    refine lv_icmp_eq (tgt := 22) hx hb dX6_step_17 (by decide) (fun c6 => ?_) (fun c6 => ?_)
    · rw [if_pos c6] at hf
      refine lv_bipush (v := 30) hx hb dX6_step_22 (by decide) ?_
      refine lv_iload_n hx hb dX6_step_24 rfl (lv_at hl 1 rfl) ?_
      refine lv_imul hx hb dX6_step_25 ?_
      refine lv_aload_n hx hb dX6_step_26 rfl (lv_at hl 0 rfl) ?_
      refine r_get C w iM0 eM0 vc6 inlX6 5 (by decide) w_fl_RX6_25_AtomicThreadsModel_place_I rfl dX6_step_27 ?_
      refine lv_iload_n hx hb dX6_step_30 rfl (lv_at hl 1 rfl) ?_
      obtain ⟨g7, hf⟩ := gd_some hf
      refine r_iald C w iM6 aM6 g7 dX6_step_31 ?_
      refine lv_iadd hx hb dX6_step_32 ?_
      refine lv_istore_n hx hb dX6_step_33 rfl hl (by decide) rfl (fun ls hl => ?_)
      refine lv_aload_n hx hb dX6_step_34 rfl (lv_at hl 1 rfl) ?_
      refine r_get C w iM0 eM0 vc6 inlX6 0 (by decide) w_fl_RX6_7_AtomicThreadsModel_kind_I rfl dX6_step_35 ?_
      refine lv_iload_n hx hb dX6_step_38 rfl (lv_at hl 0 rfl) ?_
      obtain ⟨g8, hf⟩ := gd_some hf
      refine r_iald C w iM1 aM1 g8 dX6_step_39 ?_
      refine lv_istore_n hx hb dX6_step_40 rfl hl (by decide) rfl (fun ls hl => ?_)
      refine lv_aload_n hx hb dX6_step_41 rfl (lv_at hl 2 rfl) ?_
      refine r_get C w iM0 eM0 vc6 inlX6 1 (by decide) w_fl_RX6_13_AtomicThreadsModel_first_I rfl dX6_step_42 ?_
      refine lv_iload_n hx hb dX6_step_45 rfl (lv_at hl 1 rfl) ?_
      obtain ⟨g9, hf⟩ := gd_some hf
      refine r_iald C w iM2 aM2 g9 dX6_step_46 ?_
      refine lv_istore hx hb dX6_step_47 hl (by decide) rfl (fun ls hl => ?_)
      refine lv_aload_n hx hb dX6_step_49 rfl (lv_at hl 3 rfl) ?_
      refine r_get C w iM0 eM0 vc6 inlX6 2 (by decide) w_fl_RX6_16_AtomicThreadsModel_second_I rfl dX6_step_50 ?_
      refine lv_iload_n hx hb dX6_step_53 rfl (lv_at hl 2 rfl) ?_
      obtain ⟨g10, hf⟩ := gd_some hf
      refine r_iald C w iM3 aM3 g10 dX6_step_54 ?_
      refine lv_istore hx hb dX6_step_55 hl (by decide) rfl (fun ls hl => ?_)
      refine lv_iload_n hx hb dX6_step_57 rfl (lv_at hl 2 rfl) ?_
      by_cases c11 : (V 1 0 0 (((30 * x1) + (V 6 0 0 (x1).toNatClampNeg))).toNatClampNeg) = 3
      · rw [if_pos c11] at hf
        refine lv_tableIn (off := 62) (tgt := 120) hx hb dX6_step_58 (by rw [c11]; decide) (by rw [c11]; decide) (by rw [c11]; rfl) (by decide) ?_
        refine lv_aload_n hx hb dX6_step_120 rfl (lv_at hl 4 rfl) ?_
        refine lv_iload_n hx hb dX6_step_121 rfl (lv_at hl 5 rfl) ?_
        refine lv_iload_n hx hb dX6_step_122 rfl (lv_at hl 2 rfl) ?_
        refine lv_iload hx hb dX6_step_123 (lv_at hl 1 rfl) ?_
        refine lv_iload hx hb dX6_step_125 (lv_at hl 0 rfl) ?_
        obtain ⟨r13, V14, hc12, hf⟩ := ob2_some hf
        refine k_I w (q_V C w (c_X6_access ok hc12) wy_X6_access wi_X6_access w_ml_RX6_160_yX6_access iM0 eM0 vc6 rfl rfl ⟨Nat.le_of_ble_eq_true rfl, Nat.le_of_ble_eq_true rfl⟩ rfl hl.1 rfl (Nat.le_of_ble_eq_true rfl) dX6_step_127 ⟨Nat.le_refl _, Nat.le_refl _⟩) (fun H locs w => ?_)
        cases hf
        exact r_iret C hr hlk w dX6_step_130
      rw [if_neg c11] at hf
      by_cases c15 : (V 1 0 0 (((30 * x1) + (V 6 0 0 (x1).toNatClampNeg))).toNatClampNeg) = 4
      · rw [if_pos c15] at hf
        refine lv_tableIn (off := 73) (tgt := 131) hx hb dX6_step_58 (by rw [c15]; decide) (by rw [c15]; decide) (by rw [c15]; rfl) (by decide) ?_
        refine lv_aload_n hx hb dX6_step_131 rfl (lv_at hl 4 rfl) ?_
        refine lv_iload_n hx hb dX6_step_132 rfl (lv_at hl 5 rfl) ?_
        refine lv_iload_n hx hb dX6_step_133 rfl (lv_at hl 2 rfl) ?_
        refine lv_iload hx hb dX6_step_134 (lv_at hl 1 rfl) ?_
        refine lv_iload hx hb dX6_step_136 (lv_at hl 0 rfl) ?_
        obtain ⟨r17, V18, hc16, hf⟩ := ob2_some hf
        refine k_I w (q_V C w (c_X6_access ok hc16) wy_X6_access wi_X6_access w_ml_RX6_160_yX6_access iM0 eM0 vc6 rfl rfl ⟨Nat.le_of_ble_eq_true rfl, Nat.le_of_ble_eq_true rfl⟩ rfl hl.1 rfl (Nat.le_of_ble_eq_true rfl) dX6_step_138 ⟨Nat.le_refl _, Nat.le_refl _⟩) (fun H locs w => ?_)
        cases hf
        exact r_iret C hr hlk w dX6_step_141
      rw [if_neg c15] at hf
      by_cases c19 : (V 1 0 0 (((30 * x1) + (V 6 0 0 (x1).toNatClampNeg))).toNatClampNeg) = 5
      · rw [if_pos c19] at hf
        refine lv_tableIn (off := 113) (tgt := 171) hx hb dX6_step_58 (by rw [c19]; decide) (by rw [c19]; decide) (by rw [c19]; rfl) (by decide) ?_
        exact jX6_step_J171 C hr hlk w (lv_sub hl [4, 5, 2, 1, 0] rfl) hf
      rw [if_neg c19] at hf
      by_cases c45 : (V 1 0 0 (((30 * x1) + (V 6 0 0 (x1).toNatClampNeg))).toNatClampNeg) = 6
      · rw [if_pos c45] at hf
        refine lv_tableIn (off := 113) (tgt := 171) hx hb dX6_step_58 (by rw [c45]; decide) (by rw [c45]; decide) (by rw [c45]; rfl) (by decide) ?_
        exact jX6_step_J171 C hr hlk w (lv_sub hl [4, 5, 2, 1, 0] rfl) hf
      rw [if_neg c45] at hf
      by_cases c46 : (V 1 0 0 (((30 * x1) + (V 6 0 0 (x1).toNatClampNeg))).toNatClampNeg) = 7
      · rw [if_pos c46] at hf
        refine lv_tableIn (off := 84) (tgt := 142) hx hb dX6_step_58 (by rw [c46]; decide) (by rw [c46]; decide) (by rw [c46]; rfl) (by decide) ?_
        refine lv_aload_n hx hb dX6_step_142 rfl (lv_at hl 4 rfl) ?_
        refine lv_iload_n hx hb dX6_step_143 rfl (lv_at hl 5 rfl) ?_
        obtain ⟨r48, V49, hc47, hf⟩ := ob2_some hf
        refine k_I w (q_V C w (c_X6_end ok hc47) wy_X6_end wi_X6_end w_ml_RX6_164_yX6_end iM0 eM0 vc6 rfl rfl ⟨Nat.le_of_ble_eq_true rfl, Nat.le_of_ble_eq_true rfl⟩ rfl hl.1 rfl (Nat.le_of_ble_eq_true rfl) dX6_step_144 ⟨Nat.le_refl _, Nat.le_refl _⟩) (fun H locs w => ?_)
        cases hf
        exact r_iret C hr hlk w dX6_step_147
      rw [if_neg c46] at hf
      by_cases c50 : (V 1 0 0 (((30 * x1) + (V 6 0 0 (x1).toNatClampNeg))).toNatClampNeg) = 8
      · rw [if_pos c50] at hf
        refine lv_tableIn (off := 90) (tgt := 148) hx hb dX6_step_58 (by rw [c50]; decide) (by rw [c50]; decide) (by rw [c50]; rfl) (by decide) ?_
        refine lv_aload_n hx hb dX6_step_148 rfl (lv_at hl 4 rfl) ?_
        refine lv_iload_n hx hb dX6_step_149 rfl (lv_at hl 5 rfl) ?_
        obtain ⟨r52, V53, hc51, hf⟩ := ob2_some hf
        refine k_I w (q_V C w (c_X6_retry ok hc51) wy_X6_retry wi_X6_retry w_ml_RX6_167_yX6_retry iM0 eM0 vc6 rfl rfl ⟨Nat.le_of_ble_eq_true rfl, Nat.le_of_ble_eq_true rfl⟩ rfl hl.1 rfl (Nat.le_of_ble_eq_true rfl) dX6_step_150 ⟨Nat.le_refl _, Nat.le_refl _⟩) (fun H locs w => ?_)
        cases hf
        exact r_iret C hr hlk w dX6_step_153
      rw [if_neg c50] at hf
      by_cases c54 : (V 1 0 0 (((30 * x1) + (V 6 0 0 (x1).toNatClampNeg))).toNatClampNeg) = 9
      · rw [if_pos c54] at hf
        refine lv_tableIn (off := 113) (tgt := 171) hx hb dX6_step_58 (by rw [c54]; decide) (by rw [c54]; decide) (by rw [c54]; rfl) (by decide) ?_
        exact jX6_step_J171 C hr hlk w (lv_sub hl [4, 5, 2, 1, 0] rfl) hf
      rw [if_neg c54] at hf
      by_cases c55 : (V 1 0 0 (((30 * x1) + (V 6 0 0 (x1).toNatClampNeg))).toNatClampNeg) = 10
      · rw [if_pos c55] at hf
        refine lv_tableIn (off := 113) (tgt := 171) hx hb dX6_step_58 (by rw [c55]; decide) (by rw [c55]; decide) (by rw [c55]; rfl) (by decide) ?_
        exact jX6_step_J171 C hr hlk w (lv_sub hl [4, 5, 2, 1, 0] rfl) hf
      rw [if_neg c55] at hf
      by_cases c56 : (V 1 0 0 (((30 * x1) + (V 6 0 0 (x1).toNatClampNeg))).toNatClampNeg) = 11
      · rw [if_pos c56] at hf
        refine lv_tableIn (off := 113) (tgt := 171) hx hb dX6_step_58 (by rw [c56]; decide) (by rw [c56]; decide) (by rw [c56]; rfl) (by decide) ?_
        exact jX6_step_J171 C hr hlk w (lv_sub hl [4, 5, 2, 1, 0] rfl) hf
      rw [if_neg c56] at hf
      by_cases c57 : (V 1 0 0 (((30 * x1) + (V 6 0 0 (x1).toNatClampNeg))).toNatClampNeg) = 12
      · rw [if_pos c57] at hf
        refine lv_tableIn (off := 113) (tgt := 171) hx hb dX6_step_58 (by rw [c57]; decide) (by rw [c57]; decide) (by rw [c57]; rfl) (by decide) ?_
        exact jX6_step_J171 C hr hlk w (lv_sub hl [4, 5, 2, 1, 0] rfl) hf
      rw [if_neg c57] at hf
      by_cases c58 : (V 1 0 0 (((30 * x1) + (V 6 0 0 (x1).toNatClampNeg))).toNatClampNeg) = 13
      · rw [if_pos c58] at hf
        refine lv_tableIn (off := 113) (tgt := 171) hx hb dX6_step_58 (by rw [c58]; decide) (by rw [c58]; decide) (by rw [c58]; rfl) (by decide) ?_
        exact jX6_step_J171 C hr hlk w (lv_sub hl [4, 5, 2, 1, 0] rfl) hf
      rw [if_neg c58] at hf
      by_cases c59 : (V 1 0 0 (((30 * x1) + (V 6 0 0 (x1).toNatClampNeg))).toNatClampNeg) = 14
      · rw [if_pos c59] at hf
        refine lv_tableIn (off := 96) (tgt := 154) hx hb dX6_step_58 (by rw [c59]; decide) (by rw [c59]; decide) (by rw [c59]; rfl) (by decide) ?_
        refine lv_aload_n hx hb dX6_step_154 rfl (lv_at hl 4 rfl) ?_
        refine lv_iload_n hx hb dX6_step_155 rfl (lv_at hl 5 rfl) ?_
        refine lv_aload_n hx hb dX6_step_156 rfl (lv_at hl 4 rfl) ?_
        refine r_get C w iM0 eM0 vc6 inlX6 7 (by decide) w_fl_RX6_31_AtomicThreadsModel_register_I rfl dX6_step_157 ?_
        refine lv_iconst (v := 4) hx hb dX6_step_160 (by decide) ?_
        refine lv_iload_n hx hb dX6_step_161 rfl (lv_at hl 5 rfl) ?_
        refine lv_imul hx hb dX6_step_162 ?_
        refine lv_iload hx hb dX6_step_163 (lv_at hl 1 rfl) ?_
        refine lv_iadd hx hb dX6_step_165 ?_
        obtain ⟨g60, hf⟩ := gd_some hf
        refine r_iald C w iM8 aM8 g60 dX6_step_166 ?_
        obtain ⟨r62, V63, hc61, hf⟩ := ob2_some hf
        refine k_I w (q_V C w (c_X6_toss ok hc61) wy_X6_toss wi_X6_toss w_ml_RX6_170_yX6_toss iM0 eM0 vc6 rfl rfl ⟨Nat.le_of_ble_eq_true rfl, Nat.le_of_ble_eq_true rfl⟩ rfl hl.1 rfl (Nat.le_of_ble_eq_true rfl) dX6_step_167 ⟨Nat.le_refl _, Nat.le_refl _⟩) (fun H locs w => ?_)
        cases hf
        exact r_iret C hr hlk w dX6_step_170
      rw [if_neg c59] at hf
      refine lv_tableOut (tgt := 171) hx hb dX6_step_58 (by have nc11 := lv_neT c11 (a := 3) (by decide); have nc15 := lv_neT c15 (a := 4) (by decide); have nc19 := lv_neT c19 (a := 5) (by decide); have nc45 := lv_neT c45 (a := 6) (by decide); have nc46 := lv_neT c46 (a := 7) (by decide); have nc50 := lv_neT c50 (a := 8) (by decide); have nc54 := lv_neT c54 (a := 9) (by decide); have nc55 := lv_neT c55 (a := 10) (by decide); have nc56 := lv_neT c56 (a := 11) (by decide); have nc57 := lv_neT c57 (a := 12) (by decide); have nc58 := lv_neT c58 (a := 13) (by decide); have nc59 := lv_neT c59 (a := 14) (by decide); omega) (by decide) ?_
      exact jX6_step_J171 C hr hlk w (lv_sub hl [4, 5, 2, 1, 0] rfl) hf
    · rw [if_neg c6] at hf
      refine lv_iconst (v := (-1)) hx hb dX6_step_20 (by decide) ?_
      cases hf
      exact r_iret C hr hlk w dX6_step_21
  · rw [if_neg c4] at hf
    refine lv_iconst (v := (-1)) hx hb dX6_step_8 (by decide) ?_
    cases hf
    exact r_iret C hr hlk w dX6_step_9
set_option maxHeartbeats 4000000 in
set_option maxRecDepth 100000 in
theorem jX6_run_L17 (C : Cx cy D EM idM a p s m args c RX6 cX6_run 6) (hr : meth.sig.returnType = some .int) (hlk : meth.locks = false) {Q : State → Prop} : ∀ (n : Nat) {V V' : Sto} {x1 : Int32} {x2 : Int32} {x3 : Int32} {x4 : Int32} {x3' : Int32} {H : Heap} {locs : List Loc} {ls : Array Slot}, Wd cy D EM idM a V s H locs → lv_has ls 6 [(0, .ref (a (0, 0, 0))), (1, .int x1), (2, .int x2), (3, .int x3), (4, .int x4)] → fX6_run_L17 n V x1 x2 x3 x4 = some (V', x3') → (∀ (H1 : Heap) (locs1 : List Loc) (ls1 : Array Slot), Wd cy D EM idM a V' s H1 locs1 → lv_has ls1 6 [(3, .int x3')] → W p l e rm_X6_run s m args below meth c H1 locs1 0 0 (Q) (F0 m 56 ls1 [])) → W p l e rm_X6_run s m args below meth c H locs 0 0 (Q) (F0 m 17 ls []) := by
  have hx := C.1.1
  have hb := C.1.2.1
  have ok := C.2.2.2
  intro n
  induction n with
  | zero => intro V V' x1 x2 x3 x4 x3' H locs ls w hl hf kk; cases hf
  | succ n ih =>
    intro V V' x1 x2 x3 x4 x3' H locs ls w hl hf kk
    rw [fX6_run_L17] at hf
    refine lv_iload hx hb dX6_run_17 (lv_at hl 4 rfl) ?_
    refine lv_iload_n hx hb dX6_run_19 rfl (lv_at hl 2 rfl) ?_
    refine lv_icmp_ge (tgt := 56) hx hb dX6_run_20 (by decide) (fun c3 => ?_) (fun c3 => ?_)
    · rw [if_pos c3] at hf
      cases hf
      exact kk _ _ _ w (lv_sub hl [3] rfl)
    · rw [if_neg c3] at hf
      refine lv_aload_n hx hb dX6_run_23 rfl (lv_at hl 0 rfl) ?_
      refine lv_iload_n hx hb dX6_run_24 rfl (lv_at hl 1 rfl) ?_
      refine lv_iconst (v := 2) hx hb dX6_run_25 (by decide) ?_
      refine lv_iload hx hb dX6_run_26 (lv_at hl 4 rfl) ?_
      refine lv_imul hx hb dX6_run_28 ?_
      refine lv_ishr hx hb dX6_run_29 ?_
      refine lv_iconst (v := 3) hx hb dX6_run_30 (by decide) ?_
      refine lv_iand hx hb dX6_run_31 ?_
      obtain ⟨r5, V6, hc4, hf⟩ := ob2_some hf
      refine k_I w (q_V C w (c_X6_step ok hc4) wy_X6_step wi_X6_step w_ml_RX6_187_yX6_step iM0 eM0 vc6 rfl rfl ⟨Nat.le_of_ble_eq_true rfl, Nat.le_of_ble_eq_true rfl⟩ rfl hl.1 rfl (Nat.le_of_ble_eq_true rfl) dX6_run_32 ⟨Nat.le_refl _, Nat.le_refl _⟩) (fun H locs w => ?_)
      refine lv_istore hx hb dX6_run_35 hl (by decide) rfl (fun ls hl => ?_)
      refine lv_iload hx hb dX6_run_37 (lv_at hl 0 rfl) ?_
      refine lv_if_lt (tgt := 48) hx hb dX6_run_39 (by decide) (fun c7 => ?_) (fun c7 => ?_)
      · rw [if_pos c7] at hf
        refine lv_iload_n hx hb dX6_run_48 rfl (lv_at hl 4 rfl) ?_
        refine lv_istore_n hx hb dX6_run_49 rfl hl (by decide) rfl (fun ls hl => ?_)
        refine lv_iinc (v := (x4 + 1)) hx hb dX6_run_50 hl (k := 5) rfl (by rfl) (by decide) rfl (fun ls hl => ?_)
        refine lv_goto (tgt := 17) hx hb dX6_run_53 (by decide) ?_
        exact ih w (lv_sub hl [3, 4, 5, 1, 0] rfl) hf kk
      · rw [if_neg c7] at hf
        refine lv_iload_n hx hb dX6_run_42 rfl (lv_at hl 4 rfl) ?_
        refine lv_iconst (v := 1) hx hb dX6_run_43 (by decide) ?_
        refine lv_iadd hx hb dX6_run_44 ?_
        refine lv_goto (tgt := 49) hx hb dX6_run_45 (by decide) ?_
        refine lv_istore_n hx hb dX6_run_49 rfl hl (by decide) rfl (fun ls hl => ?_)
        refine lv_iinc (v := (x4 + 1)) hx hb dX6_run_50 hl (k := 5) rfl (by rfl) (by decide) rfl (fun ls hl => ?_)
        refine lv_goto (tgt := 17) hx hb dX6_run_53 (by decide) ?_
        exact ih w (lv_sub hl [3, 4, 5, 1, 0] rfl) hf kk
set_option maxHeartbeats 4000000 in
set_option maxRecDepth 100000 in
theorem c_X6_run (ok : Wok EM idM a) {V : Sto} {r : Int32} {V' : Sto} {x1 : Int32} {x2 : Int32} (hf : fX6_run V x1 x2 = some (r, V')) : MtI l cy D EM idM a yX6_run cX6_run 6 .int rm_X6_run [.ref (a (0, 0, 0)), .int x1, .int x2] V r V' := by
  refine ofM (by decide +kernel) ok (Nat.le_of_ble_eq_true rfl) (fun p e s m args below meth c C hr hlk w ls hl => ?_)
  have hx := C.1.1
  have hb := C.1.2.1
  rw [fX6_run] at hf
  skip
  refine lv_iload_n hx hb dX6_run_0 rfl (lv_at hl 2 rfl) ?_
  refine lv_if_lt (tgt := 10) hx hb dX6_run_1 (by decide) (fun c1 => ?_) (fun c1 => ?_)
  · rw [if_pos c1] at hf
    refine lv_iconst (v := (-1)) hx hb dX6_run_10 (by decide) ?_
    cases hf
    exact r_iret C hr hlk w dX6_run_11
  · rw [if_neg c1] at hf
    refine lv_iload_n hx hb dX6_run_4 rfl (lv_at hl 2 rfl) ?_
    refine lv_bipush (v := 16) hx hb dX6_run_5 (by decide) ?_
    refine lv_icmp_le (tgt := 12) hx hb dX6_run_7 (by decide) (fun c2 => ?_) (fun c2 => ?_)
    · rw [if_pos c2] at hf
      refine lv_iconst (v := 0) hx hb dX6_run_12 (by decide) ?_
      refine lv_istore_n hx hb dX6_run_13 rfl hl (by decide) rfl (fun ls hl => ?_)
      refine lv_iconst (v := 0) hx hb dX6_run_14 (by decide) ?_
      refine lv_istore hx hb dX6_run_15 hl (by decide) rfl (fun ls hl => ?_)
      obtain ⟨V9, z10, hc8, hf⟩ := ob2_some hf
      refine jX6_run_L17 C hr hlk 40 w (lv_sub hl [2, 3, 4, 1, 0] rfl) hc8 (fun H locs ls w hl => ?_)
      refine lv_iload_n hx hb dX6_run_56 rfl (lv_at hl 0 rfl) ?_
      cases hf
      exact r_iret C hr hlk w dX6_run_57
    · rw [if_neg c2] at hf
      refine lv_iconst (v := (-1)) hx hb dX6_run_10 (by decide) ?_
      cases hf
      exact r_iret C hr hlk w dX6_run_11
set_option maxHeartbeats 4000000 in
set_option maxRecDepth 100000 in
theorem c_X6_put (ok : Wok EM idM a) {V : Sto} {r : Int32} {V' : Sto} {x1 : Int32} {x2 : Int32} (hf : fX6_put V x1 x2 = some (r, V')) : MtI l cy D EM idM a yX6_put cX6_put 3 .boolean rm_X6_put [.ref (a (0, 0, 0)), .int x1, .int x2] V r V' := by
  refine ofM (by decide +kernel) ok (Nat.le_of_ble_eq_true rfl) (fun p e s m args below meth c C hr hlk w ls hl => ?_)
  have hx := C.1.1
  have hb := C.1.2.1
  rw [fX6_put] at hf
  skip
  refine lv_iload_n hx hb dX6_put_0 rfl (lv_at hl 1 rfl) ?_
  refine lv_bipush (v := 8) hx hb dX6_put_1 (by decide) ?_
  obtain ⟨r2, hc1, hf⟩ := ob_some hf
  refine k_I w (q_S C w (c_X6_out ok hc1) wy_X6_out w_sta_yX6_out w_ml_RX6_89_yX6_out rfl rfl ⟨Nat.le_of_ble_eq_true rfl, Nat.le_of_ble_eq_true rfl⟩ rfl hl.1 rfl (Nat.le_of_ble_eq_true rfl) dX6_put_3 ⟨Nat.le_refl _, Nat.le_refl _⟩) (fun H locs w => ?_)
  refine lv_if_eq (tgt := 11) hx hb dX6_put_6 (by decide) (fun c4 => ?_) (fun c4 => ?_)
  · rw [if_pos c4] at hf
    refine lv_aload_n hx hb dX6_put_11 rfl (lv_at hl 0 rfl) ?_
    refine lv_dup hx hb dX6_put_12 rfl ?_
    refine r_get C w iM0 eM0 vc6 inlX6 11 (by decide) w_fl_RX6_126_AtomicThreadsModel_commits_I rfl dX6_put_13 ?_
    refine lv_iconst (v := 1) hx hb dX6_put_16 (by decide) ?_
    refine lv_iadd hx hb dX6_put_17 ?_
    refine r_put C w iM0 eM0 vc6 inlX6 tyX6 tyX6_ok nmX6 11 (by decide) w_fl_RX6_126_AtomicThreadsModel_commits_I rfl pd_I uM0_11 (Nat.le_of_ble_eq_true rfl) dX6_put_18 (fun H locs w => ?_)
    obtain ⟨V5, e6, hf⟩ := bnd_some hf
    rw [← e6] at w
    refine lv_aload_n hx hb dX6_put_21 rfl (lv_at hl 0 rfl) ?_
    refine lv_iload_n hx hb dX6_put_22 rfl (lv_at hl 1 rfl) ?_
    refine lv_iload_n hx hb dX6_put_23 rfl (lv_at hl 2 rfl) ?_
    obtain ⟨V9, hc7, hf⟩ := ob_some hf
    refine k_V w (q_V C w (c_X6_changed ok hc7) wy_X6_changed wi_X6_changed w_ml_RX6_136_yX6_changed iM0 eM0 vc6 rfl rfl ⟨Nat.le_of_ble_eq_true rfl, Nat.le_of_ble_eq_true rfl⟩ rfl hl.1 rfl (Nat.le_of_ble_eq_true rfl) dX6_put_24 ⟨Nat.le_refl _, Nat.le_refl _⟩) (fun H locs w => ?_)
    refine lv_iconst (v := 1) hx hb dX6_put_27 (by decide) ?_
    cases hf
    exact r_zret C hr hlk w (by decide) dX6_put_28
  · rw [if_neg c4] at hf
    refine lv_iconst (v := 0) hx hb dX6_put_9 (by decide) ?_
    cases hf
    exact r_zret C hr hlk w (by decide) dX6_put_10
set_option maxHeartbeats 4000000 in
set_option maxRecDepth 100000 in
theorem c_X6_value (ok : Wok EM idM a) {V : Sto} {r : Int32} {x1 : Int32} (hf : fX6_value V x1 = some r) : MtI l cy D EM idM a yX6_value cX6_value 2 .int rm_X6_value [.ref (a (0, 0, 0)), .int x1] V r V := by
  refine ofM (by decide +kernel) ok (Nat.le_of_ble_eq_true rfl) (fun p e s m args below meth c C hr hlk w ls hl => ?_)
  have hx := C.1.1
  have hb := C.1.2.1
  rw [fX6_value] at hf
  skip
  refine lv_iload_n hx hb dX6_value_0 rfl (lv_at hl 1 rfl) ?_
  refine lv_bipush (v := 8) hx hb dX6_value_1 (by decide) ?_
  obtain ⟨r2, hc1, hf⟩ := ob_some hf
  refine k_I w (q_S C w (c_X6_out ok hc1) wy_X6_out w_sta_yX6_out w_ml_RX6_89_yX6_out rfl rfl ⟨Nat.le_of_ble_eq_true rfl, Nat.le_of_ble_eq_true rfl⟩ rfl hl.1 rfl (Nat.le_of_ble_eq_true rfl) dX6_value_3 ⟨Nat.le_refl _, Nat.le_refl _⟩) (fun H locs w => ?_)
  refine lv_if_eq (tgt := 13) hx hb dX6_value_6 (by decide) (fun c4 => ?_) (fun c4 => ?_)
  · rw [if_pos c4] at hf
    refine lv_aload_n hx hb dX6_value_13 rfl (lv_at hl 0 rfl) ?_
    refine r_get C w iM0 eM0 vc6 inlX6 9 (by decide) w_fl_RX6_37_AtomicThreadsModel_value_I rfl dX6_value_14 ?_
    refine lv_iload_n hx hb dX6_value_17 rfl (lv_at hl 1 rfl) ?_
    obtain ⟨g5, hf⟩ := gd_some hf
    refine r_iald C w iM10 aM10 g5 dX6_value_18 ?_
    cases hf
    exact r_iret C hr hlk w dX6_value_19
  · rw [if_neg c4] at hf
    refine lv_iconst (v := 0) hx hb dX6_value_9 (by decide) ?_
    refine lv_goto (tgt := 19) hx hb dX6_value_10 (by decide) ?_
    cases hf
    exact r_iret C hr hlk w dX6_value_19
set_option maxHeartbeats 4000000 in
set_option maxRecDepth 100000 in
theorem c_X6_version (ok : Wok EM idM a) {V : Sto} {r : Int32} {x1 : Int32} (hf : fX6_version V x1 = some r) : MtI l cy D EM idM a yX6_version cX6_version 2 .int rm_X6_version [.ref (a (0, 0, 0)), .int x1] V r V := by
  refine ofM (by decide +kernel) ok (Nat.le_of_ble_eq_true rfl) (fun p e s m args below meth c C hr hlk w ls hl => ?_)
  have hx := C.1.1
  have hb := C.1.2.1
  rw [fX6_version] at hf
  skip
  refine lv_iload_n hx hb dX6_version_0 rfl (lv_at hl 1 rfl) ?_
  refine lv_bipush (v := 8) hx hb dX6_version_1 (by decide) ?_
  obtain ⟨r2, hc1, hf⟩ := ob_some hf
  refine k_I w (q_S C w (c_X6_out ok hc1) wy_X6_out w_sta_yX6_out w_ml_RX6_89_yX6_out rfl rfl ⟨Nat.le_of_ble_eq_true rfl, Nat.le_of_ble_eq_true rfl⟩ rfl hl.1 rfl (Nat.le_of_ble_eq_true rfl) dX6_version_3 ⟨Nat.le_refl _, Nat.le_refl _⟩) (fun H locs w => ?_)
  refine lv_if_eq (tgt := 13) hx hb dX6_version_6 (by decide) (fun c4 => ?_) (fun c4 => ?_)
  · rw [if_pos c4] at hf
    refine lv_aload_n hx hb dX6_version_13 rfl (lv_at hl 0 rfl) ?_
    refine r_get C w iM0 eM0 vc6 inlX6 10 (by decide) w_fl_RX6_40_AtomicThreadsModel_version_I rfl dX6_version_14 ?_
    refine lv_iload_n hx hb dX6_version_17 rfl (lv_at hl 1 rfl) ?_
    obtain ⟨g5, hf⟩ := gd_some hf
    refine r_iald C w iM11 aM11 g5 dX6_version_18 ?_
    cases hf
    exact r_iret C hr hlk w dX6_version_19
  · rw [if_neg c4] at hf
    refine lv_iconst (v := 0) hx hb dX6_version_9 (by decide) ?_
    refine lv_goto (tgt := 19) hx hb dX6_version_10 (by decide) ?_
    cases hf
    exact r_iret C hr hlk w dX6_version_19
set_option maxHeartbeats 4000000 in
set_option maxRecDepth 100000 in
theorem c_X6_commits (ok : Wok EM idM a) {V : Sto} {r : Int32} (hf : fX6_commits V = some r) : MtI l cy D EM idM a yX6_commits cX6_commits 1 .int rm_X6_commits [.ref (a (0, 0, 0))] V r V := by
  refine ofM (by decide +kernel) ok (Nat.le_of_ble_eq_true rfl) (fun p e s m args below meth c C hr hlk w ls hl => ?_)
  have hx := C.1.1
  have hb := C.1.2.1
  rw [fX6_commits] at hf
  skip
  refine lv_aload_n hx hb dX6_commits_0 rfl (lv_at hl 0 rfl) ?_
  refine r_get C w iM0 eM0 vc6 inlX6 11 (by decide) w_fl_RX6_126_AtomicThreadsModel_commits_I rfl dX6_commits_1 ?_
  cases hf
  exact r_iret C hr hlk w dX6_commits_4
set_option maxHeartbeats 4000000 in
set_option maxRecDepth 100000 in
theorem c_X6_state (ok : Wok EM idM a) {V : Sto} {r : Int32} {x1 : Int32} (hf : fX6_state V x1 = some r) : MtI l cy D EM idM a yX6_state cX6_state 2 .int rm_X6_state [.ref (a (0, 0, 0)), .int x1] V r V := by
  refine ofM (by decide +kernel) ok (Nat.le_of_ble_eq_true rfl) (fun p e s m args below meth c C hr hlk w ls hl => ?_)
  have hx := C.1.1
  have hb := C.1.2.1
  rw [fX6_state] at hf
  skip
  refine lv_iload_n hx hb dX6_state_0 rfl (lv_at hl 1 rfl) ?_
  refine lv_iconst (v := 4) hx hb dX6_state_1 (by decide) ?_
  obtain ⟨r2, hc1, hf⟩ := ob_some hf
  refine k_I w (q_S C w (c_X6_out ok hc1) wy_X6_out w_sta_yX6_out w_ml_RX6_89_yX6_out rfl rfl ⟨Nat.le_of_ble_eq_true rfl, Nat.le_of_ble_eq_true rfl⟩ rfl hl.1 rfl (Nat.le_of_ble_eq_true rfl) dX6_state_2 ⟨Nat.le_refl _, Nat.le_refl _⟩) (fun H locs w => ?_)
  refine lv_if_eq (tgt := 12) hx hb dX6_state_5 (by decide) (fun c4 => ?_) (fun c4 => ?_)
  · rw [if_pos c4] at hf
    refine lv_aload_n hx hb dX6_state_12 rfl (lv_at hl 0 rfl) ?_
    refine r_get C w iM0 eM0 vc6 inlX6 4 (by decide) w_fl_RX6_22_AtomicThreadsModel_state_I rfl dX6_state_13 ?_
    refine lv_iload_n hx hb dX6_state_16 rfl (lv_at hl 1 rfl) ?_
    obtain ⟨g5, hf⟩ := gd_some hf
    refine r_iald C w iM5 aM5 g5 dX6_state_17 ?_
    cases hf
    exact r_iret C hr hlk w dX6_state_18
  · rw [if_neg c4] at hf
    refine lv_iconst (v := (-1)) hx hb dX6_state_8 (by decide) ?_
    refine lv_goto (tgt := 18) hx hb dX6_state_9 (by decide) ?_
    cases hf
    exact r_iret C hr hlk w dX6_state_18
set_option maxHeartbeats 4000000 in
set_option maxRecDepth 100000 in
theorem c_X6_place (ok : Wok EM idM a) {V : Sto} {r : Int32} {x1 : Int32} (hf : fX6_place V x1 = some r) : MtI l cy D EM idM a yX6_place cX6_place 2 .int rm_X6_place [.ref (a (0, 0, 0)), .int x1] V r V := by
  refine ofM (by decide +kernel) ok (Nat.le_of_ble_eq_true rfl) (fun p e s m args below meth c C hr hlk w ls hl => ?_)
  have hx := C.1.1
  have hb := C.1.2.1
  rw [fX6_place] at hf
  skip
  refine lv_iload_n hx hb dX6_place_0 rfl (lv_at hl 1 rfl) ?_
  refine lv_iconst (v := 4) hx hb dX6_place_1 (by decide) ?_
  obtain ⟨r2, hc1, hf⟩ := ob_some hf
  refine k_I w (q_S C w (c_X6_out ok hc1) wy_X6_out w_sta_yX6_out w_ml_RX6_89_yX6_out rfl rfl ⟨Nat.le_of_ble_eq_true rfl, Nat.le_of_ble_eq_true rfl⟩ rfl hl.1 rfl (Nat.le_of_ble_eq_true rfl) dX6_place_2 ⟨Nat.le_refl _, Nat.le_refl _⟩) (fun H locs w => ?_)
  refine lv_if_eq (tgt := 10) hx hb dX6_place_5 (by decide) (fun c4 => ?_) (fun c4 => ?_)
  · rw [if_pos c4] at hf
    refine lv_aload_n hx hb dX6_place_10 rfl (lv_at hl 0 rfl) ?_
    refine lv_iload_n hx hb dX6_place_11 rfl (lv_at hl 1 rfl) ?_
    obtain ⟨r6, hc5, hf⟩ := ob_some hf
    refine k_I w (q_V C w (c_X6_busy ok hc5) wy_X6_busy wi_X6_busy w_ml_RX6_93_yX6_busy iM0 eM0 vc6 rfl rfl ⟨Nat.le_of_ble_eq_true rfl, Nat.le_of_ble_eq_true rfl⟩ rfl hl.1 rfl (Nat.le_of_ble_eq_true rfl) dX6_place_12 ⟨Nat.le_refl _, Nat.le_refl _⟩) (fun H locs w => ?_)
    refine lv_if_eq (tgt := 27) hx hb dX6_place_15 (by decide) (fun c8 => ?_) (fun c8 => ?_)
    · rw [if_pos c8] at hf
      refine lv_iconst (v := (-1)) hx hb dX6_place_27 (by decide) ?_
      cases hf
      exact r_iret C hr hlk w dX6_place_28
    · rw [if_neg c8] at hf
      refine lv_aload_n hx hb dX6_place_18 rfl (lv_at hl 0 rfl) ?_
      refine r_get C w iM0 eM0 vc6 inlX6 5 (by decide) w_fl_RX6_25_AtomicThreadsModel_place_I rfl dX6_place_19 ?_
      refine lv_iload_n hx hb dX6_place_22 rfl (lv_at hl 1 rfl) ?_
      obtain ⟨g9, hf⟩ := gd_some hf
      refine r_iald C w iM6 aM6 g9 dX6_place_23 ?_
      refine lv_goto (tgt := 28) hx hb dX6_place_24 (by decide) ?_
      cases hf
      exact r_iret C hr hlk w dX6_place_28
  · rw [if_neg c4] at hf
    refine lv_iconst (v := (-1)) hx hb dX6_place_8 (by decide) ?_
    cases hf
    exact r_iret C hr hlk w dX6_place_9
set_option maxHeartbeats 4000000 in
set_option maxRecDepth 100000 in
theorem c_X6_register (ok : Wok EM idM a) {V : Sto} {r : Int32} {x1 : Int32} {x2 : Int32} (hf : fX6_register V x1 x2 = some r) : MtI l cy D EM idM a yX6_register cX6_register 3 .int rm_X6_register [.ref (a (0, 0, 0)), .int x1, .int x2] V r V := by
  refine ofM (by decide +kernel) ok (Nat.le_of_ble_eq_true rfl) (fun p e s m args below meth c C hr hlk w ls hl => ?_)
  have hx := C.1.1
  have hb := C.1.2.1
  rw [fX6_register] at hf
  skip
  refine lv_iload_n hx hb dX6_register_0 rfl (lv_at hl 1 rfl) ?_
  refine lv_iconst (v := 4) hx hb dX6_register_1 (by decide) ?_
  obtain ⟨r2, hc1, hf⟩ := ob_some hf
  refine k_I w (q_S C w (c_X6_out ok hc1) wy_X6_out w_sta_yX6_out w_ml_RX6_89_yX6_out rfl rfl ⟨Nat.le_of_ble_eq_true rfl, Nat.le_of_ble_eq_true rfl⟩ rfl hl.1 rfl (Nat.le_of_ble_eq_true rfl) dX6_register_2 ⟨Nat.le_refl _, Nat.le_refl _⟩) (fun H locs w => ?_)
  refine lv_if_ne (tgt := 16) hx hb dX6_register_5 (by decide) (fun c4 => ?_) (fun c4 => ?_)
  · rw [if_neg c4] at hf
    refine lv_iconst (v := 0) hx hb dX6_register_16 (by decide) ?_
    refine lv_goto (tgt := 30) hx hb dX6_register_17 (by decide) ?_
    cases hf
    exact r_iret C hr hlk w dX6_register_30
  · rw [if_pos c4] at hf
    refine lv_iload_n hx hb dX6_register_8 rfl (lv_at hl 2 rfl) ?_
    refine lv_iconst (v := 4) hx hb dX6_register_9 (by decide) ?_
    obtain ⟨r6, hc5, hf⟩ := ob_some hf
    refine k_I w (q_S C w (c_X6_out ok hc5) wy_X6_out w_sta_yX6_out w_ml_RX6_89_yX6_out rfl rfl ⟨Nat.le_of_ble_eq_true rfl, Nat.le_of_ble_eq_true rfl⟩ rfl hl.1 rfl (Nat.le_of_ble_eq_true rfl) dX6_register_10 ⟨Nat.le_refl _, Nat.le_refl _⟩) (fun H locs w => ?_)
    refine lv_if_eq (tgt := 20) hx hb dX6_register_13 (by decide) (fun c8 => ?_) (fun c8 => ?_)
    · rw [if_pos c8] at hf
      refine lv_aload_n hx hb dX6_register_20 rfl (lv_at hl 0 rfl) ?_
      refine r_get C w iM0 eM0 vc6 inlX6 7 (by decide) w_fl_RX6_31_AtomicThreadsModel_register_I rfl dX6_register_21 ?_
      refine lv_iconst (v := 4) hx hb dX6_register_24 (by decide) ?_
      refine lv_iload_n hx hb dX6_register_25 rfl (lv_at hl 1 rfl) ?_
      refine lv_imul hx hb dX6_register_26 ?_
      refine lv_iload_n hx hb dX6_register_27 rfl (lv_at hl 2 rfl) ?_
      refine lv_iadd hx hb dX6_register_28 ?_
      obtain ⟨g9, hf⟩ := gd_some hf
      refine r_iald C w iM8 aM8 g9 dX6_register_29 ?_
      cases hf
      exact r_iret C hr hlk w dX6_register_30
    · rw [if_neg c8] at hf
      refine lv_iconst (v := 0) hx hb dX6_register_16 (by decide) ?_
      refine lv_goto (tgt := 30) hx hb dX6_register_17 (by decide) ?_
      cases hf
      exact r_iret C hr hlk w dX6_register_30
set_option maxHeartbeats 4000000 in
set_option maxRecDepth 100000 in
theorem c_X6_sees (ok : Wok EM idM a) {V : Sto} {r : Int32} {x1 : Int32} {x2 : Int32} (hf : fX6_sees V x1 x2 = some r) : MtI l cy D EM idM a yX6_sees cX6_sees 3 .int rm_X6_sees [.ref (a (0, 0, 0)), .int x1, .int x2] V r V := by
  refine ofM (by decide +kernel) ok (Nat.le_of_ble_eq_true rfl) (fun p e s m args below meth c C hr hlk w ls hl => ?_)
  have hx := C.1.1
  have hb := C.1.2.1
  rw [fX6_sees] at hf
  skip
  refine lv_iload_n hx hb dX6_sees_0 rfl (lv_at hl 1 rfl) ?_
  refine lv_iconst (v := 4) hx hb dX6_sees_1 (by decide) ?_
  obtain ⟨r2, hc1, hf⟩ := ob_some hf
  refine k_I w (q_S C w (c_X6_out ok hc1) wy_X6_out w_sta_yX6_out w_ml_RX6_89_yX6_out rfl rfl ⟨Nat.le_of_ble_eq_true rfl, Nat.le_of_ble_eq_true rfl⟩ rfl hl.1 rfl (Nat.le_of_ble_eq_true rfl) dX6_sees_2 ⟨Nat.le_refl _, Nat.le_refl _⟩) (fun H locs w => ?_)
  refine lv_if_ne (tgt := 17) hx hb dX6_sees_5 (by decide) (fun c4 => ?_) (fun c4 => ?_)
  · rw [if_neg c4] at hf
    refine lv_iconst (v := 0) hx hb dX6_sees_17 (by decide) ?_
    cases hf
    exact r_iret C hr hlk w dX6_sees_18
  · rw [if_pos c4] at hf
    refine lv_iload_n hx hb dX6_sees_8 rfl (lv_at hl 2 rfl) ?_
    refine lv_bipush (v := 8) hx hb dX6_sees_9 (by decide) ?_
    obtain ⟨r6, hc5, hf⟩ := ob_some hf
    refine k_I w (q_S C w (c_X6_out ok hc5) wy_X6_out w_sta_yX6_out w_ml_RX6_89_yX6_out rfl rfl ⟨Nat.le_of_ble_eq_true rfl, Nat.le_of_ble_eq_true rfl⟩ rfl hl.1 rfl (Nat.le_of_ble_eq_true rfl) dX6_sees_11 ⟨Nat.le_refl _, Nat.le_refl _⟩) (fun H locs w => ?_)
    refine lv_if_eq (tgt := 19) hx hb dX6_sees_14 (by decide) (fun c8 => ?_) (fun c8 => ?_)
    · rw [if_pos c8] at hf
      refine lv_aload_n hx hb dX6_sees_19 rfl (lv_at hl 0 rfl) ?_
      refine r_get C w iM0 eM0 vc6 inlX6 12 (by decide) w_fl_RX6_43_AtomicThreadsModel_attempt_Z rfl dX6_sees_20 ?_
      refine lv_iload_n hx hb dX6_sees_23 rfl (lv_at hl 1 rfl) ?_
      obtain ⟨g9, hf⟩ := gd_some hf
      refine r_zald C w iM13 aM13 g9 dX6_sees_24 ?_
      refine lv_if_eq (tgt := 56) hx hb dX6_sees_25 (by decide) (fun c10 => ?_) (fun c10 => ?_)
      · rw [if_pos c10] at hf
        refine lv_aload_n hx hb dX6_sees_56 rfl (lv_at hl 0 rfl) ?_
        refine r_get C w iM0 eM0 vc6 inlX6 9 (by decide) w_fl_RX6_37_AtomicThreadsModel_value_I rfl dX6_sees_57 ?_
        refine lv_iload_n hx hb dX6_sees_60 rfl (lv_at hl 2 rfl) ?_
        obtain ⟨g11, hf⟩ := gd_some hf
        refine r_iald C w iM10 aM10 g11 dX6_sees_61 ?_
        cases hf
        exact r_iret C hr hlk w dX6_sees_62
      · rw [if_neg c10] at hf
        refine lv_aload_n hx hb dX6_sees_28 rfl (lv_at hl 0 rfl) ?_
        refine r_get C w iM0 eM0 vc6 inlX6 17 (by decide) w_fl_RX6_59_AtomicThreadsModel_written_Z rfl dX6_sees_29 ?_
        refine lv_bipush (v := 8) hx hb dX6_sees_32 (by decide) ?_
        refine lv_iload_n hx hb dX6_sees_34 rfl (lv_at hl 1 rfl) ?_
        refine lv_imul hx hb dX6_sees_35 ?_
        refine lv_iload_n hx hb dX6_sees_36 rfl (lv_at hl 2 rfl) ?_
        refine lv_iadd hx hb dX6_sees_37 ?_
        obtain ⟨g12, hf⟩ := gd_some hf
        refine r_zald C w iM18 aM18 g12 dX6_sees_38 ?_
        refine lv_if_eq (tgt := 56) hx hb dX6_sees_39 (by decide) (fun c13 => ?_) (fun c13 => ?_)
        · rw [if_pos c13] at hf
          refine lv_aload_n hx hb dX6_sees_56 rfl (lv_at hl 0 rfl) ?_
          refine r_get C w iM0 eM0 vc6 inlX6 9 (by decide) w_fl_RX6_37_AtomicThreadsModel_value_I rfl dX6_sees_57 ?_
          refine lv_iload_n hx hb dX6_sees_60 rfl (lv_at hl 2 rfl) ?_
          obtain ⟨g14, hf⟩ := gd_some hf
          refine r_iald C w iM10 aM10 g14 dX6_sees_61 ?_
          cases hf
          exact r_iret C hr hlk w dX6_sees_62
        · rw [if_neg c13] at hf
          refine lv_aload_n hx hb dX6_sees_42 rfl (lv_at hl 0 rfl) ?_
          refine r_get C w iM0 eM0 vc6 inlX6 18 (by decide) w_fl_RX6_62_AtomicThreadsModel_wrote_I rfl dX6_sees_43 ?_
          refine lv_bipush (v := 8) hx hb dX6_sees_46 (by decide) ?_
          refine lv_iload_n hx hb dX6_sees_48 rfl (lv_at hl 1 rfl) ?_
          refine lv_imul hx hb dX6_sees_49 ?_
          refine lv_iload_n hx hb dX6_sees_50 rfl (lv_at hl 2 rfl) ?_
          refine lv_iadd hx hb dX6_sees_51 ?_
          obtain ⟨g15, hf⟩ := gd_some hf
          refine r_iald C w iM19 aM19 g15 dX6_sees_52 ?_
          refine lv_goto (tgt := 62) hx hb dX6_sees_53 (by decide) ?_
          cases hf
          exact r_iret C hr hlk w dX6_sees_62
    · rw [if_neg c8] at hf
      refine lv_iconst (v := 0) hx hb dX6_sees_17 (by decide) ?_
      cases hf
      exact r_iret C hr hlk w dX6_sees_18
end S32_metM04
