section S32_metM02
variable {p : Program} {l : Launch} {e : Env} {R : Room} {s : State} {m : MethodId} {args : Array Value} {below : List Frame} {meth : Method} {c : Code} {cy : Nat → ClassId} {D : va_G} {a : Id3 → Nat}
set_option maxHeartbeats 4000000 in
set_option maxRecDepth 100000 in
theorem c_X6_stop (ok : Wok EM idM a) {V : Sto} {r : Int32} {V' : Sto} {x1 : Int32} (hf : fX6_stop V x1 = some (r, V')) : MtI l cy D EM idM a yX6_stop cX6_stop 2 .boolean rm_X6_stop [.ref (a (0, 0, 0)), .int x1] V r V' := by
  refine ofM (by decide +kernel) ok (Nat.le_of_ble_eq_true rfl) (fun p e s m args below meth c C hr hlk w ls hl => ?_)
  have hx := C.1.1
  have hb := C.1.2.1
  rw [fX6_stop] at hf
  skip
  refine lv_iload_n hx hb dX6_stop_0 rfl (lv_at hl 1 rfl) ?_
  refine lv_iconst (v := 4) hx hb dX6_stop_1 (by decide) ?_
  obtain ⟨r2, hc1, hf⟩ := ob_some hf
  refine k_I w (q_S C w (c_X6_out ok hc1) wy_X6_out w_sta_yX6_out w_ml_RX6_89_yX6_out rfl rfl ⟨Nat.le_of_ble_eq_true rfl, Nat.le_of_ble_eq_true rfl⟩ rfl hl.1 rfl (Nat.le_of_ble_eq_true rfl) dX6_stop_2 ⟨Nat.le_refl _, Nat.le_refl _⟩) (fun H locs w => ?_)
  refine lv_if_eq (tgt := 10) hx hb dX6_stop_5 (by decide) (fun c4 => ?_) (fun c4 => ?_)
  · rw [if_pos c4] at hf
    refine lv_aload_n hx hb dX6_stop_10 rfl (lv_at hl 0 rfl) ?_
    refine lv_iload_n hx hb dX6_stop_11 rfl (lv_at hl 1 rfl) ?_
    obtain ⟨r6, hc5, hf⟩ := ob_some hf
    refine k_I w (q_V C w (c_X6_busy ok hc5) wy_X6_busy wi_X6_busy w_ml_RX6_93_yX6_busy iM0 eM0 vc6 rfl rfl ⟨Nat.le_of_ble_eq_true rfl, Nat.le_of_ble_eq_true rfl⟩ rfl hl.1 rfl (Nat.le_of_ble_eq_true rfl) dX6_stop_12 ⟨Nat.le_refl _, Nat.le_refl _⟩) (fun H locs w => ?_)
    refine lv_if_ne (tgt := 20) hx hb dX6_stop_15 (by decide) (fun c8 => ?_) (fun c8 => ?_)
    · rw [if_neg c8] at hf
      refine lv_aload_n hx hb dX6_stop_20 rfl (lv_at hl 0 rfl) ?_
      refine lv_iload_n hx hb dX6_stop_21 rfl (lv_at hl 1 rfl) ?_
      obtain ⟨V11, hc9, hf⟩ := ob_some hf
      refine k_V w (q_V C w (c_X6_endAttempt ok hc9) wy_X6_endAttempt wi_X6_endAttempt w_ml_RX6_115_yX6_endAttempt iM0 eM0 vc6 rfl rfl ⟨Nat.le_of_ble_eq_true rfl, Nat.le_of_ble_eq_true rfl⟩ rfl hl.1 rfl (Nat.le_of_ble_eq_true rfl) dX6_stop_22 ⟨Nat.le_refl _, Nat.le_refl _⟩) (fun H locs w => ?_)
      refine lv_aload_n hx hb dX6_stop_25 rfl (lv_at hl 0 rfl) ?_
      refine r_get C w iM0 eM0 vc6 inlX6 19 (by decide) w_fl_RX6_65_AtomicThreadsModel_parts_I rfl dX6_stop_26 ?_
      refine lv_iload_n hx hb dX6_stop_29 rfl (lv_at hl 1 rfl) ?_
      refine lv_iconst (v := 0) hx hb dX6_stop_30 (by decide) ?_
      obtain ⟨g12, hf⟩ := gd_some hf
      refine r_iast C w iM20 aM20 g12 dX6_stop_31 (fun H locs w => ?_)
      obtain ⟨V13, e14, hf⟩ := bnd_some hf
      rw [← e14] at w
      refine lv_aload_n hx hb dX6_stop_32 rfl (lv_at hl 0 rfl) ?_
      refine r_get C w iM0 eM0 vc6 inlX6 4 (by decide) w_fl_RX6_22_AtomicThreadsModel_state_I rfl dX6_stop_33 ?_
      refine lv_iload_n hx hb dX6_stop_36 rfl (lv_at hl 1 rfl) ?_
      refine lv_iconst (v := 0) hx hb dX6_stop_37 (by decide) ?_
      obtain ⟨g15, hf⟩ := gd_some hf
      refine r_iast C w iM5 aM5 g15 dX6_stop_38 (fun H locs w => ?_)
      obtain ⟨V16, e17, hf⟩ := bnd_some hf
      rw [← e17] at w
      refine lv_iconst (v := 1) hx hb dX6_stop_39 (by decide) ?_
      cases hf
      exact r_zret C hr hlk w (by decide) dX6_stop_40
    · rw [if_pos c8] at hf
      refine lv_iconst (v := 0) hx hb dX6_stop_18 (by decide) ?_
      cases hf
      exact r_zret C hr hlk w (by decide) dX6_stop_19
  · rw [if_neg c4] at hf
    refine lv_iconst (v := 0) hx hb dX6_stop_8 (by decide) ?_
    cases hf
    exact r_zret C hr hlk w (by decide) dX6_stop_9
set_option maxHeartbeats 4000000 in
set_option maxRecDepth 100000 in
theorem jX6_begin_L38 (C : Cx cy D EM idM a p s m args c RX6 cX6_begin 3) (hr : meth.sig.returnType = none) (hlk : meth.locks = false) {Q : State → Prop} : ∀ (n : Nat) {V V' : Sto} {x1 : Int32} {x2 : Int32} {H : Heap} {locs : List Loc} {ls : Array Slot}, Wd cy D EM idM a V s H locs → lv_has ls 3 [(0, .ref (a (0, 0, 0))), (1, .int x1), (2, .int x2)] → fX6_begin_L38 n V x1 x2 = some (V') → (∀ (H1 : Heap) (locs1 : List Loc) (ls1 : Array Slot), Wd cy D EM idM a V' s H1 locs1 → lv_has ls1 3 [] → W p l e rm_X6_begin s m args below meth c H1 locs1 0 0 (Q) (F0 m 69 ls1 [])) → W p l e rm_X6_begin s m args below meth c H locs 0 0 (Q) (F0 m 38 ls []) := by
  have hx := C.1.1
  have hb := C.1.2.1
  have ok := C.2.2.2
  intro n
  induction n with
  | zero => intro V V' x1 x2  H locs ls w hl hf kk; cases hf
  | succ n ih =>
    intro V V' x1 x2  H locs ls w hl hf kk
    rw [fX6_begin_L38] at hf
    refine lv_iload_n hx hb dX6_begin_38 rfl (lv_at hl 2 rfl) ?_
    refine lv_iconst (v := 4) hx hb dX6_begin_39 (by decide) ?_
    refine lv_icmp_ge (tgt := 69) hx hb dX6_begin_40 (by decide) (fun c15 => ?_) (fun c15 => ?_)
    · rw [if_pos c15] at hf
      cases hf
      exact kk _ _ _ w (lv_sub hl [] rfl)
    · rw [if_neg c15] at hf
      refine lv_aload_n hx hb dX6_begin_43 rfl (lv_at hl 0 rfl) ?_
      refine r_get C w iM0 eM0 vc6 inlX6 8 (by decide) w_fl_RX6_34_AtomicThreadsModel_noted_I rfl dX6_begin_44 ?_
      refine lv_iconst (v := 4) hx hb dX6_begin_47 (by decide) ?_
      refine lv_iload_n hx hb dX6_begin_48 rfl (lv_at hl 1 rfl) ?_
      refine lv_imul hx hb dX6_begin_49 ?_
      refine lv_iload_n hx hb dX6_begin_50 rfl (lv_at hl 2 rfl) ?_
      refine lv_iadd hx hb dX6_begin_51 ?_
      refine lv_aload_n hx hb dX6_begin_52 rfl (lv_at hl 0 rfl) ?_
      refine r_get C w iM0 eM0 vc6 inlX6 7 (by decide) w_fl_RX6_31_AtomicThreadsModel_register_I rfl dX6_begin_53 ?_
      refine lv_iconst (v := 4) hx hb dX6_begin_56 (by decide) ?_
      refine lv_iload_n hx hb dX6_begin_57 rfl (lv_at hl 1 rfl) ?_
      refine lv_imul hx hb dX6_begin_58 ?_
      refine lv_iload_n hx hb dX6_begin_59 rfl (lv_at hl 2 rfl) ?_
      refine lv_iadd hx hb dX6_begin_60 ?_
      obtain ⟨g16, hf⟩ := gd_some hf
      refine r_iald C w iM8 aM8 g16 dX6_begin_61 ?_
      obtain ⟨g17, hf⟩ := gd_some hf
      refine r_iast C w iM9 aM9 g17 dX6_begin_62 (fun H locs w => ?_)
      obtain ⟨V18, e19, hf⟩ := bnd_some hf
      rw [← e19] at w
      refine lv_iinc (v := (x2 + 1)) hx hb dX6_begin_63 hl (k := 2) rfl (by rfl) (by decide) rfl (fun ls hl => ?_)
      refine lv_goto (tgt := 38) hx hb dX6_begin_66 (by decide) ?_
      exact ih w (lv_sub hl [1, 2, 0] rfl) hf kk
set_option maxHeartbeats 4000000 in
set_option maxRecDepth 100000 in
theorem c_X6_begin (ok : Wok EM idM a) {V : Sto} {V' : Sto} {x1 : Int32} (hf : fX6_begin V x1 = some V') : MtV l cy D EM idM a yX6_begin cX6_begin 3 rm_X6_begin [.ref (a (0, 0, 0)), .int x1] V V' := by
  refine ofM (by decide +kernel) ok (Nat.le_of_ble_eq_true rfl) (fun p e s m args below meth c C hr hlk w ls hl => ?_)
  have hx := C.1.1
  have hb := C.1.2.1
  rw [fX6_begin] at hf
  skip
  refine lv_aload_n hx hb dX6_begin_0 rfl (lv_at hl 0 rfl) ?_
  refine lv_iload_n hx hb dX6_begin_1 rfl (lv_at hl 1 rfl) ?_
  obtain ⟨V3, hc1, hf⟩ := ob_some hf
  refine k_V w (q_V C w (c_X6_endAttempt ok hc1) wy_X6_endAttempt wi_X6_endAttempt w_ml_RX6_115_yX6_endAttempt iM0 eM0 vc6 rfl rfl ⟨Nat.le_of_ble_eq_true rfl, Nat.le_of_ble_eq_true rfl⟩ rfl hl.1 rfl (Nat.le_of_ble_eq_true rfl) dX6_begin_2 ⟨Nat.le_refl _, Nat.le_refl _⟩) (fun H locs w => ?_)
  refine lv_aload_n hx hb dX6_begin_5 rfl (lv_at hl 0 rfl) ?_
  refine r_get C w iM0 eM0 vc6 inlX6 12 (by decide) w_fl_RX6_43_AtomicThreadsModel_attempt_Z rfl dX6_begin_6 ?_
  refine lv_iload_n hx hb dX6_begin_9 rfl (lv_at hl 1 rfl) ?_
  refine lv_iconst (v := 1) hx hb dX6_begin_10 (by decide) ?_
  obtain ⟨g4, hf⟩ := gd_some hf
  refine r_zast C w iM13 aM13 g4 dX6_begin_11 (fun H locs w => ?_)
  obtain ⟨V5, e6, hf⟩ := bnd_some hf
  rw [← e6] at w
  refine lv_aload_n hx hb dX6_begin_12 rfl (lv_at hl 0 rfl) ?_
  refine r_get C w iM0 eM0 vc6 inlX6 13 (by decide) w_fl_RX6_47_AtomicThreadsModel_atomic_I rfl dX6_begin_13 ?_
  refine lv_iload_n hx hb dX6_begin_16 rfl (lv_at hl 1 rfl) ?_
  refine lv_aload_n hx hb dX6_begin_17 rfl (lv_at hl 0 rfl) ?_
  refine r_get C w iM0 eM0 vc6 inlX6 5 (by decide) w_fl_RX6_25_AtomicThreadsModel_place_I rfl dX6_begin_18 ?_
  refine lv_iload_n hx hb dX6_begin_21 rfl (lv_at hl 1 rfl) ?_
  obtain ⟨g7, hf⟩ := gd_some hf
  refine r_iald C w iM6 aM6 g7 dX6_begin_22 ?_
  obtain ⟨g8, hf⟩ := gd_some hf
  refine r_iast C w iM14 aM14 g8 dX6_begin_23 (fun H locs w => ?_)
  obtain ⟨V9, e10, hf⟩ := bnd_some hf
  rw [← e10] at w
  refine lv_aload_n hx hb dX6_begin_24 rfl (lv_at hl 0 rfl) ?_
  refine r_get C w iM0 eM0 vc6 inlX6 14 (by decide) w_fl_RX6_50_AtomicThreadsModel_before_I rfl dX6_begin_25 ?_
  refine lv_iload_n hx hb dX6_begin_28 rfl (lv_at hl 1 rfl) ?_
  refine lv_aload_n hx hb dX6_begin_29 rfl (lv_at hl 0 rfl) ?_
  refine r_get C w iM0 eM0 vc6 inlX6 19 (by decide) w_fl_RX6_65_AtomicThreadsModel_parts_I rfl dX6_begin_30 ?_
  refine lv_iload_n hx hb dX6_begin_33 rfl (lv_at hl 1 rfl) ?_
  obtain ⟨g11, hf⟩ := gd_some hf
  refine r_iald C w iM20 aM20 g11 dX6_begin_34 ?_
  obtain ⟨g12, hf⟩ := gd_some hf
  refine r_iast C w iM15 aM15 g12 dX6_begin_35 (fun H locs w => ?_)
  obtain ⟨V13, e14, hf⟩ := bnd_some hf
  rw [← e14] at w
  refine lv_iconst (v := 0) hx hb dX6_begin_36 (by decide) ?_
  refine lv_istore_n hx hb dX6_begin_37 rfl hl (by decide) rfl (fun ls hl => ?_)
  obtain ⟨V21, hc20, hf⟩ := ob_some hf
  refine jX6_begin_L38 C hr hlk 40 w (lv_sub hl [1, 2, 0] rfl) hc20 (fun H locs ls w hl => ?_)
  cases hf
  exact r_vret C hr hlk w dX6_begin_69
set_option maxHeartbeats 4000000 in
set_option maxRecDepth 100000 in
theorem jX6_undo_L26 (C : Cx cy D EM idM a p s m args c RX6 cX6_undo 3) (hr : meth.sig.returnType = none) (hlk : meth.locks = false) {Q : State → Prop} : ∀ (n : Nat) {V V' : Sto} {x1 : Int32} {x2 : Int32} {H : Heap} {locs : List Loc} {ls : Array Slot}, Wd cy D EM idM a V s H locs → lv_has ls 3 [(0, .ref (a (0, 0, 0))), (1, .int x1), (2, .int x2)] → fX6_undo_L26 n V x1 x2 = some (V') → (∀ (H1 : Heap) (locs1 : List Loc) (ls1 : Array Slot), Wd cy D EM idM a V' s H1 locs1 → lv_has ls1 3 [(0, .ref (a (0, 0, 0))), (1, .int x1)] → W p l e rm_X6_undo s m args below meth c H1 locs1 0 0 (Q) (F0 m 57 ls1 [])) → W p l e rm_X6_undo s m args below meth c H locs 0 0 (Q) (F0 m 26 ls []) := by
  have hx := C.1.1
  have hb := C.1.2.1
  have ok := C.2.2.2
  intro n
  induction n with
  | zero => intro V V' x1 x2  H locs ls w hl hf kk; cases hf
  | succ n ih =>
    intro V V' x1 x2  H locs ls w hl hf kk
    rw [fX6_undo_L26] at hf
    refine lv_iload_n hx hb dX6_undo_26 rfl (lv_at hl 2 rfl) ?_
    refine lv_iconst (v := 4) hx hb dX6_undo_27 (by decide) ?_
    refine lv_icmp_ge (tgt := 57) hx hb dX6_undo_28 (by decide) (fun c9 => ?_) (fun c9 => ?_)
    · rw [if_pos c9] at hf
      cases hf
      exact kk _ _ _ w (lv_sub hl [0, 1] rfl)
    · rw [if_neg c9] at hf
      refine lv_aload_n hx hb dX6_undo_31 rfl (lv_at hl 0 rfl) ?_
      refine r_get C w iM0 eM0 vc6 inlX6 7 (by decide) w_fl_RX6_31_AtomicThreadsModel_register_I rfl dX6_undo_32 ?_
      refine lv_iconst (v := 4) hx hb dX6_undo_35 (by decide) ?_
      refine lv_iload_n hx hb dX6_undo_36 rfl (lv_at hl 1 rfl) ?_
      refine lv_imul hx hb dX6_undo_37 ?_
      refine lv_iload_n hx hb dX6_undo_38 rfl (lv_at hl 2 rfl) ?_
      refine lv_iadd hx hb dX6_undo_39 ?_
      refine lv_aload_n hx hb dX6_undo_40 rfl (lv_at hl 0 rfl) ?_
      refine r_get C w iM0 eM0 vc6 inlX6 8 (by decide) w_fl_RX6_34_AtomicThreadsModel_noted_I rfl dX6_undo_41 ?_
      refine lv_iconst (v := 4) hx hb dX6_undo_44 (by decide) ?_
      refine lv_iload_n hx hb dX6_undo_45 rfl (lv_at hl 1 rfl) ?_
      refine lv_imul hx hb dX6_undo_46 ?_
      refine lv_iload_n hx hb dX6_undo_47 rfl (lv_at hl 2 rfl) ?_
      refine lv_iadd hx hb dX6_undo_48 ?_
      obtain ⟨g10, hf⟩ := gd_some hf
      refine r_iald C w iM9 aM9 g10 dX6_undo_49 ?_
      obtain ⟨g11, hf⟩ := gd_some hf
      refine r_iast C w iM8 aM8 g11 dX6_undo_50 (fun H locs w => ?_)
      obtain ⟨V12, e13, hf⟩ := bnd_some hf
      rw [← e13] at w
      refine lv_iinc (v := (x2 + 1)) hx hb dX6_undo_51 hl (k := 2) rfl (by rfl) (by decide) rfl (fun ls hl => ?_)
      refine lv_goto (tgt := 26) hx hb dX6_undo_54 (by decide) ?_
      exact ih w (lv_sub hl [1, 2, 0] rfl) hf kk
set_option maxHeartbeats 4000000 in
set_option maxRecDepth 100000 in
theorem c_X6_undo (ok : Wok EM idM a) {V : Sto} {V' : Sto} {x1 : Int32} (hf : fX6_undo V x1 = some V') : MtV l cy D EM idM a yX6_undo cX6_undo 3 rm_X6_undo [.ref (a (0, 0, 0)), .int x1] V V' := by
  refine ofM (by decide +kernel) ok (Nat.le_of_ble_eq_true rfl) (fun p e s m args below meth c C hr hlk w ls hl => ?_)
  have hx := C.1.1
  have hb := C.1.2.1
  rw [fX6_undo] at hf
  skip
  refine lv_aload_n hx hb dX6_undo_0 rfl (lv_at hl 0 rfl) ?_
  refine r_get C w iM0 eM0 vc6 inlX6 5 (by decide) w_fl_RX6_25_AtomicThreadsModel_place_I rfl dX6_undo_1 ?_
  refine lv_iload_n hx hb dX6_undo_4 rfl (lv_at hl 1 rfl) ?_
  refine lv_aload_n hx hb dX6_undo_5 rfl (lv_at hl 0 rfl) ?_
  refine r_get C w iM0 eM0 vc6 inlX6 13 (by decide) w_fl_RX6_47_AtomicThreadsModel_atomic_I rfl dX6_undo_6 ?_
  refine lv_iload_n hx hb dX6_undo_9 rfl (lv_at hl 1 rfl) ?_
  obtain ⟨g1, hf⟩ := gd_some hf
  refine r_iald C w iM14 aM14 g1 dX6_undo_10 ?_
  obtain ⟨g2, hf⟩ := gd_some hf
  refine r_iast C w iM6 aM6 g2 dX6_undo_11 (fun H locs w => ?_)
  obtain ⟨V3, e4, hf⟩ := bnd_some hf
  rw [← e4] at w
  refine lv_aload_n hx hb dX6_undo_12 rfl (lv_at hl 0 rfl) ?_
  refine r_get C w iM0 eM0 vc6 inlX6 19 (by decide) w_fl_RX6_65_AtomicThreadsModel_parts_I rfl dX6_undo_13 ?_
  refine lv_iload_n hx hb dX6_undo_16 rfl (lv_at hl 1 rfl) ?_
  refine lv_aload_n hx hb dX6_undo_17 rfl (lv_at hl 0 rfl) ?_
  refine r_get C w iM0 eM0 vc6 inlX6 14 (by decide) w_fl_RX6_50_AtomicThreadsModel_before_I rfl dX6_undo_18 ?_
  refine lv_iload_n hx hb dX6_undo_21 rfl (lv_at hl 1 rfl) ?_
  obtain ⟨g5, hf⟩ := gd_some hf
  refine r_iald C w iM15 aM15 g5 dX6_undo_22 ?_
  obtain ⟨g6, hf⟩ := gd_some hf
  refine r_iast C w iM20 aM20 g6 dX6_undo_23 (fun H locs w => ?_)
  obtain ⟨V7, e8, hf⟩ := bnd_some hf
  rw [← e8] at w
  refine lv_iconst (v := 0) hx hb dX6_undo_24 (by decide) ?_
  refine lv_istore_n hx hb dX6_undo_25 rfl hl (by decide) rfl (fun ls hl => ?_)
  obtain ⟨V15, hc14, hf⟩ := ob_some hf
  refine jX6_undo_L26 C hr hlk 40 w (lv_sub hl [1, 2, 0] rfl) hc14 (fun H locs ls w hl => ?_)
  refine lv_aload_n hx hb dX6_undo_57 rfl (lv_at hl 0 rfl) ?_
  refine r_get C w iM0 eM0 vc6 inlX6 12 (by decide) w_fl_RX6_43_AtomicThreadsModel_attempt_Z rfl dX6_undo_58 ?_
  refine lv_iload_n hx hb dX6_undo_61 rfl (lv_at hl 1 rfl) ?_
  refine lv_iconst (v := 0) hx hb dX6_undo_62 (by decide) ?_
  obtain ⟨g16, hf⟩ := gd_some hf
  refine r_zast C w iM13 aM13 g16 dX6_undo_63 (fun H locs w => ?_)
  obtain ⟨V17, e18, hf⟩ := bnd_some hf
  rw [← e18] at w
  cases hf
  exact r_vret C hr hlk w dX6_undo_64
set_option maxHeartbeats 4000000 in
set_option maxRecDepth 100000 in
theorem c_X6_discard (ok : Wok EM idM a) {V : Sto} {r : Int32} {V' : Sto} {x1 : Int32} (hf : fX6_discard V x1 = some (r, V')) : MtI l cy D EM idM a yX6_discard cX6_discard 2 .int rm_X6_discard [.ref (a (0, 0, 0)), .int x1] V r V' := by
  refine ofM (by decide +kernel) ok (Nat.le_of_ble_eq_true rfl) (fun p e s m args below meth c C hr hlk w ls hl => ?_)
  have hx := C.1.1
  have hb := C.1.2.1
  rw [fX6_discard] at hf
  skip
  refine lv_aload_n hx hb dX6_discard_0 rfl (lv_at hl 0 rfl) ?_
  refine lv_iload_n hx hb dX6_discard_1 rfl (lv_at hl 1 rfl) ?_
  obtain ⟨V3, hc1, hf⟩ := ob_some hf
  refine k_V w (q_V C w (c_X6_undo ok hc1) wy_X6_undo wi_X6_undo w_ml_RX6_123_yX6_undo iM0 eM0 vc6 rfl rfl ⟨Nat.le_of_ble_eq_true rfl, Nat.le_of_ble_eq_true rfl⟩ rfl hl.1 rfl (Nat.le_of_ble_eq_true rfl) dX6_discard_2 ⟨Nat.le_refl _, Nat.le_refl _⟩) (fun H locs w => ?_)
  refine lv_aload_n hx hb dX6_discard_5 rfl (lv_at hl 0 rfl) ?_
  refine lv_iload_n hx hb dX6_discard_6 rfl (lv_at hl 1 rfl) ?_
  obtain ⟨V6, hc4, hf⟩ := ob_some hf
  refine k_V w (q_V C w (c_X6_endAttempt ok hc4) wy_X6_endAttempt wi_X6_endAttempt w_ml_RX6_115_yX6_endAttempt iM0 eM0 vc6 rfl rfl ⟨Nat.le_of_ble_eq_true rfl, Nat.le_of_ble_eq_true rfl⟩ rfl hl.1 rfl (Nat.le_of_ble_eq_true rfl) dX6_discard_7 ⟨Nat.le_refl _, Nat.le_refl _⟩) (fun H locs w => ?_)
  refine lv_aload_n hx hb dX6_discard_10 rfl (lv_at hl 0 rfl) ?_
  refine r_get C w iM0 eM0 vc6 inlX6 6 (by decide) w_fl_RX6_28_AtomicThreadsModel_discarded_I rfl dX6_discard_11 ?_
  refine lv_iload_n hx hb dX6_discard_14 rfl (lv_at hl 1 rfl) ?_
  refine lv_dup2_11 hx hb dX6_discard_15 rfl rfl ?_
  obtain ⟨g7, hf⟩ := gd_some hf
  refine r_iald C w iM7 aM7 g7 dX6_discard_16 ?_
  refine lv_iconst (v := 1) hx hb dX6_discard_17 (by decide) ?_
  refine lv_iadd hx hb dX6_discard_18 ?_
  obtain ⟨g8, hf⟩ := gd_some hf
  refine r_iast C w iM7 aM7 g8 dX6_discard_19 (fun H locs w => ?_)
  obtain ⟨V9, e10, hf⟩ := bnd_some hf
  rw [← e10] at w
  refine lv_iconst (v := 2) hx hb dX6_discard_20 (by decide) ?_
  cases hf
  exact r_iret C hr hlk w dX6_discard_21
set_option maxHeartbeats 4000000 in
set_option maxRecDepth 100000 in
theorem jX6_outOfDate_L4 (C : Cx cy D EM idM a p s m args c RX6 cX6_outOfDate 4) (hr : meth.sig.returnType = some .boolean) (hlk : meth.locks = false) {Q : State → Prop} : ∀ (n : Nat) {V : Sto} {x1 : Int32} {x2 : Int32} {x3 : Int32} {x2' : Int32} {H : Heap} {locs : List Loc} {ls : Array Slot}, Wd cy D EM idM a V s H locs → lv_has ls 4 [(0, .ref (a (0, 0, 0))), (1, .int x1), (2, .int x2), (3, .int x3)] → fX6_outOfDate_L4 n V x1 x2 x3 = some (x2') → (∀ (H1 : Heap) (locs1 : List Loc) (ls1 : Array Slot), Wd cy D EM idM a V s H1 locs1 → lv_has ls1 4 [(2, .int x2')] → W p l e rm_X6_outOfDate s m args below meth c H1 locs1 0 0 (Q) (F0 m 54 ls1 [])) → W p l e rm_X6_outOfDate s m args below meth c H locs 0 0 (Q) (F0 m 4 ls []) := by
  have hx := C.1.1
  have hb := C.1.2.1
  have ok := C.2.2.2
  intro n
  induction n with
  | zero => intro V x1 x2 x3 x2' H locs ls w hl hf kk; cases hf
  | succ n ih =>
    intro V x1 x2 x3 x2' H locs ls w hl hf kk
    rw [fX6_outOfDate_L4] at hf
    refine lv_iload_n hx hb dX6_outOfDate_4 rfl (lv_at hl 3 rfl) ?_
    refine lv_bipush (v := 8) hx hb dX6_outOfDate_5 (by decide) ?_
    refine lv_icmp_ge (tgt := 54) hx hb dX6_outOfDate_7 (by decide) (fun c1 => ?_) (fun c1 => ?_)
    · rw [if_pos c1] at hf
      cases hf
      exact kk _ _ _ w (lv_sub hl [2] rfl)
    · rw [if_neg c1] at hf
      refine lv_iload_n hx hb dX6_outOfDate_10 rfl (lv_at hl 2 rfl) ?_
      refine lv_if_ne (tgt := 42) hx hb dX6_outOfDate_11 (by decide) (fun c2 => ?_) (fun c2 => ?_)
      · rw [if_neg c2] at hf
        refine lv_iconst (v := 1) hx hb dX6_outOfDate_42 (by decide) ?_
        refine lv_goto (tgt := 47) hx hb dX6_outOfDate_43 (by decide) ?_
        refine lv_istore_n hx hb dX6_outOfDate_47 rfl hl (by decide) rfl (fun ls hl => ?_)
        refine lv_iinc (v := (x3 + 1)) hx hb dX6_outOfDate_48 hl (k := 3) rfl (by rfl) (by decide) rfl (fun ls hl => ?_)
        refine lv_goto (tgt := 4) hx hb dX6_outOfDate_51 (by decide) ?_
        exact ih w (lv_sub hl [2, 3, 1, 0] rfl) hf kk
      · rw [if_pos c2] at hf
        refine lv_aload_n hx hb dX6_outOfDate_14 rfl (lv_at hl 0 rfl) ?_
        refine r_get C w iM0 eM0 vc6 inlX6 16 (by decide) w_fl_RX6_56_AtomicThreadsModel_read_Z rfl dX6_outOfDate_15 ?_
        refine lv_bipush (v := 8) hx hb dX6_outOfDate_18 (by decide) ?_
        refine lv_iload_n hx hb dX6_outOfDate_20 rfl (lv_at hl 1 rfl) ?_
        refine lv_imul hx hb dX6_outOfDate_21 ?_
        refine lv_iload_n hx hb dX6_outOfDate_22 rfl (lv_at hl 3 rfl) ?_
        refine lv_iadd hx hb dX6_outOfDate_23 ?_
        obtain ⟨g3, hf⟩ := gd_some hf
        refine r_zald C w iM17 aM17 g3 dX6_outOfDate_24 ?_
        refine lv_if_eq (tgt := 46) hx hb dX6_outOfDate_25 (by decide) (fun c4 => ?_) (fun c4 => ?_)
        · rw [if_pos c4] at hf
          refine lv_iconst (v := 0) hx hb dX6_outOfDate_46 (by decide) ?_
          refine lv_istore_n hx hb dX6_outOfDate_47 rfl hl (by decide) rfl (fun ls hl => ?_)
          refine lv_iinc (v := (x3 + 1)) hx hb dX6_outOfDate_48 hl (k := 3) rfl (by rfl) (by decide) rfl (fun ls hl => ?_)
          refine lv_goto (tgt := 4) hx hb dX6_outOfDate_51 (by decide) ?_
          exact ih w (lv_sub hl [2, 3, 1, 0] rfl) hf kk
        · rw [if_neg c4] at hf
          refine lv_aload_n hx hb dX6_outOfDate_28 rfl (lv_at hl 0 rfl) ?_
          refine r_get C w iM0 eM0 vc6 inlX6 15 (by decide) w_fl_RX6_53_AtomicThreadsModel_stale_Z rfl dX6_outOfDate_29 ?_
          refine lv_bipush (v := 8) hx hb dX6_outOfDate_32 (by decide) ?_
          refine lv_iload_n hx hb dX6_outOfDate_34 rfl (lv_at hl 1 rfl) ?_
          refine lv_imul hx hb dX6_outOfDate_35 ?_
          refine lv_iload_n hx hb dX6_outOfDate_36 rfl (lv_at hl 3 rfl) ?_
          refine lv_iadd hx hb dX6_outOfDate_37 ?_
          obtain ⟨g5, hf⟩ := gd_some hf
          refine r_zald C w iM16 aM16 g5 dX6_outOfDate_38 ?_
          refine lv_if_eq (tgt := 46) hx hb dX6_outOfDate_39 (by decide) (fun c6 => ?_) (fun c6 => ?_)
          · rw [if_pos c6] at hf
            refine lv_iconst (v := 0) hx hb dX6_outOfDate_46 (by decide) ?_
            refine lv_istore_n hx hb dX6_outOfDate_47 rfl hl (by decide) rfl (fun ls hl => ?_)
            refine lv_iinc (v := (x3 + 1)) hx hb dX6_outOfDate_48 hl (k := 3) rfl (by rfl) (by decide) rfl (fun ls hl => ?_)
            refine lv_goto (tgt := 4) hx hb dX6_outOfDate_51 (by decide) ?_
            exact ih w (lv_sub hl [2, 3, 1, 0] rfl) hf kk
          · rw [if_neg c6] at hf
            refine lv_iconst (v := 1) hx hb dX6_outOfDate_42 (by decide) ?_
            refine lv_goto (tgt := 47) hx hb dX6_outOfDate_43 (by decide) ?_
            refine lv_istore_n hx hb dX6_outOfDate_47 rfl hl (by decide) rfl (fun ls hl => ?_)
            refine lv_iinc (v := (x3 + 1)) hx hb dX6_outOfDate_48 hl (k := 3) rfl (by rfl) (by decide) rfl (fun ls hl => ?_)
            refine lv_goto (tgt := 4) hx hb dX6_outOfDate_51 (by decide) ?_
            exact ih w (lv_sub hl [2, 3, 1, 0] rfl) hf kk
set_option maxHeartbeats 4000000 in
set_option maxRecDepth 100000 in
theorem c_X6_outOfDate (ok : Wok EM idM a) {V : Sto} {r : Int32} {x1 : Int32} (hf : fX6_outOfDate V x1 = some r) : MtI l cy D EM idM a yX6_outOfDate cX6_outOfDate 4 .boolean rm_X6_outOfDate [.ref (a (0, 0, 0)), .int x1] V r V := by
  refine ofM (by decide +kernel) ok (Nat.le_of_ble_eq_true rfl) (fun p e s m args below meth c C hr hlk w ls hl => ?_)
  have hx := C.1.1
  have hb := C.1.2.1
  rw [fX6_outOfDate] at hf
  skip
  refine lv_iconst (v := 0) hx hb dX6_outOfDate_0 (by decide) ?_
  refine lv_istore_n hx hb dX6_outOfDate_1 rfl hl (by decide) rfl (fun ls hl => ?_)
  refine lv_iconst (v := 0) hx hb dX6_outOfDate_2 (by decide) ?_
  refine lv_istore_n hx hb dX6_outOfDate_3 rfl hl (by decide) rfl (fun ls hl => ?_)
  obtain ⟨z8, hc7, hf⟩ := ob_some hf
  refine jX6_outOfDate_L4 C hr hlk 40 w (lv_sub hl [2, 3, 1, 0] rfl) hc7 (fun H locs ls w hl => ?_)
  refine lv_iload_n hx hb dX6_outOfDate_54 rfl (lv_at hl 0 rfl) ?_
  obtain ⟨g9, hf⟩ := gd_some hf
  cases hf
  exact r_zret C hr hlk w g9 dX6_outOfDate_55
set_option maxHeartbeats 4000000 in
set_option maxRecDepth 100000 in
theorem jX6_changed_L19 (C : Cx cy D EM idM a p s m args c RX6 cX6_changed 4) (hr : meth.sig.returnType = none) (hlk : meth.locks = false) {Q : State → Prop} : ∀ (n : Nat) {V V' : Sto} {x1 : Int32} {x3 : Int32} {H : Heap} {locs : List Loc} {ls : Array Slot}, Wd cy D EM idM a V s H locs → lv_has ls 4 [(0, .ref (a (0, 0, 0))), (1, .int x1), (3, .int x3)] → fX6_changed_L19 n V x1 x3 = some (V') → (∀ (H1 : Heap) (locs1 : List Loc) (ls1 : Array Slot), Wd cy D EM idM a V' s H1 locs1 → lv_has ls1 4 [] → W p l e rm_X6_changed s m args below meth c H1 locs1 0 0 (Q) (F0 m 83 ls1 [])) → W p l e rm_X6_changed s m args below meth c H locs 0 0 (Q) (F0 m 19 ls []) := by
  have hx := C.1.1
  have hb := C.1.2.1
  have ok := C.2.2.2
  intro n
  induction n with
  | zero => intro V V' x1 x3  H locs ls w hl hf kk; cases hf
  | succ n ih =>
    intro V V' x1 x3  H locs ls w hl hf kk
    rw [fX6_changed_L19] at hf
    refine lv_iload_n hx hb dX6_changed_19 rfl (lv_at hl 2 rfl) ?_
    refine lv_iconst (v := 4) hx hb dX6_changed_20 (by decide) ?_
    refine lv_icmp_ge (tgt := 83) hx hb dX6_changed_21 (by decide) (fun c7 => ?_) (fun c7 => ?_)
    · rw [if_pos c7] at hf
      cases hf
      exact kk _ _ _ w (lv_sub hl [] rfl)
    · rw [if_neg c7] at hf
      refine lv_aload_n hx hb dX6_changed_24 rfl (lv_at hl 0 rfl) ?_
      refine r_get C w iM0 eM0 vc6 inlX6 15 (by decide) w_fl_RX6_53_AtomicThreadsModel_stale_Z rfl dX6_changed_25 ?_
      refine lv_bipush (v := 8) hx hb dX6_changed_28 (by decide) ?_
      refine lv_iload_n hx hb dX6_changed_30 rfl (lv_at hl 2 rfl) ?_
      refine lv_imul hx hb dX6_changed_31 ?_
      refine lv_iload_n hx hb dX6_changed_32 rfl (lv_at hl 1 rfl) ?_
      refine lv_iadd hx hb dX6_changed_33 ?_
      refine lv_aload_n hx hb dX6_changed_34 rfl (lv_at hl 0 rfl) ?_
      refine r_get C w iM0 eM0 vc6 inlX6 12 (by decide) w_fl_RX6_43_AtomicThreadsModel_attempt_Z rfl dX6_changed_35 ?_
      refine lv_iload_n hx hb dX6_changed_38 rfl (lv_at hl 2 rfl) ?_
      obtain ⟨g8, hf⟩ := gd_some hf
      refine r_zald C w iM13 aM13 g8 dX6_changed_39 ?_
      obtain ⟨g9, hf⟩ := gd_some hf
      refine r_zast C w iM16 aM16 g9 dX6_changed_40 (fun H locs w => ?_)
      obtain ⟨V10, e11, hf⟩ := bnd_some hf
      rw [← e11] at w
      refine lv_aload_n hx hb dX6_changed_41 rfl (lv_at hl 0 rfl) ?_
      refine r_get C w iM0 eM0 vc6 inlX6 4 (by decide) w_fl_RX6_22_AtomicThreadsModel_state_I rfl dX6_changed_42 ?_
      refine lv_iload_n hx hb dX6_changed_45 rfl (lv_at hl 2 rfl) ?_
      obtain ⟨g12, hf⟩ := gd_some hf
      refine r_iald C w iM5 aM5 g12 dX6_changed_46 ?_
      refine lv_iconst (v := 2) hx hb dX6_changed_47 (by decide) ?_
      refine lv_icmp_ne (tgt := 77) hx hb dX6_changed_48 (by decide) (fun c13 => ?_) (fun c13 => ?_)
      · rw [if_neg c13] at hf
        refine lv_iinc (v := (x3 + 1)) hx hb dX6_changed_77 hl (k := 2) rfl (by rfl) (by decide) rfl (fun ls hl => ?_)
        refine lv_goto (tgt := 19) hx hb dX6_changed_80 (by decide) ?_
        exact ih w (lv_sub hl [1, 2, 0] rfl) hf kk
      · rw [if_pos c13] at hf
        refine lv_aload_n hx hb dX6_changed_51 rfl (lv_at hl 0 rfl) ?_
        refine r_get C w iM0 eM0 vc6 inlX6 16 (by decide) w_fl_RX6_56_AtomicThreadsModel_read_Z rfl dX6_changed_52 ?_
        refine lv_bipush (v := 8) hx hb dX6_changed_55 (by decide) ?_
        refine lv_iload_n hx hb dX6_changed_57 rfl (lv_at hl 2 rfl) ?_
        refine lv_imul hx hb dX6_changed_58 ?_
        refine lv_iload_n hx hb dX6_changed_59 rfl (lv_at hl 1 rfl) ?_
        refine lv_iadd hx hb dX6_changed_60 ?_
        obtain ⟨g14, hf⟩ := gd_some hf
        refine r_zald C w iM17 aM17 g14 dX6_changed_61 ?_
        refine lv_if_eq (tgt := 77) hx hb dX6_changed_62 (by decide) (fun c15 => ?_) (fun c15 => ?_)
        · rw [if_pos c15] at hf
          refine lv_iinc (v := (x3 + 1)) hx hb dX6_changed_77 hl (k := 2) rfl (by rfl) (by decide) rfl (fun ls hl => ?_)
          refine lv_goto (tgt := 19) hx hb dX6_changed_80 (by decide) ?_
          exact ih w (lv_sub hl [1, 2, 0] rfl) hf kk
        · rw [if_neg c15] at hf
          refine lv_aload_n hx hb dX6_changed_65 rfl (lv_at hl 0 rfl) ?_
          refine r_get C w iM0 eM0 vc6 inlX6 4 (by decide) w_fl_RX6_22_AtomicThreadsModel_state_I rfl dX6_changed_66 ?_
          refine lv_iload_n hx hb dX6_changed_69 rfl (lv_at hl 2 rfl) ?_
          refine lv_iconst (v := 1) hx hb dX6_changed_70 (by decide) ?_
          obtain ⟨g16, hf⟩ := gd_some hf
          refine r_iast C w iM5 aM5 g16 dX6_changed_71 (fun H locs w => ?_)
          obtain ⟨V17, e18, hf⟩ := bnd_some hf
          rw [← e18] at w
          refine lv_aload_n hx hb dX6_changed_72 rfl (lv_at hl 0 rfl) ?_
          refine lv_iload_n hx hb dX6_changed_73 rfl (lv_at hl 2 rfl) ?_
          obtain ⟨V21, hc19, hf⟩ := ob_some hf
          refine k_V w (q_V C w (c_X6_endAttempt ok hc19) wy_X6_endAttempt wi_X6_endAttempt w_ml_RX6_115_yX6_endAttempt iM0 eM0 vc6 rfl rfl ⟨Nat.le_of_ble_eq_true rfl, Nat.le_of_ble_eq_true rfl⟩ rfl hl.1 rfl (Nat.le_of_ble_eq_true rfl) dX6_changed_74 ⟨Nat.le_refl _, Nat.le_refl _⟩) (fun H locs w => ?_)
          refine lv_iinc (v := (x3 + 1)) hx hb dX6_changed_77 hl (k := 2) rfl (by rfl) (by decide) rfl (fun ls hl => ?_)
          refine lv_goto (tgt := 19) hx hb dX6_changed_80 (by decide) ?_
          exact ih w (lv_sub hl [1, 2, 0] rfl) hf kk
set_option maxHeartbeats 4000000 in
set_option maxRecDepth 100000 in
theorem c_X6_changed (ok : Wok EM idM a) {V : Sto} {V' : Sto} {x1 : Int32} {x2 : Int32} (hf : fX6_changed V x1 x2 = some V') : MtV l cy D EM idM a yX6_changed cX6_changed 4 rm_X6_changed [.ref (a (0, 0, 0)), .int x1, .int x2] V V' := by
  refine ofM (by decide +kernel) ok (Nat.le_of_ble_eq_true rfl) (fun p e s m args below meth c C hr hlk w ls hl => ?_)
  have hx := C.1.1
  have hb := C.1.2.1
  rw [fX6_changed] at hf
  skip
  refine lv_aload_n hx hb dX6_changed_0 rfl (lv_at hl 0 rfl) ?_
  refine r_get C w iM0 eM0 vc6 inlX6 9 (by decide) w_fl_RX6_37_AtomicThreadsModel_value_I rfl dX6_changed_1 ?_
  refine lv_iload_n hx hb dX6_changed_4 rfl (lv_at hl 1 rfl) ?_
  refine lv_iload_n hx hb dX6_changed_5 rfl (lv_at hl 2 rfl) ?_
  obtain ⟨g1, hf⟩ := gd_some hf
  refine r_iast C w iM10 aM10 g1 dX6_changed_6 (fun H locs w => ?_)
  obtain ⟨V2, e3, hf⟩ := bnd_some hf
  rw [← e3] at w
  refine lv_aload_n hx hb dX6_changed_7 rfl (lv_at hl 0 rfl) ?_
  refine r_get C w iM0 eM0 vc6 inlX6 10 (by decide) w_fl_RX6_40_AtomicThreadsModel_version_I rfl dX6_changed_8 ?_
  refine lv_iload_n hx hb dX6_changed_11 rfl (lv_at hl 1 rfl) ?_
  refine lv_aload_n hx hb dX6_changed_12 rfl (lv_at hl 0 rfl) ?_
  refine r_get C w iM0 eM0 vc6 inlX6 11 (by decide) w_fl_RX6_126_AtomicThreadsModel_commits_I rfl dX6_changed_13 ?_
  obtain ⟨g4, hf⟩ := gd_some hf
  refine r_iast C w iM11 aM11 g4 dX6_changed_16 (fun H locs w => ?_)
  obtain ⟨V5, e6, hf⟩ := bnd_some hf
  rw [← e6] at w
  refine lv_iconst (v := 0) hx hb dX6_changed_17 (by decide) ?_
  refine lv_istore_n hx hb dX6_changed_18 rfl hl (by decide) rfl (fun ls hl => ?_)
  obtain ⟨V23, hc22, hf⟩ := ob_some hf
  refine jX6_changed_L19 C hr hlk 40 w (lv_sub hl [1, 2, 0] rfl) hc22 (fun H locs ls w hl => ?_)
  cases hf
  exact r_vret C hr hlk w dX6_changed_83
set_option maxHeartbeats 4000000 in
set_option maxRecDepth 100000 in
theorem jX6_commit_L18 (C : Cx cy D EM idM a p s m args c RX6 cX6_commit 4) (hr : meth.sig.returnType = some .int) (hlk : meth.locks = false) {Q : State → Prop} : ∀ (n : Nat) {V : Sto} {x1 : Int32} {x2 : Int32} {x3 : Int32} {x2' : Int32} {H : Heap} {locs : List Loc} {ls : Array Slot}, Wd cy D EM idM a V s H locs → lv_has ls 4 [(0, .ref (a (0, 0, 0))), (1, .int x1), (2, .int x2), (3, .int x3)] → fX6_commit_L18 n V x1 x2 x3 = some (x2') → (∀ (H1 : Heap) (locs1 : List Loc) (ls1 : Array Slot), Wd cy D EM idM a V s H1 locs1 → lv_has ls1 4 [(0, .ref (a (0, 0, 0))), (1, .int x1), (2, .int x2')] → W p l e rm_X6_commit s m args below meth c H1 locs1 0 0 (Q) (F0 m 54 ls1 [])) → W p l e rm_X6_commit s m args below meth c H locs 0 0 (Q) (F0 m 18 ls []) := by
  have hx := C.1.1
  have hb := C.1.2.1
  have ok := C.2.2.2
  intro n
  induction n with
  | zero => intro V x1 x2 x3 x2' H locs ls w hl hf kk; cases hf
  | succ n ih =>
    intro V x1 x2 x3 x2' H locs ls w hl hf kk
    rw [fX6_commit_L18] at hf
    refine lv_iload_n hx hb dX6_commit_18 rfl (lv_at hl 3 rfl) ?_
    refine lv_bipush (v := 8) hx hb dX6_commit_19 (by decide) ?_
    refine lv_icmp_ge (tgt := 54) hx hb dX6_commit_21 (by decide) (fun c5 => ?_) (fun c5 => ?_)
    · rw [if_pos c5] at hf
      cases hf
      exact kk _ _ _ w (lv_sub hl [0, 1, 2] rfl)
    · rw [if_neg c5] at hf
      refine lv_iload_n hx hb dX6_commit_24 rfl (lv_at hl 2 rfl) ?_
      refine lv_if_ne (tgt := 42) hx hb dX6_commit_25 (by decide) (fun c6 => ?_) (fun c6 => ?_)
      · rw [if_neg c6] at hf
        refine lv_iconst (v := 1) hx hb dX6_commit_42 (by decide) ?_
        refine lv_goto (tgt := 47) hx hb dX6_commit_43 (by decide) ?_
        refine lv_istore_n hx hb dX6_commit_47 rfl hl (by decide) rfl (fun ls hl => ?_)
        refine lv_iinc (v := (x3 + 1)) hx hb dX6_commit_48 hl (k := 3) rfl (by rfl) (by decide) rfl (fun ls hl => ?_)
        refine lv_goto (tgt := 18) hx hb dX6_commit_51 (by decide) ?_
        exact ih w (lv_sub hl [2, 3, 1, 0] rfl) hf kk
      · rw [if_pos c6] at hf
        refine lv_aload_n hx hb dX6_commit_28 rfl (lv_at hl 0 rfl) ?_
        refine r_get C w iM0 eM0 vc6 inlX6 17 (by decide) w_fl_RX6_59_AtomicThreadsModel_written_Z rfl dX6_commit_29 ?_
        refine lv_bipush (v := 8) hx hb dX6_commit_32 (by decide) ?_
        refine lv_iload_n hx hb dX6_commit_34 rfl (lv_at hl 1 rfl) ?_
        refine lv_imul hx hb dX6_commit_35 ?_
        refine lv_iload_n hx hb dX6_commit_36 rfl (lv_at hl 3 rfl) ?_
        refine lv_iadd hx hb dX6_commit_37 ?_
        obtain ⟨g7, hf⟩ := gd_some hf
        refine r_zald C w iM18 aM18 g7 dX6_commit_38 ?_
        refine lv_if_eq (tgt := 46) hx hb dX6_commit_39 (by decide) (fun c8 => ?_) (fun c8 => ?_)
        · rw [if_pos c8] at hf
          refine lv_iconst (v := 0) hx hb dX6_commit_46 (by decide) ?_
          refine lv_istore_n hx hb dX6_commit_47 rfl hl (by decide) rfl (fun ls hl => ?_)
          refine lv_iinc (v := (x3 + 1)) hx hb dX6_commit_48 hl (k := 3) rfl (by rfl) (by decide) rfl (fun ls hl => ?_)
          refine lv_goto (tgt := 18) hx hb dX6_commit_51 (by decide) ?_
          exact ih w (lv_sub hl [2, 3, 1, 0] rfl) hf kk
        · rw [if_neg c8] at hf
          refine lv_iconst (v := 1) hx hb dX6_commit_42 (by decide) ?_
          refine lv_goto (tgt := 47) hx hb dX6_commit_43 (by decide) ?_
          refine lv_istore_n hx hb dX6_commit_47 rfl hl (by decide) rfl (fun ls hl => ?_)
          refine lv_iinc (v := (x3 + 1)) hx hb dX6_commit_48 hl (k := 3) rfl (by rfl) (by decide) rfl (fun ls hl => ?_)
          refine lv_goto (tgt := 18) hx hb dX6_commit_51 (by decide) ?_
          exact ih w (lv_sub hl [2, 3, 1, 0] rfl) hf kk
set_option maxHeartbeats 4000000 in
set_option maxRecDepth 100000 in
theorem jX6_commit_L84 (C : Cx cy D EM idM a p s m args c RX6 cX6_commit 4) (hr : meth.sig.returnType = some .int) (hlk : meth.locks = false) {Q : State → Prop} : ∀ (n : Nat) {V V' : Sto} {x1 : Int32} {x3 : Int32} {H : Heap} {locs : List Loc} {ls : Array Slot}, Wd cy D EM idM a V s H locs → lv_has ls 4 [(0, .ref (a (0, 0, 0))), (1, .int x1), (3, .int x3)] → fX6_commit_L84 n V x1 x3 = some (V') → (∀ (H1 : Heap) (locs1 : List Loc) (ls1 : Array Slot), Wd cy D EM idM a V' s H1 locs1 → lv_has ls1 4 [(0, .ref (a (0, 0, 0))), (1, .int x1)] → W p l e rm_X6_commit s m args below meth c H1 locs1 0 0 (Q) (F0 m 126 ls1 [])) → W p l e rm_X6_commit s m args below meth c H locs 0 0 (Q) (F0 m 84 ls []) := by
  have hx := C.1.1
  have hb := C.1.2.1
  have ok := C.2.2.2
  intro n
  induction n with
  | zero => intro V V' x1 x3  H locs ls w hl hf kk; cases hf
  | succ n ih =>
    intro V V' x1 x3  H locs ls w hl hf kk
    rw [fX6_commit_L84] at hf
    refine lv_iload_n hx hb dX6_commit_84 rfl (lv_at hl 2 rfl) ?_
    refine lv_bipush (v := 8) hx hb dX6_commit_85 (by decide) ?_
    refine lv_icmp_ge (tgt := 126) hx hb dX6_commit_87 (by decide) (fun c17 => ?_) (fun c17 => ?_)
    · rw [if_pos c17] at hf
      cases hf
      exact kk _ _ _ w (lv_sub hl [0, 1] rfl)
    · rw [if_neg c17] at hf
      refine lv_aload_n hx hb dX6_commit_90 rfl (lv_at hl 0 rfl) ?_
      refine r_get C w iM0 eM0 vc6 inlX6 17 (by decide) w_fl_RX6_59_AtomicThreadsModel_written_Z rfl dX6_commit_91 ?_
      refine lv_bipush (v := 8) hx hb dX6_commit_94 (by decide) ?_
      refine lv_iload_n hx hb dX6_commit_96 rfl (lv_at hl 1 rfl) ?_
      refine lv_imul hx hb dX6_commit_97 ?_
      refine lv_iload_n hx hb dX6_commit_98 rfl (lv_at hl 2 rfl) ?_
      refine lv_iadd hx hb dX6_commit_99 ?_
      obtain ⟨g18, hf⟩ := gd_some hf
      refine r_zald C w iM18 aM18 g18 dX6_commit_100 ?_
      refine lv_if_eq (tgt := 120) hx hb dX6_commit_101 (by decide) (fun c19 => ?_) (fun c19 => ?_)
      · rw [if_pos c19] at hf
        refine lv_iinc (v := (x3 + 1)) hx hb dX6_commit_120 hl (k := 2) rfl (by rfl) (by decide) rfl (fun ls hl => ?_)
        refine lv_goto (tgt := 84) hx hb dX6_commit_123 (by decide) ?_
        exact ih w (lv_sub hl [1, 2, 0] rfl) hf kk
      · rw [if_neg c19] at hf
        refine lv_aload_n hx hb dX6_commit_104 rfl (lv_at hl 0 rfl) ?_
        refine lv_iload_n hx hb dX6_commit_105 rfl (lv_at hl 2 rfl) ?_
        refine lv_aload_n hx hb dX6_commit_106 rfl (lv_at hl 0 rfl) ?_
        refine r_get C w iM0 eM0 vc6 inlX6 18 (by decide) w_fl_RX6_62_AtomicThreadsModel_wrote_I rfl dX6_commit_107 ?_
        refine lv_bipush (v := 8) hx hb dX6_commit_110 (by decide) ?_
        refine lv_iload_n hx hb dX6_commit_112 rfl (lv_at hl 1 rfl) ?_
        refine lv_imul hx hb dX6_commit_113 ?_
        refine lv_iload_n hx hb dX6_commit_114 rfl (lv_at hl 2 rfl) ?_
        refine lv_iadd hx hb dX6_commit_115 ?_
        obtain ⟨g20, hf⟩ := gd_some hf
        refine r_iald C w iM19 aM19 g20 dX6_commit_116 ?_
        obtain ⟨V23, hc21, hf⟩ := ob_some hf
        refine k_V w (q_V C w (c_X6_changed ok hc21) wy_X6_changed wi_X6_changed w_ml_RX6_136_yX6_changed iM0 eM0 vc6 rfl rfl ⟨Nat.le_of_ble_eq_true rfl, Nat.le_of_ble_eq_true rfl⟩ rfl hl.1 rfl (Nat.le_of_ble_eq_true rfl) dX6_commit_117 ⟨Nat.le_refl _, Nat.le_refl _⟩) (fun H locs w => ?_)
        refine lv_iinc (v := (x3 + 1)) hx hb dX6_commit_120 hl (k := 2) rfl (by rfl) (by decide) rfl (fun ls hl => ?_)
        refine lv_goto (tgt := 84) hx hb dX6_commit_123 (by decide) ?_
        exact ih w (lv_sub hl [1, 2, 0] rfl) hf kk
set_option maxHeartbeats 4000000 in
set_option maxRecDepth 100000 in
theorem jX6_commit_J72 (C : Cx cy D EM idM a p s m args c RX6 cX6_commit 4) (hr : meth.sig.returnType = some .int) (hlk : meth.locks = false) {V : Sto} {r : Int32} {V' : Sto} {x1 : Int32} {y1 : Int32} {H : Heap} {locs : List Loc} {ls : Array Slot} (w : Wd cy D EM idM a V s H locs) (hl : lv_has ls 4 [(0, .ref (a (0, 0, 0))), (1, .int x1)]) (hf : fX6_commit_J72 V x1 y1 = some (r, V')) : W p l e rm_X6_commit s m args below meth c H locs 0 0 (MQ below (QI cy D EM idM a r V') args s 0 0 (inA idM a)) (F0 m 72 ls [.int y1, .ref (a (0, 0, 0))]) := by
  have hx := C.1.1
  have hb := C.1.2.1
  have ok := C.2.2.2
  rw [fX6_commit_J72] at hf
  refine r_put C w iM0 eM0 vc6 inlX6 tyX6 tyX6_ok nmX6 11 (by decide) w_fl_RX6_126_AtomicThreadsModel_commits_I rfl pd_I uM0_11 (Nat.le_of_ble_eq_true rfl) dX6_commit_72 (fun H locs w => ?_)
  obtain ⟨V12, e13, hf⟩ := bnd_some hf
  rw [← e13] at w
  refine lv_aload_n hx hb dX6_commit_75 rfl (lv_at hl 0 rfl) ?_
  refine r_get C w iM0 eM0 vc6 inlX6 12 (by decide) w_fl_RX6_43_AtomicThreadsModel_attempt_Z rfl dX6_commit_76 ?_
  refine lv_iload_n hx hb dX6_commit_79 rfl (lv_at hl 1 rfl) ?_
  refine lv_iconst (v := 0) hx hb dX6_commit_80 (by decide) ?_
  obtain ⟨g14, hf⟩ := gd_some hf
  refine r_zast C w iM13 aM13 g14 dX6_commit_81 (fun H locs w => ?_)
  obtain ⟨V15, e16, hf⟩ := bnd_some hf
  rw [← e16] at w
  refine lv_iconst (v := 0) hx hb dX6_commit_82 (by decide) ?_
  refine lv_istore_n hx hb dX6_commit_83 rfl hl (by decide) rfl (fun ls hl => ?_)
  obtain ⟨V25, hc24, hf⟩ := ob_some hf
  refine jX6_commit_L84 C hr hlk 40 w (lv_sub hl [1, 2, 0] rfl) hc24 (fun H locs ls w hl => ?_)
  refine lv_aload_n hx hb dX6_commit_126 rfl (lv_at hl 0 rfl) ?_
  refine lv_iload_n hx hb dX6_commit_127 rfl (lv_at hl 1 rfl) ?_
  obtain ⟨V28, hc26, hf⟩ := ob_some hf
  refine k_V w (q_V C w (c_X6_endAttempt ok hc26) wy_X6_endAttempt wi_X6_endAttempt w_ml_RX6_115_yX6_endAttempt iM0 eM0 vc6 rfl rfl ⟨Nat.le_of_ble_eq_true rfl, Nat.le_of_ble_eq_true rfl⟩ rfl hl.1 rfl (Nat.le_of_ble_eq_true rfl) dX6_commit_128 ⟨Nat.le_refl _, Nat.le_refl _⟩) (fun H locs w => ?_)
  refine lv_aload_n hx hb dX6_commit_131 rfl (lv_at hl 0 rfl) ?_
  refine lv_iload_n hx hb dX6_commit_132 rfl (lv_at hl 1 rfl) ?_
  refine lv_aload_n hx hb dX6_commit_133 rfl (lv_at hl 0 rfl) ?_
  refine r_get C w iM0 eM0 vc6 inlX6 5 (by decide) w_fl_RX6_25_AtomicThreadsModel_place_I rfl dX6_commit_134 ?_
  refine lv_iload_n hx hb dX6_commit_137 rfl (lv_at hl 1 rfl) ?_
  obtain ⟨g29, hf⟩ := gd_some hf
  refine r_iald C w iM6 aM6 g29 dX6_commit_138 ?_
  refine lv_iconst (v := 1) hx hb dX6_commit_139 (by decide) ?_
  refine lv_iadd hx hb dX6_commit_140 ?_
  obtain ⟨V32, hc30, hf⟩ := ob_some hf
  refine k_V w (q_V C w (c_X6_go ok hc30) wy_X6_go wi_X6_go w_ml_RX6_119_yX6_go iM0 eM0 vc6 rfl rfl ⟨Nat.le_of_ble_eq_true rfl, Nat.le_of_ble_eq_true rfl⟩ rfl hl.1 rfl (Nat.le_of_ble_eq_true rfl) dX6_commit_141 ⟨Nat.le_refl _, Nat.le_refl _⟩) (fun H locs w => ?_)
  refine lv_iconst (v := 1) hx hb dX6_commit_144 (by decide) ?_
  cases hf
  exact r_iret C hr hlk w dX6_commit_145
set_option maxHeartbeats 4000000 in
set_option maxRecDepth 100000 in
theorem c_X6_commit (ok : Wok EM idM a) {V : Sto} {r : Int32} {V' : Sto} {x1 : Int32} (hf : fX6_commit V x1 = some (r, V')) : MtI l cy D EM idM a yX6_commit cX6_commit 4 .int rm_X6_commit [.ref (a (0, 0, 0)), .int x1] V r V' := by
  refine ofM (by decide +kernel) ok (Nat.le_of_ble_eq_true rfl) (fun p e s m args below meth c C hr hlk w ls hl => ?_)
  have hx := C.1.1
  have hb := C.1.2.1
  rw [fX6_commit] at hf
  skip
  refine lv_aload_n hx hb dX6_commit_0 rfl (lv_at hl 0 rfl) ?_
  refine lv_iload_n hx hb dX6_commit_1 rfl (lv_at hl 1 rfl) ?_
  obtain ⟨r2, hc1, hf⟩ := ob_some hf
  refine k_I w (q_V C w (c_X6_outOfDate ok hc1) wy_X6_outOfDate wi_X6_outOfDate w_ml_RX6_130_yX6_outOfDate iM0 eM0 vc6 rfl rfl ⟨Nat.le_of_ble_eq_true rfl, Nat.le_of_ble_eq_true rfl⟩ rfl hl.1 rfl (Nat.le_of_ble_eq_true rfl) dX6_commit_2 ⟨Nat.le_refl _, Nat.le_refl _⟩) (fun H locs w => ?_)
  refine lv_if_eq (tgt := 14) hx hb dX6_commit_5 (by decide) (fun c4 => ?_) (fun c4 => ?_)
  · rw [if_pos c4] at hf
    refine lv_iconst (v := 0) hx hb dX6_commit_14 (by decide) ?_
    refine lv_istore_n hx hb dX6_commit_15 rfl hl (by decide) rfl (fun ls hl => ?_)
    refine lv_iconst (v := 0) hx hb dX6_commit_16 (by decide) ?_
    refine lv_istore_n hx hb dX6_commit_17 rfl hl (by decide) rfl (fun ls hl => ?_)
    obtain ⟨z10, hc9, hf⟩ := ob_some hf
    refine jX6_commit_L18 C hr hlk 40 w (lv_sub hl [2, 3, 1, 0] rfl) hc9 (fun H locs ls w hl => ?_)
    refine lv_aload_n hx hb dX6_commit_54 rfl (lv_at hl 0 rfl) ?_
    refine lv_iload_n hx hb dX6_commit_55 rfl (lv_at hl 2 rfl) ?_
    refine lv_if_eq (tgt := 68) hx hb dX6_commit_56 (by decide) (fun c11 => ?_) (fun c11 => ?_)
    · rw [if_pos c11] at hf
      refine lv_aload_n hx hb dX6_commit_68 rfl (lv_at hl 0 rfl) ?_
      refine r_get C w iM0 eM0 vc6 inlX6 11 (by decide) w_fl_RX6_126_AtomicThreadsModel_commits_I rfl dX6_commit_69 ?_
      exact jX6_commit_J72 C hr hlk w (lv_sub hl [0, 1] rfl) hf
    · rw [if_neg c11] at hf
      refine lv_aload_n hx hb dX6_commit_59 rfl (lv_at hl 0 rfl) ?_
      refine r_get C w iM0 eM0 vc6 inlX6 11 (by decide) w_fl_RX6_126_AtomicThreadsModel_commits_I rfl dX6_commit_60 ?_
      refine lv_iconst (v := 1) hx hb dX6_commit_63 (by decide) ?_
      refine lv_iadd hx hb dX6_commit_64 ?_
      refine lv_goto (tgt := 72) hx hb dX6_commit_65 (by decide) ?_
      exact jX6_commit_J72 C hr hlk w (lv_sub hl [0, 1] rfl) hf
  · rw [if_neg c4] at hf
    refine lv_aload_n hx hb dX6_commit_8 rfl (lv_at hl 0 rfl) ?_
    refine lv_iload_n hx hb dX6_commit_9 rfl (lv_at hl 1 rfl) ?_
    obtain ⟨r34, V35, hc33, hf⟩ := ob2_some hf
    refine k_I w (q_V C w (c_X6_discard ok hc33) wy_X6_discard wi_X6_discard w_ml_RX6_133_yX6_discard iM0 eM0 vc6 rfl rfl ⟨Nat.le_of_ble_eq_true rfl, Nat.le_of_ble_eq_true rfl⟩ rfl hl.1 rfl (Nat.le_of_ble_eq_true rfl) dX6_commit_10 ⟨Nat.le_refl _, Nat.le_refl _⟩) (fun H locs w => ?_)
    cases hf
    exact r_iret C hr hlk w dX6_commit_13
set_option maxHeartbeats 4000000 in
set_option maxRecDepth 100000 in
theorem jX6_beginPart_L26 (C : Cx cy D EM idM a p s m args c RX6 cX6_beginPart 4) (hr : meth.sig.returnType = none) (hlk : meth.locks = false) {Q : State → Prop} : ∀ (n : Nat) {V V' : Sto} {x1 : Int32} {x2 : Int32} {x3 : Int32} {H : Heap} {locs : List Loc} {ls : Array Slot}, Wd cy D EM idM a V s H locs → lv_has ls 4 [(0, .ref (a (0, 0, 0))), (1, .int x1), (2, .int x2), (3, .int x3)] → fX6_beginPart_L26 n V x1 x2 x3 = some (V') → (∀ (H1 : Heap) (locs1 : List Loc) (ls1 : Array Slot), Wd cy D EM idM a V' s H1 locs1 → lv_has ls1 4 [(0, .ref (a (0, 0, 0))), (1, .int x1), (2, .int x2)] → W p l e rm_X6_beginPart s m args below meth c H1 locs1 0 0 (Q) (F0 m 57 ls1 [])) → W p l e rm_X6_beginPart s m args below meth c H locs 0 0 (Q) (F0 m 26 ls []) := by
  have hx := C.1.1
  have hb := C.1.2.1
  have ok := C.2.2.2
  intro n
  induction n with
  | zero => intro V V' x1 x2 x3  H locs ls w hl hf kk; cases hf
  | succ n ih =>
    intro V V' x1 x2 x3  H locs ls w hl hf kk
    rw [fX6_beginPart_L26] at hf
    refine lv_iload_n hx hb dX6_beginPart_26 rfl (lv_at hl 3 rfl) ?_
    refine lv_iconst (v := 4) hx hb dX6_beginPart_27 (by decide) ?_
    refine lv_icmp_ge (tgt := 57) hx hb dX6_beginPart_28 (by decide) (fun c6 => ?_) (fun c6 => ?_)
    · rw [if_pos c6] at hf
      cases hf
      exact kk _ _ _ w (lv_sub hl [0, 1, 2] rfl)
    · rw [if_neg c6] at hf
      refine lv_aload_n hx hb dX6_beginPart_31 rfl (lv_at hl 0 rfl) ?_
      refine r_get C w iM0 eM0 vc6 inlX6 21 (by decide) w_fl_RX6_71_AtomicThreadsModel_partRegister_I rfl dX6_beginPart_32 ?_
      refine lv_iconst (v := 4) hx hb dX6_beginPart_35 (by decide) ?_
      refine lv_iload_n hx hb dX6_beginPart_36 rfl (lv_at hl 2 rfl) ?_
      refine lv_imul hx hb dX6_beginPart_37 ?_
      refine lv_iload_n hx hb dX6_beginPart_38 rfl (lv_at hl 3 rfl) ?_
      refine lv_iadd hx hb dX6_beginPart_39 ?_
      refine lv_aload_n hx hb dX6_beginPart_40 rfl (lv_at hl 0 rfl) ?_
      refine r_get C w iM0 eM0 vc6 inlX6 7 (by decide) w_fl_RX6_31_AtomicThreadsModel_register_I rfl dX6_beginPart_41 ?_
      refine lv_iconst (v := 4) hx hb dX6_beginPart_44 (by decide) ?_
      refine lv_iload_n hx hb dX6_beginPart_45 rfl (lv_at hl 1 rfl) ?_
      refine lv_imul hx hb dX6_beginPart_46 ?_
      refine lv_iload_n hx hb dX6_beginPart_47 rfl (lv_at hl 3 rfl) ?_
      refine lv_iadd hx hb dX6_beginPart_48 ?_
      obtain ⟨g7, hf⟩ := gd_some hf
      refine r_iald C w iM8 aM8 g7 dX6_beginPart_49 ?_
      obtain ⟨g8, hf⟩ := gd_some hf
      refine r_iast C w iM22 aM22 g8 dX6_beginPart_50 (fun H locs w => ?_)
      obtain ⟨V9, e10, hf⟩ := bnd_some hf
      rw [← e10] at w
      refine lv_iinc (v := (x3 + 1)) hx hb dX6_beginPart_51 hl (k := 3) rfl (by rfl) (by decide) rfl (fun ls hl => ?_)
      refine lv_goto (tgt := 26) hx hb dX6_beginPart_54 (by decide) ?_
      exact ih w (lv_sub hl [1, 2, 3, 0] rfl) hf kk
set_option maxHeartbeats 4000000 in
set_option maxRecDepth 100000 in
theorem jX6_beginPart_L59 (C : Cx cy D EM idM a p s m args c RX6 cX6_beginPart 4) (hr : meth.sig.returnType = none) (hlk : meth.locks = false) {Q : State → Prop} : ∀ (n : Nat) {V V' : Sto} {x1 : Int32} {x2 : Int32} {x3 : Int32} {H : Heap} {locs : List Loc} {ls : Array Slot}, Wd cy D EM idM a V s H locs → lv_has ls 4 [(0, .ref (a (0, 0, 0))), (1, .int x1), (2, .int x2), (3, .int x3)] → fX6_beginPart_L59 n V x1 x2 x3 = some (V') → (∀ (H1 : Heap) (locs1 : List Loc) (ls1 : Array Slot), Wd cy D EM idM a V' s H1 locs1 → lv_has ls1 4 [(0, .ref (a (0, 0, 0))), (1, .int x1)] → W p l e rm_X6_beginPart s m args below meth c H1 locs1 0 0 (Q) (F0 m 115 ls1 [])) → W p l e rm_X6_beginPart s m args below meth c H locs 0 0 (Q) (F0 m 59 ls []) := by
  have hx := C.1.1
  have hb := C.1.2.1
  have ok := C.2.2.2
  intro n
  induction n with
  | zero => intro V V' x1 x2 x3  H locs ls w hl hf kk; cases hf
  | succ n ih =>
    intro V V' x1 x2 x3  H locs ls w hl hf kk
    rw [fX6_beginPart_L59] at hf
    refine lv_iload_n hx hb dX6_beginPart_59 rfl (lv_at hl 3 rfl) ?_
    refine lv_bipush (v := 8) hx hb dX6_beginPart_60 (by decide) ?_
    refine lv_icmp_ge (tgt := 115) hx hb dX6_beginPart_62 (by decide) (fun c13 => ?_) (fun c13 => ?_)
    · rw [if_pos c13] at hf
      cases hf
      exact kk _ _ _ w (lv_sub hl [0, 1] rfl)
    · rw [if_neg c13] at hf
      refine lv_aload_n hx hb dX6_beginPart_65 rfl (lv_at hl 0 rfl) ?_
      refine r_get C w iM0 eM0 vc6 inlX6 22 (by decide) w_fl_RX6_74_AtomicThreadsModel_partWritten_Z rfl dX6_beginPart_66 ?_
      refine lv_bipush (v := 8) hx hb dX6_beginPart_69 (by decide) ?_
      refine lv_iload_n hx hb dX6_beginPart_71 rfl (lv_at hl 2 rfl) ?_
      refine lv_imul hx hb dX6_beginPart_72 ?_
      refine lv_iload_n hx hb dX6_beginPart_73 rfl (lv_at hl 3 rfl) ?_
      refine lv_iadd hx hb dX6_beginPart_74 ?_
      refine lv_aload_n hx hb dX6_beginPart_75 rfl (lv_at hl 0 rfl) ?_
      refine r_get C w iM0 eM0 vc6 inlX6 17 (by decide) w_fl_RX6_59_AtomicThreadsModel_written_Z rfl dX6_beginPart_76 ?_
      refine lv_bipush (v := 8) hx hb dX6_beginPart_79 (by decide) ?_
      refine lv_iload_n hx hb dX6_beginPart_81 rfl (lv_at hl 1 rfl) ?_
      refine lv_imul hx hb dX6_beginPart_82 ?_
      refine lv_iload_n hx hb dX6_beginPart_83 rfl (lv_at hl 3 rfl) ?_
      refine lv_iadd hx hb dX6_beginPart_84 ?_
      obtain ⟨g14, hf⟩ := gd_some hf
      refine r_zald C w iM18 aM18 g14 dX6_beginPart_85 ?_
      obtain ⟨g15, hf⟩ := gd_some hf
      refine r_zast C w iM23 aM23 g15 dX6_beginPart_86 (fun H locs w => ?_)
      obtain ⟨V16, e17, hf⟩ := bnd_some hf
      rw [← e17] at w
      refine lv_aload_n hx hb dX6_beginPart_87 rfl (lv_at hl 0 rfl) ?_
      refine r_get C w iM0 eM0 vc6 inlX6 23 (by decide) w_fl_RX6_77_AtomicThreadsModel_partWrote_I rfl dX6_beginPart_88 ?_
      refine lv_bipush (v := 8) hx hb dX6_beginPart_91 (by decide) ?_
      refine lv_iload_n hx hb dX6_beginPart_93 rfl (lv_at hl 2 rfl) ?_
      refine lv_imul hx hb dX6_beginPart_94 ?_
      refine lv_iload_n hx hb dX6_beginPart_95 rfl (lv_at hl 3 rfl) ?_
      refine lv_iadd hx hb dX6_beginPart_96 ?_
      refine lv_aload_n hx hb dX6_beginPart_97 rfl (lv_at hl 0 rfl) ?_
      refine r_get C w iM0 eM0 vc6 inlX6 18 (by decide) w_fl_RX6_62_AtomicThreadsModel_wrote_I rfl dX6_beginPart_98 ?_
      refine lv_bipush (v := 8) hx hb dX6_beginPart_101 (by decide) ?_
      refine lv_iload_n hx hb dX6_beginPart_103 rfl (lv_at hl 1 rfl) ?_
      refine lv_imul hx hb dX6_beginPart_104 ?_
      refine lv_iload_n hx hb dX6_beginPart_105 rfl (lv_at hl 3 rfl) ?_
      refine lv_iadd hx hb dX6_beginPart_106 ?_
      obtain ⟨g18, hf⟩ := gd_some hf
      refine r_iald C w iM19 aM19 g18 dX6_beginPart_107 ?_
      obtain ⟨g19, hf⟩ := gd_some hf
      refine r_iast C w iM24 aM24 g19 dX6_beginPart_108 (fun H locs w => ?_)
      obtain ⟨V20, e21, hf⟩ := bnd_some hf
      rw [← e21] at w
      refine lv_iinc (v := (x3 + 1)) hx hb dX6_beginPart_109 hl (k := 3) rfl (by rfl) (by decide) rfl (fun ls hl => ?_)
      refine lv_goto (tgt := 59) hx hb dX6_beginPart_112 (by decide) ?_
      exact ih w (lv_sub hl [1, 2, 3, 0] rfl) hf kk
set_option maxHeartbeats 4000000 in
set_option maxRecDepth 100000 in
theorem c_X6_beginPart (ok : Wok EM idM a) {V : Sto} {V' : Sto} {x1 : Int32} (hf : fX6_beginPart V x1 = some V') : MtV l cy D EM idM a yX6_beginPart cX6_beginPart 4 rm_X6_beginPart [.ref (a (0, 0, 0)), .int x1] V V' := by
  refine ofM (by decide +kernel) ok (Nat.le_of_ble_eq_true rfl) (fun p e s m args below meth c C hr hlk w ls hl => ?_)
  have hx := C.1.1
  have hb := C.1.2.1
  rw [fX6_beginPart] at hf
  skip
  refine lv_bipush (v := 6) hx hb dX6_beginPart_0 (by decide) ?_
  refine lv_iload_n hx hb dX6_beginPart_2 rfl (lv_at hl 1 rfl) ?_
  refine lv_imul hx hb dX6_beginPart_3 ?_
  refine lv_aload_n hx hb dX6_beginPart_4 rfl (lv_at hl 0 rfl) ?_
  refine r_get C w iM0 eM0 vc6 inlX6 19 (by decide) w_fl_RX6_65_AtomicThreadsModel_parts_I rfl dX6_beginPart_5 ?_
  refine lv_iload_n hx hb dX6_beginPart_8 rfl (lv_at hl 1 rfl) ?_
  obtain ⟨g1, hf⟩ := gd_some hf
  refine r_iald C w iM20 aM20 g1 dX6_beginPart_9 ?_
  refine lv_iadd hx hb dX6_beginPart_10 ?_
  refine lv_istore_n hx hb dX6_beginPart_11 rfl hl (by decide) rfl (fun ls hl => ?_)
  refine lv_aload_n hx hb dX6_beginPart_12 rfl (lv_at hl 1 rfl) ?_
  refine r_get C w iM0 eM0 vc6 inlX6 20 (by decide) w_fl_RX6_68_AtomicThreadsModel_opener_I rfl dX6_beginPart_13 ?_
  refine lv_iload_n hx hb dX6_beginPart_16 rfl (lv_at hl 0 rfl) ?_
  refine lv_aload_n hx hb dX6_beginPart_17 rfl (lv_at hl 1 rfl) ?_
  refine r_get C w iM0 eM0 vc6 inlX6 5 (by decide) w_fl_RX6_25_AtomicThreadsModel_place_I rfl dX6_beginPart_18 ?_
  refine lv_iload_n hx hb dX6_beginPart_21 rfl (lv_at hl 2 rfl) ?_
  obtain ⟨g2, hf⟩ := gd_some hf
  refine r_iald C w iM6 aM6 g2 dX6_beginPart_22 ?_
  obtain ⟨g3, hf⟩ := gd_some hf
  refine r_iast C w iM21 aM21 g3 dX6_beginPart_23 (fun H locs w => ?_)
  obtain ⟨V4, e5, hf⟩ := bnd_some hf
  rw [← e5] at w
  refine lv_iconst (v := 0) hx hb dX6_beginPart_24 (by decide) ?_
  refine lv_istore_n hx hb dX6_beginPart_25 rfl hl (by decide) rfl (fun ls hl => ?_)
  obtain ⟨V12, hc11, hf⟩ := ob_some hf
  refine jX6_beginPart_L26 C hr hlk 40 w (lv_sub hl [2, 3, 1, 0] rfl) hc11 (fun H locs ls w hl => ?_)
  refine lv_iconst (v := 0) hx hb dX6_beginPart_57 (by decide) ?_
  refine lv_istore_n hx hb dX6_beginPart_58 rfl hl (by decide) rfl (fun ls hl => ?_)
  obtain ⟨V23, hc22, hf⟩ := ob_some hf
  refine jX6_beginPart_L59 C hr hlk 40 w (lv_sub hl [1, 2, 3, 0] rfl) hc22 (fun H locs ls w hl => ?_)
  refine lv_aload_n hx hb dX6_beginPart_115 rfl (lv_at hl 0 rfl) ?_
  refine r_get C w iM0 eM0 vc6 inlX6 19 (by decide) w_fl_RX6_65_AtomicThreadsModel_parts_I rfl dX6_beginPart_116 ?_
  refine lv_iload_n hx hb dX6_beginPart_119 rfl (lv_at hl 1 rfl) ?_
  refine lv_dup2_11 hx hb dX6_beginPart_120 rfl rfl ?_
  obtain ⟨g24, hf⟩ := gd_some hf
  refine r_iald C w iM20 aM20 g24 dX6_beginPart_121 ?_
  refine lv_iconst (v := 1) hx hb dX6_beginPart_122 (by decide) ?_
  refine lv_iadd hx hb dX6_beginPart_123 ?_
  obtain ⟨g25, hf⟩ := gd_some hf
  refine r_iast C w iM20 aM20 g25 dX6_beginPart_124 (fun H locs w => ?_)
  obtain ⟨V26, e27, hf⟩ := bnd_some hf
  rw [← e27] at w
  refine lv_aload_n hx hb dX6_beginPart_125 rfl (lv_at hl 0 rfl) ?_
  refine lv_iload_n hx hb dX6_beginPart_126 rfl (lv_at hl 1 rfl) ?_
  refine lv_aload_n hx hb dX6_beginPart_127 rfl (lv_at hl 0 rfl) ?_
  refine r_get C w iM0 eM0 vc6 inlX6 5 (by decide) w_fl_RX6_25_AtomicThreadsModel_place_I rfl dX6_beginPart_128 ?_
  refine lv_iload_n hx hb dX6_beginPart_131 rfl (lv_at hl 1 rfl) ?_
  obtain ⟨g28, hf⟩ := gd_some hf
  refine r_iald C w iM6 aM6 g28 dX6_beginPart_132 ?_
  refine lv_iconst (v := 1) hx hb dX6_beginPart_133 (by decide) ?_
  refine lv_iadd hx hb dX6_beginPart_134 ?_
  obtain ⟨V31, hc29, hf⟩ := ob_some hf
  refine k_V w (q_V C w (c_X6_go ok hc29) wy_X6_go wi_X6_go w_ml_RX6_119_yX6_go iM0 eM0 vc6 rfl rfl ⟨Nat.le_of_ble_eq_true rfl, Nat.le_of_ble_eq_true rfl⟩ rfl hl.1 rfl (Nat.le_of_ble_eq_true rfl) dX6_beginPart_135 ⟨Nat.le_refl _, Nat.le_refl _⟩) (fun H locs w => ?_)
  cases hf
  exact r_vret C hr hlk w dX6_beginPart_138
end S32_metM02
