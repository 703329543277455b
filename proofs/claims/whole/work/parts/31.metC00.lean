section S31_metC00
variable {p : Program} {l : Launch} {e : Env} {R : Room} {s : State} {m : MethodId} {args : Array Value} {below : List Frame} {meth : Method} {c : Code} {cy : Nat → ClassId} {D : va_G} {a : Id3 → Nat}
set_option maxHeartbeats 4000000 in
set_option maxRecDepth 100000 in
theorem c_X1_countCommit (ok : Wok EC idC a) {V : Sto} {V' : Sto} (hf : fX1_countCommit V = some V') : MtV l cy D EC idC a yX1_countCommit cX1_countCommit 1 rm_X1_countCommit [.ref (a (1, 0, 0))] V V' := by
  refine ofM (by decide +kernel) ok (Nat.le_of_ble_eq_true rfl) (fun p e s m args below meth c C hr hlk w ls hl => ?_)
  have hx := C.1.1
  have hb := C.1.2.1
  rw [fX1_countCommit] at hf
  skip
  refine lv_aload_n hx hb dX1_countCommit_0 rfl (lv_at hl 0 rfl) ?_
  refine lv_dup hx hb dX1_countCommit_1 rfl ?_
  refine r_get C w iC1 eC1 vc1 inlX1 2 (by decide) w_fl_RX1_18_Memory_commitCount_I rfl dX1_countCommit_2 ?_
  refine lv_iconst (v := 1) hx hb dX1_countCommit_5 (by decide) ?_
  refine lv_iadd hx hb dX1_countCommit_6 ?_
  refine r_put C w iC1 eC1 vc1 inlX1 tyX1 tyX1_ok nmX1 2 (by decide) w_fl_RX1_18_Memory_commitCount_I rfl pd_I uC1_2 (Nat.le_of_ble_eq_true rfl) dX1_countCommit_7 (fun H locs w => ?_)
  obtain ⟨V1, e2, hf⟩ := bnd_some hf
  rw [← e2] at w
  cases hf
  exact r_vret C hr hlk w dX1_countCommit_10
set_option maxHeartbeats 4000000 in
set_option maxRecDepth 100000 in
theorem c_X5_isVariable (ok : Wok EC idC a) {V : Sto} {r : Int32} {x0 : Int32} (hf : fX5_isVariable V x0 = some r) : MtI l cy D EC idC a yX5_isVariable cX5_isVariable 1 .boolean rm_X5_isVariable [.int x0] V r V := by
  refine ofM (by decide +kernel) ok (Nat.le_of_ble_eq_true rfl) (fun p e s m args below meth c C hr hlk w ls hl => ?_)
  have hx := C.1.1
  have hb := C.1.2.1
  rw [fX5_isVariable] at hf
  skip
  refine lv_iload_n hx hb dX5_isVariable_0 rfl (lv_at hl 0 rfl) ?_
  refine lv_if_lt (tgt := 14) hx hb dX5_isVariable_1 (by decide) (fun c1 => ?_) (fun c1 => ?_)
  · rw [if_pos c1] at hf
    refine lv_iconst (v := 0) hx hb dX5_isVariable_14 (by decide) ?_
    cases hf
    exact r_zret C hr hlk w (by decide) dX5_isVariable_15
  · rw [if_neg c1] at hf
    refine lv_iload_n hx hb dX5_isVariable_4 rfl (lv_at hl 0 rfl) ?_
    refine lv_bipush (v := 8) hx hb dX5_isVariable_5 (by decide) ?_
    refine lv_icmp_ge (tgt := 14) hx hb dX5_isVariable_7 (by decide) (fun c2 => ?_) (fun c2 => ?_)
    · rw [if_pos c2] at hf
      refine lv_iconst (v := 0) hx hb dX5_isVariable_14 (by decide) ?_
      cases hf
      exact r_zret C hr hlk w (by decide) dX5_isVariable_15
    · rw [if_neg c2] at hf
      refine lv_iconst (v := 1) hx hb dX5_isVariable_10 (by decide) ?_
      refine lv_goto (tgt := 15) hx hb dX5_isVariable_11 (by decide) ?_
      cases hf
      exact r_zret C hr hlk w (by decide) dX5_isVariable_15
set_option maxHeartbeats 4000000 in
set_option maxRecDepth 100000 in
theorem c_X1_change (ok : Wok EC idC a) {V : Sto} {V' : Sto} {x1 : Int32} {x2 : Int32} (hf : fX1_change V x1 x2 = some V') : MtV l cy D EC idC a yX1_change cX1_change 3 rm_X1_change [.ref (a (1, 0, 0)), .int x1, .int x2] V V' := by
  refine ofM (by decide +kernel) ok (Nat.le_of_ble_eq_true rfl) (fun p e s m args below meth c C hr hlk w ls hl => ?_)
  have hx := C.1.1
  have hb := C.1.2.1
  rw [fX1_change] at hf
  skip
  refine lv_iload_n hx hb dX1_change_0 rfl (lv_at hl 1 rfl) ?_
  obtain ⟨r2, hc1, hf⟩ := ob_some hf
  refine k_I w (q_SN C w (c_X5_isVariable ok hc1) wy_X5_isVariable w_sta_yX5_isVariable nw_m_X1_22 rfl rfl ⟨Nat.le_of_ble_eq_true rfl, Nat.le_of_ble_eq_true rfl⟩ rfl hl.1 rfl (Nat.le_of_ble_eq_true rfl) dX1_change_1 ⟨Nat.le_refl _, Nat.le_refl _⟩) (fun H locs w => ?_)
  refine lv_if_eq (tgt := 24) hx hb dX1_change_4 (by decide) (fun c4 => ?_) (fun c4 => ?_)
  · rw [if_pos c4] at hf
    cases hf
    exact r_vret C hr hlk w dX1_change_24
  · rw [if_neg c4] at hf
    refine lv_aload_n hx hb dX1_change_7 rfl (lv_at hl 0 rfl) ?_
    refine r_get C w iC1 eC1 vc1 inlX1 0 (by decide) w_fl_RX1_9_Memory_values_I rfl dX1_change_8 ?_
    refine lv_iload_n hx hb dX1_change_11 rfl (lv_at hl 1 rfl) ?_
    refine lv_iload_n hx hb dX1_change_12 rfl (lv_at hl 2 rfl) ?_
    obtain ⟨g5, hf⟩ := gd_some hf
    refine r_iast C w iC2 aC2 g5 dX1_change_13 (fun H locs w => ?_)
    obtain ⟨V6, e7, hf⟩ := bnd_some hf
    rw [← e7] at w
    refine lv_aload_n hx hb dX1_change_14 rfl (lv_at hl 0 rfl) ?_
    refine r_get C w iC1 eC1 vc1 inlX1 1 (by decide) w_fl_RX1_15_Memory_versions_I rfl dX1_change_15 ?_
    refine lv_iload_n hx hb dX1_change_18 rfl (lv_at hl 1 rfl) ?_
    refine lv_aload_n hx hb dX1_change_19 rfl (lv_at hl 0 rfl) ?_
    refine r_get C w iC1 eC1 vc1 inlX1 2 (by decide) w_fl_RX1_18_Memory_commitCount_I rfl dX1_change_20 ?_
    obtain ⟨g8, hf⟩ := gd_some hf
    refine r_iast C w iC3 aC3 g8 dX1_change_23 (fun H locs w => ?_)
    obtain ⟨V9, e10, hf⟩ := bnd_some hf
    rw [← e10] at w
    cases hf
    exact r_vret C hr hlk w dX1_change_24
set_option maxHeartbeats 4000000 in
set_option maxRecDepth 100000 in
theorem jX1_hasChanged_L2 (C : Cx cy D EC idC a p s m args c RX1 cX1_hasChanged 4) (hr : meth.sig.returnType = some .boolean) (hlk : meth.locks = false) : ∀ (n : Nat) {V : Sto} {r : Int32} {x1 : Int32} {x2 : Int32} {x3 : Int32} {H : Heap} {locs : List Loc} {ls : Array Slot}, Wd cy D EC idC a V s H locs → lv_has ls 4 [(0, .ref (a (1, 0, 0))), (1, .int x1), (2, .int x2), (3, .int x3)] → fX1_hasChanged_L2 n V x1 x2 x3 = some r → W p l e rm_X1_hasChanged s m args below meth c H locs 0 0 (MQ below (QI cy D EC idC a r V) args s 0 0 (inA idC a)) (F0 m 2 ls []) := by
  have hx := C.1.1
  have hb := C.1.2.1
  have ok := C.2.2.2
  intro n
  induction n with
  | zero => intro V r x1 x2 x3 H locs ls w hl hf; cases hf
  | succ n ih =>
    intro V r x1 x2 x3 H locs ls w hl hf
    rw [fX1_hasChanged_L2] at hf
    refine lv_iload_n hx hb dX1_hasChanged_2 rfl (lv_at hl 3 rfl) ?_
    refine lv_bipush (v := 8) hx hb dX1_hasChanged_3 (by decide) ?_
    refine lv_icmp_ge (tgt := 34) hx hb dX1_hasChanged_5 (by decide) (fun c1 => ?_) (fun c1 => ?_)
    · rw [if_pos c1] at hf
      refine lv_iconst (v := 0) hx hb dX1_hasChanged_34 (by decide) ?_
      cases hf
      exact r_zret C hr hlk w (by decide) dX1_hasChanged_35
    · rw [if_neg c1] at hf
      refine lv_iload_n hx hb dX1_hasChanged_8 rfl (lv_at hl 1 rfl) ?_
      refine lv_iconst (v := 1) hx hb dX1_hasChanged_9 (by decide) ?_
      refine lv_iload_n hx hb dX1_hasChanged_10 rfl (lv_at hl 3 rfl) ?_
      refine lv_ishl hx hb dX1_hasChanged_11 ?_
      refine lv_iand hx hb dX1_hasChanged_12 ?_
      refine lv_if_eq (tgt := 28) hx hb dX1_hasChanged_13 (by decide) (fun c2 => ?_) (fun c2 => ?_)
      · rw [if_pos c2] at hf
        refine lv_iinc (v := (x3 + 1)) hx hb dX1_hasChanged_28 hl (k := 3) rfl (by rfl) (by decide) rfl (fun ls hl => ?_)
        refine lv_goto (tgt := 2) hx hb dX1_hasChanged_31 (by decide) ?_
        exact ih w (lv_sub hl [1, 2, 3, 0] rfl) hf
      · rw [if_neg c2] at hf
        refine lv_aload_n hx hb dX1_hasChanged_16 rfl (lv_at hl 0 rfl) ?_
        refine r_get C w iC1 eC1 vc1 inlX1 1 (by decide) w_fl_RX1_15_Memory_versions_I rfl dX1_hasChanged_17 ?_
        refine lv_iload_n hx hb dX1_hasChanged_20 rfl (lv_at hl 3 rfl) ?_
        obtain ⟨g3, hf⟩ := gd_some hf
        refine r_iald C w iC3 aC3 g3 dX1_hasChanged_21 ?_
        refine lv_iload_n hx hb dX1_hasChanged_22 rfl (lv_at hl 2 rfl) ?_
        refine lv_icmp_le (tgt := 28) hx hb dX1_hasChanged_23 (by decide) (fun c4 => ?_) (fun c4 => ?_)
        · rw [if_pos c4] at hf
          refine lv_iinc (v := (x3 + 1)) hx hb dX1_hasChanged_28 hl (k := 3) rfl (by rfl) (by decide) rfl (fun ls hl => ?_)
          refine lv_goto (tgt := 2) hx hb dX1_hasChanged_31 (by decide) ?_
          exact ih w (lv_sub hl [1, 2, 3, 0] rfl) hf
        · rw [if_neg c4] at hf
          refine lv_iconst (v := 1) hx hb dX1_hasChanged_26 (by decide) ?_
          cases hf
          exact r_zret C hr hlk w (by decide) dX1_hasChanged_27
set_option maxHeartbeats 4000000 in
set_option maxRecDepth 100000 in
theorem c_X1_hasChanged (ok : Wok EC idC a) {V : Sto} {r : Int32} {x1 : Int32} {x2 : Int32} (hf : fX1_hasChanged V x1 x2 = some r) : MtI l cy D EC idC a yX1_hasChanged cX1_hasChanged 4 .boolean rm_X1_hasChanged [.ref (a (1, 0, 0)), .int x1, .int x2] V r V := by
  refine ofM (by decide +kernel) ok (Nat.le_of_ble_eq_true rfl) (fun p e s m args below meth c C hr hlk w ls hl => ?_)
  have hx := C.1.1
  have hb := C.1.2.1
  rw [fX1_hasChanged] at hf
  skip
  refine lv_iconst (v := 0) hx hb dX1_hasChanged_0 (by decide) ?_
  refine lv_istore_n hx hb dX1_hasChanged_1 rfl hl (by decide) rfl (fun ls hl => ?_)
  exact jX1_hasChanged_L2 C hr hlk 40 w (lv_sub hl [1, 2, 3, 0] rfl) hf
set_option maxHeartbeats 4000000 in
set_option maxRecDepth 100000 in
theorem c_J9_floorMod_7cf53 (ok : Wok EC idC a) {V : Sto} {r : Int32} {x0 : Int32} {x1 : Int32} (hf : fJ9_floorMod_7cf53 V x0 x1 = some r) : MtI l cy D EC idC a yJ9_floorMod_7cf53 cJ9_floorMod_7cf53 3 .int rm_J9_floorMod_7cf53 [.int x0, .int x1] V r V := by
  refine ofM (by decide +kernel) ok (Nat.le_of_ble_eq_true rfl) (fun p e s m args below meth c C hr hlk w ls hl => ?_)
  have hx := C.1.1
  have hb := C.1.2.1
  rw [fJ9_floorMod_7cf53] at hf
  skip
  refine lv_iload_n hx hb dJ9_floorMod_7cf53_0 rfl (lv_at hl 0 rfl) ?_
  refine lv_iload_n hx hb dJ9_floorMod_7cf53_1 rfl (lv_at hl 1 rfl) ?_
  obtain ⟨g1, hf⟩ := gd_some hf
  refine lv_irem hx hb dJ9_floorMod_7cf53_2 (of_decide_eq_true g1) ?_
  refine lv_istore_n hx hb dJ9_floorMod_7cf53_3 rfl hl (by decide) rfl (fun ls hl => ?_)
  refine lv_iload_n hx hb dJ9_floorMod_7cf53_4 rfl (lv_at hl 1 rfl) ?_
  refine lv_iload_n hx hb dJ9_floorMod_7cf53_5 rfl (lv_at hl 2 rfl) ?_
  refine lv_ixor hx hb dJ9_floorMod_7cf53_6 ?_
  refine lv_if_ge (tgt := 18) hx hb dJ9_floorMod_7cf53_7 (by decide) (fun c2 => ?_) (fun c2 => ?_)
  · rw [if_pos c2] at hf
    refine lv_iload_n hx hb dJ9_floorMod_7cf53_18 rfl (lv_at hl 0 rfl) ?_
    cases hf
    exact r_iret C hr hlk w dJ9_floorMod_7cf53_19
  · rw [if_neg c2] at hf
    refine lv_iload_n hx hb dJ9_floorMod_7cf53_10 rfl (lv_at hl 0 rfl) ?_
    refine lv_if_eq (tgt := 18) hx hb dJ9_floorMod_7cf53_11 (by decide) (fun c3 => ?_) (fun c3 => ?_)
    · rw [if_pos c3] at hf
      refine lv_iload_n hx hb dJ9_floorMod_7cf53_18 rfl (lv_at hl 0 rfl) ?_
      cases hf
      exact r_iret C hr hlk w dJ9_floorMod_7cf53_19
    · rw [if_neg c3] at hf
      refine lv_iload_n hx hb dJ9_floorMod_7cf53_14 rfl (lv_at hl 0 rfl) ?_
      refine lv_iload_n hx hb dJ9_floorMod_7cf53_15 rfl (lv_at hl 2 rfl) ?_
      refine lv_iadd hx hb dJ9_floorMod_7cf53_16 ?_
      cases hf
      exact r_iret C hr hlk w dJ9_floorMod_7cf53_17
set_option maxHeartbeats 4000000 in
set_option maxRecDepth 100000 in
theorem c_X2_write (ok : Wok EC idC a) {V : Sto} {V' : Sto} {x1 : Int32} (hf : fX2_write V x1 = some V') : MtV l cy D EC idC a yX2_write cX2_write 2 rm_X2_write [.ref (a (4, 0, 0)), .int x1] V V' := by
  refine ofM (by decide +kernel) ok (Nat.le_of_ble_eq_true rfl) (fun p e s m args below meth c C hr hlk w ls hl => ?_)
  have hx := C.1.1
  have hb := C.1.2.1
  rw [fX2_write] at hf
  skip
  refine lv_aload_n hx hb dX2_write_0 rfl (lv_at hl 0 rfl) ?_
  refine r_get C w iC4 eC4 vc2 inlX2 0 (by decide) w_fl_RX2_9_Paper_ring_I rfl dX2_write_1 ?_
  refine lv_aload_n hx hb dX2_write_4 rfl (lv_at hl 0 rfl) ?_
  refine r_get C w iC4 eC4 vc2 inlX2 1 (by decide) w_fl_RX2_15_Paper_count_I rfl dX2_write_5 ?_
  refine lv_bipush (v := 16) hx hb dX2_write_8 (by decide) ?_
  obtain ⟨r2, hc1, hf⟩ := ob_some hf
  refine k_I w (q_S C w (c_J9_floorMod_7cf53 ok hc1) wy_J9_floorMod_7cf53 w_sta_yJ9_floorMod_7cf53 w_ml_RX2_19_yJ9_floorMod_7cf53 rfl rfl ⟨Nat.le_of_ble_eq_true rfl, Nat.le_of_ble_eq_true rfl⟩ rfl hl.1 rfl (Nat.le_of_ble_eq_true rfl) dX2_write_10 ⟨Nat.le_refl _, Nat.le_refl _⟩) (fun H locs w => ?_)
  refine lv_iload_n hx hb dX2_write_13 rfl (lv_at hl 1 rfl) ?_
  obtain ⟨g4, hf⟩ := gd_some hf
  refine r_iast C w iC5 aC5 g4 dX2_write_14 (fun H locs w => ?_)
  obtain ⟨V5, e6, hf⟩ := bnd_some hf
  rw [← e6] at w
  refine lv_aload_n hx hb dX2_write_15 rfl (lv_at hl 0 rfl) ?_
  refine lv_dup hx hb dX2_write_16 rfl ?_
  refine r_get C w iC4 eC4 vc2 inlX2 1 (by decide) w_fl_RX2_15_Paper_count_I rfl dX2_write_17 ?_
  refine lv_iconst (v := 1) hx hb dX2_write_20 (by decide) ?_
  refine lv_iadd hx hb dX2_write_21 ?_
  refine r_put C w iC4 eC4 vc2 inlX2 tyX2 tyX2_ok nmX2 1 (by decide) w_fl_RX2_15_Paper_count_I rfl pd_I uC4_1 (Nat.le_of_ble_eq_true rfl) dX2_write_22 (fun H locs w => ?_)
  obtain ⟨V7, e8, hf⟩ := bnd_some hf
  rw [← e8] at w
  cases hf
  exact r_vret C hr hlk w dX2_write_25
set_option maxHeartbeats 4000000 in
set_option maxRecDepth 100000 in
theorem c_X2_latest (ok : Wok EC idC a) {V : Sto} {r : Int32} {x1 : Int32} (hf : fX2_latest V x1 = some r) : MtI l cy D EC idC a yX2_latest cX2_latest 2 .int rm_X2_latest [.ref (a (4, 0, 0)), .int x1] V r V := by
  refine ofM (by decide +kernel) ok (Nat.le_of_ble_eq_true rfl) (fun p e s m args below meth c C hr hlk w ls hl => ?_)
  have hx := C.1.1
  have hb := C.1.2.1
  rw [fX2_latest] at hf
  skip
  refine lv_iload_n hx hb dX2_latest_0 rfl (lv_at hl 1 rfl) ?_
  refine lv_if_lt (tgt := 18) hx hb dX2_latest_1 (by decide) (fun c1 => ?_) (fun c1 => ?_)
  · rw [if_pos c1] at hf
    refine lv_iconst (v := 0) hx hb dX2_latest_18 (by decide) ?_
    cases hf
    exact r_iret C hr hlk w dX2_latest_19
  · rw [if_neg c1] at hf
    refine lv_iload_n hx hb dX2_latest_4 rfl (lv_at hl 1 rfl) ?_
    refine lv_bipush (v := 16) hx hb dX2_latest_5 (by decide) ?_
    refine lv_icmp_ge (tgt := 18) hx hb dX2_latest_7 (by decide) (fun c2 => ?_) (fun c2 => ?_)
    · rw [if_pos c2] at hf
      refine lv_iconst (v := 0) hx hb dX2_latest_18 (by decide) ?_
      cases hf
      exact r_iret C hr hlk w dX2_latest_19
    · rw [if_neg c2] at hf
      refine lv_iload_n hx hb dX2_latest_10 rfl (lv_at hl 1 rfl) ?_
      refine lv_aload_n hx hb dX2_latest_11 rfl (lv_at hl 0 rfl) ?_
      refine r_get C w iC4 eC4 vc2 inlX2 1 (by decide) w_fl_RX2_15_Paper_count_I rfl dX2_latest_12 ?_
      refine lv_icmp_lt (tgt := 20) hx hb dX2_latest_15 (by decide) (fun c3 => ?_) (fun c3 => ?_)
      · rw [if_pos c3] at hf
        refine lv_aload_n hx hb dX2_latest_20 rfl (lv_at hl 0 rfl) ?_
        refine r_get C w iC4 eC4 vc2 inlX2 0 (by decide) w_fl_RX2_9_Paper_ring_I rfl dX2_latest_21 ?_
        refine lv_aload_n hx hb dX2_latest_24 rfl (lv_at hl 0 rfl) ?_
        refine r_get C w iC4 eC4 vc2 inlX2 1 (by decide) w_fl_RX2_15_Paper_count_I rfl dX2_latest_25 ?_
        refine lv_iconst (v := 1) hx hb dX2_latest_28 (by decide) ?_
        refine lv_isub hx hb dX2_latest_29 ?_
        refine lv_iload_n hx hb dX2_latest_30 rfl (lv_at hl 1 rfl) ?_
        refine lv_isub hx hb dX2_latest_31 ?_
        refine lv_bipush (v := 16) hx hb dX2_latest_32 (by decide) ?_
        obtain ⟨r5, hc4, hf⟩ := ob_some hf
        refine k_I w (q_S C w (c_J9_floorMod_7cf53 ok hc4) wy_J9_floorMod_7cf53 w_sta_yJ9_floorMod_7cf53 w_ml_RX2_19_yJ9_floorMod_7cf53 rfl rfl ⟨Nat.le_of_ble_eq_true rfl, Nat.le_of_ble_eq_true rfl⟩ rfl hl.1 rfl (Nat.le_of_ble_eq_true rfl) dX2_latest_34 ⟨Nat.le_refl _, Nat.le_refl _⟩) (fun H locs w => ?_)
        obtain ⟨g7, hf⟩ := gd_some hf
        refine r_iald C w iC5 aC5 g7 dX2_latest_37 ?_
        cases hf
        exact r_iret C hr hlk w dX2_latest_38
      · rw [if_neg c3] at hf
        refine lv_iconst (v := 0) hx hb dX2_latest_18 (by decide) ?_
        cases hf
        exact r_iret C hr hlk w dX2_latest_19
set_option maxHeartbeats 4000000 in
set_option maxRecDepth 100000 in
theorem c_X3_at (ok : Wok EC idC a) {t : Nat} (ht : t < 4) {ca na : Nat} (hq : (ca, t, 0) ∈ idC) (hE : isAI EC ca t 0 na) {V : Sto} {r : Int32} {x1 : Int32} (hf : fX3_at V t ca na x1 = some r) : MtI l cy D EC idC a yX3_at cX3_at 2 .int rm_X3_at [.ref (a (ca, t, 0)), .int x1] V r V := by
  refine ofM (by decide +kernel) ok (Nat.le_of_ble_eq_true rfl) (fun p e s m args below meth c C hr hlk w ls hl => ?_)
  have hx := C.1.1
  have hb := C.1.2.1
  rw [fX3_at] at hf
  skip
  refine lv_iload_n hx hb dX3_at_0 rfl (lv_at hl 1 rfl) ?_
  refine lv_if_lt (tgt := 16) hx hb dX3_at_1 (by decide) (fun c1 => ?_) (fun c1 => ?_)
  · rw [if_pos c1] at hf
    refine lv_iconst (v := (-1)) hx hb dX3_at_16 (by decide) ?_
    cases hf
    exact r_iret C hr hlk w dX3_at_17
  · rw [if_neg c1] at hf
    refine lv_iload_n hx hb dX3_at_4 rfl (lv_at hl 1 rfl) ?_
    refine lv_aload_n hx hb dX3_at_5 rfl (lv_at hl 0 rfl) ?_
    refine r_alen C w hq hE dX3_at_6 ?_
    refine lv_icmp_ge (tgt := 16) hx hb dX3_at_7 (by decide) (fun c2 => ?_) (fun c2 => ?_)
    · rw [if_pos c2] at hf
      refine lv_iconst (v := (-1)) hx hb dX3_at_16 (by decide) ?_
      cases hf
      exact r_iret C hr hlk w dX3_at_17
    · rw [if_neg c2] at hf
      refine lv_aload_n hx hb dX3_at_10 rfl (lv_at hl 0 rfl) ?_
      refine lv_iload_n hx hb dX3_at_11 rfl (lv_at hl 1 rfl) ?_
      obtain ⟨g3, hf⟩ := gd_some hf
      refine r_iald C w hq hE g3 dX3_at_12 ?_
      refine lv_goto (tgt := 17) hx hb dX3_at_13 (by decide) ?_
      cases hf
      exact r_iret C hr hlk w dX3_at_17
set_option maxHeartbeats 4000000 in
set_option maxRecDepth 100000 in
theorem c_X3_isFull (ok : Wok EC idC a) {t : Nat} (ht : t < 4) {V : Sto} {r : Int32} (hf : fX3_isFull V t = some r) : MtI l cy D EC idC a yX3_isFull cX3_isFull 1 .boolean rm_X3_isFull [.ref (a (11, t, 0))] V r V := by
  refine ofM (by decide +kernel) ok (Nat.le_of_ble_eq_true rfl) (fun p e s m args below meth c C hr hlk w ls hl => ?_)
  have hx := C.1.1
  have hb := C.1.2.1
  rw [fX3_isFull] at hf
  skip
  refine lv_aload_n hx hb dX3_isFull_0 rfl (lv_at hl 0 rfl) ?_
  refine r_get C w (iC11 ht) eC11 vc3 inlX3 8 (by decide) w_fl_RX3_33_Program_length_I rfl dX3_isFull_1 ?_
  refine lv_bipush (v := 30) hx hb dX3_isFull_4 (by decide) ?_
  refine lv_icmp_lt (tgt := 13) hx hb dX3_isFull_6 (by decide) (fun c1 => ?_) (fun c1 => ?_)
  · rw [if_pos c1] at hf
    refine lv_iconst (v := 0) hx hb dX3_isFull_13 (by decide) ?_
    cases hf
    exact r_zret C hr hlk w (by decide) dX3_isFull_14
  · rw [if_neg c1] at hf
    refine lv_iconst (v := 1) hx hb dX3_isFull_9 (by decide) ?_
    refine lv_goto (tgt := 14) hx hb dX3_isFull_10 (by decide) ?_
    cases hf
    exact r_zret C hr hlk w (by decide) dX3_isFull_14
set_option maxHeartbeats 4000000 in
set_option maxRecDepth 100000 in
theorem c_X3_append (ok : Wok EC idC a) {t : Nat} (ht : t < 4) {V : Sto} {V' : Sto} {x1 : Int32} {x2 : Int32} {x3 : Int32} (hf : fX3_append V t x1 x2 x3 = some V') : MtV l cy D EC idC a yX3_append cX3_append 4 rm_X3_append [.ref (a (11, t, 0)), .int x1, .int x2, .int x3] V V' := by
  refine ofM (by decide +kernel) ok (Nat.le_of_ble_eq_true rfl) (fun p e s m args below meth c C hr hlk w ls hl => ?_)
  have hx := C.1.1
  have hb := C.1.2.1
  rw [fX3_append] at hf
  skip
  refine lv_aload_n hx hb dX3_append_0 rfl (lv_at hl 0 rfl) ?_
  obtain ⟨r2, hc1, hf⟩ := ob_some hf
  refine k_I w (q_V C w (c_X3_isFull ok ht hc1) wy_X3_isFull wi_X3_isFull w_ml_RX3_37_yX3_isFull (iC11 ht) eC11 vc3 rfl rfl ⟨Nat.le_of_ble_eq_true rfl, Nat.le_of_ble_eq_true rfl⟩ rfl hl.1 rfl (Nat.le_of_ble_eq_true rfl) dX3_append_1 ⟨Nat.le_refl _, Nat.le_refl _⟩) (fun H locs w => ?_)
  refine lv_if_ne (tgt := 47) hx hb dX3_append_4 (by decide) (fun c4 => ?_) (fun c4 => ?_)
  · rw [if_neg c4] at hf
    cases hf
    exact r_vret C hr hlk w dX3_append_47
  · rw [if_pos c4] at hf
    refine lv_aload_n hx hb dX3_append_7 rfl (lv_at hl 0 rfl) ?_
    refine r_get C w (iC11 ht) eC11 vc3 inlX3 0 (by decide) w_fl_RX3_9_Program_kinds_I rfl dX3_append_8 ?_
    refine lv_aload_n hx hb dX3_append_11 rfl (lv_at hl 0 rfl) ?_
    refine r_get C w (iC11 ht) eC11 vc3 inlX3 8 (by decide) w_fl_RX3_33_Program_length_I rfl dX3_append_12 ?_
    refine lv_iload_n hx hb dX3_append_15 rfl (lv_at hl 1 rfl) ?_
    obtain ⟨g5, hf⟩ := gd_some hf
    refine r_iast C w (iC12 ht) aC12 g5 dX3_append_16 (fun H locs w => ?_)
    obtain ⟨V6, e7, hf⟩ := bnd_some hf
    rw [← e7] at w
    refine lv_aload_n hx hb dX3_append_17 rfl (lv_at hl 0 rfl) ?_
    refine r_get C w (iC11 ht) eC11 vc3 inlX3 1 (by decide) w_fl_RX3_15_Program_firsts_I rfl dX3_append_18 ?_
    refine lv_aload_n hx hb dX3_append_21 rfl (lv_at hl 0 rfl) ?_
    refine r_get C w (iC11 ht) eC11 vc3 inlX3 8 (by decide) w_fl_RX3_33_Program_length_I rfl dX3_append_22 ?_
    refine lv_iload_n hx hb dX3_append_25 rfl (lv_at hl 2 rfl) ?_
    obtain ⟨g8, hf⟩ := gd_some hf
    refine r_iast C w (iC13 ht) aC13 g8 dX3_append_26 (fun H locs w => ?_)
    obtain ⟨V9, e10, hf⟩ := bnd_some hf
    rw [← e10] at w
    refine lv_aload_n hx hb dX3_append_27 rfl (lv_at hl 0 rfl) ?_
    refine r_get C w (iC11 ht) eC11 vc3 inlX3 2 (by decide) w_fl_RX3_18_Program_seconds_I rfl dX3_append_28 ?_
    refine lv_aload_n hx hb dX3_append_31 rfl (lv_at hl 0 rfl) ?_
    refine r_get C w (iC11 ht) eC11 vc3 inlX3 8 (by decide) w_fl_RX3_33_Program_length_I rfl dX3_append_32 ?_
    refine lv_iload_n hx hb dX3_append_35 rfl (lv_at hl 3 rfl) ?_
    obtain ⟨g11, hf⟩ := gd_some hf
    refine r_iast C w (iC14 ht) aC14 g11 dX3_append_36 (fun H locs w => ?_)
    obtain ⟨V12, e13, hf⟩ := bnd_some hf
    rw [← e13] at w
    refine lv_aload_n hx hb dX3_append_37 rfl (lv_at hl 0 rfl) ?_
    refine lv_dup hx hb dX3_append_38 rfl ?_
    refine r_get C w (iC11 ht) eC11 vc3 inlX3 8 (by decide) w_fl_RX3_33_Program_length_I rfl dX3_append_39 ?_
    refine lv_iconst (v := 1) hx hb dX3_append_42 (by decide) ?_
    refine lv_iadd hx hb dX3_append_43 ?_
    refine r_put C w (iC11 ht) eC11 vc3 inlX3 tyX3 tyX3_ok nmX3 8 (by decide) w_fl_RX3_33_Program_length_I rfl pd_I uC11_8 (Nat.le_of_ble_eq_true rfl) dX3_append_44 (fun H locs w => ?_)
    obtain ⟨V14, e15, hf⟩ := bnd_some hf
    rw [← e15] at w
    cases hf
    exact r_vret C hr hlk w dX3_append_47
set_option maxHeartbeats 4000000 in
set_option maxRecDepth 100000 in
theorem c_X3_kindAt (ok : Wok EC idC a) {t : Nat} (ht : t < 4) {V : Sto} {r : Int32} {x1 : Int32} (hf : fX3_kindAt V t x1 = some r) : MtI l cy D EC idC a yX3_kindAt cX3_kindAt 2 .int rm_X3_kindAt [.ref (a (11, t, 0)), .int x1] V r V := by
  refine ofM (by decide +kernel) ok (Nat.le_of_ble_eq_true rfl) (fun p e s m args below meth c C hr hlk w ls hl => ?_)
  have hx := C.1.1
  have hb := C.1.2.1
  rw [fX3_kindAt] at hf
  skip
  refine lv_aload_n hx hb dX3_kindAt_0 rfl (lv_at hl 0 rfl) ?_
  refine r_get C w (iC11 ht) eC11 vc3 inlX3 0 (by decide) w_fl_RX3_9_Program_kinds_I rfl dX3_kindAt_1 ?_
  refine lv_iload_n hx hb dX3_kindAt_4 rfl (lv_at hl 1 rfl) ?_
  obtain ⟨r2, hc1, hf⟩ := ob_some hf
  refine k_I w (q_S C w (c_X3_at ok ht (iC12 ht) aC12 hc1) wy_X3_at w_sta_yX3_at w_ml_RX3_41_yX3_at rfl rfl ⟨Nat.le_of_ble_eq_true rfl, Nat.le_of_ble_eq_true rfl⟩ rfl hl.1 rfl (Nat.le_of_ble_eq_true rfl) dX3_kindAt_5 ⟨Nat.le_refl _, Nat.le_refl _⟩) (fun H locs w => ?_)
  cases hf
  exact r_iret C hr hlk w dX3_kindAt_8
set_option maxHeartbeats 4000000 in
set_option maxRecDepth 100000 in
theorem c_X3_firstAt (ok : Wok EC idC a) {t : Nat} (ht : t < 4) {V : Sto} {r : Int32} {x1 : Int32} (hf : fX3_firstAt V t x1 = some r) : MtI l cy D EC idC a yX3_firstAt cX3_firstAt 2 .int rm_X3_firstAt [.ref (a (11, t, 0)), .int x1] V r V := by
  refine ofM (by decide +kernel) ok (Nat.le_of_ble_eq_true rfl) (fun p e s m args below meth c C hr hlk w ls hl => ?_)
  have hx := C.1.1
  have hb := C.1.2.1
  rw [fX3_firstAt] at hf
  skip
  refine lv_aload_n hx hb dX3_firstAt_0 rfl (lv_at hl 0 rfl) ?_
  refine r_get C w (iC11 ht) eC11 vc3 inlX3 1 (by decide) w_fl_RX3_15_Program_firsts_I rfl dX3_firstAt_1 ?_
  refine lv_iload_n hx hb dX3_firstAt_4 rfl (lv_at hl 1 rfl) ?_
  obtain ⟨r2, hc1, hf⟩ := ob_some hf
  refine k_I w (q_S C w (c_X3_at ok ht (iC13 ht) aC13 hc1) wy_X3_at w_sta_yX3_at w_ml_RX3_41_yX3_at rfl rfl ⟨Nat.le_of_ble_eq_true rfl, Nat.le_of_ble_eq_true rfl⟩ rfl hl.1 rfl (Nat.le_of_ble_eq_true rfl) dX3_firstAt_5 ⟨Nat.le_refl _, Nat.le_refl _⟩) (fun H locs w => ?_)
  cases hf
  exact r_iret C hr hlk w dX3_firstAt_8
set_option maxHeartbeats 4000000 in
set_option maxRecDepth 100000 in
theorem c_X3_secondAt (ok : Wok EC idC a) {t : Nat} (ht : t < 4) {V : Sto} {r : Int32} {x1 : Int32} (hf : fX3_secondAt V t x1 = some r) : MtI l cy D EC idC a yX3_secondAt cX3_secondAt 2 .int rm_X3_secondAt [.ref (a (11, t, 0)), .int x1] V r V := by
  refine ofM (by decide +kernel) ok (Nat.le_of_ble_eq_true rfl) (fun p e s m args below meth c C hr hlk w ls hl => ?_)
  have hx := C.1.1
  have hb := C.1.2.1
  rw [fX3_secondAt] at hf
  skip
  refine lv_aload_n hx hb dX3_secondAt_0 rfl (lv_at hl 0 rfl) ?_
  refine r_get C w (iC11 ht) eC11 vc3 inlX3 2 (by decide) w_fl_RX3_18_Program_seconds_I rfl dX3_secondAt_1 ?_
  refine lv_iload_n hx hb dX3_secondAt_4 rfl (lv_at hl 1 rfl) ?_
  obtain ⟨r2, hc1, hf⟩ := ob_some hf
  refine k_I w (q_S C w (c_X3_at ok ht (iC14 ht) aC14 hc1) wy_X3_at w_sta_yX3_at w_ml_RX3_41_yX3_at rfl rfl ⟨Nat.le_of_ble_eq_true rfl, Nat.le_of_ble_eq_true rfl⟩ rfl hl.1 rfl (Nat.le_of_ble_eq_true rfl) dX3_secondAt_5 ⟨Nat.le_refl _, Nat.le_refl _⟩) (fun H locs w => ?_)
  cases hf
  exact r_iret C hr hlk w dX3_secondAt_8
set_option maxHeartbeats 4000000 in
set_option maxRecDepth 100000 in
theorem c_X3_openerOf (ok : Wok EC idC a) {t : Nat} (ht : t < 4) {V : Sto} {r : Int32} {x1 : Int32} (hf : fX3_openerOf V t x1 = some r) : MtI l cy D EC idC a yX3_openerOf cX3_openerOf 2 .int rm_X3_openerOf [.ref (a (11, t, 0)), .int x1] V r V := by
  refine ofM (by decide +kernel) ok (Nat.le_of_ble_eq_true rfl) (fun p e s m args below meth c C hr hlk w ls hl => ?_)
  have hx := C.1.1
  have hb := C.1.2.1
  rw [fX3_openerOf] at hf
  skip
  refine lv_aload_n hx hb dX3_openerOf_0 rfl (lv_at hl 0 rfl) ?_
  refine r_get C w (iC11 ht) eC11 vc3 inlX3 3 (by decide) w_fl_RX3_21_Program_openers_I rfl dX3_openerOf_1 ?_
  refine lv_iload_n hx hb dX3_openerOf_4 rfl (lv_at hl 1 rfl) ?_
  obtain ⟨r2, hc1, hf⟩ := ob_some hf
  refine k_I w (q_S C w (c_X3_at ok ht (iC15 ht) aC15 hc1) wy_X3_at w_sta_yX3_at w_ml_RX3_41_yX3_at rfl rfl ⟨Nat.le_of_ble_eq_true rfl, Nat.le_of_ble_eq_true rfl⟩ rfl hl.1 rfl (Nat.le_of_ble_eq_true rfl) dX3_openerOf_5 ⟨Nat.le_refl _, Nat.le_refl _⟩) (fun H locs w => ?_)
  cases hf
  exact r_iret C hr hlk w dX3_openerOf_8
set_option maxHeartbeats 4000000 in
set_option maxRecDepth 100000 in
theorem c_X3_middleOf (ok : Wok EC idC a) {t : Nat} (ht : t < 4) {V : Sto} {r : Int32} {x1 : Int32} (hf : fX3_middleOf V t x1 = some r) : MtI l cy D EC idC a yX3_middleOf cX3_middleOf 2 .int rm_X3_middleOf [.ref (a (11, t, 0)), .int x1] V r V := by
  refine ofM (by decide +kernel) ok (Nat.le_of_ble_eq_true rfl) (fun p e s m args below meth c C hr hlk w ls hl => ?_)
  have hx := C.1.1
  have hb := C.1.2.1
  rw [fX3_middleOf] at hf
  skip
  refine lv_aload_n hx hb dX3_middleOf_0 rfl (lv_at hl 0 rfl) ?_
  refine r_get C w (iC11 ht) eC11 vc3 inlX3 4 (by decide) w_fl_RX3_24_Program_middles_I rfl dX3_middleOf_1 ?_
  refine lv_iload_n hx hb dX3_middleOf_4 rfl (lv_at hl 1 rfl) ?_
  obtain ⟨r2, hc1, hf⟩ := ob_some hf
  refine k_I w (q_S C w (c_X3_at ok ht (iC16 ht) aC16 hc1) wy_X3_at w_sta_yX3_at w_ml_RX3_41_yX3_at rfl rfl ⟨Nat.le_of_ble_eq_true rfl, Nat.le_of_ble_eq_true rfl⟩ rfl hl.1 rfl (Nat.le_of_ble_eq_true rfl) dX3_middleOf_5 ⟨Nat.le_refl _, Nat.le_refl _⟩) (fun H locs w => ?_)
  cases hf
  exact r_iret C hr hlk w dX3_middleOf_8
set_option maxHeartbeats 4000000 in
set_option maxRecDepth 100000 in
theorem c_X3_behindEnd (ok : Wok EC idC a) {t : Nat} (ht : t < 4) {V : Sto} {r : Int32} {x1 : Int32} (hf : fX3_behindEnd V t x1 = some r) : MtI l cy D EC idC a yX3_behindEnd cX3_behindEnd 2 .int rm_X3_behindEnd [.ref (a (11, t, 0)), .int x1] V r V := by
  refine ofM (by decide +kernel) ok (Nat.le_of_ble_eq_true rfl) (fun p e s m args below meth c C hr hlk w ls hl => ?_)
  have hx := C.1.1
  have hb := C.1.2.1
  rw [fX3_behindEnd] at hf
  skip
  refine lv_aload_n hx hb dX3_behindEnd_0 rfl (lv_at hl 0 rfl) ?_
  refine r_get C w (iC11 ht) eC11 vc3 inlX3 5 (by decide) w_fl_RX3_27_Program_ends_I rfl dX3_behindEnd_1 ?_
  refine lv_aload_n hx hb dX3_behindEnd_4 rfl (lv_at hl 0 rfl) ?_
  refine r_get C w (iC11 ht) eC11 vc3 inlX3 3 (by decide) w_fl_RX3_21_Program_openers_I rfl dX3_behindEnd_5 ?_
  refine lv_iload_n hx hb dX3_behindEnd_8 rfl (lv_at hl 1 rfl) ?_
  obtain ⟨r2, hc1, hf⟩ := ob_some hf
  refine k_I w (q_S C w (c_X3_at ok ht (iC15 ht) aC15 hc1) wy_X3_at w_sta_yX3_at w_ml_RX3_41_yX3_at rfl rfl ⟨Nat.le_of_ble_eq_true rfl, Nat.le_of_ble_eq_true rfl⟩ rfl hl.1 rfl (Nat.le_of_ble_eq_true rfl) dX3_behindEnd_9 ⟨Nat.le_refl _, Nat.le_refl _⟩) (fun H locs w => ?_)
  obtain ⟨r5, hc4, hf⟩ := ob_some hf
  refine k_I w (q_S C w (c_X3_at ok ht (iC17 ht) aC17 hc4) wy_X3_at w_sta_yX3_at w_ml_RX3_41_yX3_at rfl rfl ⟨Nat.le_of_ble_eq_true rfl, Nat.le_of_ble_eq_true rfl⟩ rfl hl.1 rfl (Nat.le_of_ble_eq_true rfl) dX3_behindEnd_12 ⟨Nat.le_refl _, Nat.le_refl _⟩) (fun H locs w => ?_)
  refine lv_iconst (v := 1) hx hb dX3_behindEnd_15 (by decide) ?_
  refine lv_iadd hx hb dX3_behindEnd_16 ?_
  cases hf
  exact r_iret C hr hlk w dX3_behindEnd_17
set_option maxHeartbeats 4000000 in
set_option maxRecDepth 100000 in
theorem c_X3_secondPart (ok : Wok EC idC a) {t : Nat} (ht : t < 4) {V : Sto} {r : Int32} {x1 : Int32} (hf : fX3_secondPart V t x1 = some r) : MtI l cy D EC idC a yX3_secondPart cX3_secondPart 2 .int rm_X3_secondPart [.ref (a (11, t, 0)), .int x1] V r V := by
  refine ofM (by decide +kernel) ok (Nat.le_of_ble_eq_true rfl) (fun p e s m args below meth c C hr hlk w ls hl => ?_)
  have hx := C.1.1
  have hb := C.1.2.1
  rw [fX3_secondPart] at hf
  skip
  refine lv_aload_n hx hb dX3_secondPart_0 rfl (lv_at hl 0 rfl) ?_
  refine r_get C w (iC11 ht) eC11 vc3 inlX3 4 (by decide) w_fl_RX3_24_Program_middles_I rfl dX3_secondPart_1 ?_
  refine lv_iload_n hx hb dX3_secondPart_4 rfl (lv_at hl 1 rfl) ?_
  obtain ⟨r2, hc1, hf⟩ := ob_some hf
  refine k_I w (q_S C w (c_X3_at ok ht (iC16 ht) aC16 hc1) wy_X3_at w_sta_yX3_at w_ml_RX3_41_yX3_at rfl rfl ⟨Nat.le_of_ble_eq_true rfl, Nat.le_of_ble_eq_true rfl⟩ rfl hl.1 rfl (Nat.le_of_ble_eq_true rfl) dX3_secondPart_5 ⟨Nat.le_refl _, Nat.le_refl _⟩) (fun H locs w => ?_)
  refine lv_iconst (v := 1) hx hb dX3_secondPart_8 (by decide) ?_
  refine lv_iadd hx hb dX3_secondPart_9 ?_
  cases hf
  exact r_iret C hr hlk w dX3_secondPart_10
set_option maxHeartbeats 4000000 in
set_option maxRecDepth 100000 in
theorem c_X3_elsewhere (ok : Wok EC idC a) {t : Nat} (ht : t < 4) {V : Sto} {r : Int32} {x1 : Int32} (hf : fX3_elsewhere V t x1 = some r) : MtI l cy D EC idC a yX3_elsewhere cX3_elsewhere 2 .int rm_X3_elsewhere [.ref (a (11, t, 0)), .int x1] V r V := by
  refine ofM (by decide +kernel) ok (Nat.le_of_ble_eq_true rfl) (fun p e s m args below meth c C hr hlk w ls hl => ?_)
  have hx := C.1.1
  have hb := C.1.2.1
  rw [fX3_elsewhere] at hf
  skip
  refine lv_aload_n hx hb dX3_elsewhere_0 rfl (lv_at hl 0 rfl) ?_
  refine lv_iload_n hx hb dX3_elsewhere_1 rfl (lv_at hl 1 rfl) ?_
  obtain ⟨r2, hc1, hf⟩ := ob_some hf
  refine k_I w (q_V C w (c_X3_middleOf ok ht hc1) wy_X3_middleOf wi_X3_middleOf w_ml_RX3_45_yX3_middleOf (iC11 ht) eC11 vc3 rfl rfl ⟨Nat.le_of_ble_eq_true rfl, Nat.le_of_ble_eq_true rfl⟩ rfl hl.1 rfl (Nat.le_of_ble_eq_true rfl) dX3_elsewhere_2 ⟨Nat.le_refl _, Nat.le_refl _⟩) (fun H locs w => ?_)
  refine lv_iconst (v := (-1)) hx hb dX3_elsewhere_5 (by decide) ?_
  refine lv_icmp_ne (tgt := 22) hx hb dX3_elsewhere_6 (by decide) (fun c4 => ?_) (fun c4 => ?_)
  · rw [if_neg c4] at hf
    refine lv_aload_n hx hb dX3_elsewhere_22 rfl (lv_at hl 0 rfl) ?_
    refine lv_iload_n hx hb dX3_elsewhere_23 rfl (lv_at hl 1 rfl) ?_
    obtain ⟨r6, hc5, hf⟩ := ob_some hf
    refine k_I w (q_V C w (c_X3_secondPart ok ht hc5) wy_X3_secondPart wi_X3_secondPart w_ml_RX3_49_yX3_secondPart (iC11 ht) eC11 vc3 rfl rfl ⟨Nat.le_of_ble_eq_true rfl, Nat.le_of_ble_eq_true rfl⟩ rfl hl.1 rfl (Nat.le_of_ble_eq_true rfl) dX3_elsewhere_24 ⟨Nat.le_refl _, Nat.le_refl _⟩) (fun H locs w => ?_)
    cases hf
    exact r_iret C hr hlk w dX3_elsewhere_27
  · rw [if_pos c4] at hf
    refine lv_aload_n hx hb dX3_elsewhere_9 rfl (lv_at hl 0 rfl) ?_
    refine r_get C w (iC11 ht) eC11 vc3 inlX3 5 (by decide) w_fl_RX3_27_Program_ends_I rfl dX3_elsewhere_10 ?_
    refine lv_iload_n hx hb dX3_elsewhere_13 rfl (lv_at hl 1 rfl) ?_
    obtain ⟨r9, hc8, hf⟩ := ob_some hf
    refine k_I w (q_S C w (c_X3_at ok ht (iC17 ht) aC17 hc8) wy_X3_at w_sta_yX3_at w_ml_RX3_41_yX3_at rfl rfl ⟨Nat.le_of_ble_eq_true rfl, Nat.le_of_ble_eq_true rfl⟩ rfl hl.1 rfl (Nat.le_of_ble_eq_true rfl) dX3_elsewhere_14 ⟨Nat.le_refl _, Nat.le_refl _⟩) (fun H locs w => ?_)
    refine lv_iconst (v := 1) hx hb dX3_elsewhere_17 (by decide) ?_
    refine lv_iadd hx hb dX3_elsewhere_18 ?_
    refine lv_goto (tgt := 27) hx hb dX3_elsewhere_19 (by decide) ?_
    cases hf
    exact r_iret C hr hlk w dX3_elsewhere_27
set_option maxHeartbeats 4000000 in
set_option maxRecDepth 100000 in
theorem c_X3_innermost (ok : Wok EC idC a) {t : Nat} (ht : t < 4) {V : Sto} {r : Int32} (hf : fX3_innermost V t = some r) : MtI l cy D EC idC a yX3_innermost cX3_innermost 1 .int rm_X3_innermost [.ref (a (11, t, 0))] V r V := by
  refine ofM (by decide +kernel) ok (Nat.le_of_ble_eq_true rfl) (fun p e s m args below meth c C hr hlk w ls hl => ?_)
  have hx := C.1.1
  have hb := C.1.2.1
  rw [fX3_innermost] at hf
  skip
  refine lv_aload_n hx hb dX3_innermost_0 rfl (lv_at hl 0 rfl) ?_
  refine r_get C w (iC11 ht) eC11 vc3 inlX3 6 (by decide) w_fl_RX3_30_Program_open_I rfl dX3_innermost_1 ?_
  refine lv_aload_n hx hb dX3_innermost_4 rfl (lv_at hl 0 rfl) ?_
  refine r_get C w (iC11 ht) eC11 vc3 inlX3 7 (by decide) w_fl_RX3_52_Program_openCount_I rfl dX3_innermost_5 ?_
  refine lv_iconst (v := 1) hx hb dX3_innermost_8 (by decide) ?_
  refine lv_isub hx hb dX3_innermost_9 ?_
  obtain ⟨r2, hc1, hf⟩ := ob_some hf
  refine k_I w (q_S C w (c_X3_at ok ht (iC18 ht) aC18 hc1) wy_X3_at w_sta_yX3_at w_ml_RX3_41_yX3_at rfl rfl ⟨Nat.le_of_ble_eq_true rfl, Nat.le_of_ble_eq_true rfl⟩ rfl hl.1 rfl (Nat.le_of_ble_eq_true rfl) dX3_innermost_10 ⟨Nat.le_refl _, Nat.le_refl _⟩) (fun H locs w => ?_)
  cases hf
  exact r_iret C hr hlk w dX3_innermost_13
set_option maxHeartbeats 4000000 in
set_option maxRecDepth 100000 in
theorem c_X3_lacksMiddle (ok : Wok EC idC a) {t : Nat} (ht : t < 4) {V : Sto} {r : Int32} {x1 : Int32} (hf : fX3_lacksMiddle V t x1 = some r) : MtI l cy D EC idC a yX3_lacksMiddle cX3_lacksMiddle 3 .boolean rm_X3_lacksMiddle [.ref (a (11, t, 0)), .int x1] V r V := by
  refine ofM (by decide +kernel) ok (Nat.le_of_ble_eq_true rfl) (fun p e s m args below meth c C hr hlk w ls hl => ?_)
  have hx := C.1.1
  have hb := C.1.2.1
  rw [fX3_lacksMiddle] at hf
  skip
  refine lv_aload_n hx hb dX3_lacksMiddle_0 rfl (lv_at hl 0 rfl) ?_
  obtain ⟨r2, hc1, hf⟩ := ob_some hf
  refine k_I w (q_V C w (c_X3_innermost ok ht hc1) wy_X3_innermost wi_X3_innermost w_ml_RX3_72_yX3_innermost (iC11 ht) eC11 vc3 rfl rfl ⟨Nat.le_of_ble_eq_true rfl, Nat.le_of_ble_eq_true rfl⟩ rfl hl.1 rfl (Nat.le_of_ble_eq_true rfl) dX3_lacksMiddle_1 ⟨Nat.le_refl _, Nat.le_refl _⟩) (fun H locs w => ?_)
  refine lv_istore_n hx hb dX3_lacksMiddle_4 rfl hl (by decide) rfl (fun ls hl => ?_)
  refine lv_aload_n hx hb dX3_lacksMiddle_5 rfl (lv_at hl 1 rfl) ?_
  refine lv_iload_n hx hb dX3_lacksMiddle_6 rfl (lv_at hl 0 rfl) ?_
  obtain ⟨r5, hc4, hf⟩ := ob_some hf
  refine k_I w (q_V C w (c_X3_kindAt ok ht hc4) wy_X3_kindAt wi_X3_kindAt w_ml_RX3_55_yX3_kindAt (iC11 ht) eC11 vc3 rfl rfl ⟨Nat.le_of_ble_eq_true rfl, Nat.le_of_ble_eq_true rfl⟩ rfl hl.1 rfl (Nat.le_of_ble_eq_true rfl) dX3_lacksMiddle_7 ⟨Nat.le_refl _, Nat.le_refl _⟩) (fun H locs w => ?_)
  refine lv_iload_n hx hb dX3_lacksMiddle_10 rfl (lv_at hl 2 rfl) ?_
  refine lv_icmp_ne (tgt := 27) hx hb dX3_lacksMiddle_11 (by decide) (fun c7 => ?_) (fun c7 => ?_)
  · rw [if_neg c7] at hf
    refine lv_iconst (v := 0) hx hb dX3_lacksMiddle_27 (by decide) ?_
    cases hf
    exact r_zret C hr hlk w (by decide) dX3_lacksMiddle_28
  · rw [if_pos c7] at hf
    refine lv_aload_n hx hb dX3_lacksMiddle_14 rfl (lv_at hl 1 rfl) ?_
    refine lv_iload_n hx hb dX3_lacksMiddle_15 rfl (lv_at hl 0 rfl) ?_
    obtain ⟨r9, hc8, hf⟩ := ob_some hf
    refine k_I w (q_V C w (c_X3_middleOf ok ht hc8) wy_X3_middleOf wi_X3_middleOf w_ml_RX3_45_yX3_middleOf (iC11 ht) eC11 vc3 rfl rfl ⟨Nat.le_of_ble_eq_true rfl, Nat.le_of_ble_eq_true rfl⟩ rfl hl.1 rfl (Nat.le_of_ble_eq_true rfl) dX3_lacksMiddle_16 ⟨Nat.le_refl _, Nat.le_refl _⟩) (fun H locs w => ?_)
    refine lv_iconst (v := (-1)) hx hb dX3_lacksMiddle_19 (by decide) ?_
    refine lv_icmp_ne (tgt := 27) hx hb dX3_lacksMiddle_20 (by decide) (fun c11 => ?_) (fun c11 => ?_)
    · rw [if_neg c11] at hf
      refine lv_iconst (v := 0) hx hb dX3_lacksMiddle_27 (by decide) ?_
      cases hf
      exact r_zret C hr hlk w (by decide) dX3_lacksMiddle_28
    · rw [if_pos c11] at hf
      refine lv_iconst (v := 1) hx hb dX3_lacksMiddle_23 (by decide) ?_
      refine lv_goto (tgt := 28) hx hb dX3_lacksMiddle_24 (by decide) ?_
      cases hf
      exact r_zret C hr hlk w (by decide) dX3_lacksMiddle_28
set_option maxHeartbeats 4000000 in
set_option maxRecDepth 100000 in
theorem jX3_isAtomicOpen_L2 (C : Cx cy D EC idC a p s m args c RX3 cX3_isAtomicOpen 2) (hr : meth.sig.returnType = some .boolean) (hlk : meth.locks = false) {t : Nat} (ht : t < 4) : ∀ (n : Nat) {V : Sto} {r : Int32} {x1 : Int32} {H : Heap} {locs : List Loc} {ls : Array Slot}, Wd cy D EC idC a V s H locs → lv_has ls 2 [(0, .ref (a (11, t, 0))), (1, .int x1)] → fX3_isAtomicOpen_L2 n V t x1 = some r → W p l e rm_X3_isAtomicOpen s m args below meth c H locs 0 0 (MQ below (QI cy D EC idC a r V) args s 0 0 (inA idC a)) (F0 m 2 ls []) := by
  have hx := C.1.1
  have hb := C.1.2.1
  have ok := C.2.2.2
  intro n
  induction n with
  | zero => intro V r x1 H locs ls w hl hf; cases hf
  | succ n ih =>
    intro V r x1 H locs ls w hl hf
    rw [fX3_isAtomicOpen_L2] at hf
    refine lv_iload_n hx hb dX3_isAtomicOpen_2 rfl (lv_at hl 1 rfl) ?_
    refine lv_aload_n hx hb dX3_isAtomicOpen_3 rfl (lv_at hl 0 rfl) ?_
    refine r_get C w (iC11 ht) eC11 vc3 inlX3 7 (by decide) w_fl_RX3_52_Program_openCount_I rfl dX3_isAtomicOpen_4 ?_
    refine lv_icmp_ge (tgt := 35) hx hb dX3_isAtomicOpen_7 (by decide) (fun c1 => ?_) (fun c1 => ?_)
    · rw [if_pos c1] at hf
      refine lv_iconst (v := 0) hx hb dX3_isAtomicOpen_35 (by decide) ?_
      cases hf
      exact r_zret C hr hlk w (by decide) dX3_isAtomicOpen_36
    · rw [if_neg c1] at hf
      refine lv_aload_n hx hb dX3_isAtomicOpen_10 rfl (lv_at hl 0 rfl) ?_
      refine lv_aload_n hx hb dX3_isAtomicOpen_11 rfl (lv_at hl 0 rfl) ?_
      refine r_get C w (iC11 ht) eC11 vc3 inlX3 6 (by decide) w_fl_RX3_30_Program_open_I rfl dX3_isAtomicOpen_12 ?_
      refine lv_iload_n hx hb dX3_isAtomicOpen_15 rfl (lv_at hl 1 rfl) ?_
      obtain ⟨r3, hc2, hf⟩ := ob_some hf
      refine k_I w (q_S C w (c_X3_at ok ht (iC18 ht) aC18 hc2) wy_X3_at w_sta_yX3_at w_ml_RX3_41_yX3_at rfl rfl ⟨Nat.le_of_ble_eq_true rfl, Nat.le_of_ble_eq_true rfl⟩ rfl hl.1 rfl (Nat.le_of_ble_eq_true rfl) dX3_isAtomicOpen_16 ⟨Nat.le_refl _, Nat.le_refl _⟩) (fun H locs w => ?_)
      obtain ⟨r6, hc5, hf⟩ := ob_some hf
      refine k_I w (q_V C w (c_X3_kindAt ok ht hc5) wy_X3_kindAt wi_X3_kindAt w_ml_RX3_55_yX3_kindAt (iC11 ht) eC11 vc3 rfl rfl ⟨Nat.le_of_ble_eq_true rfl, Nat.le_of_ble_eq_true rfl⟩ rfl hl.1 rfl (Nat.le_of_ble_eq_true rfl) dX3_isAtomicOpen_19 ⟨Nat.le_refl _, Nat.le_refl _⟩) (fun H locs w => ?_)
      refine lv_bipush (v := 6) hx hb dX3_isAtomicOpen_22 (by decide) ?_
      refine lv_icmp_ne (tgt := 29) hx hb dX3_isAtomicOpen_24 (by decide) (fun c8 => ?_) (fun c8 => ?_)
      · rw [if_neg c8] at hf
        refine lv_iinc (v := (x1 + 1)) hx hb dX3_isAtomicOpen_29 hl (k := 1) rfl (by rfl) (by decide) rfl (fun ls hl => ?_)
        refine lv_goto (tgt := 2) hx hb dX3_isAtomicOpen_32 (by decide) ?_
        exact ih w (lv_sub hl [1, 0] rfl) hf
      · rw [if_pos c8] at hf
        refine lv_iconst (v := 1) hx hb dX3_isAtomicOpen_27 (by decide) ?_
        cases hf
        exact r_zret C hr hlk w (by decide) dX3_isAtomicOpen_28
set_option maxHeartbeats 4000000 in
set_option maxRecDepth 100000 in
theorem c_X3_isAtomicOpen (ok : Wok EC idC a) {t : Nat} (ht : t < 4) {V : Sto} {r : Int32} (hf : fX3_isAtomicOpen V t = some r) : MtI l cy D EC idC a yX3_isAtomicOpen cX3_isAtomicOpen 2 .boolean rm_X3_isAtomicOpen [.ref (a (11, t, 0))] V r V := by
  refine ofM (by decide +kernel) ok (Nat.le_of_ble_eq_true rfl) (fun p e s m args below meth c C hr hlk w ls hl => ?_)
  have hx := C.1.1
  have hb := C.1.2.1
  rw [fX3_isAtomicOpen] at hf
  skip
  refine lv_iconst (v := 0) hx hb dX3_isAtomicOpen_0 (by decide) ?_
  refine lv_istore_n hx hb dX3_isAtomicOpen_1 rfl hl (by decide) rfl (fun ls hl => ?_)
  exact jX3_isAtomicOpen_L2 C hr hlk ht 40 w (lv_sub hl [1, 0] rfl) hf
set_option maxHeartbeats 4000000 in
set_option maxRecDepth 100000 in
theorem c_X3_isWrong (ok : Wok EC idC a) {t : Nat} (ht : t < 4) {V : Sto} {r : Int32} {x1 : Int32} (hf : fX3_isWrong V t x1 = some r) : MtI l cy D EC idC a yX3_isWrong cX3_isWrong 2 .boolean rm_X3_isWrong [.ref (a (11, t, 0)), .int x1] V r V := by
  refine ofM (by decide +kernel) ok (Nat.le_of_ble_eq_true rfl) (fun p e s m args below meth c C hr hlk w ls hl => ?_)
  have hx := C.1.1
  have hb := C.1.2.1
  rw [fX3_isWrong] at hf
  skip
  refine lv_iload_n hx hb dX3_isWrong_0 rfl (lv_at hl 1 rfl) ?_
  by_cases c1 : x1 = 3
  · rw [if_pos c1] at hf
    refine lv_tableIn (off := 147) (tgt := 148) hx hb dX3_isWrong_1 (by rw [c1]; decide) (by rw [c1]; decide) (by rw [c1]; rfl) (by decide) ?_
    refine lv_aload_n hx hb dX3_isWrong_148 rfl (lv_at hl 0 rfl) ?_
    obtain ⟨r3, hc2, hf⟩ := ob_some hf
    refine k_I w (q_V C w (c_X3_isAtomicOpen ok ht hc2) wy_X3_isAtomicOpen wi_X3_isAtomicOpen w_ml_RX3_69_yX3_isAtomicOpen (iC11 ht) eC11 vc3 rfl rfl ⟨Nat.le_of_ble_eq_true rfl, Nat.le_of_ble_eq_true rfl⟩ rfl hl.1 rfl (Nat.le_of_ble_eq_true rfl) dX3_isWrong_149 ⟨Nat.le_refl _, Nat.le_refl _⟩) (fun H locs w => ?_)
    refine lv_if_ne (tgt := 159) hx hb dX3_isWrong_152 (by decide) (fun c5 => ?_) (fun c5 => ?_)
    · rw [if_neg c5] at hf
      refine lv_iconst (v := 0) hx hb dX3_isWrong_159 (by decide) ?_
      cases hf
      exact r_zret C hr hlk w (by decide) dX3_isWrong_160
    · rw [if_pos c5] at hf
      refine lv_iconst (v := 1) hx hb dX3_isWrong_155 (by decide) ?_
      refine lv_goto (tgt := 160) hx hb dX3_isWrong_156 (by decide) ?_
      cases hf
      exact r_zret C hr hlk w (by decide) dX3_isWrong_160
  rw [if_neg c1] at hf
  by_cases c6 : x1 = 4
  · rw [if_pos c6] at hf
    refine lv_tableIn (off := 147) (tgt := 148) hx hb dX3_isWrong_1 (by rw [c6]; decide) (by rw [c6]; decide) (by rw [c6]; rfl) (by decide) ?_
    refine lv_aload_n hx hb dX3_isWrong_148 rfl (lv_at hl 0 rfl) ?_
    obtain ⟨r8, hc7, hf⟩ := ob_some hf
    refine k_I w (q_V C w (c_X3_isAtomicOpen ok ht hc7) wy_X3_isAtomicOpen wi_X3_isAtomicOpen w_ml_RX3_69_yX3_isAtomicOpen (iC11 ht) eC11 vc3 rfl rfl ⟨Nat.le_of_ble_eq_true rfl, Nat.le_of_ble_eq_true rfl⟩ rfl hl.1 rfl (Nat.le_of_ble_eq_true rfl) dX3_isWrong_149 ⟨Nat.le_refl _, Nat.le_refl _⟩) (fun H locs w => ?_)
    refine lv_if_ne (tgt := 159) hx hb dX3_isWrong_152 (by decide) (fun c10 => ?_) (fun c10 => ?_)
    · rw [if_neg c10] at hf
      refine lv_iconst (v := 0) hx hb dX3_isWrong_159 (by decide) ?_
      cases hf
      exact r_zret C hr hlk w (by decide) dX3_isWrong_160
    · rw [if_pos c10] at hf
      refine lv_iconst (v := 1) hx hb dX3_isWrong_155 (by decide) ?_
      refine lv_goto (tgt := 160) hx hb dX3_isWrong_156 (by decide) ?_
      cases hf
      exact r_zret C hr hlk w (by decide) dX3_isWrong_160
  rw [if_neg c6] at hf
  by_cases c11 : x1 = 5
  · rw [if_pos c11] at hf
    refine lv_tableIn (off := 181) (tgt := 182) hx hb dX3_isWrong_1 (by rw [c11]; decide) (by rw [c11]; decide) (by rw [c11]; rfl) (by decide) ?_
    refine lv_aload_n hx hb dX3_isWrong_182 rfl (lv_at hl 0 rfl) ?_
    obtain ⟨r13, hc12, hf⟩ := ob_some hf
    refine k_I w (q_V C w (c_X3_isAtomicOpen ok ht hc12) wy_X3_isAtomicOpen wi_X3_isAtomicOpen w_ml_RX3_69_yX3_isAtomicOpen (iC11 ht) eC11 vc3 rfl rfl ⟨Nat.le_of_ble_eq_true rfl, Nat.le_of_ble_eq_true rfl⟩ rfl hl.1 rfl (Nat.le_of_ble_eq_true rfl) dX3_isWrong_183 ⟨Nat.le_refl _, Nat.le_refl _⟩) (fun H locs w => ?_)
    obtain ⟨g15, hf⟩ := gd_some hf
    cases hf
    exact r_zret C hr hlk w g15 dX3_isWrong_186
  rw [if_neg c11] at hf
  by_cases c16 : x1 = 6
  · rw [if_pos c16] at hf
    refine lv_tableIn (off := 186) (tgt := 187) hx hb dX3_isWrong_1 (by rw [c16]; decide) (by rw [c16]; decide) (by rw [c16]; rfl) (by decide) ?_
    refine lv_aload_n hx hb dX3_isWrong_187 rfl (lv_at hl 0 rfl) ?_
    obtain ⟨r18, hc17, hf⟩ := ob_some hf
    refine k_I w (q_V C w (c_X3_isAtomicOpen ok ht hc17) wy_X3_isAtomicOpen wi_X3_isAtomicOpen w_ml_RX3_69_yX3_isAtomicOpen (iC11 ht) eC11 vc3 rfl rfl ⟨Nat.le_of_ble_eq_true rfl, Nat.le_of_ble_eq_true rfl⟩ rfl hl.1 rfl (Nat.le_of_ble_eq_true rfl) dX3_isWrong_188 ⟨Nat.le_refl _, Nat.le_refl _⟩) (fun H locs w => ?_)
    refine lv_if_ne (tgt := 202) hx hb dX3_isWrong_191 (by decide) (fun c20 => ?_) (fun c20 => ?_)
    · rw [if_neg c20] at hf
      refine lv_iconst (v := 1) hx hb dX3_isWrong_202 (by decide) ?_
      refine lv_goto (tgt := 207) hx hb dX3_isWrong_203 (by decide) ?_
      cases hf
      exact r_zret C hr hlk w (by decide) dX3_isWrong_207
    · rw [if_pos c20] at hf
      refine lv_aload_n hx hb dX3_isWrong_194 rfl (lv_at hl 0 rfl) ?_
      refine r_get C w (iC11 ht) eC11 vc3 inlX3 7 (by decide) w_fl_RX3_52_Program_openCount_I rfl dX3_isWrong_195 ?_
      refine lv_iconst (v := 5) hx hb dX3_isWrong_198 (by decide) ?_
      refine lv_icmp_lt (tgt := 206) hx hb dX3_isWrong_199 (by decide) (fun c21 => ?_) (fun c21 => ?_)
      · rw [if_pos c21] at hf
        refine lv_iconst (v := 0) hx hb dX3_isWrong_206 (by decide) ?_
        cases hf
        exact r_zret C hr hlk w (by decide) dX3_isWrong_207
      · rw [if_neg c21] at hf
        refine lv_iconst (v := 1) hx hb dX3_isWrong_202 (by decide) ?_
        refine lv_goto (tgt := 207) hx hb dX3_isWrong_203 (by decide) ?_
        cases hf
        exact r_zret C hr hlk w (by decide) dX3_isWrong_207
  rw [if_neg c16] at hf
  by_cases c22 : x1 = 7
  · rw [if_pos c22] at hf
    refine lv_tableIn (off := 71) (tgt := 72) hx hb dX3_isWrong_1 (by rw [c22]; decide) (by rw [c22]; decide) (by rw [c22]; rfl) (by decide) ?_
    refine lv_aload_n hx hb dX3_isWrong_72 rfl (lv_at hl 0 rfl) ?_
    refine r_get C w (iC11 ht) eC11 vc3 inlX3 7 (by decide) w_fl_RX3_52_Program_openCount_I rfl dX3_isWrong_73 ?_
    refine lv_if_eq (tgt := 97) hx hb dX3_isWrong_76 (by decide) (fun c23 => ?_) (fun c23 => ?_)
    · rw [if_pos c23] at hf
      refine lv_iconst (v := 1) hx hb dX3_isWrong_97 (by decide) ?_
      refine lv_goto (tgt := 102) hx hb dX3_isWrong_98 (by decide) ?_
      cases hf
      exact r_zret C hr hlk w (by decide) dX3_isWrong_102
    · rw [if_neg c23] at hf
      refine lv_aload_n hx hb dX3_isWrong_79 rfl (lv_at hl 0 rfl) ?_
      refine lv_bipush (v := 9) hx hb dX3_isWrong_80 (by decide) ?_
      obtain ⟨r25, hc24, hf⟩ := ob_some hf
      refine k_I w (q_V C w (c_X3_lacksMiddle ok ht hc24) wy_X3_lacksMiddle wi_X3_lacksMiddle w_ml_RX3_66_yX3_lacksMiddle (iC11 ht) eC11 vc3 rfl rfl ⟨Nat.le_of_ble_eq_true rfl, Nat.le_of_ble_eq_true rfl⟩ rfl hl.1 rfl (Nat.le_of_ble_eq_true rfl) dX3_isWrong_82 ⟨Nat.le_refl _, Nat.le_refl _⟩) (fun H locs w => ?_)
      refine lv_if_ne (tgt := 97) hx hb dX3_isWrong_85 (by decide) (fun c27 => ?_) (fun c27 => ?_)
      · rw [if_neg c27] at hf
        refine lv_iconst (v := 1) hx hb dX3_isWrong_97 (by decide) ?_
        refine lv_goto (tgt := 102) hx hb dX3_isWrong_98 (by decide) ?_
        cases hf
        exact r_zret C hr hlk w (by decide) dX3_isWrong_102
      · rw [if_pos c27] at hf
        refine lv_aload_n hx hb dX3_isWrong_88 rfl (lv_at hl 0 rfl) ?_
        refine lv_bipush (v := 15) hx hb dX3_isWrong_89 (by decide) ?_
        obtain ⟨r29, hc28, hf⟩ := ob_some hf
        refine k_I w (q_V C w (c_X3_lacksMiddle ok ht hc28) wy_X3_lacksMiddle wi_X3_lacksMiddle w_ml_RX3_66_yX3_lacksMiddle (iC11 ht) eC11 vc3 rfl rfl ⟨Nat.le_of_ble_eq_true rfl, Nat.le_of_ble_eq_true rfl⟩ rfl hl.1 rfl (Nat.le_of_ble_eq_true rfl) dX3_isWrong_91 ⟨Nat.le_refl _, Nat.le_refl _⟩) (fun H locs w => ?_)
        refine lv_if_eq (tgt := 101) hx hb dX3_isWrong_94 (by decide) (fun c31 => ?_) (fun c31 => ?_)
        · rw [if_pos c31] at hf
          refine lv_iconst (v := 0) hx hb dX3_isWrong_101 (by decide) ?_
          cases hf
          exact r_zret C hr hlk w (by decide) dX3_isWrong_102
        · rw [if_neg c31] at hf
          refine lv_iconst (v := 1) hx hb dX3_isWrong_97 (by decide) ?_
          refine lv_goto (tgt := 102) hx hb dX3_isWrong_98 (by decide) ?_
          cases hf
          exact r_zret C hr hlk w (by decide) dX3_isWrong_102
  rw [if_neg c22] at hf
  by_cases c32 : x1 = 8
  · rw [if_pos c32] at hf
    refine lv_tableIn (off := 147) (tgt := 148) hx hb dX3_isWrong_1 (by rw [c32]; decide) (by rw [c32]; decide) (by rw [c32]; rfl) (by decide) ?_
    refine lv_aload_n hx hb dX3_isWrong_148 rfl (lv_at hl 0 rfl) ?_
    obtain ⟨r34, hc33, hf⟩ := ob_some hf
    refine k_I w (q_V C w (c_X3_isAtomicOpen ok ht hc33) wy_X3_isAtomicOpen wi_X3_isAtomicOpen w_ml_RX3_69_yX3_isAtomicOpen (iC11 ht) eC11 vc3 rfl rfl ⟨Nat.le_of_ble_eq_true rfl, Nat.le_of_ble_eq_true rfl⟩ rfl hl.1 rfl (Nat.le_of_ble_eq_true rfl) dX3_isWrong_149 ⟨Nat.le_refl _, Nat.le_refl _⟩) (fun H locs w => ?_)
    refine lv_if_ne (tgt := 159) hx hb dX3_isWrong_152 (by decide) (fun c36 => ?_) (fun c36 => ?_)
    · rw [if_neg c36] at hf
      refine lv_iconst (v := 0) hx hb dX3_isWrong_159 (by decide) ?_
      cases hf
      exact r_zret C hr hlk w (by decide) dX3_isWrong_160
    · rw [if_pos c36] at hf
      refine lv_iconst (v := 1) hx hb dX3_isWrong_155 (by decide) ?_
      refine lv_goto (tgt := 160) hx hb dX3_isWrong_156 (by decide) ?_
      cases hf
      exact r_zret C hr hlk w (by decide) dX3_isWrong_160
  rw [if_neg c32] at hf
  by_cases c37 : x1 = 9
  · rw [if_pos c37] at hf
    refine lv_tableIn (off := 160) (tgt := 161) hx hb dX3_isWrong_1 (by rw [c37]; decide) (by rw [c37]; decide) (by rw [c37]; rfl) (by decide) ?_
    refine lv_aload_n hx hb dX3_isWrong_161 rfl (lv_at hl 0 rfl) ?_
    obtain ⟨r39, hc38, hf⟩ := ob_some hf
    refine k_I w (q_V C w (c_X3_isAtomicOpen ok ht hc38) wy_X3_isAtomicOpen wi_X3_isAtomicOpen w_ml_RX3_69_yX3_isAtomicOpen (iC11 ht) eC11 vc3 rfl rfl ⟨Nat.le_of_ble_eq_true rfl, Nat.le_of_ble_eq_true rfl⟩ rfl hl.1 rfl (Nat.le_of_ble_eq_true rfl) dX3_isWrong_162 ⟨Nat.le_refl _, Nat.le_refl _⟩) (fun H locs w => ?_)
    refine lv_if_eq (tgt := 176) hx hb dX3_isWrong_165 (by decide) (fun c41 => ?_) (fun c41 => ?_)
    · rw [if_pos c41] at hf
      refine lv_iconst (v := 1) hx hb dX3_isWrong_176 (by decide) ?_
      refine lv_goto (tgt := 181) hx hb dX3_isWrong_177 (by decide) ?_
      cases hf
      exact r_zret C hr hlk w (by decide) dX3_isWrong_181
    · rw [if_neg c41] at hf
      refine lv_aload_n hx hb dX3_isWrong_168 rfl (lv_at hl 0 rfl) ?_
      refine r_get C w (iC11 ht) eC11 vc3 inlX3 7 (by decide) w_fl_RX3_52_Program_openCount_I rfl dX3_isWrong_169 ?_
      refine lv_iconst (v := 5) hx hb dX3_isWrong_172 (by decide) ?_
      refine lv_icmp_lt (tgt := 180) hx hb dX3_isWrong_173 (by decide) (fun c42 => ?_) (fun c42 => ?_)
      · rw [if_pos c42] at hf
        refine lv_iconst (v := 0) hx hb dX3_isWrong_180 (by decide) ?_
        cases hf
        exact r_zret C hr hlk w (by decide) dX3_isWrong_181
      · rw [if_neg c42] at hf
        refine lv_iconst (v := 1) hx hb dX3_isWrong_176 (by decide) ?_
        refine lv_goto (tgt := 181) hx hb dX3_isWrong_177 (by decide) ?_
        cases hf
        exact r_zret C hr hlk w (by decide) dX3_isWrong_181
  rw [if_neg c37] at hf
  by_cases c43 : x1 = 10
  · rw [if_pos c43] at hf
    refine lv_tableIn (off := 102) (tgt := 103) hx hb dX3_isWrong_1 (by rw [c43]; decide) (by rw [c43]; decide) (by rw [c43]; rfl) (by decide) ?_
    refine lv_aload_n hx hb dX3_isWrong_103 rfl (lv_at hl 0 rfl) ?_
    refine lv_bipush (v := 9) hx hb dX3_isWrong_104 (by decide) ?_
    obtain ⟨r45, hc44, hf⟩ := ob_some hf
    refine k_I w (q_V C w (c_X3_lacksMiddle ok ht hc44) wy_X3_lacksMiddle wi_X3_lacksMiddle w_ml_RX3_66_yX3_lacksMiddle (iC11 ht) eC11 vc3 rfl rfl ⟨Nat.le_of_ble_eq_true rfl, Nat.le_of_ble_eq_true rfl⟩ rfl hl.1 rfl (Nat.le_of_ble_eq_true rfl) dX3_isWrong_106 ⟨Nat.le_refl _, Nat.le_refl _⟩) (fun H locs w => ?_)
    refine lv_if_ne (tgt := 116) hx hb dX3_isWrong_109 (by decide) (fun c47 => ?_) (fun c47 => ?_)
    · rw [if_neg c47] at hf
      refine lv_iconst (v := 0) hx hb dX3_isWrong_116 (by decide) ?_
      cases hf
      exact r_zret C hr hlk w (by decide) dX3_isWrong_117
    · rw [if_pos c47] at hf
      refine lv_iconst (v := 1) hx hb dX3_isWrong_112 (by decide) ?_
      refine lv_goto (tgt := 117) hx hb dX3_isWrong_113 (by decide) ?_
      cases hf
      exact r_zret C hr hlk w (by decide) dX3_isWrong_117
  rw [if_neg c43] at hf
  by_cases c48 : x1 = 11
  · rw [if_pos c48] at hf
    refine lv_tableIn (off := 207) (tgt := 208) hx hb dX3_isWrong_1 (by rw [c48]; decide) (by rw [c48]; decide) (by rw [c48]; rfl) (by decide) ?_
    refine lv_aload_n hx hb dX3_isWrong_208 rfl (lv_at hl 0 rfl) ?_
    refine r_get C w (iC11 ht) eC11 vc3 inlX3 7 (by decide) w_fl_RX3_52_Program_openCount_I rfl dX3_isWrong_209 ?_
    refine lv_iconst (v := 5) hx hb dX3_isWrong_212 (by decide) ?_
    refine lv_icmp_lt (tgt := 220) hx hb dX3_isWrong_213 (by decide) (fun c49 => ?_) (fun c49 => ?_)
    · rw [if_pos c49] at hf
      refine lv_iconst (v := 0) hx hb dX3_isWrong_220 (by decide) ?_
      cases hf
      exact r_zret C hr hlk w (by decide) dX3_isWrong_221
    · rw [if_neg c49] at hf
      refine lv_iconst (v := 1) hx hb dX3_isWrong_216 (by decide) ?_
      refine lv_goto (tgt := 221) hx hb dX3_isWrong_217 (by decide) ?_
      cases hf
      exact r_zret C hr hlk w (by decide) dX3_isWrong_221
  rw [if_neg c48] at hf
  by_cases c50 : x1 = 12
  · rw [if_pos c50] at hf
    refine lv_tableIn (off := 117) (tgt := 118) hx hb dX3_isWrong_1 (by rw [c50]; decide) (by rw [c50]; decide) (by rw [c50]; rfl) (by decide) ?_
    refine lv_aload_n hx hb dX3_isWrong_118 rfl (lv_at hl 0 rfl) ?_
    refine lv_bipush (v := 11) hx hb dX3_isWrong_119 (by decide) ?_
    obtain ⟨r52, hc51, hf⟩ := ob_some hf
    refine k_I w (q_V C w (c_X3_lacksMiddle ok ht hc51) wy_X3_lacksMiddle wi_X3_lacksMiddle w_ml_RX3_66_yX3_lacksMiddle (iC11 ht) eC11 vc3 rfl rfl ⟨Nat.le_of_ble_eq_true rfl, Nat.le_of_ble_eq_true rfl⟩ rfl hl.1 rfl (Nat.le_of_ble_eq_true rfl) dX3_isWrong_121 ⟨Nat.le_refl _, Nat.le_refl _⟩) (fun H locs w => ?_)
    refine lv_if_ne (tgt := 131) hx hb dX3_isWrong_124 (by decide) (fun c54 => ?_) (fun c54 => ?_)
    · rw [if_neg c54] at hf
      refine lv_iconst (v := 0) hx hb dX3_isWrong_131 (by decide) ?_
      cases hf
      exact r_zret C hr hlk w (by decide) dX3_isWrong_132
    · rw [if_pos c54] at hf
      refine lv_iconst (v := 1) hx hb dX3_isWrong_127 (by decide) ?_
      refine lv_goto (tgt := 132) hx hb dX3_isWrong_128 (by decide) ?_
      cases hf
      exact r_zret C hr hlk w (by decide) dX3_isWrong_132
  rw [if_neg c50] at hf
  by_cases c55 : x1 = 13
  · rw [if_pos c55] at hf
    refine lv_tableIn (off := 207) (tgt := 208) hx hb dX3_isWrong_1 (by rw [c55]; decide) (by rw [c55]; decide) (by rw [c55]; rfl) (by decide) ?_
    refine lv_aload_n hx hb dX3_isWrong_208 rfl (lv_at hl 0 rfl) ?_
    refine r_get C w (iC11 ht) eC11 vc3 inlX3 7 (by decide) w_fl_RX3_52_Program_openCount_I rfl dX3_isWrong_209 ?_
    refine lv_iconst (v := 5) hx hb dX3_isWrong_212 (by decide) ?_
    refine lv_icmp_lt (tgt := 220) hx hb dX3_isWrong_213 (by decide) (fun c56 => ?_) (fun c56 => ?_)
    · rw [if_pos c56] at hf
      refine lv_iconst (v := 0) hx hb dX3_isWrong_220 (by decide) ?_
      cases hf
      exact r_zret C hr hlk w (by decide) dX3_isWrong_221
    · rw [if_neg c56] at hf
      refine lv_iconst (v := 1) hx hb dX3_isWrong_216 (by decide) ?_
      refine lv_goto (tgt := 221) hx hb dX3_isWrong_217 (by decide) ?_
      cases hf
      exact r_zret C hr hlk w (by decide) dX3_isWrong_221
  rw [if_neg c55] at hf
  by_cases c57 : x1 = 14
  · rw [if_pos c57] at hf
    refine lv_tableIn (off := 221) (tgt := 222) hx hb dX3_isWrong_1 (by rw [c57]; decide) (by rw [c57]; decide) (by rw [c57]; rfl) (by decide) ?_
    refine lv_iconst (v := 0) hx hb dX3_isWrong_222 (by decide) ?_
    cases hf
    exact r_zret C hr hlk w (by decide) dX3_isWrong_223
  rw [if_neg c57] at hf
  by_cases c58 : x1 = 15
  · rw [if_pos c58] at hf
    refine lv_tableIn (off := 207) (tgt := 208) hx hb dX3_isWrong_1 (by rw [c58]; decide) (by rw [c58]; decide) (by rw [c58]; rfl) (by decide) ?_
    refine lv_aload_n hx hb dX3_isWrong_208 rfl (lv_at hl 0 rfl) ?_
    refine r_get C w (iC11 ht) eC11 vc3 inlX3 7 (by decide) w_fl_RX3_52_Program_openCount_I rfl dX3_isWrong_209 ?_
    refine lv_iconst (v := 5) hx hb dX3_isWrong_212 (by decide) ?_
    refine lv_icmp_lt (tgt := 220) hx hb dX3_isWrong_213 (by decide) (fun c59 => ?_) (fun c59 => ?_)
    · rw [if_pos c59] at hf
      refine lv_iconst (v := 0) hx hb dX3_isWrong_220 (by decide) ?_
      cases hf
      exact r_zret C hr hlk w (by decide) dX3_isWrong_221
    · rw [if_neg c59] at hf
      refine lv_iconst (v := 1) hx hb dX3_isWrong_216 (by decide) ?_
      refine lv_goto (tgt := 221) hx hb dX3_isWrong_217 (by decide) ?_
      cases hf
      exact r_zret C hr hlk w (by decide) dX3_isWrong_221
  rw [if_neg c58] at hf
  by_cases c60 : x1 = 16
  · rw [if_pos c60] at hf
    refine lv_tableIn (off := 132) (tgt := 133) hx hb dX3_isWrong_1 (by rw [c60]; decide) (by rw [c60]; decide) (by rw [c60]; rfl) (by decide) ?_
    refine lv_aload_n hx hb dX3_isWrong_133 rfl (lv_at hl 0 rfl) ?_
    refine lv_bipush (v := 15) hx hb dX3_isWrong_134 (by decide) ?_
    obtain ⟨r62, hc61, hf⟩ := ob_some hf
    refine k_I w (q_V C w (c_X3_lacksMiddle ok ht hc61) wy_X3_lacksMiddle wi_X3_lacksMiddle w_ml_RX3_66_yX3_lacksMiddle (iC11 ht) eC11 vc3 rfl rfl ⟨Nat.le_of_ble_eq_true rfl, Nat.le_of_ble_eq_true rfl⟩ rfl hl.1 rfl (Nat.le_of_ble_eq_true rfl) dX3_isWrong_136 ⟨Nat.le_refl _, Nat.le_refl _⟩) (fun H locs w => ?_)
    refine lv_if_ne (tgt := 146) hx hb dX3_isWrong_139 (by decide) (fun c64 => ?_) (fun c64 => ?_)
    · rw [if_neg c64] at hf
      refine lv_iconst (v := 0) hx hb dX3_isWrong_146 (by decide) ?_
      cases hf
      exact r_zret C hr hlk w (by decide) dX3_isWrong_147
    · rw [if_pos c64] at hf
      refine lv_iconst (v := 1) hx hb dX3_isWrong_142 (by decide) ?_
      refine lv_goto (tgt := 147) hx hb dX3_isWrong_143 (by decide) ?_
      cases hf
      exact r_zret C hr hlk w (by decide) dX3_isWrong_147
  rw [if_neg c60] at hf
  refine lv_tableOut (tgt := 222) hx hb dX3_isWrong_1 (by have nc1 := lv_neT c1 (a := 3) (by decide); have nc6 := lv_neT c6 (a := 4) (by decide); have nc11 := lv_neT c11 (a := 5) (by decide); have nc16 := lv_neT c16 (a := 6) (by decide); have nc22 := lv_neT c22 (a := 7) (by decide); have nc32 := lv_neT c32 (a := 8) (by decide); have nc37 := lv_neT c37 (a := 9) (by decide); have nc43 := lv_neT c43 (a := 10) (by decide); have nc48 := lv_neT c48 (a := 11) (by decide); have nc50 := lv_neT c50 (a := 12) (by decide); have nc55 := lv_neT c55 (a := 13) (by decide); have nc57 := lv_neT c57 (a := 14) (by decide); have nc58 := lv_neT c58 (a := 15) (by decide); have nc60 := lv_neT c60 (a := 16) (by decide); omega) (by decide) ?_
  refine lv_iconst (v := 0) hx hb dX3_isWrong_222 (by decide) ?_
  cases hf
  exact r_zret C hr hlk w (by decide) dX3_isWrong_223
end S31_metC00
