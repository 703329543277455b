section S31_metC04
variable {p : Program} {l : Launch} {e : Env} {R : Room} {s : State} {m : MethodId} {args : Array Value} {below : List Frame} {meth : Method} {c : Code} {cy : Nat → ClassId} {D : va_G} {a : Id3 → Nat}
set_option maxHeartbeats 4000000 in
set_option maxRecDepth 100000 in
theorem c_X5_step (ok : Wok EC idC a) {V : Sto} {r : Int32} {V' : Sto} {x1 : Int32} (hf : fX5_step V x1 = some (r, V')) : MtI l cy D EC idC a yX5_step cX5_step 3 .int rm_X5_step [.ref (a (0, 0, 0)), .int x1] V r V' := by
  refine ofM (by decide +kernel) ok (Nat.le_of_ble_eq_true rfl) (fun p e s m args below meth c C hr hlk w ls hl => ?_)
  have hx := C.1.1
  have hb := C.1.2.1
  rw [fX5_step] at hf
  skip
  refine lv_aload_n hx hb dX5_step_0 rfl (lv_at hl 0 rfl) ?_
  refine lv_iload_n hx hb dX5_step_1 rfl (lv_at hl 1 rfl) ?_
  rcases hs1 : sOf x1 with _ | t2
  · rw [om_none hs1] at hf
    refine k_R w (q_V C w (c_strandOf_none ok hs1) wy_X5_strandOf wi_X5_strandOf w_ml_RX5_30_yX5_strandOf iC0 eC0 vc5 rfl rfl ⟨Nat.le_of_ble_eq_true rfl, Nat.le_of_ble_eq_true rfl⟩ rfl hl.1 rfl (Nat.le_of_ble_eq_true rfl) dX5_step_2 ⟨Nat.le_refl _, Nat.le_refl _⟩) (fun H locs w => ?_)
    refine lv_astore_nN hx hb dX5_step_5 rfl hl (by decide) rfl (fun ls hl => ?_)
    refine lv_aload_nN hx hb dX5_step_6 rfl (lv_at hl 0 rfl) ?_
    refine lv_ifnullN (tgt := 18) hx hb dX5_step_7 (by decide) ?_
    refine lv_iconst (v := (-1)) hx hb dX5_step_18 (by decide) ?_
    refine lv_goto (tgt := 27) hx hb dX5_step_19 (by decide) ?_
    cases hf
    exact r_iret C hr hlk w dX5_step_27
  · rw [om_some hs1] at hf
    have ht2 : t2 < 4 := sOf_lt hs1
    refine k_R w (q_V C w (c_strandOf_some ok hs1) wy_X5_strandOf wi_X5_strandOf w_ml_RX5_30_yX5_strandOf iC0 eC0 vc5 rfl rfl ⟨Nat.le_of_ble_eq_true rfl, Nat.le_of_ble_eq_true rfl⟩ rfl hl.1 rfl (Nat.le_of_ble_eq_true rfl) dX5_step_2 ⟨Nat.le_refl _, Nat.le_refl _⟩) (fun H locs w => ?_)
    refine lv_astore_n hx hb dX5_step_5 rfl hl (by decide) rfl (fun ls hl => ?_)
    refine lv_aload_n hx hb dX5_step_6 rfl (lv_at hl 0 rfl) ?_
    refine lv_ifnull hx hb dX5_step_7 ?_
    refine lv_aload_n hx hb dX5_step_10 rfl (lv_at hl 0 rfl) ?_
    refine r_getN C w (iC10 ht2) eC10 vc4 inlX4 9 (by decide) nw_f_X5_55 rfl dX5_step_11 ?_
    refine lv_iconst (v := 1) hx hb dX5_step_14 (by decide) ?_
    refine lv_icmp_eq (tgt := 22) hx hb dX5_step_15 (by decide) (fun c3 => ?_) (fun c3 => ?_)
    · rw [if_pos c3] at hf
      refine lv_aload_n hx hb dX5_step_22 rfl (lv_at hl 1 rfl) ?_
      refine lv_aload_n hx hb dX5_step_23 rfl (lv_at hl 0 rfl) ?_
      obtain ⟨r5, V6, hc4, hf⟩ := ob2_some hf
      refine k_I w (q_V C w (c_X5_doWord ok ht2 hc4) wy_X5_doWord wi_X5_doWord w_ml_RX5_72_yX5_doWord iC0 eC0 vc5 rfl rfl ⟨Nat.le_of_ble_eq_true rfl, Nat.le_of_ble_eq_true rfl⟩ rfl hl.1 rfl (Nat.le_of_ble_eq_true rfl) dX5_step_24 ⟨Nat.le_refl _, Nat.le_refl _⟩) (fun H locs w => ?_)
      cases hf
      exact r_iret C hr hlk w dX5_step_27
    · rw [if_neg c3] at hf
      refine lv_iconst (v := (-1)) hx hb dX5_step_18 (by decide) ?_
      refine lv_goto (tgt := 27) hx hb dX5_step_19 (by decide) ?_
      cases hf
      exact r_iret C hr hlk w dX5_step_27
set_option maxHeartbeats 4000000 in
set_option maxRecDepth 100000 in
theorem jX5_run_L17 (C : Cx cy D EC idC a p s m args c RX5 cX5_run 6) (hr : meth.sig.returnType = some .int) (hlk : meth.locks = false) {Q : State → Prop} : ∀ (n : Nat) {V V' : Sto} {x1 : Int32} {x2 : Int32} {x3 : Int32} {x4 : Int32} {x3' : Int32} {H : Heap} {locs : List Loc} {ls : Array Slot}, Wd cy D EC idC a V s H locs → lv_has ls 6 [(0, .ref (a (0, 0, 0))), (1, .int x1), (2, .int x2), (3, .int x3), (4, .int x4)] → fX5_run_L17 n V x1 x2 x3 x4 = some (V', x3') → (∀ (H1 : Heap) (locs1 : List Loc) (ls1 : Array Slot), Wd cy D EC idC a V' s H1 locs1 → lv_has ls1 6 [(3, .int x3')] → W p l e rm_X5_run s m args below meth c H1 locs1 0 0 (Q) (F0 m 67 ls1 [])) → W p l e rm_X5_run s m args below meth c H locs 0 0 (Q) (F0 m 17 ls []) := by
  have hx := C.1.1
  have hb := C.1.2.1
  have ok := C.2.2.2
  intro n
  induction n with
  | zero => intro V V' x1 x2 x3 x4 x3' H locs ls w hl hf kk; cases hf
  | succ n ih =>
    intro V V' x1 x2 x3 x4 x3' H locs ls w hl hf kk
    rw [fX5_run_L17] at hf
    refine lv_iload hx hb dX5_run_17 (lv_at hl 4 rfl) ?_
    refine lv_iload_n hx hb dX5_run_19 rfl (lv_at hl 2 rfl) ?_
    refine lv_icmp_ge (tgt := 67) hx hb dX5_run_20 (by decide) (fun c3 => ?_) (fun c3 => ?_)
    · rw [if_pos c3] at hf
      cases hf
      exact kk _ _ _ w (lv_sub hl [3] rfl)
    · rw [if_neg c3] at hf
      refine lv_aload_n hx hb dX5_run_23 rfl (lv_at hl 0 rfl) ?_
      refine lv_iload_n hx hb dX5_run_24 rfl (lv_at hl 1 rfl) ?_
      refine lv_iconst (v := 2) hx hb dX5_run_25 (by decide) ?_
      refine lv_iload hx hb dX5_run_26 (lv_at hl 4 rfl) ?_
      refine lv_imul hx hb dX5_run_28 ?_
      refine lv_ishr hx hb dX5_run_29 ?_
      refine lv_iconst (v := 3) hx hb dX5_run_30 (by decide) ?_
      refine lv_iand hx hb dX5_run_31 ?_
      rcases hs4 : sOf ((x1 >>> ((2 * x4) &&& 31)) &&& 3) with _ | t5
      · rw [om_none hs4] at hf
        refine k_R w (q_V C w (c_strandOf_none ok hs4) wy_X5_strandOf wi_X5_strandOf w_ml_RX5_30_yX5_strandOf iC0 eC0 vc5 rfl rfl ⟨Nat.le_of_ble_eq_true rfl, Nat.le_of_ble_eq_true rfl⟩ rfl hl.1 rfl (Nat.le_of_ble_eq_true rfl) dX5_run_32 ⟨Nat.le_refl _, Nat.le_refl _⟩) (fun H locs w => ?_)
        refine lv_astoreN hx hb dX5_run_35 hl (by decide) rfl (fun ls hl => ?_)
        refine lv_aloadN hx hb dX5_run_37 (lv_at hl 0 rfl) ?_
        refine lv_ifnullN (tgt := 61) hx hb dX5_run_39 (by decide) ?_
        refine lv_iinc (v := (x4 + 1)) hx hb dX5_run_61 hl (k := 5) rfl (by rfl) (by decide) rfl (fun ls hl => ?_)
        refine lv_goto (tgt := 17) hx hb dX5_run_64 (by decide) ?_
        exact ih w (lv_sub hl [2, 3, 4, 5, 0] rfl) hf kk
      · rw [om_some hs4] at hf
        have ht5 : t5 < 4 := sOf_lt hs4
        refine k_R w (q_V C w (c_strandOf_some ok hs4) wy_X5_strandOf wi_X5_strandOf w_ml_RX5_30_yX5_strandOf iC0 eC0 vc5 rfl rfl ⟨Nat.le_of_ble_eq_true rfl, Nat.le_of_ble_eq_true rfl⟩ rfl hl.1 rfl (Nat.le_of_ble_eq_true rfl) dX5_run_32 ⟨Nat.le_refl _, Nat.le_refl _⟩) (fun H locs w => ?_)
        refine lv_astore hx hb dX5_run_35 hl (by decide) rfl (fun ls hl => ?_)
        refine lv_aload hx hb dX5_run_37 (lv_at hl 0 rfl) ?_
        refine lv_ifnull hx hb dX5_run_39 ?_
        refine lv_aload hx hb dX5_run_42 (lv_at hl 0 rfl) ?_
        refine r_getN C w (iC10 ht5) eC10 vc4 inlX4 9 (by decide) nw_f_X5_55 rfl dX5_run_44 ?_
        refine lv_iconst (v := 1) hx hb dX5_run_47 (by decide) ?_
        refine lv_icmp_ne (tgt := 61) hx hb dX5_run_48 (by decide) (fun c6 => ?_) (fun c6 => ?_)
        · rw [if_neg c6] at hf
          refine lv_iinc (v := (x4 + 1)) hx hb dX5_run_61 hl (k := 5) rfl (by rfl) (by decide) rfl (fun ls hl => ?_)
          refine lv_goto (tgt := 17) hx hb dX5_run_64 (by decide) ?_
          exact ih w (lv_sub hl [2, 3, 4, 5, 0] rfl) hf kk
        · rw [if_pos c6] at hf
          refine lv_aload_n hx hb dX5_run_51 rfl (lv_at hl 1 rfl) ?_
          refine lv_aload hx hb dX5_run_52 (lv_at hl 0 rfl) ?_
          obtain ⟨r8, V9, hc7, hf⟩ := ob2_some hf
          refine k_I w (q_V C w (c_X5_doWord ok ht5 hc7) wy_X5_doWord wi_X5_doWord w_ml_RX5_72_yX5_doWord iC0 eC0 vc5 rfl rfl ⟨Nat.le_of_ble_eq_true rfl, Nat.le_of_ble_eq_true rfl⟩ rfl hl.1 rfl (Nat.le_of_ble_eq_true rfl) dX5_run_54 ⟨Nat.le_refl _, Nat.le_refl _⟩) (fun H locs w => ?_)
          refine lv_pop hx hb dX5_run_57 rfl ?_
          refine lv_iinc (v := (x3 + 1)) hx hb dX5_run_58 hl (k := 4) rfl (by rfl) (by decide) rfl (fun ls hl => ?_)
          refine lv_iinc (v := (x4 + 1)) hx hb dX5_run_61 hl (k := 5) rfl (by rfl) (by decide) rfl (fun ls hl => ?_)
          refine lv_goto (tgt := 17) hx hb dX5_run_64 (by decide) ?_
          exact ih w (lv_sub hl [3, 4, 5, 1, 0] rfl) hf kk
set_option maxHeartbeats 4000000 in
set_option maxRecDepth 100000 in
theorem c_X5_run (ok : Wok EC idC a) {V : Sto} {r : Int32} {V' : Sto} {x1 : Int32} {x2 : Int32} (hf : fX5_run V x1 x2 = some (r, V')) : MtI l cy D EC idC a yX5_run cX5_run 6 .int rm_X5_run [.ref (a (0, 0, 0)), .int x1, .int x2] V r V' := by
  refine ofM (by decide +kernel) ok (Nat.le_of_ble_eq_true rfl) (fun p e s m args below meth c C hr hlk w ls hl => ?_)
  have hx := C.1.1
  have hb := C.1.2.1
  rw [fX5_run] at hf
  skip
  refine lv_iload_n hx hb dX5_run_0 rfl (lv_at hl 2 rfl) ?_
  refine lv_if_lt (tgt := 10) hx hb dX5_run_1 (by decide) (fun c1 => ?_) (fun c1 => ?_)
  · rw [if_pos c1] at hf
    refine lv_iconst (v := (-1)) hx hb dX5_run_10 (by decide) ?_
    cases hf
    exact r_iret C hr hlk w dX5_run_11
  · rw [if_neg c1] at hf
    refine lv_iload_n hx hb dX5_run_4 rfl (lv_at hl 2 rfl) ?_
    refine lv_bipush (v := 16) hx hb dX5_run_5 (by decide) ?_
    refine lv_icmp_le (tgt := 12) hx hb dX5_run_7 (by decide) (fun c2 => ?_) (fun c2 => ?_)
    · rw [if_pos c2] at hf
      refine lv_iconst (v := 0) hx hb dX5_run_12 (by decide) ?_
      refine lv_istore_n hx hb dX5_run_13 rfl hl (by decide) rfl (fun ls hl => ?_)
      refine lv_iconst (v := 0) hx hb dX5_run_14 (by decide) ?_
      refine lv_istore hx hb dX5_run_15 hl (by decide) rfl (fun ls hl => ?_)
      obtain ⟨V11, z12, hc10, hf⟩ := ob2_some hf
      refine jX5_run_L17 C hr hlk 40 w (lv_sub hl [2, 3, 4, 1, 0] rfl) hc10 (fun H locs ls w hl => ?_)
      refine lv_iload_n hx hb dX5_run_67 rfl (lv_at hl 0 rfl) ?_
      cases hf
      exact r_iret C hr hlk w dX5_run_68
    · rw [if_neg c2] at hf
      refine lv_iconst (v := (-1)) hx hb dX5_run_10 (by decide) ?_
      cases hf
      exact r_iret C hr hlk w dX5_run_11
set_option maxHeartbeats 4000000 in
set_option maxRecDepth 100000 in
theorem c_X5_put (ok : Wok EC idC a) {V : Sto} {r : Int32} {V' : Sto} {x1 : Int32} {x2 : Int32} (hf : fX5_put V x1 x2 = some (r, V')) : MtI l cy D EC idC a yX5_put cX5_put 3 .boolean rm_X5_put [.ref (a (0, 0, 0)), .int x1, .int x2] V r V' := by
  refine ofM (by decide +kernel) ok (Nat.le_of_ble_eq_true rfl) (fun p e s m args below meth c C hr hlk w ls hl => ?_)
  have hx := C.1.1
  have hb := C.1.2.1
  rw [fX5_put] at hf
  skip
  refine lv_iload_n hx hb dX5_put_0 rfl (lv_at hl 1 rfl) ?_
  obtain ⟨r2, hc1, hf⟩ := ob_some hf
  refine k_I w (q_S C w (c_X5_isVariable ok hc1) wy_X5_isVariable w_sta_yX5_isVariable w_ml_RX5_76_yX5_isVariable rfl rfl ⟨Nat.le_of_ble_eq_true rfl, Nat.le_of_ble_eq_true rfl⟩ rfl hl.1 rfl (Nat.le_of_ble_eq_true rfl) dX5_put_1 ⟨Nat.le_refl _, Nat.le_refl _⟩) (fun H locs w => ?_)
  refine lv_if_ne (tgt := 9) hx hb dX5_put_4 (by decide) (fun c4 => ?_) (fun c4 => ?_)
  · rw [if_neg c4] at hf
    refine lv_aload_n hx hb dX5_put_9 rfl (lv_at hl 0 rfl) ?_
    refine r_get C w iC0 eC0 vc5 inlX5 0 (by decide) w_fl_RX5_10_AtomicThreads_memory_LAtomicThreads_Memory rfl dX5_put_10 ?_
    obtain ⟨V7, hc5, hf⟩ := ob_some hf
    refine k_V w (q_VN C w (c_X1_countCommit ok hc5) wy_X1_countCommit wi_X1_countCommit nw_m_X5_80 iC1 eC1 vc1 rfl rfl ⟨Nat.le_of_ble_eq_true rfl, Nat.le_of_ble_eq_true rfl⟩ rfl hl.1 rfl (Nat.le_of_ble_eq_true rfl) dX5_put_13 ⟨Nat.le_refl _, Nat.le_refl _⟩) (fun H locs w => ?_)
    refine lv_aload_n hx hb dX5_put_16 rfl (lv_at hl 0 rfl) ?_
    refine r_get C w iC0 eC0 vc5 inlX5 0 (by decide) w_fl_RX5_10_AtomicThreads_memory_LAtomicThreads_Memory rfl dX5_put_17 ?_
    refine lv_iload_n hx hb dX5_put_20 rfl (lv_at hl 1 rfl) ?_
    refine lv_iload_n hx hb dX5_put_21 rfl (lv_at hl 2 rfl) ?_
    obtain ⟨V10, hc8, hf⟩ := ob_some hf
    refine k_V w (q_VN C w (c_X1_change ok hc8) wy_X1_change wi_X1_change nw_m_X5_83 iC1 eC1 vc1 rfl rfl ⟨Nat.le_of_ble_eq_true rfl, Nat.le_of_ble_eq_true rfl⟩ rfl hl.1 rfl (Nat.le_of_ble_eq_true rfl) dX5_put_22 ⟨Nat.le_refl _, Nat.le_refl _⟩) (fun H locs w => ?_)
    refine lv_aload_n hx hb dX5_put_25 rfl (lv_at hl 0 rfl) ?_
    refine lv_iconst (v := 1) hx hb dX5_put_26 (by decide) ?_
    refine lv_iload_n hx hb dX5_put_27 rfl (lv_at hl 1 rfl) ?_
    refine lv_ishl hx hb dX5_put_28 ?_
    obtain ⟨V13, hc11, hf⟩ := ob_some hf
    refine k_V w (q_V C w (c_X5_wake ok hc11) wy_X5_wake wi_X5_wake w_ml_RX5_87_yX5_wake iC0 eC0 vc5 rfl rfl ⟨Nat.le_of_ble_eq_true rfl, Nat.le_of_ble_eq_true rfl⟩ rfl hl.1 rfl (Nat.le_of_ble_eq_true rfl) dX5_put_29 ⟨Nat.le_refl _, Nat.le_refl _⟩) (fun H locs w => ?_)
    refine lv_iconst (v := 1) hx hb dX5_put_32 (by decide) ?_
    cases hf
    exact r_zret C hr hlk w (by decide) dX5_put_33
  · rw [if_pos c4] at hf
    refine lv_iconst (v := 0) hx hb dX5_put_7 (by decide) ?_
    cases hf
    exact r_zret C hr hlk w (by decide) dX5_put_8
set_option maxHeartbeats 4000000 in
set_option maxRecDepth 100000 in
theorem c_X5_value (ok : Wok EC idC a) {V : Sto} {r : Int32} {x1 : Int32} (hf : fX5_value V x1 = some r) : MtI l cy D EC idC a yX5_value cX5_value 2 .int rm_X5_value [.ref (a (0, 0, 0)), .int x1] V r V := by
  refine ofM (by decide +kernel) ok (Nat.le_of_ble_eq_true rfl) (fun p e s m args below meth c C hr hlk w ls hl => ?_)
  have hx := C.1.1
  have hb := C.1.2.1
  rw [fX5_value] at hf
  skip
  refine lv_iload_n hx hb dX5_value_0 rfl (lv_at hl 1 rfl) ?_
  obtain ⟨r2, hc1, hf⟩ := ob_some hf
  refine k_I w (q_S C w (c_X5_isVariable ok hc1) wy_X5_isVariable w_sta_yX5_isVariable w_ml_RX5_76_yX5_isVariable rfl rfl ⟨Nat.le_of_ble_eq_true rfl, Nat.le_of_ble_eq_true rfl⟩ rfl hl.1 rfl (Nat.le_of_ble_eq_true rfl) dX5_value_1 ⟨Nat.le_refl _, Nat.le_refl _⟩) (fun H locs w => ?_)
  refine lv_if_eq (tgt := 19) hx hb dX5_value_4 (by decide) (fun c4 => ?_) (fun c4 => ?_)
  · rw [if_pos c4] at hf
    refine lv_iconst (v := 0) hx hb dX5_value_19 (by decide) ?_
    cases hf
    exact r_iret C hr hlk w dX5_value_20
  · rw [if_neg c4] at hf
    refine lv_aload_n hx hb dX5_value_7 rfl (lv_at hl 0 rfl) ?_
    refine r_get C w iC0 eC0 vc5 inlX5 0 (by decide) w_fl_RX5_10_AtomicThreads_memory_LAtomicThreads_Memory rfl dX5_value_8 ?_
    refine r_getN C w iC1 eC1 vc1 inlX1 0 (by decide) nw_f_X5_91 rfl dX5_value_11 ?_
    refine lv_iload_n hx hb dX5_value_14 rfl (lv_at hl 1 rfl) ?_
    obtain ⟨g5, hf⟩ := gd_some hf
    refine r_iald C w iC2 aC2 g5 dX5_value_15 ?_
    refine lv_goto (tgt := 20) hx hb dX5_value_16 (by decide) ?_
    cases hf
    exact r_iret C hr hlk w dX5_value_20
set_option maxHeartbeats 4000000 in
set_option maxRecDepth 100000 in
theorem c_X5_version (ok : Wok EC idC a) {V : Sto} {r : Int32} {x1 : Int32} (hf : fX5_version V x1 = some r) : MtI l cy D EC idC a yX5_version cX5_version 2 .int rm_X5_version [.ref (a (0, 0, 0)), .int x1] V r V := by
  refine ofM (by decide +kernel) ok (Nat.le_of_ble_eq_true rfl) (fun p e s m args below meth c C hr hlk w ls hl => ?_)
  have hx := C.1.1
  have hb := C.1.2.1
  rw [fX5_version] at hf
  skip
  refine lv_iload_n hx hb dX5_version_0 rfl (lv_at hl 1 rfl) ?_
  obtain ⟨r2, hc1, hf⟩ := ob_some hf
  refine k_I w (q_S C w (c_X5_isVariable ok hc1) wy_X5_isVariable w_sta_yX5_isVariable w_ml_RX5_76_yX5_isVariable rfl rfl ⟨Nat.le_of_ble_eq_true rfl, Nat.le_of_ble_eq_true rfl⟩ rfl hl.1 rfl (Nat.le_of_ble_eq_true rfl) dX5_version_1 ⟨Nat.le_refl _, Nat.le_refl _⟩) (fun H locs w => ?_)
  refine lv_if_eq (tgt := 19) hx hb dX5_version_4 (by decide) (fun c4 => ?_) (fun c4 => ?_)
  · rw [if_pos c4] at hf
    refine lv_iconst (v := 0) hx hb dX5_version_19 (by decide) ?_
    cases hf
    exact r_iret C hr hlk w dX5_version_20
  · rw [if_neg c4] at hf
    refine lv_aload_n hx hb dX5_version_7 rfl (lv_at hl 0 rfl) ?_
    refine r_get C w iC0 eC0 vc5 inlX5 0 (by decide) w_fl_RX5_10_AtomicThreads_memory_LAtomicThreads_Memory rfl dX5_version_8 ?_
    refine r_getN C w iC1 eC1 vc1 inlX1 1 (by decide) nw_f_X5_95 rfl dX5_version_11 ?_
    refine lv_iload_n hx hb dX5_version_14 rfl (lv_at hl 1 rfl) ?_
    obtain ⟨g5, hf⟩ := gd_some hf
    refine r_iald C w iC3 aC3 g5 dX5_version_15 ?_
    refine lv_goto (tgt := 20) hx hb dX5_version_16 (by decide) ?_
    cases hf
    exact r_iret C hr hlk w dX5_version_20
set_option maxHeartbeats 4000000 in
set_option maxRecDepth 100000 in
theorem c_X5_commits (ok : Wok EC idC a) {V : Sto} {r : Int32} (hf : fX5_commits V = some r) : MtI l cy D EC idC a yX5_commits cX5_commits 1 .int rm_X5_commits [.ref (a (0, 0, 0))] V r V := by
  refine ofM (by decide +kernel) ok (Nat.le_of_ble_eq_true rfl) (fun p e s m args below meth c C hr hlk w ls hl => ?_)
  have hx := C.1.1
  have hb := C.1.2.1
  rw [fX5_commits] at hf
  skip
  refine lv_aload_n hx hb dX5_commits_0 rfl (lv_at hl 0 rfl) ?_
  refine r_get C w iC0 eC0 vc5 inlX5 0 (by decide) w_fl_RX5_10_AtomicThreads_memory_LAtomicThreads_Memory rfl dX5_commits_1 ?_
  refine r_getN C w iC1 eC1 vc1 inlX1 2 (by decide) nw_f_X5_98 rfl dX5_commits_4 ?_
  cases hf
  exact r_iret C hr hlk w dX5_commits_7
set_option maxHeartbeats 4000000 in
set_option maxRecDepth 100000 in
theorem c_X5_state (ok : Wok EC idC a) {V : Sto} {r : Int32} {x1 : Int32} (hf : fX5_state V x1 = some r) : MtI l cy D EC idC a yX5_state cX5_state 3 .int rm_X5_state [.ref (a (0, 0, 0)), .int x1] V r V := by
  refine ofM (by decide +kernel) ok (Nat.le_of_ble_eq_true rfl) (fun p e s m args below meth c C hr hlk w ls hl => ?_)
  have hx := C.1.1
  have hb := C.1.2.1
  rw [fX5_state] at hf
  skip
  refine lv_aload_n hx hb dX5_state_0 rfl (lv_at hl 0 rfl) ?_
  refine lv_iload_n hx hb dX5_state_1 rfl (lv_at hl 1 rfl) ?_
  rcases hs1 : sOf x1 with _ | t2
  · rw [om_none hs1] at hf
    refine k_R w (q_V C w (c_strandOf_none ok hs1) wy_X5_strandOf wi_X5_strandOf w_ml_RX5_30_yX5_strandOf iC0 eC0 vc5 rfl rfl ⟨Nat.le_of_ble_eq_true rfl, Nat.le_of_ble_eq_true rfl⟩ rfl hl.1 rfl (Nat.le_of_ble_eq_true rfl) dX5_state_2 ⟨Nat.le_refl _, Nat.le_refl _⟩) (fun H locs w => ?_)
    refine lv_astore_nN hx hb dX5_state_5 rfl hl (by decide) rfl (fun ls hl => ?_)
    refine lv_aload_nN hx hb dX5_state_6 rfl (lv_at hl 0 rfl) ?_
    refine lv_ifnonnullN hx hb dX5_state_7 ?_
    refine lv_iconst (v := (-1)) hx hb dX5_state_10 (by decide) ?_
    refine lv_goto (tgt := 18) hx hb dX5_state_11 (by decide) ?_
    cases hf
    exact r_iret C hr hlk w dX5_state_18
  · rw [om_some hs1] at hf
    have ht2 : t2 < 4 := sOf_lt hs1
    refine k_R w (q_V C w (c_strandOf_some ok hs1) wy_X5_strandOf wi_X5_strandOf w_ml_RX5_30_yX5_strandOf iC0 eC0 vc5 rfl rfl ⟨Nat.le_of_ble_eq_true rfl, Nat.le_of_ble_eq_true rfl⟩ rfl hl.1 rfl (Nat.le_of_ble_eq_true rfl) dX5_state_2 ⟨Nat.le_refl _, Nat.le_refl _⟩) (fun H locs w => ?_)
    refine lv_astore_n hx hb dX5_state_5 rfl hl (by decide) rfl (fun ls hl => ?_)
    refine lv_aload_n hx hb dX5_state_6 rfl (lv_at hl 0 rfl) ?_
    refine lv_ifnonnull (tgt := 14) hx hb dX5_state_7 (by decide) ?_
    refine lv_aload_n hx hb dX5_state_14 rfl (lv_at hl 0 rfl) ?_
    refine r_getN C w (iC10 ht2) eC10 vc4 inlX4 9 (by decide) nw_f_X5_55 rfl dX5_state_15 ?_
    cases hf
    exact r_iret C hr hlk w dX5_state_18
set_option maxHeartbeats 4000000 in
set_option maxRecDepth 100000 in
theorem c_X5_place (ok : Wok EC idC a) {V : Sto} {r : Int32} {x1 : Int32} (hf : fX5_place V x1 = some r) : MtI l cy D EC idC a yX5_place cX5_place 3 .int rm_X5_place [.ref (a (0, 0, 0)), .int x1] V r V := by
  refine ofM (by decide +kernel) ok (Nat.le_of_ble_eq_true rfl) (fun p e s m args below meth c C hr hlk w ls hl => ?_)
  have hx := C.1.1
  have hb := C.1.2.1
  rw [fX5_place] at hf
  skip
  refine lv_aload_n hx hb dX5_place_0 rfl (lv_at hl 0 rfl) ?_
  refine lv_iload_n hx hb dX5_place_1 rfl (lv_at hl 1 rfl) ?_
  rcases hs1 : sOf x1 with _ | t2
  · rw [om_none hs1] at hf
    refine k_R w (q_V C w (c_strandOf_none ok hs1) wy_X5_strandOf wi_X5_strandOf w_ml_RX5_30_yX5_strandOf iC0 eC0 vc5 rfl rfl ⟨Nat.le_of_ble_eq_true rfl, Nat.le_of_ble_eq_true rfl⟩ rfl hl.1 rfl (Nat.le_of_ble_eq_true rfl) dX5_place_2 ⟨Nat.le_refl _, Nat.le_refl _⟩) (fun H locs w => ?_)
    refine lv_astore_nN hx hb dX5_place_5 rfl hl (by decide) rfl (fun ls hl => ?_)
    refine lv_aload_nN hx hb dX5_place_6 rfl (lv_at hl 0 rfl) ?_
    refine lv_ifnullN (tgt := 17) hx hb dX5_place_7 (by decide) ?_
    refine lv_iconst (v := (-1)) hx hb dX5_place_17 (by decide) ?_
    refine lv_goto (tgt := 25) hx hb dX5_place_18 (by decide) ?_
    cases hf
    exact r_iret C hr hlk w dX5_place_25
  · rw [om_some hs1] at hf
    have ht2 : t2 < 4 := sOf_lt hs1
    refine k_R w (q_V C w (c_strandOf_some ok hs1) wy_X5_strandOf wi_X5_strandOf w_ml_RX5_30_yX5_strandOf iC0 eC0 vc5 rfl rfl ⟨Nat.le_of_ble_eq_true rfl, Nat.le_of_ble_eq_true rfl⟩ rfl hl.1 rfl (Nat.le_of_ble_eq_true rfl) dX5_place_2 ⟨Nat.le_refl _, Nat.le_refl _⟩) (fun H locs w => ?_)
    refine lv_astore_n hx hb dX5_place_5 rfl hl (by decide) rfl (fun ls hl => ?_)
    refine lv_aload_n hx hb dX5_place_6 rfl (lv_at hl 0 rfl) ?_
    refine lv_ifnull hx hb dX5_place_7 ?_
    refine lv_aload_n hx hb dX5_place_10 rfl (lv_at hl 0 rfl) ?_
    obtain ⟨r4, hc3, hf⟩ := ob_some hf
    refine k_I w (q_VN C w (c_X4_isUnderWay ok ht2 hc3) wy_X4_isUnderWay wi_X4_isUnderWay nw_m_X5_34 (iC10 ht2) eC10 vc4 rfl rfl ⟨Nat.le_of_ble_eq_true rfl, Nat.le_of_ble_eq_true rfl⟩ rfl hl.1 rfl (Nat.le_of_ble_eq_true rfl) dX5_place_11 ⟨Nat.le_refl _, Nat.le_refl _⟩) (fun H locs w => ?_)
    refine lv_if_ne (tgt := 21) hx hb dX5_place_14 (by decide) (fun c6 => ?_) (fun c6 => ?_)
    · rw [if_neg c6] at hf
      refine lv_aload_n hx hb dX5_place_21 rfl (lv_at hl 0 rfl) ?_
      refine r_getN C w (iC10 ht2) eC10 vc4 inlX4 10 (by decide) nw_f_X5_101 rfl dX5_place_22 ?_
      cases hf
      exact r_iret C hr hlk w dX5_place_25
    · rw [if_pos c6] at hf
      refine lv_iconst (v := (-1)) hx hb dX5_place_17 (by decide) ?_
      refine lv_goto (tgt := 25) hx hb dX5_place_18 (by decide) ?_
      cases hf
      exact r_iret C hr hlk w dX5_place_25
set_option maxHeartbeats 4000000 in
set_option maxRecDepth 100000 in
theorem c_X5_register (ok : Wok EC idC a) {V : Sto} {r : Int32} {x1 : Int32} {x2 : Int32} (hf : fX5_register V x1 x2 = some r) : MtI l cy D EC idC a yX5_register cX5_register 4 .int rm_X5_register [.ref (a (0, 0, 0)), .int x1, .int x2] V r V := by
  refine ofM (by decide +kernel) ok (Nat.le_of_ble_eq_true rfl) (fun p e s m args below meth c C hr hlk w ls hl => ?_)
  have hx := C.1.1
  have hb := C.1.2.1
  rw [fX5_register] at hf
  skip
  refine lv_aload_n hx hb dX5_register_0 rfl (lv_at hl 0 rfl) ?_
  refine lv_iload_n hx hb dX5_register_1 rfl (lv_at hl 1 rfl) ?_
  rcases hs1 : sOf x1 with _ | t2
  · rw [om_none hs1] at hf
    refine k_R w (q_V C w (c_strandOf_none ok hs1) wy_X5_strandOf wi_X5_strandOf w_ml_RX5_30_yX5_strandOf iC0 eC0 vc5 rfl rfl ⟨Nat.le_of_ble_eq_true rfl, Nat.le_of_ble_eq_true rfl⟩ rfl hl.1 rfl (Nat.le_of_ble_eq_true rfl) dX5_register_2 ⟨Nat.le_refl _, Nat.le_refl _⟩) (fun H locs w => ?_)
    refine lv_astore_nN hx hb dX5_register_5 rfl hl (by decide) rfl (fun ls hl => ?_)
    refine lv_aload_nN hx hb dX5_register_6 rfl (lv_at hl 0 rfl) ?_
    refine lv_ifnonnullN hx hb dX5_register_7 ?_
    refine lv_iconst (v := 0) hx hb dX5_register_10 (by decide) ?_
    refine lv_goto (tgt := 19) hx hb dX5_register_11 (by decide) ?_
    cases hf
    exact r_iret C hr hlk w dX5_register_19
  · rw [om_some hs1] at hf
    have ht2 : t2 < 4 := sOf_lt hs1
    refine k_R w (q_V C w (c_strandOf_some ok hs1) wy_X5_strandOf wi_X5_strandOf w_ml_RX5_30_yX5_strandOf iC0 eC0 vc5 rfl rfl ⟨Nat.le_of_ble_eq_true rfl, Nat.le_of_ble_eq_true rfl⟩ rfl hl.1 rfl (Nat.le_of_ble_eq_true rfl) dX5_register_2 ⟨Nat.le_refl _, Nat.le_refl _⟩) (fun H locs w => ?_)
    refine lv_astore_n hx hb dX5_register_5 rfl hl (by decide) rfl (fun ls hl => ?_)
    refine lv_aload_n hx hb dX5_register_6 rfl (lv_at hl 0 rfl) ?_
    refine lv_ifnonnull (tgt := 14) hx hb dX5_register_7 (by decide) ?_
    refine lv_aload_n hx hb dX5_register_14 rfl (lv_at hl 0 rfl) ?_
    refine lv_iload_n hx hb dX5_register_15 rfl (lv_at hl 3 rfl) ?_
    obtain ⟨r4, hc3, hf⟩ := ob_some hf
    refine k_I w (q_VN C w (c_X4_registerValue ok ht2 hc3) wy_X4_registerValue wi_X4_registerValue nw_m_X5_104 (iC10 ht2) eC10 vc4 rfl rfl ⟨Nat.le_of_ble_eq_true rfl, Nat.le_of_ble_eq_true rfl⟩ rfl hl.1 rfl (Nat.le_of_ble_eq_true rfl) dX5_register_16 ⟨Nat.le_refl _, Nat.le_refl _⟩) (fun H locs w => ?_)
    cases hf
    exact r_iret C hr hlk w dX5_register_19
set_option maxHeartbeats 4000000 in
set_option maxRecDepth 100000 in
theorem c_X5_sees (ok : Wok EC idC a) {V : Sto} {r : Int32} {x1 : Int32} {x2 : Int32} (hf : fX5_sees V x1 x2 = some r) : MtI l cy D EC idC a yX5_sees cX5_sees 4 .int rm_X5_sees [.ref (a (0, 0, 0)), .int x1, .int x2] V r V := by
  refine ofM (by decide +kernel) ok (Nat.le_of_ble_eq_true rfl) (fun p e s m args below meth c C hr hlk w ls hl => ?_)
  have hx := C.1.1
  have hb := C.1.2.1
  rw [fX5_sees] at hf
  skip
  refine lv_aload_n hx hb dX5_sees_0 rfl (lv_at hl 0 rfl) ?_
  refine lv_iload_n hx hb dX5_sees_1 rfl (lv_at hl 1 rfl) ?_
  rcases hs1 : sOf x1 with _ | t2
  · rw [om_none hs1] at hf
    refine k_R w (q_V C w (c_strandOf_none ok hs1) wy_X5_strandOf wi_X5_strandOf w_ml_RX5_30_yX5_strandOf iC0 eC0 vc5 rfl rfl ⟨Nat.le_of_ble_eq_true rfl, Nat.le_of_ble_eq_true rfl⟩ rfl hl.1 rfl (Nat.le_of_ble_eq_true rfl) dX5_sees_2 ⟨Nat.le_refl _, Nat.le_refl _⟩) (fun H locs w => ?_)
    refine lv_astore_nN hx hb dX5_sees_5 rfl hl (by decide) rfl (fun ls hl => ?_)
    refine lv_aload_nN hx hb dX5_sees_6 rfl (lv_at hl 0 rfl) ?_
    refine lv_ifnullN (tgt := 17) hx hb dX5_sees_7 (by decide) ?_
    refine lv_iconst (v := 0) hx hb dX5_sees_17 (by decide) ?_
    cases hf
    exact r_iret C hr hlk w dX5_sees_18
  · rw [om_some hs1] at hf
    have ht2 : t2 < 4 := sOf_lt hs1
    refine k_R w (q_V C w (c_strandOf_some ok hs1) wy_X5_strandOf wi_X5_strandOf w_ml_RX5_30_yX5_strandOf iC0 eC0 vc5 rfl rfl ⟨Nat.le_of_ble_eq_true rfl, Nat.le_of_ble_eq_true rfl⟩ rfl hl.1 rfl (Nat.le_of_ble_eq_true rfl) dX5_sees_2 ⟨Nat.le_refl _, Nat.le_refl _⟩) (fun H locs w => ?_)
    refine lv_astore_n hx hb dX5_sees_5 rfl hl (by decide) rfl (fun ls hl => ?_)
    refine lv_aload_n hx hb dX5_sees_6 rfl (lv_at hl 0 rfl) ?_
    refine lv_ifnull hx hb dX5_sees_7 ?_
    refine lv_iload_n hx hb dX5_sees_10 rfl (lv_at hl 3 rfl) ?_
    obtain ⟨r4, hc3, hf⟩ := ob_some hf
    refine k_I w (q_S C w (c_X5_isVariable ok hc3) wy_X5_isVariable w_sta_yX5_isVariable w_ml_RX5_76_yX5_isVariable rfl rfl ⟨Nat.le_of_ble_eq_true rfl, Nat.le_of_ble_eq_true rfl⟩ rfl hl.1 rfl (Nat.le_of_ble_eq_true rfl) dX5_sees_11 ⟨Nat.le_refl _, Nat.le_refl _⟩) (fun H locs w => ?_)
    refine lv_if_ne (tgt := 19) hx hb dX5_sees_14 (by decide) (fun c6 => ?_) (fun c6 => ?_)
    · rw [if_neg c6] at hf
      refine lv_aload_n hx hb dX5_sees_19 rfl (lv_at hl 0 rfl) ?_
      refine lv_iload_n hx hb dX5_sees_20 rfl (lv_at hl 3 rfl) ?_
      obtain ⟨r8, hc7, hf⟩ := ob_some hf
      refine k_I w (q_VN C w (c_X4_hasWritten ok ht2 hc7) wy_X4_hasWritten wi_X4_hasWritten nw_m_X5_108 (iC10 ht2) eC10 vc4 rfl rfl ⟨Nat.le_of_ble_eq_true rfl, Nat.le_of_ble_eq_true rfl⟩ rfl hl.1 rfl (Nat.le_of_ble_eq_true rfl) dX5_sees_21 ⟨Nat.le_refl _, Nat.le_refl _⟩) (fun H locs w => ?_)
      refine lv_if_eq (tgt := 36) hx hb dX5_sees_24 (by decide) (fun c10 => ?_) (fun c10 => ?_)
      · rw [if_pos c10] at hf
        refine lv_aload_n hx hb dX5_sees_36 rfl (lv_at hl 1 rfl) ?_
        refine r_get C w iC0 eC0 vc5 inlX5 0 (by decide) w_fl_RX5_10_AtomicThreads_memory_LAtomicThreads_Memory rfl dX5_sees_37 ?_
        refine r_getN C w iC1 eC1 vc1 inlX1 0 (by decide) nw_f_X5_91 rfl dX5_sees_40 ?_
        refine lv_iload_n hx hb dX5_sees_43 rfl (lv_at hl 3 rfl) ?_
        obtain ⟨g11, hf⟩ := gd_some hf
        refine r_iald C w iC2 aC2 g11 dX5_sees_44 ?_
        cases hf
        exact r_iret C hr hlk w dX5_sees_45
      · rw [if_neg c10] at hf
        refine lv_aload_n hx hb dX5_sees_27 rfl (lv_at hl 0 rfl) ?_
        refine r_getN C w (iC10 ht2) eC10 vc4 inlX4 2 (by decide) nw_f_X5_111 rfl dX5_sees_28 ?_
        refine lv_iload_n hx hb dX5_sees_31 rfl (lv_at hl 3 rfl) ?_
        obtain ⟨g12, hf⟩ := gd_some hf
        refine r_iald C w (iC20 ht2) aC20 g12 dX5_sees_32 ?_
        refine lv_goto (tgt := 45) hx hb dX5_sees_33 (by decide) ?_
        cases hf
        exact r_iret C hr hlk w dX5_sees_45
    · rw [if_pos c6] at hf
      refine lv_iconst (v := 0) hx hb dX5_sees_17 (by decide) ?_
      cases hf
      exact r_iret C hr hlk w dX5_sees_18
set_option maxHeartbeats 4000000 in
set_option maxRecDepth 100000 in
theorem c_X5_log (ok : Wok EC idC a) {V : Sto} {r : Int32} {x1 : Int32} (hf : fX5_log V x1 = some r) : MtI l cy D EC idC a yX5_log cX5_log 3 .int rm_X5_log [.ref (a (0, 0, 0)), .int x1] V r V := by
  refine ofM (by decide +kernel) ok (Nat.le_of_ble_eq_true rfl) (fun p e s m args below meth c C hr hlk w ls hl => ?_)
  have hx := C.1.1
  have hb := C.1.2.1
  rw [fX5_log] at hf
  skip
  refine lv_aload_n hx hb dX5_log_0 rfl (lv_at hl 0 rfl) ?_
  refine lv_iload_n hx hb dX5_log_1 rfl (lv_at hl 1 rfl) ?_
  rcases hs1 : sOf x1 with _ | t2
  · rw [om_none hs1] at hf
    refine k_R w (q_V C w (c_strandOf_none ok hs1) wy_X5_strandOf wi_X5_strandOf w_ml_RX5_30_yX5_strandOf iC0 eC0 vc5 rfl rfl ⟨Nat.le_of_ble_eq_true rfl, Nat.le_of_ble_eq_true rfl⟩ rfl hl.1 rfl (Nat.le_of_ble_eq_true rfl) dX5_log_2 ⟨Nat.le_refl _, Nat.le_refl _⟩) (fun H locs w => ?_)
    refine lv_astore_nN hx hb dX5_log_5 rfl hl (by decide) rfl (fun ls hl => ?_)
    refine lv_aload_nN hx hb dX5_log_6 rfl (lv_at hl 0 rfl) ?_
    refine lv_ifnonnullN hx hb dX5_log_7 ?_
    refine lv_iconst (v := 0) hx hb dX5_log_10 (by decide) ?_
    refine lv_goto (tgt := 26) hx hb dX5_log_11 (by decide) ?_
    cases hf
    exact r_iret C hr hlk w dX5_log_26
  · rw [om_some hs1] at hf
    have ht2 : t2 < 4 := sOf_lt hs1
    refine k_R w (q_V C w (c_strandOf_some ok hs1) wy_X5_strandOf wi_X5_strandOf w_ml_RX5_30_yX5_strandOf iC0 eC0 vc5 rfl rfl ⟨Nat.le_of_ble_eq_true rfl, Nat.le_of_ble_eq_true rfl⟩ rfl hl.1 rfl (Nat.le_of_ble_eq_true rfl) dX5_log_2 ⟨Nat.le_refl _, Nat.le_refl _⟩) (fun H locs w => ?_)
    refine lv_astore_n hx hb dX5_log_5 rfl hl (by decide) rfl (fun ls hl => ?_)
    refine lv_aload_n hx hb dX5_log_6 rfl (lv_at hl 0 rfl) ?_
    refine lv_ifnonnull (tgt := 14) hx hb dX5_log_7 (by decide) ?_
    refine lv_aload_n hx hb dX5_log_14 rfl (lv_at hl 0 rfl) ?_
    refine r_getN C w (iC10 ht2) eC10 vc4 inlX4 7 (by decide) nw_f_X5_114 rfl dX5_log_15 ?_
    refine lv_aload_n hx hb dX5_log_18 rfl (lv_at hl 0 rfl) ?_
    refine r_getN C w (iC10 ht2) eC10 vc4 inlX4 8 (by decide) nw_f_X5_117 rfl dX5_log_19 ?_
    refine lv_bipush (v := 8) hx hb dX5_log_22 (by decide) ?_
    refine lv_ishl hx hb dX5_log_24 ?_
    refine lv_iadd hx hb dX5_log_25 ?_
    cases hf
    exact r_iret C hr hlk w dX5_log_26
set_option maxHeartbeats 4000000 in
set_option maxRecDepth 100000 in
theorem jX5_waiting_L13 (C : Cx cy D EC idC a p s m args c RX5 cX5_waiting 4) (hr : meth.sig.returnType = some .int) (hlk : meth.locks = false) {Q : State → Prop} : ∀ (n : Nat) {V : Sto} {x1 : Int32} {x2 : Int32} {x3 : Int32} {x2' : Int32} {H : Heap} {locs : List Loc} {ls : Array Slot}, Wd cy D EC idC a V s H locs → lv_has ls 4 [(0, .ref (a (0, 0, 0))), (1, .int x1), (2, .int x2), (3, .int x3)] → fX5_waiting_L13 n V x1 x2 x3 = some (x2') → (∀ (H1 : Heap) (locs1 : List Loc) (ls1 : Array Slot), Wd cy D EC idC a V s H1 locs1 → lv_has ls1 4 [(2, .int x2')] → W p l e rm_X5_waiting s m args below meth c H1 locs1 0 0 (Q) (F0 m 42 ls1 [])) → W p l e rm_X5_waiting s m args below meth c H locs 0 0 (Q) (F0 m 13 ls []) := by
  have hx := C.1.1
  have hb := C.1.2.1
  have ok := C.2.2.2
  intro n
  induction n with
  | zero => intro V x1 x2 x3 x2' H locs ls w hl hf kk; cases hf
  | succ n ih =>
    intro V x1 x2 x3 x2' H locs ls w hl hf kk
    rw [fX5_waiting_L13] at hf
    refine lv_iload_n hx hb dX5_waiting_13 rfl (lv_at hl 3 rfl) ?_
    refine lv_iconst (v := 4) hx hb dX5_waiting_14 (by decide) ?_
    refine lv_icmp_ge (tgt := 42) hx hb dX5_waiting_15 (by decide) (fun c5 => ?_) (fun c5 => ?_)
    · rw [if_pos c5] at hf
      cases hf
      exact kk _ _ _ w (lv_sub hl [2] rfl)
    · rw [if_neg c5] at hf
      refine lv_aload_n hx hb dX5_waiting_18 rfl (lv_at hl 0 rfl) ?_
      refine r_get C w iC0 eC0 vc5 inlX5 2 (by decide) w_fl_RX5_25_AtomicThreads_strands_LAtomicThreads_Strand rfl dX5_waiting_19 ?_
      refine lv_iload_n hx hb dX5_waiting_22 rfl (lv_at hl 3 rfl) ?_
      obtain ⟨g6, hf⟩ := gd_some hf
      refine r_aald C w iC6 qC6 rfl g6 dX5_waiting_23 ?_
      refine lv_iconst (v := 1) hx hb dX5_waiting_24 (by decide) ?_
      refine lv_iload_n hx hb dX5_waiting_25 rfl (lv_at hl 1 rfl) ?_
      refine lv_ishl hx hb dX5_waiting_26 ?_
      obtain ⟨r8, hc7, hf⟩ := ob_some hf
      refine k_I w (q_VN C w (c_X4_waitsFor ok (inb_lt g6) hc7) wy_X4_waitsFor wi_X4_waitsFor nw_m_X5_120 (iC10 (inb_lt g6)) eC10 vc4 rfl rfl ⟨Nat.le_of_ble_eq_true rfl, Nat.le_of_ble_eq_true rfl⟩ rfl hl.1 rfl (Nat.le_of_ble_eq_true rfl) dX5_waiting_27 ⟨Nat.le_refl _, Nat.le_refl _⟩) (fun H locs w => ?_)
      refine lv_if_eq (tgt := 36) hx hb dX5_waiting_30 (by decide) (fun c10 => ?_) (fun c10 => ?_)
      · rw [if_pos c10] at hf
        refine lv_iinc (v := (x3 + 1)) hx hb dX5_waiting_36 hl (k := 3) rfl (by rfl) (by decide) rfl (fun ls hl => ?_)
        refine lv_goto (tgt := 13) hx hb dX5_waiting_39 (by decide) ?_
        exact ih w (lv_sub hl [1, 2, 3, 0] rfl) hf kk
      · rw [if_neg c10] at hf
        refine lv_iinc (v := (x2 + 1)) hx hb dX5_waiting_33 hl (k := 2) rfl (by rfl) (by decide) rfl (fun ls hl => ?_)
        refine lv_iinc (v := (x3 + 1)) hx hb dX5_waiting_36 hl (k := 3) rfl (by rfl) (by decide) rfl (fun ls hl => ?_)
        refine lv_goto (tgt := 13) hx hb dX5_waiting_39 (by decide) ?_
        exact ih w (lv_sub hl [2, 3, 1, 0] rfl) hf kk
set_option maxHeartbeats 4000000 in
set_option maxRecDepth 100000 in
theorem c_X5_waiting (ok : Wok EC idC a) {V : Sto} {r : Int32} {x1 : Int32} (hf : fX5_waiting V x1 = some r) : MtI l cy D EC idC a yX5_waiting cX5_waiting 4 .int rm_X5_waiting [.ref (a (0, 0, 0)), .int x1] V r V := by
  refine ofM (by decide +kernel) ok (Nat.le_of_ble_eq_true rfl) (fun p e s m args below meth c C hr hlk w ls hl => ?_)
  have hx := C.1.1
  have hb := C.1.2.1
  rw [fX5_waiting] at hf
  skip
  refine lv_iload_n hx hb dX5_waiting_0 rfl (lv_at hl 1 rfl) ?_
  obtain ⟨r2, hc1, hf⟩ := ob_some hf
  refine k_I w (q_S C w (c_X5_isVariable ok hc1) wy_X5_isVariable w_sta_yX5_isVariable w_ml_RX5_76_yX5_isVariable rfl rfl ⟨Nat.le_of_ble_eq_true rfl, Nat.le_of_ble_eq_true rfl⟩ rfl hl.1 rfl (Nat.le_of_ble_eq_true rfl) dX5_waiting_1 ⟨Nat.le_refl _, Nat.le_refl _⟩) (fun H locs w => ?_)
  refine lv_if_ne (tgt := 9) hx hb dX5_waiting_4 (by decide) (fun c4 => ?_) (fun c4 => ?_)
  · rw [if_neg c4] at hf
    refine lv_iconst (v := 0) hx hb dX5_waiting_9 (by decide) ?_
    refine lv_istore_n hx hb dX5_waiting_10 rfl hl (by decide) rfl (fun ls hl => ?_)
    refine lv_iconst (v := 0) hx hb dX5_waiting_11 (by decide) ?_
    refine lv_istore_n hx hb dX5_waiting_12 rfl hl (by decide) rfl (fun ls hl => ?_)
    obtain ⟨z12, hc11, hf⟩ := ob_some hf
    refine jX5_waiting_L13 C hr hlk 40 w (lv_sub hl [2, 3, 1, 0] rfl) hc11 (fun H locs ls w hl => ?_)
    refine lv_iload_n hx hb dX5_waiting_42 rfl (lv_at hl 0 rfl) ?_
    cases hf
    exact r_iret C hr hlk w dX5_waiting_43
  · rw [if_pos c4] at hf
    refine lv_iconst (v := 0) hx hb dX5_waiting_7 (by decide) ?_
    cases hf
    exact r_iret C hr hlk w dX5_waiting_8
set_option maxHeartbeats 4000000 in
set_option maxRecDepth 100000 in
theorem c_X5_discards (ok : Wok EC idC a) {V : Sto} {r : Int32} {x1 : Int32} (hf : fX5_discards V x1 = some r) : MtI l cy D EC idC a yX5_discards cX5_discards 3 .int rm_X5_discards [.ref (a (0, 0, 0)), .int x1] V r V := by
  refine ofM (by decide +kernel) ok (Nat.le_of_ble_eq_true rfl) (fun p e s m args below meth c C hr hlk w ls hl => ?_)
  have hx := C.1.1
  have hb := C.1.2.1
  rw [fX5_discards] at hf
  skip
  refine lv_aload_n hx hb dX5_discards_0 rfl (lv_at hl 0 rfl) ?_
  refine lv_iload_n hx hb dX5_discards_1 rfl (lv_at hl 1 rfl) ?_
  rcases hs1 : sOf x1 with _ | t2
  · rw [om_none hs1] at hf
    refine k_R w (q_V C w (c_strandOf_none ok hs1) wy_X5_strandOf wi_X5_strandOf w_ml_RX5_30_yX5_strandOf iC0 eC0 vc5 rfl rfl ⟨Nat.le_of_ble_eq_true rfl, Nat.le_of_ble_eq_true rfl⟩ rfl hl.1 rfl (Nat.le_of_ble_eq_true rfl) dX5_discards_2 ⟨Nat.le_refl _, Nat.le_refl _⟩) (fun H locs w => ?_)
    refine lv_astore_nN hx hb dX5_discards_5 rfl hl (by decide) rfl (fun ls hl => ?_)
    refine lv_aload_nN hx hb dX5_discards_6 rfl (lv_at hl 0 rfl) ?_
    refine lv_ifnonnullN hx hb dX5_discards_7 ?_
    refine lv_iconst (v := 0) hx hb dX5_discards_10 (by decide) ?_
    refine lv_goto (tgt := 18) hx hb dX5_discards_11 (by decide) ?_
    cases hf
    exact r_iret C hr hlk w dX5_discards_18
  · rw [om_some hs1] at hf
    have ht2 : t2 < 4 := sOf_lt hs1
    refine k_R w (q_V C w (c_strandOf_some ok hs1) wy_X5_strandOf wi_X5_strandOf w_ml_RX5_30_yX5_strandOf iC0 eC0 vc5 rfl rfl ⟨Nat.le_of_ble_eq_true rfl, Nat.le_of_ble_eq_true rfl⟩ rfl hl.1 rfl (Nat.le_of_ble_eq_true rfl) dX5_discards_2 ⟨Nat.le_refl _, Nat.le_refl _⟩) (fun H locs w => ?_)
    refine lv_astore_n hx hb dX5_discards_5 rfl hl (by decide) rfl (fun ls hl => ?_)
    refine lv_aload_n hx hb dX5_discards_6 rfl (lv_at hl 0 rfl) ?_
    refine lv_ifnonnull (tgt := 14) hx hb dX5_discards_7 (by decide) ?_
    refine lv_aload_n hx hb dX5_discards_14 rfl (lv_at hl 0 rfl) ?_
    refine r_getN C w (iC10 ht2) eC10 vc4 inlX4 11 (by decide) nw_f_X5_123 rfl dX5_discards_15 ?_
    cases hf
    exact r_iret C hr hlk w dX5_discards_18
set_option maxHeartbeats 4000000 in
set_option maxRecDepth 100000 in
theorem jX5_outcome_L4 (C : Cx cy D EC idC a p s m args c RX5 cX5_outcome 3) (hr : meth.sig.returnType = some .int) (hlk : meth.locks = false) : ∀ (n : Nat) {V : Sto} {r : Int32} {x1 : Int32} {x2 : Int32} {H : Heap} {locs : List Loc} {ls : Array Slot}, Wd cy D EC idC a V s H locs → lv_has ls 3 [(0, .ref (a (0, 0, 0))), (1, .int x1), (2, .int x2)] → fX5_outcome_L4 n V x1 x2 = some r → W p l e rm_X5_outcome s m args below meth c H locs 0 0 (MQ below (QI cy D EC idC a r V) args s 0 0 (inA idC a)) (F0 m 4 ls []) := by
  have hx := C.1.1
  have hb := C.1.2.1
  have ok := C.2.2.2
  intro n
  induction n with
  | zero => intro V r x1 x2 H locs ls w hl hf; cases hf
  | succ n ih =>
    intro V r x1 x2 H locs ls w hl hf
    rw [fX5_outcome_L4] at hf
    refine lv_iload_n hx hb dX5_outcome_4 rfl (lv_at hl 2 rfl) ?_
    refine lv_iconst (v := 4) hx hb dX5_outcome_5 (by decide) ?_
    refine lv_icmp_ge (tgt := 45) hx hb dX5_outcome_6 (by decide) (fun c1 => ?_) (fun c1 => ?_)
    · rw [if_pos c1] at hf
      refine lv_iload_n hx hb dX5_outcome_45 rfl (lv_at hl 1 rfl) ?_
      refine lv_if_eq (tgt := 53) hx hb dX5_outcome_46 (by decide) (fun c2 => ?_) (fun c2 => ?_)
      · rw [if_pos c2] at hf
        refine lv_iconst (v := 1) hx hb dX5_outcome_53 (by decide) ?_
        cases hf
        exact r_iret C hr hlk w dX5_outcome_54
      · rw [if_neg c2] at hf
        refine lv_iconst (v := 2) hx hb dX5_outcome_49 (by decide) ?_
        refine lv_goto (tgt := 54) hx hb dX5_outcome_50 (by decide) ?_
        cases hf
        exact r_iret C hr hlk w dX5_outcome_54
    · rw [if_neg c1] at hf
      refine lv_aload_n hx hb dX5_outcome_9 rfl (lv_at hl 0 rfl) ?_
      refine r_get C w iC0 eC0 vc5 inlX5 2 (by decide) w_fl_RX5_25_AtomicThreads_strands_LAtomicThreads_Strand rfl dX5_outcome_10 ?_
      refine lv_iload_n hx hb dX5_outcome_13 rfl (lv_at hl 2 rfl) ?_
      obtain ⟨g3, hf⟩ := gd_some hf
      refine r_aald C w iC6 qC6 rfl g3 dX5_outcome_14 ?_
      refine r_getN C w (iC10 (inb_lt g3)) eC10 vc4 inlX4 9 (by decide) nw_f_X5_55 rfl dX5_outcome_15 ?_
      refine lv_iconst (v := 1) hx hb dX5_outcome_18 (by decide) ?_
      refine lv_icmp_ne (tgt := 24) hx hb dX5_outcome_19 (by decide) (fun c4 => ?_) (fun c4 => ?_)
      · rw [if_neg c4] at hf
        refine lv_aload_n hx hb dX5_outcome_24 rfl (lv_at hl 0 rfl) ?_
        refine r_get C w iC0 eC0 vc5 inlX5 2 (by decide) w_fl_RX5_25_AtomicThreads_strands_LAtomicThreads_Strand rfl dX5_outcome_25 ?_
        refine lv_iload_n hx hb dX5_outcome_28 rfl (lv_at hl 2 rfl) ?_
        obtain ⟨g5, hf⟩ := gd_some hf
        refine r_aald C w iC6 qC6 rfl g5 dX5_outcome_29 ?_
        refine r_getN C w (iC10 (inb_lt g5)) eC10 vc4 inlX4 9 (by decide) nw_f_X5_55 rfl dX5_outcome_30 ?_
        refine lv_iconst (v := 2) hx hb dX5_outcome_33 (by decide) ?_
        refine lv_icmp_ne (tgt := 39) hx hb dX5_outcome_34 (by decide) (fun c6 => ?_) (fun c6 => ?_)
        · rw [if_neg c6] at hf
          refine lv_iinc (v := (x2 + 1)) hx hb dX5_outcome_39 hl (k := 2) rfl (by rfl) (by decide) rfl (fun ls hl => ?_)
          refine lv_goto (tgt := 4) hx hb dX5_outcome_42 (by decide) ?_
          exact ih w (lv_sub hl [1, 2, 0] rfl) hf
        · rw [if_pos c6] at hf
          refine lv_iconst (v := 1) hx hb dX5_outcome_37 (by decide) ?_
          refine lv_istore_n hx hb dX5_outcome_38 rfl hl (by decide) rfl (fun ls hl => ?_)
          refine lv_iinc (v := (x2 + 1)) hx hb dX5_outcome_39 hl (k := 2) rfl (by rfl) (by decide) rfl (fun ls hl => ?_)
          refine lv_goto (tgt := 4) hx hb dX5_outcome_42 (by decide) ?_
          exact ih w (lv_sub hl [2, 1, 0] rfl) hf
      · rw [if_pos c4] at hf
        refine lv_iconst (v := 0) hx hb dX5_outcome_22 (by decide) ?_
        cases hf
        exact r_iret C hr hlk w dX5_outcome_23
set_option maxHeartbeats 4000000 in
set_option maxRecDepth 100000 in
theorem c_X5_outcome (ok : Wok EC idC a) {V : Sto} {r : Int32} (hf : fX5_outcome V = some r) : MtI l cy D EC idC a yX5_outcome cX5_outcome 3 .int rm_X5_outcome [.ref (a (0, 0, 0))] V r V := by
  refine ofM (by decide +kernel) ok (Nat.le_of_ble_eq_true rfl) (fun p e s m args below meth c C hr hlk w ls hl => ?_)
  have hx := C.1.1
  have hb := C.1.2.1
  rw [fX5_outcome] at hf
  skip
  refine lv_iconst (v := 0) hx hb dX5_outcome_0 (by decide) ?_
  refine lv_istore_n hx hb dX5_outcome_1 rfl hl (by decide) rfl (fun ls hl => ?_)
  refine lv_iconst (v := 0) hx hb dX5_outcome_2 (by decide) ?_
  refine lv_istore_n hx hb dX5_outcome_3 rfl hl (by decide) rfl (fun ls hl => ?_)
  exact jX5_outcome_L4 C hr hlk 40 w (lv_sub hl [2, 1, 0] rfl) hf
set_option maxHeartbeats 4000000 in
set_option maxRecDepth 100000 in
theorem c_X5_printed (ok : Wok EC idC a) {V : Sto} {r : Int32} {x1 : Int32} (hf : fX5_printed V x1 = some r) : MtI l cy D EC idC a yX5_printed cX5_printed 2 .int rm_X5_printed [.ref (a (0, 0, 0)), .int x1] V r V := by
  refine ofM (by decide +kernel) ok (Nat.le_of_ble_eq_true rfl) (fun p e s m args below meth c C hr hlk w ls hl => ?_)
  have hx := C.1.1
  have hb := C.1.2.1
  rw [fX5_printed] at hf
  skip
  refine lv_iload_n hx hb dX5_printed_0 rfl (lv_at hl 1 rfl) ?_
  refine lv_iconst (v := (-1)) hx hb dX5_printed_1 (by decide) ?_
  refine lv_icmp_ne (tgt := 15) hx hb dX5_printed_2 (by decide) (fun c1 => ?_) (fun c1 => ?_)
  · rw [if_neg c1] at hf
    refine lv_aload_n hx hb dX5_printed_15 rfl (lv_at hl 0 rfl) ?_
    refine r_get C w iC0 eC0 vc5 inlX5 1 (by decide) w_fl_RX5_19_AtomicThreads_paper_LAtomicThreads_Paper rfl dX5_printed_16 ?_
    refine lv_iload_n hx hb dX5_printed_19 rfl (lv_at hl 1 rfl) ?_
    obtain ⟨r3, hc2, hf⟩ := ob_some hf
    refine k_I w (q_VN C w (c_X2_latest ok hc2) wy_X2_latest wi_X2_latest nw_m_X5_129 iC4 eC4 vc2 rfl rfl ⟨Nat.le_of_ble_eq_true rfl, Nat.le_of_ble_eq_true rfl⟩ rfl hl.1 rfl (Nat.le_of_ble_eq_true rfl) dX5_printed_20 ⟨Nat.le_refl _, Nat.le_refl _⟩) (fun H locs w => ?_)
    cases hf
    exact r_iret C hr hlk w dX5_printed_23
  · rw [if_pos c1] at hf
    refine lv_aload_n hx hb dX5_printed_5 rfl (lv_at hl 0 rfl) ?_
    refine r_get C w iC0 eC0 vc5 inlX5 1 (by decide) w_fl_RX5_19_AtomicThreads_paper_LAtomicThreads_Paper rfl dX5_printed_6 ?_
    refine r_getN C w iC4 eC4 vc2 inlX2 1 (by decide) nw_f_X5_126 rfl dX5_printed_9 ?_
    refine lv_goto (tgt := 23) hx hb dX5_printed_12 (by decide) ?_
    cases hf
    exact r_iret C hr hlk w dX5_printed_23
end S31_metC04
