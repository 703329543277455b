section S31_metC03
variable {p : Program} {l : Launch} {e : Env} {R : Room} {s : State} {m : MethodId} {args : Array Value} {below : List Frame} {meth : Method} {c : Code} {cy : Nat → ClassId} {D : va_G} {a : Id3 → Nat}
set_option maxHeartbeats 4000000 in
set_option maxRecDepth 100000 in
theorem c_X5_cut (ok : Wok EC idC a) {V : Sto} {r : Int32} {V' : Sto} {x1 : Int32} {x2 : Int32} (hf : fX5_cut V x1 x2 = some (r, V')) : MtI l cy D EC idC a yX5_cut cX5_cut 4 .boolean rm_X5_cut [.ref (a (0, 0, 0)), .int x1, .int x2] V r V' := by
  refine ofM (by decide +kernel) ok (Nat.le_of_ble_eq_true rfl) (fun p e s m args below meth c C hr hlk w ls hl => ?_)
  have hx := C.1.1
  have hb := C.1.2.1
  rw [fX5_cut] at hf
  skip
  refine lv_aload_n hx hb dX5_cut_0 rfl (lv_at hl 0 rfl) ?_
  refine lv_iload_n hx hb dX5_cut_1 rfl (lv_at hl 1 rfl) ?_
  rcases hs1 : sOf x1 with _ | t2
  · rw [om_none hs1] at hf
    refine k_R w (q_V C w (c_strandOf_none ok hs1) wy_X5_strandOf wi_X5_strandOf w_ml_RX5_30_yX5_strandOf iC0 eC0 vc5 rfl rfl ⟨Nat.le_of_ble_eq_true rfl, Nat.le_of_ble_eq_true rfl⟩ rfl hl.1 rfl (Nat.le_of_ble_eq_true rfl) dX5_cut_2 ⟨Nat.le_refl _, Nat.le_refl _⟩) (fun H locs w => ?_)
    refine lv_astore_nN hx hb dX5_cut_5 rfl hl (by decide) rfl (fun ls hl => ?_)
    refine lv_aload_nN hx hb dX5_cut_6 rfl (lv_at hl 0 rfl) ?_
    refine lv_ifnullN (tgt := 32) hx hb dX5_cut_7 (by decide) ?_
    refine lv_iconst (v := 0) hx hb dX5_cut_32 (by decide) ?_
    cases hf
    exact r_zret C hr hlk w (by decide) dX5_cut_33
  · rw [om_some hs1] at hf
    have ht2 : t2 < 4 := sOf_lt hs1
    refine k_R w (q_V C w (c_strandOf_some ok hs1) wy_X5_strandOf wi_X5_strandOf w_ml_RX5_30_yX5_strandOf iC0 eC0 vc5 rfl rfl ⟨Nat.le_of_ble_eq_true rfl, Nat.le_of_ble_eq_true rfl⟩ rfl hl.1 rfl (Nat.le_of_ble_eq_true rfl) dX5_cut_2 ⟨Nat.le_refl _, Nat.le_refl _⟩) (fun H locs w => ?_)
    refine lv_astore_n hx hb dX5_cut_5 rfl hl (by decide) rfl (fun ls hl => ?_)
    refine lv_aload_n hx hb dX5_cut_6 rfl (lv_at hl 0 rfl) ?_
    refine lv_ifnull hx hb dX5_cut_7 ?_
    refine lv_aload_n hx hb dX5_cut_10 rfl (lv_at hl 0 rfl) ?_
    obtain ⟨r4, hc3, hf⟩ := ob_some hf
    refine k_I w (q_VN C w (c_X4_isUnderWay ok ht2 hc3) wy_X4_isUnderWay wi_X4_isUnderWay nw_m_X5_34 (iC10 ht2) eC10 vc4 rfl rfl ⟨Nat.le_of_ble_eq_true rfl, Nat.le_of_ble_eq_true rfl⟩ rfl hl.1 rfl (Nat.le_of_ble_eq_true rfl) dX5_cut_11 ⟨Nat.le_refl _, Nat.le_refl _⟩) (fun H locs w => ?_)
    refine lv_if_ne (tgt := 32) hx hb dX5_cut_14 (by decide) (fun c6 => ?_) (fun c6 => ?_)
    · rw [if_neg c6] at hf
      refine lv_iconst (v := 0) hx hb dX5_cut_32 (by decide) ?_
      cases hf
      exact r_zret C hr hlk w (by decide) dX5_cut_33
    · rw [if_pos c6] at hf
      refine lv_iload_n hx hb dX5_cut_17 rfl (lv_at hl 3 rfl) ?_
      refine lv_if_lt (tgt := 32) hx hb dX5_cut_18 (by decide) (fun c7 => ?_) (fun c7 => ?_)
      · rw [if_pos c7] at hf
        refine lv_iconst (v := 0) hx hb dX5_cut_32 (by decide) ?_
        cases hf
        exact r_zret C hr hlk w (by decide) dX5_cut_33
      · rw [if_neg c7] at hf
        refine lv_iload_n hx hb dX5_cut_21 rfl (lv_at hl 3 rfl) ?_
        refine lv_aload_n hx hb dX5_cut_22 rfl (lv_at hl 0 rfl) ?_
        refine r_getN C w (iC10 ht2) eC10 vc4 inlX4 0 (by decide) nw_f_X5_38 rfl dX5_cut_23 ?_
        refine r_getN C w (iC11 ht2) eC11 vc3 inlX3 8 (by decide) nw_f_X5_59 rfl dX5_cut_26 ?_
        refine lv_icmp_le (tgt := 34) hx hb dX5_cut_29 (by decide) (fun c8 => ?_) (fun c8 => ?_)
        · rw [if_pos c8] at hf
          refine lv_aload_n hx hb dX5_cut_34 rfl (lv_at hl 0 rfl) ?_
          refine r_getN C w (iC10 ht2) eC10 vc4 inlX4 0 (by decide) nw_f_X5_38 rfl dX5_cut_35 ?_
          refine lv_iload_n hx hb dX5_cut_38 rfl (lv_at hl 3 rfl) ?_
          refine r_putN C w (iC11 ht2) eC11 vc3 inlX3 tyX3 tyX3_ok nmX3 8 (by decide) nw_f_X5_59 rfl pd_I uC11_8 (Nat.le_of_ble_eq_true rfl) dX5_cut_39 (fun H locs w => ?_)
          obtain ⟨V9, e10, hf⟩ := bnd_some hf
          rw [← e10] at w
          refine lv_aload_n hx hb dX5_cut_42 rfl (lv_at hl 0 rfl) ?_
          refine lv_iconst (v := 0) hx hb dX5_cut_43 (by decide) ?_
          refine r_putN C w (iC10 ht2) eC10 vc4 inlX4 tyX4 tyX4_ok nmX4 9 (by decide) nw_f_X5_55 rfl pd_I uC10_9 (Nat.le_of_ble_eq_true rfl) dX5_cut_44 (fun H locs w => ?_)
          obtain ⟨V11, e12, hf⟩ := bnd_some hf
          rw [← e12] at w
          refine lv_iconst (v := 1) hx hb dX5_cut_47 (by decide) ?_
          cases hf
          exact r_zret C hr hlk w (by decide) dX5_cut_48
        · rw [if_neg c8] at hf
          refine lv_iconst (v := 0) hx hb dX5_cut_32 (by decide) ?_
          cases hf
          exact r_zret C hr hlk w (by decide) dX5_cut_33
set_option maxHeartbeats 4000000 in
set_option maxRecDepth 100000 in
theorem c_X5_check (ok : Wok EC idC a) {V : Sto} {r : Int32} {V' : Sto} {x1 : Int32} (hf : fX5_check V x1 = some (r, V')) : MtI l cy D EC idC a yX5_check cX5_check 3 .int rm_X5_check [.ref (a (0, 0, 0)), .int x1] V r V' := by
  refine ofM (by decide +kernel) ok (Nat.le_of_ble_eq_true rfl) (fun p e s m args below meth c C hr hlk w ls hl => ?_)
  have hx := C.1.1
  have hb := C.1.2.1
  rw [fX5_check] at hf
  skip
  refine lv_aload_n hx hb dX5_check_0 rfl (lv_at hl 0 rfl) ?_
  refine lv_iload_n hx hb dX5_check_1 rfl (lv_at hl 1 rfl) ?_
  rcases hs1 : sOf x1 with _ | t2
  · rw [om_none hs1] at hf
    refine k_R w (q_V C w (c_strandOf_none ok hs1) wy_X5_strandOf wi_X5_strandOf w_ml_RX5_30_yX5_strandOf iC0 eC0 vc5 rfl rfl ⟨Nat.le_of_ble_eq_true rfl, Nat.le_of_ble_eq_true rfl⟩ rfl hl.1 rfl (Nat.le_of_ble_eq_true rfl) dX5_check_2 ⟨Nat.le_refl _, Nat.le_refl _⟩) (fun H locs w => ?_)
    refine lv_astore_nN hx hb dX5_check_5 rfl hl (by decide) rfl (fun ls hl => ?_)
    refine lv_aload_nN hx hb dX5_check_6 rfl (lv_at hl 0 rfl) ?_
    refine lv_ifnonnullN hx hb dX5_check_7 ?_
    refine lv_bipush (v := (-2)) hx hb dX5_check_10 (by decide) ?_
    refine lv_goto (tgt := 22) hx hb dX5_check_12 (by decide) ?_
    cases hf
    exact r_iret C hr hlk w dX5_check_22
  · rw [om_some hs1] at hf
    have ht2 : t2 < 4 := sOf_lt hs1
    refine k_R w (q_V C w (c_strandOf_some ok hs1) wy_X5_strandOf wi_X5_strandOf w_ml_RX5_30_yX5_strandOf iC0 eC0 vc5 rfl rfl ⟨Nat.le_of_ble_eq_true rfl, Nat.le_of_ble_eq_true rfl⟩ rfl hl.1 rfl (Nat.le_of_ble_eq_true rfl) dX5_check_2 ⟨Nat.le_refl _, Nat.le_refl _⟩) (fun H locs w => ?_)
    refine lv_astore_n hx hb dX5_check_5 rfl hl (by decide) rfl (fun ls hl => ?_)
    refine lv_aload_n hx hb dX5_check_6 rfl (lv_at hl 0 rfl) ?_
    refine lv_ifnonnull (tgt := 15) hx hb dX5_check_7 (by decide) ?_
    refine lv_aload_n hx hb dX5_check_15 rfl (lv_at hl 0 rfl) ?_
    refine r_getN C w (iC10 ht2) eC10 vc4 inlX4 0 (by decide) nw_f_X5_38 rfl dX5_check_16 ?_
    obtain ⟨r4, V5, hc3, hf⟩ := ob2_some hf
    refine k_I w (q_VN C w (c_X3_goThrough ok ht2 hc3) wy_X3_goThrough wi_X3_goThrough nw_m_X5_62 (iC11 ht2) eC11 vc3 rfl rfl ⟨Nat.le_of_ble_eq_true rfl, Nat.le_of_ble_eq_true rfl⟩ rfl hl.1 rfl (Nat.le_of_ble_eq_true rfl) dX5_check_19 ⟨Nat.le_refl _, Nat.le_refl _⟩) (fun H locs w => ?_)
    cases hf
    exact r_iret C hr hlk w dX5_check_22
set_option maxHeartbeats 4000000 in
set_option maxRecDepth 100000 in
theorem c_X5_start (ok : Wok EC idC a) {V : Sto} {r : Int32} {V' : Sto} {x1 : Int32} (hf : fX5_start V x1 = some (r, V')) : MtI l cy D EC idC a yX5_start cX5_start 3 .boolean rm_X5_start [.ref (a (0, 0, 0)), .int x1] V r V' := by
  refine ofM (by decide +kernel) ok (Nat.le_of_ble_eq_true rfl) (fun p e s m args below meth c C hr hlk w ls hl => ?_)
  have hx := C.1.1
  have hb := C.1.2.1
  rw [fX5_start] at hf
  skip
  refine lv_aload_n hx hb dX5_start_0 rfl (lv_at hl 0 rfl) ?_
  refine lv_iload_n hx hb dX5_start_1 rfl (lv_at hl 1 rfl) ?_
  rcases hs1 : sOf x1 with _ | t2
  · rw [om_none hs1] at hf
    refine k_R w (q_V C w (c_strandOf_none ok hs1) wy_X5_strandOf wi_X5_strandOf w_ml_RX5_30_yX5_strandOf iC0 eC0 vc5 rfl rfl ⟨Nat.le_of_ble_eq_true rfl, Nat.le_of_ble_eq_true rfl⟩ rfl hl.1 rfl (Nat.le_of_ble_eq_true rfl) dX5_start_2 ⟨Nat.le_refl _, Nat.le_refl _⟩) (fun H locs w => ?_)
    refine lv_astore_nN hx hb dX5_start_5 rfl hl (by decide) rfl (fun ls hl => ?_)
    refine lv_aload_nN hx hb dX5_start_6 rfl (lv_at hl 0 rfl) ?_
    refine lv_ifnullN (tgt := 28) hx hb dX5_start_7 (by decide) ?_
    refine lv_iconst (v := 0) hx hb dX5_start_28 (by decide) ?_
    cases hf
    exact r_zret C hr hlk w (by decide) dX5_start_29
  · rw [om_some hs1] at hf
    have ht2 : t2 < 4 := sOf_lt hs1
    refine k_R w (q_V C w (c_strandOf_some ok hs1) wy_X5_strandOf wi_X5_strandOf w_ml_RX5_30_yX5_strandOf iC0 eC0 vc5 rfl rfl ⟨Nat.le_of_ble_eq_true rfl, Nat.le_of_ble_eq_true rfl⟩ rfl hl.1 rfl (Nat.le_of_ble_eq_true rfl) dX5_start_2 ⟨Nat.le_refl _, Nat.le_refl _⟩) (fun H locs w => ?_)
    refine lv_astore_n hx hb dX5_start_5 rfl hl (by decide) rfl (fun ls hl => ?_)
    refine lv_aload_n hx hb dX5_start_6 rfl (lv_at hl 0 rfl) ?_
    refine lv_ifnull hx hb dX5_start_7 ?_
    refine lv_aload_n hx hb dX5_start_10 rfl (lv_at hl 0 rfl) ?_
    obtain ⟨r4, hc3, hf⟩ := ob_some hf
    refine k_I w (q_VN C w (c_X4_isUnderWay ok ht2 hc3) wy_X4_isUnderWay wi_X4_isUnderWay nw_m_X5_34 (iC10 ht2) eC10 vc4 rfl rfl ⟨Nat.le_of_ble_eq_true rfl, Nat.le_of_ble_eq_true rfl⟩ rfl hl.1 rfl (Nat.le_of_ble_eq_true rfl) dX5_start_11 ⟨Nat.le_refl _, Nat.le_refl _⟩) (fun H locs w => ?_)
    refine lv_if_ne (tgt := 28) hx hb dX5_start_14 (by decide) (fun c6 => ?_) (fun c6 => ?_)
    · rw [if_neg c6] at hf
      refine lv_iconst (v := 0) hx hb dX5_start_28 (by decide) ?_
      cases hf
      exact r_zret C hr hlk w (by decide) dX5_start_29
    · rw [if_pos c6] at hf
      refine lv_aload_n hx hb dX5_start_17 rfl (lv_at hl 0 rfl) ?_
      refine r_getN C w (iC10 ht2) eC10 vc4 inlX4 0 (by decide) nw_f_X5_38 rfl dX5_start_18 ?_
      obtain ⟨r8, V9, hc7, hf⟩ := ob2_some hf
      refine k_I w (q_VN C w (c_X3_goThrough ok ht2 hc7) wy_X3_goThrough wi_X3_goThrough nw_m_X5_62 (iC11 ht2) eC11 vc3 rfl rfl ⟨Nat.le_of_ble_eq_true rfl, Nat.le_of_ble_eq_true rfl⟩ rfl hl.1 rfl (Nat.le_of_ble_eq_true rfl) dX5_start_21 ⟨Nat.le_refl _, Nat.le_refl _⟩) (fun H locs w => ?_)
      refine lv_iconst (v := (-1)) hx hb dX5_start_24 (by decide) ?_
      refine lv_icmp_eq (tgt := 30) hx hb dX5_start_25 (by decide) (fun c10 => ?_) (fun c10 => ?_)
      · rw [if_pos c10] at hf
        refine lv_aload_n hx hb dX5_start_30 rfl (lv_at hl 0 rfl) ?_
        obtain ⟨V13, hc11, hf⟩ := ob_some hf
        refine k_V w (q_VN C w (c_X4_begin ok ht2 hc11) wy_X4_begin wi_X4_begin nw_m_X5_66 (iC10 ht2) eC10 vc4 rfl rfl ⟨Nat.le_of_ble_eq_true rfl, Nat.le_of_ble_eq_true rfl⟩ rfl hl.1 rfl (Nat.le_of_ble_eq_true rfl) dX5_start_31 ⟨Nat.le_refl _, Nat.le_refl _⟩) (fun H locs w => ?_)
        refine lv_iconst (v := 1) hx hb dX5_start_34 (by decide) ?_
        cases hf
        exact r_zret C hr hlk w (by decide) dX5_start_35
      · rw [if_neg c10] at hf
        refine lv_iconst (v := 0) hx hb dX5_start_28 (by decide) ?_
        cases hf
        exact r_zret C hr hlk w (by decide) dX5_start_29
set_option maxHeartbeats 4000000 in
set_option maxRecDepth 100000 in
theorem c_X5_stop (ok : Wok EC idC a) {V : Sto} {r : Int32} {V' : Sto} {x1 : Int32} (hf : fX5_stop V x1 = some (r, V')) : MtI l cy D EC idC a yX5_stop cX5_stop 3 .boolean rm_X5_stop [.ref (a (0, 0, 0)), .int x1] V r V' := by
  refine ofM (by decide +kernel) ok (Nat.le_of_ble_eq_true rfl) (fun p e s m args below meth c C hr hlk w ls hl => ?_)
  have hx := C.1.1
  have hb := C.1.2.1
  rw [fX5_stop] at hf
  skip
  refine lv_aload_n hx hb dX5_stop_0 rfl (lv_at hl 0 rfl) ?_
  refine lv_iload_n hx hb dX5_stop_1 rfl (lv_at hl 1 rfl) ?_
  rcases hs1 : sOf x1 with _ | t2
  · rw [om_none hs1] at hf
    refine k_R w (q_V C w (c_strandOf_none ok hs1) wy_X5_strandOf wi_X5_strandOf w_ml_RX5_30_yX5_strandOf iC0 eC0 vc5 rfl rfl ⟨Nat.le_of_ble_eq_true rfl, Nat.le_of_ble_eq_true rfl⟩ rfl hl.1 rfl (Nat.le_of_ble_eq_true rfl) dX5_stop_2 ⟨Nat.le_refl _, Nat.le_refl _⟩) (fun H locs w => ?_)
    refine lv_astore_nN hx hb dX5_stop_5 rfl hl (by decide) rfl (fun ls hl => ?_)
    refine lv_aload_nN hx hb dX5_stop_6 rfl (lv_at hl 0 rfl) ?_
    refine lv_ifnullN (tgt := 17) hx hb dX5_stop_7 (by decide) ?_
    refine lv_iconst (v := 0) hx hb dX5_stop_17 (by decide) ?_
    cases hf
    exact r_zret C hr hlk w (by decide) dX5_stop_18
  · rw [om_some hs1] at hf
    have ht2 : t2 < 4 := sOf_lt hs1
    refine k_R w (q_V C w (c_strandOf_some ok hs1) wy_X5_strandOf wi_X5_strandOf w_ml_RX5_30_yX5_strandOf iC0 eC0 vc5 rfl rfl ⟨Nat.le_of_ble_eq_true rfl, Nat.le_of_ble_eq_true rfl⟩ rfl hl.1 rfl (Nat.le_of_ble_eq_true rfl) dX5_stop_2 ⟨Nat.le_refl _, Nat.le_refl _⟩) (fun H locs w => ?_)
    refine lv_astore_n hx hb dX5_stop_5 rfl hl (by decide) rfl (fun ls hl => ?_)
    refine lv_aload_n hx hb dX5_stop_6 rfl (lv_at hl 0 rfl) ?_
    refine lv_ifnull hx hb dX5_stop_7 ?_
    refine lv_aload_n hx hb dX5_stop_10 rfl (lv_at hl 0 rfl) ?_
    obtain ⟨r4, hc3, hf⟩ := ob_some hf
    refine k_I w (q_VN C w (c_X4_isUnderWay ok ht2 hc3) wy_X4_isUnderWay wi_X4_isUnderWay nw_m_X5_34 (iC10 ht2) eC10 vc4 rfl rfl ⟨Nat.le_of_ble_eq_true rfl, Nat.le_of_ble_eq_true rfl⟩ rfl hl.1 rfl (Nat.le_of_ble_eq_true rfl) dX5_stop_11 ⟨Nat.le_refl _, Nat.le_refl _⟩) (fun H locs w => ?_)
    refine lv_if_ne (tgt := 19) hx hb dX5_stop_14 (by decide) (fun c6 => ?_) (fun c6 => ?_)
    · rw [if_neg c6] at hf
      refine lv_aload_n hx hb dX5_stop_19 rfl (lv_at hl 0 rfl) ?_
      obtain ⟨V9, hc7, hf⟩ := ob_some hf
      refine k_V w (q_VN C w (c_X4_leaveAttempt ok ht2 hc7) wy_X4_leaveAttempt wi_X4_leaveAttempt nw_m_X5_69 (iC10 ht2) eC10 vc4 rfl rfl ⟨Nat.le_of_ble_eq_true rfl, Nat.le_of_ble_eq_true rfl⟩ rfl hl.1 rfl (Nat.le_of_ble_eq_true rfl) dX5_stop_20 ⟨Nat.le_refl _, Nat.le_refl _⟩) (fun H locs w => ?_)
      refine lv_aload_n hx hb dX5_stop_23 rfl (lv_at hl 0 rfl) ?_
      refine lv_iconst (v := 0) hx hb dX5_stop_24 (by decide) ?_
      refine r_putN C w (iC10 ht2) eC10 vc4 inlX4 tyX4 tyX4_ok nmX4 9 (by decide) nw_f_X5_55 rfl pd_I uC10_9 (Nat.le_of_ble_eq_true rfl) dX5_stop_25 (fun H locs w => ?_)
      obtain ⟨V10, e11, hf⟩ := bnd_some hf
      rw [← e11] at w
      refine lv_iconst (v := 1) hx hb dX5_stop_28 (by decide) ?_
      cases hf
      exact r_zret C hr hlk w (by decide) dX5_stop_29
    · rw [if_pos c6] at hf
      refine lv_iconst (v := 0) hx hb dX5_stop_17 (by decide) ?_
      cases hf
      exact r_zret C hr hlk w (by decide) dX5_stop_18
set_option maxHeartbeats 4000000 in
set_option maxRecDepth 100000 in
theorem c_X5_doRead (ok : Wok EC idC a) {t : Nat} (ht : t < 4) {V : Sto} {r : Int32} {V' : Sto} {x2 : Int32} {x3 : Int32} (hf : fX5_doRead V t x2 x3 = some (r, V')) : MtI l cy D EC idC a yX5_doRead cX5_doRead 4 .int rm_X5_doRead [.ref (a (0, 0, 0)), .ref (a (10, t, 0)), .int x2, .int x3] V r V' := by
  refine ofM (by decide +kernel) ok (Nat.le_of_ble_eq_true rfl) (fun p e s m args below meth c C hr hlk w ls hl => ?_)
  have hx := C.1.1
  have hb := C.1.2.1
  rw [fX5_doRead] at hf
  skip
  refine lv_iload_n hx hb dX5_doRead_0 rfl (lv_at hl 3 rfl) ?_
  obtain ⟨r2, hc1, hf⟩ := ob_some hf
  refine k_I w (q_S C w (c_X5_isVariable ok hc1) wy_X5_isVariable w_sta_yX5_isVariable w_ml_RX5_76_yX5_isVariable rfl rfl ⟨Nat.le_of_ble_eq_true rfl, Nat.le_of_ble_eq_true rfl⟩ rfl hl.1 rfl (Nat.le_of_ble_eq_true rfl) dX5_doRead_1 ⟨Nat.le_refl _, Nat.le_refl _⟩) (fun H locs w => ?_)
  refine lv_if_ne (tgt := 9) hx hb dX5_doRead_4 (by decide) (fun c4 => ?_) (fun c4 => ?_)
  · rw [if_neg c4] at hf
    refine lv_aload_n hx hb dX5_doRead_9 rfl (lv_at hl 1 rfl) ?_
    refine lv_iload_n hx hb dX5_doRead_10 rfl (lv_at hl 3 rfl) ?_
    obtain ⟨r6, hc5, hf⟩ := ob_some hf
    refine k_I w (q_VN C w (c_X4_hasWritten ok ht hc5) wy_X4_hasWritten wi_X4_hasWritten nw_m_X5_108 (iC10 ht) eC10 vc4 rfl rfl ⟨Nat.le_of_ble_eq_true rfl, Nat.le_of_ble_eq_true rfl⟩ rfl hl.1 rfl (Nat.le_of_ble_eq_true rfl) dX5_doRead_11 ⟨Nat.le_refl _, Nat.le_refl _⟩) (fun H locs w => ?_)
    refine lv_if_eq (tgt := 29) hx hb dX5_doRead_14 (by decide) (fun c8 => ?_) (fun c8 => ?_)
    · rw [if_pos c8] at hf
      refine lv_aload_n hx hb dX5_doRead_29 rfl (lv_at hl 0 rfl) ?_
      refine r_get C w iC0 eC0 vc5 inlX5 0 (by decide) w_fl_RX5_10_AtomicThreads_memory_LAtomicThreads_Memory rfl dX5_doRead_30 ?_
      refine lv_iconst (v := 1) hx hb dX5_doRead_33 (by decide) ?_
      refine lv_iload_n hx hb dX5_doRead_34 rfl (lv_at hl 3 rfl) ?_
      refine lv_ishl hx hb dX5_doRead_35 ?_
      refine lv_aload_n hx hb dX5_doRead_36 rfl (lv_at hl 1 rfl) ?_
      refine r_getN C w (iC10 ht) eC10 vc4 inlX4 6 (by decide) nw_f_X5_185 rfl dX5_doRead_37 ?_
      obtain ⟨r10, hc9, hf⟩ := ob_some hf
      refine k_I w (q_VN C w (c_X1_hasChanged ok hc9) wy_X1_hasChanged wi_X1_hasChanged nw_m_X5_188 iC1 eC1 vc1 rfl rfl ⟨Nat.le_of_ble_eq_true rfl, Nat.le_of_ble_eq_true rfl⟩ rfl hl.1 rfl (Nat.le_of_ble_eq_true rfl) dX5_doRead_40 ⟨Nat.le_refl _, Nat.le_refl _⟩) (fun H locs w => ?_)
      refine lv_if_eq (tgt := 51) hx hb dX5_doRead_43 (by decide) (fun c12 => ?_) (fun c12 => ?_)
      · rw [if_pos c12] at hf
        refine lv_aload_n hx hb dX5_doRead_51 rfl (lv_at hl 1 rfl) ?_
        refine lv_dup hx hb dX5_doRead_52 rfl ?_
        refine r_getN C w (iC10 ht) eC10 vc4 inlX4 7 (by decide) nw_f_X5_114 rfl dX5_doRead_53 ?_
        refine lv_iconst (v := 1) hx hb dX5_doRead_56 (by decide) ?_
        refine lv_iload_n hx hb dX5_doRead_57 rfl (lv_at hl 3 rfl) ?_
        refine lv_ishl hx hb dX5_doRead_58 ?_
        refine lv_ior hx hb dX5_doRead_59 ?_
        refine r_putN C w (iC10 ht) eC10 vc4 inlX4 tyX4 tyX4_ok nmX4 7 (by decide) nw_f_X5_114 rfl pd_I uC10_7 (Nat.le_of_ble_eq_true rfl) dX5_doRead_60 (fun H locs w => ?_)
        obtain ⟨V13, e14, hf⟩ := bnd_some hf
        rw [← e14] at w
        refine lv_aload_n hx hb dX5_doRead_63 rfl (lv_at hl 1 rfl) ?_
        refine lv_iload_n hx hb dX5_doRead_64 rfl (lv_at hl 2 rfl) ?_
        refine lv_aload_n hx hb dX5_doRead_65 rfl (lv_at hl 0 rfl) ?_
        refine r_get C w iC0 eC0 vc5 inlX5 0 (by decide) w_fl_RX5_10_AtomicThreads_memory_LAtomicThreads_Memory rfl dX5_doRead_66 ?_
        refine r_getN C w iC1 eC1 vc1 inlX1 0 (by decide) nw_f_X5_91 rfl dX5_doRead_69 ?_
        refine lv_iload_n hx hb dX5_doRead_72 rfl (lv_at hl 3 rfl) ?_
        obtain ⟨g15, hf⟩ := gd_some hf
        refine r_iald C w iC2 aC2 g15 dX5_doRead_73 ?_
        obtain ⟨r17, V18, hc16, hf⟩ := ob2_some hf
        refine k_I w (q_VN C w (c_X4_assign ok ht hc16) wy_X4_assign wi_X4_assign nw_m_X5_144 (iC10 ht) eC10 vc4 rfl rfl ⟨Nat.le_of_ble_eq_true rfl, Nat.le_of_ble_eq_true rfl⟩ rfl hl.1 rfl (Nat.le_of_ble_eq_true rfl) dX5_doRead_74 ⟨Nat.le_refl _, Nat.le_refl _⟩) (fun H locs w => ?_)
        cases hf
        exact r_iret C hr hlk w dX5_doRead_77
      · rw [if_neg c12] at hf
        refine lv_aload_n hx hb dX5_doRead_46 rfl (lv_at hl 1 rfl) ?_
        obtain ⟨r20, V21, hc19, hf⟩ := ob2_some hf
        refine k_I w (q_VN C w (c_X4_discard ok ht hc19) wy_X4_discard wi_X4_discard nw_m_X5_192 (iC10 ht) eC10 vc4 rfl rfl ⟨Nat.le_of_ble_eq_true rfl, Nat.le_of_ble_eq_true rfl⟩ rfl hl.1 rfl (Nat.le_of_ble_eq_true rfl) dX5_doRead_47 ⟨Nat.le_refl _, Nat.le_refl _⟩) (fun H locs w => ?_)
        cases hf
        exact r_iret C hr hlk w dX5_doRead_50
    · rw [if_neg c8] at hf
      refine lv_aload_n hx hb dX5_doRead_17 rfl (lv_at hl 1 rfl) ?_
      refine lv_iload_n hx hb dX5_doRead_18 rfl (lv_at hl 2 rfl) ?_
      refine lv_aload_n hx hb dX5_doRead_19 rfl (lv_at hl 1 rfl) ?_
      refine r_getN C w (iC10 ht) eC10 vc4 inlX4 2 (by decide) nw_f_X5_111 rfl dX5_doRead_20 ?_
      refine lv_iload_n hx hb dX5_doRead_23 rfl (lv_at hl 3 rfl) ?_
      obtain ⟨g22, hf⟩ := gd_some hf
      refine r_iald C w (iC20 ht) aC20 g22 dX5_doRead_24 ?_
      obtain ⟨r24, V25, hc23, hf⟩ := ob2_some hf
      refine k_I w (q_VN C w (c_X4_assign ok ht hc23) wy_X4_assign wi_X4_assign nw_m_X5_144 (iC10 ht) eC10 vc4 rfl rfl ⟨Nat.le_of_ble_eq_true rfl, Nat.le_of_ble_eq_true rfl⟩ rfl hl.1 rfl (Nat.le_of_ble_eq_true rfl) dX5_doRead_25 ⟨Nat.le_refl _, Nat.le_refl _⟩) (fun H locs w => ?_)
      cases hf
      exact r_iret C hr hlk w dX5_doRead_28
  · rw [if_pos c4] at hf
    refine lv_iconst (v := (-1)) hx hb dX5_doRead_7 (by decide) ?_
    cases hf
    exact r_iret C hr hlk w dX5_doRead_8
set_option maxHeartbeats 4000000 in
set_option maxRecDepth 100000 in
theorem c_X5_hasStaleReads (ok : Wok EC idC a) {t : Nat} (ht : t < 4) {V : Sto} {r : Int32} (hf : fX5_hasStaleReads V t = some r) : MtI l cy D EC idC a yX5_hasStaleReads cX5_hasStaleReads 2 .boolean rm_X5_hasStaleReads [.ref (a (0, 0, 0)), .ref (a (10, t, 0))] V r V := by
  refine ofM (by decide +kernel) ok (Nat.le_of_ble_eq_true rfl) (fun p e s m args below meth c C hr hlk w ls hl => ?_)
  have hx := C.1.1
  have hb := C.1.2.1
  rw [fX5_hasStaleReads] at hf
  skip
  refine lv_aload_n hx hb dX5_hasStaleReads_0 rfl (lv_at hl 0 rfl) ?_
  refine r_get C w iC0 eC0 vc5 inlX5 0 (by decide) w_fl_RX5_10_AtomicThreads_memory_LAtomicThreads_Memory rfl dX5_hasStaleReads_1 ?_
  refine lv_aload_n hx hb dX5_hasStaleReads_4 rfl (lv_at hl 1 rfl) ?_
  refine r_getN C w (iC10 ht) eC10 vc4 inlX4 7 (by decide) nw_f_X5_114 rfl dX5_hasStaleReads_5 ?_
  refine lv_aload_n hx hb dX5_hasStaleReads_8 rfl (lv_at hl 1 rfl) ?_
  refine r_getN C w (iC10 ht) eC10 vc4 inlX4 6 (by decide) nw_f_X5_185 rfl dX5_hasStaleReads_9 ?_
  obtain ⟨r2, hc1, hf⟩ := ob_some hf
  refine k_I w (q_VN C w (c_X1_hasChanged ok hc1) wy_X1_hasChanged wi_X1_hasChanged nw_m_X5_188 iC1 eC1 vc1 rfl rfl ⟨Nat.le_of_ble_eq_true rfl, Nat.le_of_ble_eq_true rfl⟩ rfl hl.1 rfl (Nat.le_of_ble_eq_true rfl) dX5_hasStaleReads_12 ⟨Nat.le_refl _, Nat.le_refl _⟩) (fun H locs w => ?_)
  obtain ⟨g4, hf⟩ := gd_some hf
  cases hf
  exact r_zret C hr hlk w g4 dX5_hasStaleReads_15
set_option maxHeartbeats 4000000 in
set_option maxRecDepth 100000 in
theorem c_X5_doRetry (ok : Wok EC idC a) {t : Nat} (ht : t < 4) {V : Sto} {r : Int32} {V' : Sto} (hf : fX5_doRetry V t = some (r, V')) : MtI l cy D EC idC a yX5_doRetry cX5_doRetry 3 .int rm_X5_doRetry [.ref (a (0, 0, 0)), .ref (a (10, t, 0))] V r V' := by
  refine ofM (by decide +kernel) ok (Nat.le_of_ble_eq_true rfl) (fun p e s m args below meth c C hr hlk w ls hl => ?_)
  have hx := C.1.1
  have hb := C.1.2.1
  rw [fX5_doRetry] at hf
  skip
  refine lv_aload_n hx hb dX5_doRetry_0 rfl (lv_at hl 1 rfl) ?_
  refine lv_bipush (v := 9) hx hb dX5_doRetry_1 (by decide) ?_
  obtain ⟨r2, hc1, hf⟩ := ob_some hf
  refine k_I w (q_VN C w (c_X4_latestFirstPart ok ht hc1) wy_X4_latestFirstPart wi_X4_latestFirstPart nw_m_X5_195 (iC10 ht) eC10 vc4 rfl rfl ⟨Nat.le_of_ble_eq_true rfl, Nat.le_of_ble_eq_true rfl⟩ rfl hl.1 rfl (Nat.le_of_ble_eq_true rfl) dX5_doRetry_3 ⟨Nat.le_refl _, Nat.le_refl _⟩) (fun H locs w => ?_)
  refine lv_istore_n hx hb dX5_doRetry_6 rfl hl (by decide) rfl (fun ls hl => ?_)
  refine lv_iload_n hx hb dX5_doRetry_7 rfl (lv_at hl 0 rfl) ?_
  refine lv_iconst (v := (-1)) hx hb dX5_doRetry_8 (by decide) ?_
  refine lv_icmp_eq (tgt := 33) hx hb dX5_doRetry_9 (by decide) (fun c4 => ?_) (fun c4 => ?_)
  · rw [if_pos c4] at hf
    refine lv_aload_n hx hb dX5_doRetry_33 rfl (lv_at hl 1 rfl) ?_
    refine lv_aload_n hx hb dX5_doRetry_34 rfl (lv_at hl 2 rfl) ?_
    obtain ⟨r6, hc5, hf⟩ := ob_some hf
    refine k_I w (q_V C w (c_X5_hasStaleReads ok ht hc5) wy_X5_hasStaleReads wi_X5_hasStaleReads w_ml_RX5_204_yX5_hasStaleReads iC0 eC0 vc5 rfl rfl ⟨Nat.le_of_ble_eq_true rfl, Nat.le_of_ble_eq_true rfl⟩ rfl hl.1 rfl (Nat.le_of_ble_eq_true rfl) dX5_doRetry_35 ⟨Nat.le_refl _, Nat.le_refl _⟩) (fun H locs w => ?_)
    refine lv_if_eq (tgt := 48) hx hb dX5_doRetry_38 (by decide) (fun c8 => ?_) (fun c8 => ?_)
    · rw [if_pos c8] at hf
      refine lv_aload_n hx hb dX5_doRetry_48 rfl (lv_at hl 2 rfl) ?_
      obtain ⟨r10, V11, hc9, hf⟩ := ob2_some hf
      refine k_I w (q_VN C w (c_X4_park ok ht hc9) wy_X4_park wi_X4_park nw_m_X5_208 (iC10 ht) eC10 vc4 rfl rfl ⟨Nat.le_of_ble_eq_true rfl, Nat.le_of_ble_eq_true rfl⟩ rfl hl.1 rfl (Nat.le_of_ble_eq_true rfl) dX5_doRetry_49 ⟨Nat.le_refl _, Nat.le_refl _⟩) (fun H locs w => ?_)
      cases hf
      exact r_iret C hr hlk w dX5_doRetry_52
    · rw [if_neg c8] at hf
      refine lv_aload_n hx hb dX5_doRetry_41 rfl (lv_at hl 2 rfl) ?_
      obtain ⟨r13, V14, hc12, hf⟩ := ob2_some hf
      refine k_I w (q_VN C w (c_X4_discard ok ht hc12) wy_X4_discard wi_X4_discard nw_m_X5_192 (iC10 ht) eC10 vc4 rfl rfl ⟨Nat.le_of_ble_eq_true rfl, Nat.le_of_ble_eq_true rfl⟩ rfl hl.1 rfl (Nat.le_of_ble_eq_true rfl) dX5_doRetry_42 ⟨Nat.le_refl _, Nat.le_refl _⟩) (fun H locs w => ?_)
      refine lv_goto (tgt := 52) hx hb dX5_doRetry_45 (by decide) ?_
      cases hf
      exact r_iret C hr hlk w dX5_doRetry_52
  · rw [if_neg c4] at hf
    refine lv_aload_n hx hb dX5_doRetry_12 rfl (lv_at hl 2 rfl) ?_
    refine lv_iload_n hx hb dX5_doRetry_13 rfl (lv_at hl 0 rfl) ?_
    obtain ⟨V17, hc15, hf⟩ := ob_some hf
    refine k_V w (q_VN C w (c_X4_goBackTo ok ht hc15) wy_X4_goBackTo wi_X4_goBackTo nw_m_X5_198 (iC10 ht) eC10 vc4 rfl rfl ⟨Nat.le_of_ble_eq_true rfl, Nat.le_of_ble_eq_true rfl⟩ rfl hl.1 rfl (Nat.le_of_ble_eq_true rfl) dX5_doRetry_14 ⟨Nat.le_refl _, Nat.le_refl _⟩) (fun H locs w => ?_)
    refine lv_aload_n hx hb dX5_doRetry_17 rfl (lv_at hl 2 rfl) ?_
    refine lv_aload_n hx hb dX5_doRetry_18 rfl (lv_at hl 2 rfl) ?_
    refine r_getN C w (iC10 ht) eC10 vc4 inlX4 0 (by decide) nw_f_X5_38 rfl dX5_doRetry_19 ?_
    refine lv_aload_n hx hb dX5_doRetry_22 rfl (lv_at hl 2 rfl) ?_
    refine r_getN C w (iC10 ht) eC10 vc4 inlX4 10 (by decide) nw_f_X5_101 rfl dX5_doRetry_23 ?_
    obtain ⟨r19, hc18, hf⟩ := ob_some hf
    refine k_I w (q_VN C w (c_X3_secondPart ok ht hc18) wy_X3_secondPart wi_X3_secondPart nw_m_X5_201 (iC11 ht) eC11 vc3 rfl rfl ⟨Nat.le_of_ble_eq_true rfl, Nat.le_of_ble_eq_true rfl⟩ rfl hl.1 rfl (Nat.le_of_ble_eq_true rfl) dX5_doRetry_26 ⟨Nat.le_refl _, Nat.le_refl _⟩) (fun H locs w => ?_)
    obtain ⟨r22, V23, hc21, hf⟩ := ob2_some hf
    refine k_I w (q_VN C w (c_X4_goOnTo ok ht hc21) wy_X4_goOnTo wi_X4_goOnTo nw_m_X5_157 (iC10 ht) eC10 vc4 rfl rfl ⟨Nat.le_of_ble_eq_true rfl, Nat.le_of_ble_eq_true rfl⟩ rfl hl.1 rfl (Nat.le_of_ble_eq_true rfl) dX5_doRetry_29 ⟨Nat.le_refl _, Nat.le_refl _⟩) (fun H locs w => ?_)
    cases hf
    exact r_iret C hr hlk w dX5_doRetry_32
set_option maxHeartbeats 4000000 in
set_option maxRecDepth 100000 in
theorem c_X5_doThrow (ok : Wok EC idC a) {t : Nat} (ht : t < 4) {V : Sto} {r : Int32} {V' : Sto} {x2 : Int32} (hf : fX5_doThrow V t x2 = some (r, V')) : MtI l cy D EC idC a yX5_doThrow cX5_doThrow 4 .int rm_X5_doThrow [.ref (a (0, 0, 0)), .ref (a (10, t, 0)), .int x2] V r V' := by
  refine ofM (by decide +kernel) ok (Nat.le_of_ble_eq_true rfl) (fun p e s m args below meth c C hr hlk w ls hl => ?_)
  have hx := C.1.1
  have hb := C.1.2.1
  rw [fX5_doThrow] at hf
  skip
  refine lv_aload_n hx hb dX5_doThrow_0 rfl (lv_at hl 1 rfl) ?_
  obtain ⟨r2, hc1, hf⟩ := ob_some hf
  refine k_I w (q_VN C w (c_X4_isInAttempt ok ht hc1) wy_X4_isInAttempt wi_X4_isInAttempt nw_m_X5_211 (iC10 ht) eC10 vc4 rfl rfl ⟨Nat.le_of_ble_eq_true rfl, Nat.le_of_ble_eq_true rfl⟩ rfl hl.1 rfl (Nat.le_of_ble_eq_true rfl) dX5_doThrow_1 ⟨Nat.le_refl _, Nat.le_refl _⟩) (fun H locs w => ?_)
  refine lv_if_eq (tgt := 34) hx hb dX5_doThrow_4 (by decide) (fun c4 => ?_) (fun c4 => ?_)
  · rw [if_pos c4] at hf
    refine lv_aload_n hx hb dX5_doThrow_34 rfl (lv_at hl 1 rfl) ?_
    refine lv_bipush (v := 15) hx hb dX5_doThrow_35 (by decide) ?_
    obtain ⟨r6, hc5, hf⟩ := ob_some hf
    refine k_I w (q_VN C w (c_X4_latestFirstPart ok ht hc5) wy_X4_latestFirstPart wi_X4_latestFirstPart nw_m_X5_195 (iC10 ht) eC10 vc4 rfl rfl ⟨Nat.le_of_ble_eq_true rfl, Nat.le_of_ble_eq_true rfl⟩ rfl hl.1 rfl (Nat.le_of_ble_eq_true rfl) dX5_doThrow_37 ⟨Nat.le_refl _, Nat.le_refl _⟩) (fun H locs w => ?_)
    refine lv_istore_n hx hb dX5_doThrow_40 rfl hl (by decide) rfl (fun ls hl => ?_)
    refine lv_iload_n hx hb dX5_doThrow_41 rfl (lv_at hl 0 rfl) ?_
    refine lv_iconst (v := (-1)) hx hb dX5_doThrow_42 (by decide) ?_
    refine lv_icmp_ne (tgt := 54) hx hb dX5_doThrow_43 (by decide) (fun c8 => ?_) (fun c8 => ?_)
    · rw [if_neg c8] at hf
      refine lv_aload_n hx hb dX5_doThrow_54 rfl (lv_at hl 2 rfl) ?_
      refine lv_iload_n hx hb dX5_doThrow_55 rfl (lv_at hl 0 rfl) ?_
      refine lv_iload_n hx hb dX5_doThrow_56 rfl (lv_at hl 3 rfl) ?_
      obtain ⟨V11, hc9, hf⟩ := ob_some hf
      refine k_V w (q_VN C w (c_X4_handle ok ht hc9) wy_X4_handle wi_X4_handle nw_m_X5_220 (iC10 ht) eC10 vc4 rfl rfl ⟨Nat.le_of_ble_eq_true rfl, Nat.le_of_ble_eq_true rfl⟩ rfl hl.1 rfl (Nat.le_of_ble_eq_true rfl) dX5_doThrow_57 ⟨Nat.le_refl _, Nat.le_refl _⟩) (fun H locs w => ?_)
      refine lv_iconst (v := 4) hx hb dX5_doThrow_60 (by decide) ?_
      cases hf
      exact r_iret C hr hlk w dX5_doThrow_61
    · rw [if_pos c8] at hf
      refine lv_aload_n hx hb dX5_doThrow_46 rfl (lv_at hl 2 rfl) ?_
      refine lv_iload_n hx hb dX5_doThrow_47 rfl (lv_at hl 3 rfl) ?_
      obtain ⟨V14, hc12, hf⟩ := ob_some hf
      refine k_V w (q_VN C w (c_X4_fail ok ht hc12) wy_X4_fail wi_X4_fail nw_m_X5_217 (iC10 ht) eC10 vc4 rfl rfl ⟨Nat.le_of_ble_eq_true rfl, Nat.le_of_ble_eq_true rfl⟩ rfl hl.1 rfl (Nat.le_of_ble_eq_true rfl) dX5_doThrow_48 ⟨Nat.le_refl _, Nat.le_refl _⟩) (fun H locs w => ?_)
      refine lv_goto (tgt := 60) hx hb dX5_doThrow_51 (by decide) ?_
      refine lv_iconst (v := 4) hx hb dX5_doThrow_60 (by decide) ?_
      cases hf
      exact r_iret C hr hlk w dX5_doThrow_61
  · rw [if_neg c4] at hf
    refine lv_aload_n hx hb dX5_doThrow_7 rfl (lv_at hl 1 rfl) ?_
    refine lv_bipush (v := 15) hx hb dX5_doThrow_8 (by decide) ?_
    obtain ⟨r16, hc15, hf⟩ := ob_some hf
    refine k_I w (q_VN C w (c_X4_latestFirstPart ok ht hc15) wy_X4_latestFirstPart wi_X4_latestFirstPart nw_m_X5_195 (iC10 ht) eC10 vc4 rfl rfl ⟨Nat.le_of_ble_eq_true rfl, Nat.le_of_ble_eq_true rfl⟩ rfl hl.1 rfl (Nat.le_of_ble_eq_true rfl) dX5_doThrow_10 ⟨Nat.le_refl _, Nat.le_refl _⟩) (fun H locs w => ?_)
    refine lv_iconst (v := (-1)) hx hb dX5_doThrow_13 (by decide) ?_
    refine lv_icmp_ne (tgt := 34) hx hb dX5_doThrow_14 (by decide) (fun c18 => ?_) (fun c18 => ?_)
    · rw [if_neg c18] at hf
      refine lv_aload_n hx hb dX5_doThrow_34 rfl (lv_at hl 1 rfl) ?_
      refine lv_bipush (v := 15) hx hb dX5_doThrow_35 (by decide) ?_
      obtain ⟨r20, hc19, hf⟩ := ob_some hf
      refine k_I w (q_VN C w (c_X4_latestFirstPart ok ht hc19) wy_X4_latestFirstPart wi_X4_latestFirstPart nw_m_X5_195 (iC10 ht) eC10 vc4 rfl rfl ⟨Nat.le_of_ble_eq_true rfl, Nat.le_of_ble_eq_true rfl⟩ rfl hl.1 rfl (Nat.le_of_ble_eq_true rfl) dX5_doThrow_37 ⟨Nat.le_refl _, Nat.le_refl _⟩) (fun H locs w => ?_)
      refine lv_istore_n hx hb dX5_doThrow_40 rfl hl (by decide) rfl (fun ls hl => ?_)
      refine lv_iload_n hx hb dX5_doThrow_41 rfl (lv_at hl 0 rfl) ?_
      refine lv_iconst (v := (-1)) hx hb dX5_doThrow_42 (by decide) ?_
      refine lv_icmp_ne (tgt := 54) hx hb dX5_doThrow_43 (by decide) (fun c22 => ?_) (fun c22 => ?_)
      · rw [if_neg c22] at hf
        refine lv_aload_n hx hb dX5_doThrow_54 rfl (lv_at hl 2 rfl) ?_
        refine lv_iload_n hx hb dX5_doThrow_55 rfl (lv_at hl 0 rfl) ?_
        refine lv_iload_n hx hb dX5_doThrow_56 rfl (lv_at hl 3 rfl) ?_
        obtain ⟨V25, hc23, hf⟩ := ob_some hf
        refine k_V w (q_VN C w (c_X4_handle ok ht hc23) wy_X4_handle wi_X4_handle nw_m_X5_220 (iC10 ht) eC10 vc4 rfl rfl ⟨Nat.le_of_ble_eq_true rfl, Nat.le_of_ble_eq_true rfl⟩ rfl hl.1 rfl (Nat.le_of_ble_eq_true rfl) dX5_doThrow_57 ⟨Nat.le_refl _, Nat.le_refl _⟩) (fun H locs w => ?_)
        refine lv_iconst (v := 4) hx hb dX5_doThrow_60 (by decide) ?_
        cases hf
        exact r_iret C hr hlk w dX5_doThrow_61
      · rw [if_pos c22] at hf
        refine lv_aload_n hx hb dX5_doThrow_46 rfl (lv_at hl 2 rfl) ?_
        refine lv_iload_n hx hb dX5_doThrow_47 rfl (lv_at hl 3 rfl) ?_
        obtain ⟨V28, hc26, hf⟩ := ob_some hf
        refine k_V w (q_VN C w (c_X4_fail ok ht hc26) wy_X4_fail wi_X4_fail nw_m_X5_217 (iC10 ht) eC10 vc4 rfl rfl ⟨Nat.le_of_ble_eq_true rfl, Nat.le_of_ble_eq_true rfl⟩ rfl hl.1 rfl (Nat.le_of_ble_eq_true rfl) dX5_doThrow_48 ⟨Nat.le_refl _, Nat.le_refl _⟩) (fun H locs w => ?_)
        refine lv_goto (tgt := 60) hx hb dX5_doThrow_51 (by decide) ?_
        refine lv_iconst (v := 4) hx hb dX5_doThrow_60 (by decide) ?_
        cases hf
        exact r_iret C hr hlk w dX5_doThrow_61
    · rw [if_pos c18] at hf
      refine lv_aload_n hx hb dX5_doThrow_17 rfl (lv_at hl 0 rfl) ?_
      refine lv_aload_n hx hb dX5_doThrow_18 rfl (lv_at hl 1 rfl) ?_
      obtain ⟨r30, hc29, hf⟩ := ob_some hf
      refine k_I w (q_V C w (c_X5_hasStaleReads ok ht hc29) wy_X5_hasStaleReads wi_X5_hasStaleReads w_ml_RX5_204_yX5_hasStaleReads iC0 eC0 vc5 rfl rfl ⟨Nat.le_of_ble_eq_true rfl, Nat.le_of_ble_eq_true rfl⟩ rfl hl.1 rfl (Nat.le_of_ble_eq_true rfl) dX5_doThrow_19 ⟨Nat.le_refl _, Nat.le_refl _⟩) (fun H locs w => ?_)
      refine lv_if_eq (tgt := 30) hx hb dX5_doThrow_22 (by decide) (fun c32 => ?_) (fun c32 => ?_)
      · rw [if_pos c32] at hf
        refine lv_aload_n hx hb dX5_doThrow_30 rfl (lv_at hl 1 rfl) ?_
        obtain ⟨V35, hc33, hf⟩ := ob_some hf
        refine k_V w (q_VN C w (c_X4_undoAttempt ok ht hc33) wy_X4_undoAttempt wi_X4_undoAttempt nw_m_X5_214 (iC10 ht) eC10 vc4 rfl rfl ⟨Nat.le_of_ble_eq_true rfl, Nat.le_of_ble_eq_true rfl⟩ rfl hl.1 rfl (Nat.le_of_ble_eq_true rfl) dX5_doThrow_31 ⟨Nat.le_refl _, Nat.le_refl _⟩) (fun H locs w => ?_)
        refine lv_aload_n hx hb dX5_doThrow_34 rfl (lv_at hl 1 rfl) ?_
        refine lv_bipush (v := 15) hx hb dX5_doThrow_35 (by decide) ?_
        obtain ⟨r37, hc36, hf⟩ := ob_some hf
        refine k_I w (q_VN C w (c_X4_latestFirstPart ok ht hc36) wy_X4_latestFirstPart wi_X4_latestFirstPart nw_m_X5_195 (iC10 ht) eC10 vc4 rfl rfl ⟨Nat.le_of_ble_eq_true rfl, Nat.le_of_ble_eq_true rfl⟩ rfl hl.1 rfl (Nat.le_of_ble_eq_true rfl) dX5_doThrow_37 ⟨Nat.le_refl _, Nat.le_refl _⟩) (fun H locs w => ?_)
        refine lv_istore_n hx hb dX5_doThrow_40 rfl hl (by decide) rfl (fun ls hl => ?_)
        refine lv_iload_n hx hb dX5_doThrow_41 rfl (lv_at hl 0 rfl) ?_
        refine lv_iconst (v := (-1)) hx hb dX5_doThrow_42 (by decide) ?_
        refine lv_icmp_ne (tgt := 54) hx hb dX5_doThrow_43 (by decide) (fun c39 => ?_) (fun c39 => ?_)
        · rw [if_neg c39] at hf
          refine lv_aload_n hx hb dX5_doThrow_54 rfl (lv_at hl 2 rfl) ?_
          refine lv_iload_n hx hb dX5_doThrow_55 rfl (lv_at hl 0 rfl) ?_
          refine lv_iload_n hx hb dX5_doThrow_56 rfl (lv_at hl 3 rfl) ?_
          obtain ⟨V42, hc40, hf⟩ := ob_some hf
          refine k_V w (q_VN C w (c_X4_handle ok ht hc40) wy_X4_handle wi_X4_handle nw_m_X5_220 (iC10 ht) eC10 vc4 rfl rfl ⟨Nat.le_of_ble_eq_true rfl, Nat.le_of_ble_eq_true rfl⟩ rfl hl.1 rfl (Nat.le_of_ble_eq_true rfl) dX5_doThrow_57 ⟨Nat.le_refl _, Nat.le_refl _⟩) (fun H locs w => ?_)
          refine lv_iconst (v := 4) hx hb dX5_doThrow_60 (by decide) ?_
          cases hf
          exact r_iret C hr hlk w dX5_doThrow_61
        · rw [if_pos c39] at hf
          refine lv_aload_n hx hb dX5_doThrow_46 rfl (lv_at hl 2 rfl) ?_
          refine lv_iload_n hx hb dX5_doThrow_47 rfl (lv_at hl 3 rfl) ?_
          obtain ⟨V45, hc43, hf⟩ := ob_some hf
          refine k_V w (q_VN C w (c_X4_fail ok ht hc43) wy_X4_fail wi_X4_fail nw_m_X5_217 (iC10 ht) eC10 vc4 rfl rfl ⟨Nat.le_of_ble_eq_true rfl, Nat.le_of_ble_eq_true rfl⟩ rfl hl.1 rfl (Nat.le_of_ble_eq_true rfl) dX5_doThrow_48 ⟨Nat.le_refl _, Nat.le_refl _⟩) (fun H locs w => ?_)
          refine lv_goto (tgt := 60) hx hb dX5_doThrow_51 (by decide) ?_
          refine lv_iconst (v := 4) hx hb dX5_doThrow_60 (by decide) ?_
          cases hf
          exact r_iret C hr hlk w dX5_doThrow_61
      · rw [if_neg c32] at hf
        refine lv_aload_n hx hb dX5_doThrow_25 rfl (lv_at hl 1 rfl) ?_
        obtain ⟨r47, V48, hc46, hf⟩ := ob2_some hf
        refine k_I w (q_VN C w (c_X4_discard ok ht hc46) wy_X4_discard wi_X4_discard nw_m_X5_192 (iC10 ht) eC10 vc4 rfl rfl ⟨Nat.le_of_ble_eq_true rfl, Nat.le_of_ble_eq_true rfl⟩ rfl hl.1 rfl (Nat.le_of_ble_eq_true rfl) dX5_doThrow_26 ⟨Nat.le_refl _, Nat.le_refl _⟩) (fun H locs w => ?_)
        cases hf
        exact r_iret C hr hlk w dX5_doThrow_29
set_option maxHeartbeats 4000000 in
set_option maxRecDepth 100000 in
theorem jX5_wake_L2 (C : Cx cy D EC idC a p s m args c RX5 cX5_wake 3) (hr : meth.sig.returnType = none) (hlk : meth.locks = false) {Q : State → Prop} : ∀ (n : Nat) {V V' : Sto} {x1 : Int32} {x2 : Int32} {H : Heap} {locs : List Loc} {ls : Array Slot}, Wd cy D EC idC a V s H locs → lv_has ls 3 [(0, .ref (a (0, 0, 0))), (1, .int x1), (2, .int x2)] → fX5_wake_L2 n V x1 x2 = some (V') → (∀ (H1 : Heap) (locs1 : List Loc) (ls1 : Array Slot), Wd cy D EC idC a V' s H1 locs1 → lv_has ls1 3 [] → W p l e rm_X5_wake s m args below meth c H1 locs1 0 0 (Q) (F0 m 35 ls1 [])) → W p l e rm_X5_wake s m args below meth c H locs 0 0 (Q) (F0 m 2 ls []) := by
  have hx := C.1.1
  have hb := C.1.2.1
  have ok := C.2.2.2
  intro n
  induction n with
  | zero => intro V V' x1 x2  H locs ls w hl hf kk; cases hf
  | succ n ih =>
    intro V V' x1 x2  H locs ls w hl hf kk
    rw [fX5_wake_L2] at hf
    refine lv_iload_n hx hb dX5_wake_2 rfl (lv_at hl 2 rfl) ?_
    refine lv_iconst (v := 4) hx hb dX5_wake_3 (by decide) ?_
    refine lv_icmp_ge (tgt := 35) hx hb dX5_wake_4 (by decide) (fun c1 => ?_) (fun c1 => ?_)
    · rw [if_pos c1] at hf
      cases hf
      exact kk _ _ _ w (lv_sub hl [] rfl)
    · rw [if_neg c1] at hf
      refine lv_aload_n hx hb dX5_wake_7 rfl (lv_at hl 0 rfl) ?_
      refine r_get C w iC0 eC0 vc5 inlX5 2 (by decide) w_fl_RX5_25_AtomicThreads_strands_LAtomicThreads_Strand rfl dX5_wake_8 ?_
      refine lv_iload_n hx hb dX5_wake_11 rfl (lv_at hl 2 rfl) ?_
      obtain ⟨g2, hf⟩ := gd_some hf
      refine r_aald C w iC6 qC6 rfl g2 dX5_wake_12 ?_
      refine lv_iload_n hx hb dX5_wake_13 rfl (lv_at hl 1 rfl) ?_
      obtain ⟨r4, hc3, hf⟩ := ob_some hf
      refine k_I w (q_VN C w (c_X4_waitsFor ok (inb_lt g2) hc3) wy_X4_waitsFor wi_X4_waitsFor nw_m_X5_120 (iC10 (inb_lt g2)) eC10 vc4 rfl rfl ⟨Nat.le_of_ble_eq_true rfl, Nat.le_of_ble_eq_true rfl⟩ rfl hl.1 rfl (Nat.le_of_ble_eq_true rfl) dX5_wake_14 ⟨Nat.le_refl _, Nat.le_refl _⟩) (fun H locs w => ?_)
      refine lv_if_eq (tgt := 29) hx hb dX5_wake_17 (by decide) (fun c6 => ?_) (fun c6 => ?_)
      · rw [if_pos c6] at hf
        refine lv_iinc (v := (x2 + 1)) hx hb dX5_wake_29 hl (k := 2) rfl (by rfl) (by decide) rfl (fun ls hl => ?_)
        refine lv_goto (tgt := 2) hx hb dX5_wake_32 (by decide) ?_
        exact ih w (lv_sub hl [1, 2, 0] rfl) hf kk
      · rw [if_neg c6] at hf
        refine lv_aload_n hx hb dX5_wake_20 rfl (lv_at hl 0 rfl) ?_
        refine r_get C w iC0 eC0 vc5 inlX5 2 (by decide) w_fl_RX5_25_AtomicThreads_strands_LAtomicThreads_Strand rfl dX5_wake_21 ?_
        refine lv_iload_n hx hb dX5_wake_24 rfl (lv_at hl 2 rfl) ?_
        obtain ⟨g7, hf⟩ := gd_some hf
        refine r_aald C w iC6 qC6 rfl g7 dX5_wake_25 ?_
        obtain ⟨V10, hc8, hf⟩ := ob_some hf
        refine k_V w (q_VN C w (c_X4_wakeUp ok (inb_lt g7) hc8) wy_X4_wakeUp wi_X4_wakeUp nw_m_X5_229 (iC10 (inb_lt g7)) eC10 vc4 rfl rfl ⟨Nat.le_of_ble_eq_true rfl, Nat.le_of_ble_eq_true rfl⟩ rfl hl.1 rfl (Nat.le_of_ble_eq_true rfl) dX5_wake_26 ⟨Nat.le_refl _, Nat.le_refl _⟩) (fun H locs w => ?_)
        refine lv_iinc (v := (x2 + 1)) hx hb dX5_wake_29 hl (k := 2) rfl (by rfl) (by decide) rfl (fun ls hl => ?_)
        refine lv_goto (tgt := 2) hx hb dX5_wake_32 (by decide) ?_
        exact ih w (lv_sub hl [1, 2, 0] rfl) hf kk
set_option maxHeartbeats 4000000 in
set_option maxRecDepth 100000 in
theorem c_X5_wake (ok : Wok EC idC a) {V : Sto} {V' : Sto} {x1 : Int32} (hf : fX5_wake V x1 = some V') : MtV l cy D EC idC a yX5_wake cX5_wake 3 rm_X5_wake [.ref (a (0, 0, 0)), .int x1] V V' := by
  refine ofM (by decide +kernel) ok (Nat.le_of_ble_eq_true rfl) (fun p e s m args below meth c C hr hlk w ls hl => ?_)
  have hx := C.1.1
  have hb := C.1.2.1
  rw [fX5_wake] at hf
  skip
  refine lv_iconst (v := 0) hx hb dX5_wake_0 (by decide) ?_
  refine lv_istore_n hx hb dX5_wake_1 rfl hl (by decide) rfl (fun ls hl => ?_)
  obtain ⟨V12, hc11, hf⟩ := ob_some hf
  refine jX5_wake_L2 C hr hlk 40 w (lv_sub hl [1, 2, 0] rfl) hc11 (fun H locs ls w hl => ?_)
  cases hf
  exact r_vret C hr hlk w dX5_wake_35
set_option maxHeartbeats 4000000 in
set_option maxRecDepth 100000 in
theorem jX5_commit_L18 (C : Cx cy D EC idC a p s m args c RX5 cX5_commit 4) (hr : meth.sig.returnType = some .int) (hlk : meth.locks = false) {t : Nat} (ht : t < 4) {Q : State → Prop} : ∀ (n : Nat) {V V' : Sto} {x2 : Int32} {x3 : Int32} {H : Heap} {locs : List Loc} {ls : Array Slot}, Wd cy D EC idC a V s H locs → lv_has ls 4 [(0, .ref (a (0, 0, 0))), (1, .ref (a (10, t, 0))), (2, .int x2), (3, .int x3)] → fX5_commit_L18 n V t x2 x3 = some (V') → (∀ (H1 : Heap) (locs1 : List Loc) (ls1 : Array Slot), Wd cy D EC idC a V' s H1 locs1 → lv_has ls1 4 [(0, .ref (a (0, 0, 0))), (1, .ref (a (10, t, 0))), (2, .int x2)] → W p l e rm_X5_commit s m args below meth c H1 locs1 0 0 (Q) (F0 m 52 ls1 [])) → W p l e rm_X5_commit s m args below meth c H locs 0 0 (Q) (F0 m 18 ls []) := by
  have hx := C.1.1
  have hb := C.1.2.1
  have ok := C.2.2.2
  intro n
  induction n with
  | zero => intro V V' x2 x3  H locs ls w hl hf kk; cases hf
  | succ n ih =>
    intro V V' x2 x3  H locs ls w hl hf kk
    rw [fX5_commit_L18] at hf
    refine lv_iload_n hx hb dX5_commit_18 rfl (lv_at hl 3 rfl) ?_
    refine lv_bipush (v := 8) hx hb dX5_commit_19 (by decide) ?_
    refine lv_icmp_ge (tgt := 52) hx hb dX5_commit_21 (by decide) (fun c14 => ?_) (fun c14 => ?_)
    · rw [if_pos c14] at hf
      cases hf
      exact kk _ _ _ w (lv_sub hl [0, 1, 2] rfl)
    · rw [if_neg c14] at hf
      refine lv_aload_n hx hb dX5_commit_24 rfl (lv_at hl 1 rfl) ?_
      refine lv_iload_n hx hb dX5_commit_25 rfl (lv_at hl 3 rfl) ?_
      obtain ⟨r16, hc15, hf⟩ := ob_some hf
      refine k_I w (q_VN C w (c_X4_hasWritten ok ht hc15) wy_X4_hasWritten wi_X4_hasWritten nw_m_X5_108 (iC10 ht) eC10 vc4 rfl rfl ⟨Nat.le_of_ble_eq_true rfl, Nat.le_of_ble_eq_true rfl⟩ rfl hl.1 rfl (Nat.le_of_ble_eq_true rfl) dX5_commit_26 ⟨Nat.le_refl _, Nat.le_refl _⟩) (fun H locs w => ?_)
      refine lv_if_eq (tgt := 46) hx hb dX5_commit_29 (by decide) (fun c18 => ?_) (fun c18 => ?_)
      · rw [if_pos c18] at hf
        refine lv_iinc (v := (x3 + 1)) hx hb dX5_commit_46 hl (k := 3) rfl (by rfl) (by decide) rfl (fun ls hl => ?_)
        refine lv_goto (tgt := 18) hx hb dX5_commit_49 (by decide) ?_
        exact ih w (lv_sub hl [1, 2, 3, 0] rfl) hf kk
      · rw [if_neg c18] at hf
        refine lv_aload_n hx hb dX5_commit_32 rfl (lv_at hl 0 rfl) ?_
        refine r_get C w iC0 eC0 vc5 inlX5 0 (by decide) w_fl_RX5_10_AtomicThreads_memory_LAtomicThreads_Memory rfl dX5_commit_33 ?_
        refine lv_iload_n hx hb dX5_commit_36 rfl (lv_at hl 3 rfl) ?_
        refine lv_aload_n hx hb dX5_commit_37 rfl (lv_at hl 1 rfl) ?_
        refine r_getN C w (iC10 ht) eC10 vc4 inlX4 2 (by decide) nw_f_X5_111 rfl dX5_commit_38 ?_
        refine lv_iload_n hx hb dX5_commit_41 rfl (lv_at hl 3 rfl) ?_
        obtain ⟨g19, hf⟩ := gd_some hf
        refine r_iald C w (iC20 ht) aC20 g19 dX5_commit_42 ?_
        obtain ⟨V22, hc20, hf⟩ := ob_some hf
        refine k_V w (q_VN C w (c_X1_change ok hc20) wy_X1_change wi_X1_change nw_m_X5_83 iC1 eC1 vc1 rfl rfl ⟨Nat.le_of_ble_eq_true rfl, Nat.le_of_ble_eq_true rfl⟩ rfl hl.1 rfl (Nat.le_of_ble_eq_true rfl) dX5_commit_43 ⟨Nat.le_refl _, Nat.le_refl _⟩) (fun H locs w => ?_)
        refine lv_iinc (v := (x3 + 1)) hx hb dX5_commit_46 hl (k := 3) rfl (by rfl) (by decide) rfl (fun ls hl => ?_)
        refine lv_goto (tgt := 18) hx hb dX5_commit_49 (by decide) ?_
        exact ih w (lv_sub hl [1, 2, 3, 0] rfl) hf kk
set_option maxHeartbeats 4000000 in
set_option maxRecDepth 100000 in
theorem c_X5_commit (ok : Wok EC idC a) {t : Nat} (ht : t < 4) {V : Sto} {r : Int32} {V' : Sto} (hf : fX5_commit V t = some (r, V')) : MtI l cy D EC idC a yX5_commit cX5_commit 4 .int rm_X5_commit [.ref (a (0, 0, 0)), .ref (a (10, t, 0))] V r V' := by
  refine ofM (by decide +kernel) ok (Nat.le_of_ble_eq_true rfl) (fun p e s m args below meth c C hr hlk w ls hl => ?_)
  have hx := C.1.1
  have hb := C.1.2.1
  rw [fX5_commit] at hf
  skip
  refine lv_aload_n hx hb dX5_commit_0 rfl (lv_at hl 1 rfl) ?_
  refine r_getN C w (iC10 ht) eC10 vc4 inlX4 8 (by decide) nw_f_X5_117 rfl dX5_commit_1 ?_
  refine lv_istore_n hx hb dX5_commit_4 rfl hl (by decide) rfl (fun ls hl => ?_)
  refine lv_iload_n hx hb dX5_commit_5 rfl (lv_at hl 0 rfl) ?_
  refine lv_if_eq (tgt := 52) hx hb dX5_commit_6 (by decide) (fun c1 => ?_) (fun c1 => ?_)
  · rw [if_pos c1] at hf
    refine lv_aload_n hx hb dX5_commit_52 rfl (lv_at hl 2 rfl) ?_
    obtain ⟨V4, hc2, hf⟩ := ob_some hf
    refine k_V w (q_VN C w (c_X4_leaveAttempt ok ht hc2) wy_X4_leaveAttempt wi_X4_leaveAttempt nw_m_X5_69 (iC10 ht) eC10 vc4 rfl rfl ⟨Nat.le_of_ble_eq_true rfl, Nat.le_of_ble_eq_true rfl⟩ rfl hl.1 rfl (Nat.le_of_ble_eq_true rfl) dX5_commit_53 ⟨Nat.le_refl _, Nat.le_refl _⟩) (fun H locs w => ?_)
    refine lv_aload_n hx hb dX5_commit_56 rfl (lv_at hl 2 rfl) ?_
    refine lv_aload_n hx hb dX5_commit_57 rfl (lv_at hl 2 rfl) ?_
    refine r_getN C w (iC10 ht) eC10 vc4 inlX4 10 (by decide) nw_f_X5_101 rfl dX5_commit_58 ?_
    refine lv_iconst (v := 1) hx hb dX5_commit_61 (by decide) ?_
    refine lv_iadd hx hb dX5_commit_62 ?_
    obtain ⟨r6, V7, hc5, hf⟩ := ob2_some hf
    refine k_I w (q_VN C w (c_X4_goOnTo ok ht hc5) wy_X4_goOnTo wi_X4_goOnTo nw_m_X5_157 (iC10 ht) eC10 vc4 rfl rfl ⟨Nat.le_of_ble_eq_true rfl, Nat.le_of_ble_eq_true rfl⟩ rfl hl.1 rfl (Nat.le_of_ble_eq_true rfl) dX5_commit_63 ⟨Nat.le_refl _, Nat.le_refl _⟩) (fun H locs w => ?_)
    refine lv_pop hx hb dX5_commit_66 rfl ?_
    refine lv_aload_n hx hb dX5_commit_67 rfl (lv_at hl 1 rfl) ?_
    refine lv_iload_n hx hb dX5_commit_68 rfl (lv_at hl 0 rfl) ?_
    obtain ⟨V10, hc8, hf⟩ := ob_some hf
    refine k_V w (q_V C w (c_X5_wake ok hc8) wy_X5_wake wi_X5_wake w_ml_RX5_87_yX5_wake iC0 eC0 vc5 rfl rfl ⟨Nat.le_of_ble_eq_true rfl, Nat.le_of_ble_eq_true rfl⟩ rfl hl.1 rfl (Nat.le_of_ble_eq_true rfl) dX5_commit_69 ⟨Nat.le_refl _, Nat.le_refl _⟩) (fun H locs w => ?_)
    refine lv_iconst (v := 1) hx hb dX5_commit_72 (by decide) ?_
    cases hf
    exact r_iret C hr hlk w dX5_commit_73
  · rw [if_neg c1] at hf
    refine lv_aload_n hx hb dX5_commit_9 rfl (lv_at hl 1 rfl) ?_
    refine r_get C w iC0 eC0 vc5 inlX5 0 (by decide) w_fl_RX5_10_AtomicThreads_memory_LAtomicThreads_Memory rfl dX5_commit_10 ?_
    obtain ⟨V13, hc11, hf⟩ := ob_some hf
    refine k_V w (q_VN C w (c_X1_countCommit ok hc11) wy_X1_countCommit wi_X1_countCommit nw_m_X5_80 iC1 eC1 vc1 rfl rfl ⟨Nat.le_of_ble_eq_true rfl, Nat.le_of_ble_eq_true rfl⟩ rfl hl.1 rfl (Nat.le_of_ble_eq_true rfl) dX5_commit_13 ⟨Nat.le_refl _, Nat.le_refl _⟩) (fun H locs w => ?_)
    refine lv_iconst (v := 0) hx hb dX5_commit_16 (by decide) ?_
    refine lv_istore_n hx hb dX5_commit_17 rfl hl (by decide) rfl (fun ls hl => ?_)
    obtain ⟨V24, hc23, hf⟩ := ob_some hf
    refine jX5_commit_L18 C hr hlk ht 40 w (lv_sub hl [2, 3, 1, 0] rfl) hc23 (fun H locs ls w hl => ?_)
    refine lv_aload_n hx hb dX5_commit_52 rfl (lv_at hl 1 rfl) ?_
    obtain ⟨V27, hc25, hf⟩ := ob_some hf
    refine k_V w (q_VN C w (c_X4_leaveAttempt ok ht hc25) wy_X4_leaveAttempt wi_X4_leaveAttempt nw_m_X5_69 (iC10 ht) eC10 vc4 rfl rfl ⟨Nat.le_of_ble_eq_true rfl, Nat.le_of_ble_eq_true rfl⟩ rfl hl.1 rfl (Nat.le_of_ble_eq_true rfl) dX5_commit_53 ⟨Nat.le_refl _, Nat.le_refl _⟩) (fun H locs w => ?_)
    refine lv_aload_n hx hb dX5_commit_56 rfl (lv_at hl 1 rfl) ?_
    refine lv_aload_n hx hb dX5_commit_57 rfl (lv_at hl 1 rfl) ?_
    refine r_getN C w (iC10 ht) eC10 vc4 inlX4 10 (by decide) nw_f_X5_101 rfl dX5_commit_58 ?_
    refine lv_iconst (v := 1) hx hb dX5_commit_61 (by decide) ?_
    refine lv_iadd hx hb dX5_commit_62 ?_
    obtain ⟨r29, V30, hc28, hf⟩ := ob2_some hf
    refine k_I w (q_VN C w (c_X4_goOnTo ok ht hc28) wy_X4_goOnTo wi_X4_goOnTo nw_m_X5_157 (iC10 ht) eC10 vc4 rfl rfl ⟨Nat.le_of_ble_eq_true rfl, Nat.le_of_ble_eq_true rfl⟩ rfl hl.1 rfl (Nat.le_of_ble_eq_true rfl) dX5_commit_63 ⟨Nat.le_refl _, Nat.le_refl _⟩) (fun H locs w => ?_)
    refine lv_pop hx hb dX5_commit_66 rfl ?_
    refine lv_aload_n hx hb dX5_commit_67 rfl (lv_at hl 0 rfl) ?_
    refine lv_iload_n hx hb dX5_commit_68 rfl (lv_at hl 2 rfl) ?_
    obtain ⟨V33, hc31, hf⟩ := ob_some hf
    refine k_V w (q_V C w (c_X5_wake ok hc31) wy_X5_wake wi_X5_wake w_ml_RX5_87_yX5_wake iC0 eC0 vc5 rfl rfl ⟨Nat.le_of_ble_eq_true rfl, Nat.le_of_ble_eq_true rfl⟩ rfl hl.1 rfl (Nat.le_of_ble_eq_true rfl) dX5_commit_69 ⟨Nat.le_refl _, Nat.le_refl _⟩) (fun H locs w => ?_)
    refine lv_iconst (v := 1) hx hb dX5_commit_72 (by decide) ?_
    cases hf
    exact r_iret C hr hlk w dX5_commit_73
set_option maxHeartbeats 4000000 in
set_option maxRecDepth 100000 in
theorem c_X5_doEnd (ok : Wok EC idC a) {t : Nat} (ht : t < 4) {V : Sto} {r : Int32} {V' : Sto} (hf : fX5_doEnd V t = some (r, V')) : MtI l cy D EC idC a yX5_doEnd cX5_doEnd 3 .int rm_X5_doEnd [.ref (a (0, 0, 0)), .ref (a (10, t, 0))] V r V' := by
  refine ofM (by decide +kernel) ok (Nat.le_of_ble_eq_true rfl) (fun p e s m args below meth c C hr hlk w ls hl => ?_)
  have hx := C.1.1
  have hb := C.1.2.1
  rw [fX5_doEnd] at hf
  skip
  refine lv_aload_n hx hb dX5_doEnd_0 rfl (lv_at hl 1 rfl) ?_
  refine r_getN C w (iC10 ht) eC10 vc4 inlX4 0 (by decide) nw_f_X5_38 rfl dX5_doEnd_1 ?_
  refine lv_aload_n hx hb dX5_doEnd_4 rfl (lv_at hl 1 rfl) ?_
  refine r_getN C w (iC10 ht) eC10 vc4 inlX4 10 (by decide) nw_f_X5_101 rfl dX5_doEnd_5 ?_
  obtain ⟨r2, hc1, hf⟩ := ob_some hf
  refine k_I w (q_VN C w (c_X3_openerOf ok ht hc1) wy_X3_openerOf wi_X3_openerOf nw_m_X5_223 (iC11 ht) eC11 vc3 rfl rfl ⟨Nat.le_of_ble_eq_true rfl, Nat.le_of_ble_eq_true rfl⟩ rfl hl.1 rfl (Nat.le_of_ble_eq_true rfl) dX5_doEnd_8 ⟨Nat.le_refl _, Nat.le_refl _⟩) (fun H locs w => ?_)
  refine lv_istore_n hx hb dX5_doEnd_11 rfl hl (by decide) rfl (fun ls hl => ?_)
  refine lv_aload_n hx hb dX5_doEnd_12 rfl (lv_at hl 2 rfl) ?_
  refine r_getN C w (iC10 ht) eC10 vc4 inlX4 0 (by decide) nw_f_X5_38 rfl dX5_doEnd_13 ?_
  refine lv_iload_n hx hb dX5_doEnd_16 rfl (lv_at hl 0 rfl) ?_
  obtain ⟨r5, hc4, hf⟩ := ob_some hf
  refine k_I w (q_VN C w (c_X3_kindAt ok ht hc4) wy_X3_kindAt wi_X3_kindAt nw_m_X5_141 (iC11 ht) eC11 vc3 rfl rfl ⟨Nat.le_of_ble_eq_true rfl, Nat.le_of_ble_eq_true rfl⟩ rfl hl.1 rfl (Nat.le_of_ble_eq_true rfl) dX5_doEnd_17 ⟨Nat.le_refl _, Nat.le_refl _⟩) (fun H locs w => ?_)
  by_cases c7 : r5 = 6
  · rw [if_pos c7] at hf
    refine lv_lookup (off := 34) (tgt := 54) hx hb dX5_doEnd_20 (by decide) (by rw [c7]; decide) (by decide) ?_
    refine lv_aload_n hx hb dX5_doEnd_54 rfl (lv_at hl 1 rfl) ?_
    refine lv_aload_n hx hb dX5_doEnd_55 rfl (lv_at hl 2 rfl) ?_
    obtain ⟨r9, hc8, hf⟩ := ob_some hf
    refine k_I w (q_V C w (c_X5_hasStaleReads ok ht hc8) wy_X5_hasStaleReads wi_X5_hasStaleReads w_ml_RX5_204_yX5_hasStaleReads iC0 eC0 vc5 rfl rfl ⟨Nat.le_of_ble_eq_true rfl, Nat.le_of_ble_eq_true rfl⟩ rfl hl.1 rfl (Nat.le_of_ble_eq_true rfl) dX5_doEnd_56 ⟨Nat.le_refl _, Nat.le_refl _⟩) (fun H locs w => ?_)
    refine lv_if_eq (tgt := 69) hx hb dX5_doEnd_59 (by decide) (fun c11 => ?_) (fun c11 => ?_)
    · rw [if_pos c11] at hf
      refine lv_aload_n hx hb dX5_doEnd_69 rfl (lv_at hl 1 rfl) ?_
      refine lv_aload_n hx hb dX5_doEnd_70 rfl (lv_at hl 2 rfl) ?_
      obtain ⟨r13, V14, hc12, hf⟩ := ob2_some hf
      refine k_I w (q_V C w (c_X5_commit ok ht hc12) wy_X5_commit wi_X5_commit w_ml_RX5_226_yX5_commit iC0 eC0 vc5 rfl rfl ⟨Nat.le_of_ble_eq_true rfl, Nat.le_of_ble_eq_true rfl⟩ rfl hl.1 rfl (Nat.le_of_ble_eq_true rfl) dX5_doEnd_71 ⟨Nat.le_refl _, Nat.le_refl _⟩) (fun H locs w => ?_)
      cases hf
      exact r_iret C hr hlk w dX5_doEnd_74
    · rw [if_neg c11] at hf
      refine lv_aload_n hx hb dX5_doEnd_62 rfl (lv_at hl 2 rfl) ?_
      obtain ⟨r16, V17, hc15, hf⟩ := ob2_some hf
      refine k_I w (q_VN C w (c_X4_discard ok ht hc15) wy_X4_discard wi_X4_discard nw_m_X5_192 (iC10 ht) eC10 vc4 rfl rfl ⟨Nat.le_of_ble_eq_true rfl, Nat.le_of_ble_eq_true rfl⟩ rfl hl.1 rfl (Nat.le_of_ble_eq_true rfl) dX5_doEnd_63 ⟨Nat.le_refl _, Nat.le_refl _⟩) (fun H locs w => ?_)
      refine lv_goto (tgt := 74) hx hb dX5_doEnd_66 (by decide) ?_
      cases hf
      exact r_iret C hr hlk w dX5_doEnd_74
  rw [if_neg c7] at hf
  by_cases c18 : r5 = 13
  · rw [if_pos c18] at hf
    refine lv_lookup (off := 28) (tgt := 48) hx hb dX5_doEnd_20 (by decide) (by rw [c18]; decide) (by decide) ?_
    refine lv_aload_n hx hb dX5_doEnd_48 rfl (lv_at hl 2 rfl) ?_
    refine lv_iload_n hx hb dX5_doEnd_49 rfl (lv_at hl 0 rfl) ?_
    obtain ⟨r20, V21, hc19, hf⟩ := ob2_some hf
    refine k_I w (q_VN C w (c_X4_goOnTo ok ht hc19) wy_X4_goOnTo wi_X4_goOnTo nw_m_X5_157 (iC10 ht) eC10 vc4 rfl rfl ⟨Nat.le_of_ble_eq_true rfl, Nat.le_of_ble_eq_true rfl⟩ rfl hl.1 rfl (Nat.le_of_ble_eq_true rfl) dX5_doEnd_50 ⟨Nat.le_refl _, Nat.le_refl _⟩) (fun H locs w => ?_)
    cases hf
    exact r_iret C hr hlk w dX5_doEnd_53
  rw [if_neg c18] at hf
  refine lv_lookup (off := 55) (tgt := 75) hx hb dX5_doEnd_20 (by decide) (by show Op.lookupswitch.offset [(6, 34), (13, 28)] 55 _ = _; rw [lv_osw c7 (by decide)]; rw [lv_osw c18 (by decide)]; rfl) (by decide) ?_
  refine lv_aload_n hx hb dX5_doEnd_75 rfl (lv_at hl 2 rfl) ?_
  refine lv_aload_n hx hb dX5_doEnd_76 rfl (lv_at hl 2 rfl) ?_
  refine r_getN C w (iC10 ht) eC10 vc4 inlX4 10 (by decide) nw_f_X5_101 rfl dX5_doEnd_77 ?_
  refine lv_iconst (v := 1) hx hb dX5_doEnd_80 (by decide) ?_
  refine lv_iadd hx hb dX5_doEnd_81 ?_
  obtain ⟨r23, V24, hc22, hf⟩ := ob2_some hf
  refine k_I w (q_VN C w (c_X4_goOnTo ok ht hc22) wy_X4_goOnTo wi_X4_goOnTo nw_m_X5_157 (iC10 ht) eC10 vc4 rfl rfl ⟨Nat.le_of_ble_eq_true rfl, Nat.le_of_ble_eq_true rfl⟩ rfl hl.1 rfl (Nat.le_of_ble_eq_true rfl) dX5_doEnd_82 ⟨Nat.le_refl _, Nat.le_refl _⟩) (fun H locs w => ?_)
  cases hf
  exact r_iret C hr hlk w dX5_doEnd_85
set_option maxHeartbeats 4000000 in
set_option maxRecDepth 100000 in
theorem c_X5_doWord (ok : Wok EC idC a) {t : Nat} (ht : t < 4) {V : Sto} {r : Int32} {V' : Sto} (hf : fX5_doWord V t = some (r, V')) : MtI l cy D EC idC a yX5_doWord cX5_doWord 6 .int rm_X5_doWord [.ref (a (0, 0, 0)), .ref (a (10, t, 0))] V r V' := by
  refine ofM (by decide +kernel) ok (Nat.le_of_ble_eq_true rfl) (fun p e s m args below meth c C hr hlk w ls hl => ?_)
  have hx := C.1.1
  have hb := C.1.2.1
  rw [fX5_doWord] at hf
  skip
  refine lv_aload_n hx hb dX5_doWord_0 rfl (lv_at hl 1 rfl) ?_
  refine r_getN C w (iC10 ht) eC10 vc4 inlX4 0 (by decide) nw_f_X5_38 rfl dX5_doWord_1 ?_
  refine lv_astore_n hx hb dX5_doWord_4 rfl hl (by decide) rfl (fun ls hl => ?_)
  refine lv_aload_n hx hb dX5_doWord_5 rfl (lv_at hl 2 rfl) ?_
  refine r_getN C w (iC10 ht) eC10 vc4 inlX4 10 (by decide) nw_f_X5_101 rfl dX5_doWord_6 ?_
  refine lv_istore_n hx hb dX5_doWord_9 rfl hl (by decide) rfl (fun ls hl => ?_)
  refine lv_aload_n hx hb dX5_doWord_10 rfl (lv_at hl 1 rfl) ?_
  refine lv_iload_n hx hb dX5_doWord_11 rfl (lv_at hl 0 rfl) ?_
  obtain ⟨r2, hc1, hf⟩ := ob_some hf
  refine k_I w (q_VN C w (c_X3_firstAt ok ht hc1) wy_X3_firstAt wi_X3_firstAt nw_m_X5_135 (iC11 ht) eC11 vc3 rfl rfl ⟨Nat.le_of_ble_eq_true rfl, Nat.le_of_ble_eq_true rfl⟩ rfl hl.1 rfl (Nat.le_of_ble_eq_true rfl) dX5_doWord_12 ⟨Nat.le_refl _, Nat.le_refl _⟩) (fun H locs w => ?_)
  refine lv_istore hx hb dX5_doWord_15 hl (by decide) rfl (fun ls hl => ?_)
  refine lv_aload_n hx hb dX5_doWord_17 rfl (lv_at hl 2 rfl) ?_
  refine lv_iload_n hx hb dX5_doWord_18 rfl (lv_at hl 1 rfl) ?_
  obtain ⟨r5, hc4, hf⟩ := ob_some hf
  refine k_I w (q_VN C w (c_X3_secondAt ok ht hc4) wy_X3_secondAt wi_X3_secondAt nw_m_X5_138 (iC11 ht) eC11 vc3 rfl rfl ⟨Nat.le_of_ble_eq_true rfl, Nat.le_of_ble_eq_true rfl⟩ rfl hl.1 rfl (Nat.le_of_ble_eq_true rfl) dX5_doWord_19 ⟨Nat.le_refl _, Nat.le_refl _⟩) (fun H locs w => ?_)
  refine lv_istore hx hb dX5_doWord_22 hl (by decide) rfl (fun ls hl => ?_)
  refine lv_aload_n hx hb dX5_doWord_24 rfl (lv_at hl 3 rfl) ?_
  refine lv_iload_n hx hb dX5_doWord_25 rfl (lv_at hl 2 rfl) ?_
  obtain ⟨r8, hc7, hf⟩ := ob_some hf
  refine k_I w (q_VN C w (c_X3_kindAt ok ht hc7) wy_X3_kindAt wi_X3_kindAt nw_m_X5_141 (iC11 ht) eC11 vc3 rfl rfl ⟨Nat.le_of_ble_eq_true rfl, Nat.le_of_ble_eq_true rfl⟩ rfl hl.1 rfl (Nat.le_of_ble_eq_true rfl) dX5_doWord_26 ⟨Nat.le_refl _, Nat.le_refl _⟩) (fun H locs w => ?_)
  by_cases c10 : r8 = 0
  · rw [if_pos c10] at hf
    refine lv_tableIn (off := 83) (tgt := 112) hx hb dX5_doWord_29 (by rw [c10]; decide) (by rw [c10]; decide) (by rw [c10]; rfl) (by decide) ?_
    refine lv_aload_n hx hb dX5_doWord_112 rfl (lv_at hl 5 rfl) ?_
    refine lv_iload hx hb dX5_doWord_113 (lv_at hl 1 rfl) ?_
    refine lv_iload hx hb dX5_doWord_115 (lv_at hl 0 rfl) ?_
    obtain ⟨r12, V13, hc11, hf⟩ := ob2_some hf
    refine k_I w (q_VN C w (c_X4_assign ok ht hc11) wy_X4_assign wi_X4_assign nw_m_X5_144 (iC10 ht) eC10 vc4 rfl rfl ⟨Nat.le_of_ble_eq_true rfl, Nat.le_of_ble_eq_true rfl⟩ rfl hl.1 rfl (Nat.le_of_ble_eq_true rfl) dX5_doWord_117 ⟨Nat.le_refl _, Nat.le_refl _⟩) (fun H locs w => ?_)
    cases hf
    exact r_iret C hr hlk w dX5_doWord_120
  rw [if_neg c10] at hf
  by_cases c14 : r8 = 1
  · rw [if_pos c14] at hf
    refine lv_tableIn (off := 92) (tgt := 121) hx hb dX5_doWord_29 (by rw [c14]; decide) (by rw [c14]; decide) (by rw [c14]; rfl) (by decide) ?_
    refine lv_aload_n hx hb dX5_doWord_121 rfl (lv_at hl 5 rfl) ?_
    refine lv_iload hx hb dX5_doWord_122 (lv_at hl 1 rfl) ?_
    refine lv_aload_n hx hb dX5_doWord_124 rfl (lv_at hl 5 rfl) ?_
    refine lv_iload hx hb dX5_doWord_125 (lv_at hl 1 rfl) ?_
    obtain ⟨r16, hc15, hf⟩ := ob_some hf
    refine k_I w (q_VN C w (c_X4_registerValue ok ht hc15) wy_X4_registerValue wi_X4_registerValue nw_m_X5_104 (iC10 ht) eC10 vc4 rfl rfl ⟨Nat.le_of_ble_eq_true rfl, Nat.le_of_ble_eq_true rfl⟩ rfl hl.1 rfl (Nat.le_of_ble_eq_true rfl) dX5_doWord_127 ⟨Nat.le_refl _, Nat.le_refl _⟩) (fun H locs w => ?_)
    refine lv_aload_n hx hb dX5_doWord_130 rfl (lv_at hl 5 rfl) ?_
    refine lv_iload hx hb dX5_doWord_131 (lv_at hl 0 rfl) ?_
    obtain ⟨r19, hc18, hf⟩ := ob_some hf
    refine k_I w (q_VN C w (c_X4_registerValue ok ht hc18) wy_X4_registerValue wi_X4_registerValue nw_m_X5_104 (iC10 ht) eC10 vc4 rfl rfl ⟨Nat.le_of_ble_eq_true rfl, Nat.le_of_ble_eq_true rfl⟩ rfl hl.1 rfl (Nat.le_of_ble_eq_true rfl) dX5_doWord_133 ⟨Nat.le_refl _, Nat.le_refl _⟩) (fun H locs w => ?_)
    refine lv_iadd hx hb dX5_doWord_136 ?_
    obtain ⟨r22, V23, hc21, hf⟩ := ob2_some hf
    refine k_I w (q_VN C w (c_X4_assign ok ht hc21) wy_X4_assign wi_X4_assign nw_m_X5_144 (iC10 ht) eC10 vc4 rfl rfl ⟨Nat.le_of_ble_eq_true rfl, Nat.le_of_ble_eq_true rfl⟩ rfl hl.1 rfl (Nat.le_of_ble_eq_true rfl) dX5_doWord_137 ⟨Nat.le_refl _, Nat.le_refl _⟩) (fun H locs w => ?_)
    cases hf
    exact r_iret C hr hlk w dX5_doWord_140
  rw [if_neg c14] at hf
  by_cases c24 : r8 = 2
  · rw [if_pos c24] at hf
    refine lv_tableIn (off := 112) (tgt := 141) hx hb dX5_doWord_29 (by rw [c24]; decide) (by rw [c24]; decide) (by rw [c24]; rfl) (by decide) ?_
    refine lv_aload_n hx hb dX5_doWord_141 rfl (lv_at hl 5 rfl) ?_
    refine lv_iload hx hb dX5_doWord_142 (lv_at hl 1 rfl) ?_
    refine lv_aload_n hx hb dX5_doWord_144 rfl (lv_at hl 5 rfl) ?_
    refine lv_iload hx hb dX5_doWord_145 (lv_at hl 1 rfl) ?_
    obtain ⟨r26, hc25, hf⟩ := ob_some hf
    refine k_I w (q_VN C w (c_X4_registerValue ok ht hc25) wy_X4_registerValue wi_X4_registerValue nw_m_X5_104 (iC10 ht) eC10 vc4 rfl rfl ⟨Nat.le_of_ble_eq_true rfl, Nat.le_of_ble_eq_true rfl⟩ rfl hl.1 rfl (Nat.le_of_ble_eq_true rfl) dX5_doWord_147 ⟨Nat.le_refl _, Nat.le_refl _⟩) (fun H locs w => ?_)
    refine lv_aload_n hx hb dX5_doWord_150 rfl (lv_at hl 5 rfl) ?_
    refine lv_iload hx hb dX5_doWord_151 (lv_at hl 0 rfl) ?_
    obtain ⟨r29, hc28, hf⟩ := ob_some hf
    refine k_I w (q_VN C w (c_X4_registerValue ok ht hc28) wy_X4_registerValue wi_X4_registerValue nw_m_X5_104 (iC10 ht) eC10 vc4 rfl rfl ⟨Nat.le_of_ble_eq_true rfl, Nat.le_of_ble_eq_true rfl⟩ rfl hl.1 rfl (Nat.le_of_ble_eq_true rfl) dX5_doWord_153 ⟨Nat.le_refl _, Nat.le_refl _⟩) (fun H locs w => ?_)
    refine lv_isub hx hb dX5_doWord_156 ?_
    obtain ⟨r32, V33, hc31, hf⟩ := ob2_some hf
    refine k_I w (q_VN C w (c_X4_assign ok ht hc31) wy_X4_assign wi_X4_assign nw_m_X5_144 (iC10 ht) eC10 vc4 rfl rfl ⟨Nat.le_of_ble_eq_true rfl, Nat.le_of_ble_eq_true rfl⟩ rfl hl.1 rfl (Nat.le_of_ble_eq_true rfl) dX5_doWord_157 ⟨Nat.le_refl _, Nat.le_refl _⟩) (fun H locs w => ?_)
    cases hf
    exact r_iret C hr hlk w dX5_doWord_160
  rw [if_neg c24] at hf
  by_cases c34 : r8 = 3
  · rw [if_pos c34] at hf
    refine lv_tableIn (off := 132) (tgt := 161) hx hb dX5_doWord_29 (by rw [c34]; decide) (by rw [c34]; decide) (by rw [c34]; rfl) (by decide) ?_
    refine lv_aload_n hx hb dX5_doWord_161 rfl (lv_at hl 4 rfl) ?_
    refine lv_aload_n hx hb dX5_doWord_162 rfl (lv_at hl 5 rfl) ?_
    refine lv_iload hx hb dX5_doWord_163 (lv_at hl 1 rfl) ?_
    refine lv_iload hx hb dX5_doWord_165 (lv_at hl 0 rfl) ?_
    obtain ⟨r36, V37, hc35, hf⟩ := ob2_some hf
    refine k_I w (q_V C w (c_X5_doRead ok ht hc35) wy_X5_doRead wi_X5_doRead w_ml_RX5_148_yX5_doRead iC0 eC0 vc5 rfl rfl ⟨Nat.le_of_ble_eq_true rfl, Nat.le_of_ble_eq_true rfl⟩ rfl hl.1 rfl (Nat.le_of_ble_eq_true rfl) dX5_doWord_167 ⟨Nat.le_refl _, Nat.le_refl _⟩) (fun H locs w => ?_)
    cases hf
    exact r_iret C hr hlk w dX5_doWord_170
  rw [if_neg c34] at hf
  by_cases c38 : r8 = 4
  · rw [if_pos c38] at hf
    refine lv_tableIn (off := 142) (tgt := 171) hx hb dX5_doWord_29 (by rw [c38]; decide) (by rw [c38]; decide) (by rw [c38]; rfl) (by decide) ?_
    refine lv_aload_n hx hb dX5_doWord_171 rfl (lv_at hl 5 rfl) ?_
    refine lv_iload hx hb dX5_doWord_172 (lv_at hl 1 rfl) ?_
    refine lv_aload_n hx hb dX5_doWord_174 rfl (lv_at hl 5 rfl) ?_
    refine lv_iload hx hb dX5_doWord_175 (lv_at hl 0 rfl) ?_
    obtain ⟨r40, hc39, hf⟩ := ob_some hf
    refine k_I w (q_VN C w (c_X4_registerValue ok ht hc39) wy_X4_registerValue wi_X4_registerValue nw_m_X5_104 (iC10 ht) eC10 vc4 rfl rfl ⟨Nat.le_of_ble_eq_true rfl, Nat.le_of_ble_eq_true rfl⟩ rfl hl.1 rfl (Nat.le_of_ble_eq_true rfl) dX5_doWord_177 ⟨Nat.le_refl _, Nat.le_refl _⟩) (fun H locs w => ?_)
    obtain ⟨r43, V44, hc42, hf⟩ := ob2_some hf
    refine k_I w (q_VN C w (c_X4_write ok ht hc42) wy_X4_write wi_X4_write nw_m_X5_152 (iC10 ht) eC10 vc4 rfl rfl ⟨Nat.le_of_ble_eq_true rfl, Nat.le_of_ble_eq_true rfl⟩ rfl hl.1 rfl (Nat.le_of_ble_eq_true rfl) dX5_doWord_180 ⟨Nat.le_refl _, Nat.le_refl _⟩) (fun H locs w => ?_)
    cases hf
    exact r_iret C hr hlk w dX5_doWord_183
  rw [if_neg c38] at hf
  by_cases c45 : r8 = 5
  · rw [if_pos c45] at hf
    refine lv_tableIn (off := 155) (tgt := 184) hx hb dX5_doWord_29 (by rw [c45]; decide) (by rw [c45]; decide) (by rw [c45]; rfl) (by decide) ?_
    refine lv_aload_n hx hb dX5_doWord_184 rfl (lv_at hl 4 rfl) ?_
    refine r_get C w iC0 eC0 vc5 inlX5 1 (by decide) w_fl_RX5_19_AtomicThreads_paper_LAtomicThreads_Paper rfl dX5_doWord_185 ?_
    refine lv_aload_n hx hb dX5_doWord_188 rfl (lv_at hl 5 rfl) ?_
    refine lv_iload hx hb dX5_doWord_189 (lv_at hl 1 rfl) ?_
    obtain ⟨r47, hc46, hf⟩ := ob_some hf
    refine k_I w (q_VN C w (c_X4_registerValue ok ht hc46) wy_X4_registerValue wi_X4_registerValue nw_m_X5_104 (iC10 ht) eC10 vc4 rfl rfl ⟨Nat.le_of_ble_eq_true rfl, Nat.le_of_ble_eq_true rfl⟩ rfl hl.1 rfl (Nat.le_of_ble_eq_true rfl) dX5_doWord_191 ⟨Nat.le_refl _, Nat.le_refl _⟩) (fun H locs w => ?_)
    obtain ⟨V51, hc49, hf⟩ := ob_some hf
    refine k_V w (q_VN C w (c_X2_write ok hc49) wy_X2_write wi_X2_write nw_m_X5_155 iC4 eC4 vc2 rfl rfl ⟨Nat.le_of_ble_eq_true rfl, Nat.le_of_ble_eq_true rfl⟩ rfl hl.1 rfl (Nat.le_of_ble_eq_true rfl) dX5_doWord_194 ⟨Nat.le_refl _, Nat.le_refl _⟩) (fun H locs w => ?_)
    refine lv_aload_n hx hb dX5_doWord_197 rfl (lv_at hl 5 rfl) ?_
    refine lv_iload_n hx hb dX5_doWord_198 rfl (lv_at hl 2 rfl) ?_
    refine lv_iconst (v := 1) hx hb dX5_doWord_199 (by decide) ?_
    refine lv_iadd hx hb dX5_doWord_200 ?_
    obtain ⟨r53, V54, hc52, hf⟩ := ob2_some hf
    refine k_I w (q_VN C w (c_X4_goOnTo ok ht hc52) wy_X4_goOnTo wi_X4_goOnTo nw_m_X5_157 (iC10 ht) eC10 vc4 rfl rfl ⟨Nat.le_of_ble_eq_true rfl, Nat.le_of_ble_eq_true rfl⟩ rfl hl.1 rfl (Nat.le_of_ble_eq_true rfl) dX5_doWord_201 ⟨Nat.le_refl _, Nat.le_refl _⟩) (fun H locs w => ?_)
    cases hf
    exact r_iret C hr hlk w dX5_doWord_204
  rw [if_neg c45] at hf
  by_cases c55 : r8 = 6
  · rw [if_pos c55] at hf
    refine lv_tableIn (off := 176) (tgt := 205) hx hb dX5_doWord_29 (by rw [c55]; decide) (by rw [c55]; decide) (by rw [c55]; rfl) (by decide) ?_
    refine lv_aload_n hx hb dX5_doWord_205 rfl (lv_at hl 5 rfl) ?_
    refine lv_aload_n hx hb dX5_doWord_206 rfl (lv_at hl 4 rfl) ?_
    refine r_get C w iC0 eC0 vc5 inlX5 0 (by decide) w_fl_RX5_10_AtomicThreads_memory_LAtomicThreads_Memory rfl dX5_doWord_207 ?_
    refine r_getN C w iC1 eC1 vc1 inlX1 2 (by decide) nw_f_X5_98 rfl dX5_doWord_210 ?_
    obtain ⟨r57, V58, hc56, hf⟩ := ob2_some hf
    refine k_I w (q_VN C w (c_X4_beginAttempt ok ht hc56) wy_X4_beginAttempt wi_X4_beginAttempt nw_m_X5_160 (iC10 ht) eC10 vc4 rfl rfl ⟨Nat.le_of_ble_eq_true rfl, Nat.le_of_ble_eq_true rfl⟩ rfl hl.1 rfl (Nat.le_of_ble_eq_true rfl) dX5_doWord_213 ⟨Nat.le_refl _, Nat.le_refl _⟩) (fun H locs w => ?_)
    cases hf
    exact r_iret C hr hlk w dX5_doWord_216
  rw [if_neg c55] at hf
  by_cases c59 : r8 = 7
  · rw [if_pos c59] at hf
    refine lv_tableIn (off := 251) (tgt := 280) hx hb dX5_doWord_29 (by rw [c59]; decide) (by rw [c59]; decide) (by rw [c59]; rfl) (by decide) ?_
    refine lv_aload_n hx hb dX5_doWord_280 rfl (lv_at hl 4 rfl) ?_
    refine lv_aload_n hx hb dX5_doWord_281 rfl (lv_at hl 5 rfl) ?_
    obtain ⟨r61, V62, hc60, hf⟩ := ob2_some hf
    refine k_I w (q_V C w (c_X5_doEnd ok ht hc60) wy_X5_doEnd wi_X5_doEnd w_ml_RX5_182_yX5_doEnd iC0 eC0 vc5 rfl rfl ⟨Nat.le_of_ble_eq_true rfl, Nat.le_of_ble_eq_true rfl⟩ rfl hl.1 rfl (Nat.le_of_ble_eq_true rfl) dX5_doWord_282 ⟨Nat.le_refl _, Nat.le_refl _⟩) (fun H locs w => ?_)
    cases hf
    exact r_iret C hr hlk w dX5_doWord_285
  rw [if_neg c59] at hf
  by_cases c63 : r8 = 8
  · rw [if_pos c63] at hf
    refine lv_tableIn (off := 233) (tgt := 262) hx hb dX5_doWord_29 (by rw [c63]; decide) (by rw [c63]; decide) (by rw [c63]; rfl) (by decide) ?_
    refine lv_aload_n hx hb dX5_doWord_262 rfl (lv_at hl 4 rfl) ?_
    refine lv_aload_n hx hb dX5_doWord_263 rfl (lv_at hl 5 rfl) ?_
    obtain ⟨r65, V66, hc64, hf⟩ := ob2_some hf
    refine k_I w (q_V C w (c_X5_doRetry ok ht hc64) wy_X5_doRetry wi_X5_doRetry w_ml_RX5_175_yX5_doRetry iC0 eC0 vc5 rfl rfl ⟨Nat.le_of_ble_eq_true rfl, Nat.le_of_ble_eq_true rfl⟩ rfl hl.1 rfl (Nat.le_of_ble_eq_true rfl) dX5_doWord_264 ⟨Nat.le_refl _, Nat.le_refl _⟩) (fun H locs w => ?_)
    cases hf
    exact r_iret C hr hlk w dX5_doWord_267
  rw [if_neg c63] at hf
  by_cases c67 : r8 = 9
  · rw [if_pos c67] at hf
    refine lv_tableIn (off := 188) (tgt := 217) hx hb dX5_doWord_29 (by rw [c67]; decide) (by rw [c67]; decide) (by rw [c67]; rfl) (by decide) ?_
    refine lv_aload_n hx hb dX5_doWord_217 rfl (lv_at hl 5 rfl) ?_
    obtain ⟨r69, V70, hc68, hf⟩ := ob2_some hf
    refine k_I w (q_VN C w (c_X4_noteAndGoOn ok ht hc68) wy_X4_noteAndGoOn wi_X4_noteAndGoOn nw_m_X5_163 (iC10 ht) eC10 vc4 rfl rfl ⟨Nat.le_of_ble_eq_true rfl, Nat.le_of_ble_eq_true rfl⟩ rfl hl.1 rfl (Nat.le_of_ble_eq_true rfl) dX5_doWord_218 ⟨Nat.le_refl _, Nat.le_refl _⟩) (fun H locs w => ?_)
    cases hf
    exact r_iret C hr hlk w dX5_doWord_221
  rw [if_neg c67] at hf
  by_cases c71 : r8 = 10
  · rw [if_pos c71] at hf
    refine lv_tableIn (off := 193) (tgt := 222) hx hb dX5_doWord_29 (by rw [c71]; decide) (by rw [c71]; decide) (by rw [c71]; rfl) (by decide) ?_
    refine lv_aload_n hx hb dX5_doWord_222 rfl (lv_at hl 5 rfl) ?_
    obtain ⟨r73, V74, hc72, hf⟩ := ob2_some hf
    refine k_I w (q_VN C w (c_X4_endFirstPart ok ht hc72) wy_X4_endFirstPart wi_X4_endFirstPart nw_m_X5_166 (iC10 ht) eC10 vc4 rfl rfl ⟨Nat.le_of_ble_eq_true rfl, Nat.le_of_ble_eq_true rfl⟩ rfl hl.1 rfl (Nat.le_of_ble_eq_true rfl) dX5_doWord_223 ⟨Nat.le_refl _, Nat.le_refl _⟩) (fun H locs w => ?_)
    cases hf
    exact r_iret C hr hlk w dX5_doWord_226
  rw [if_neg c71] at hf
  by_cases c75 : r8 = 11
  · rw [if_pos c75] at hf
    refine lv_tableIn (off := 208) (tgt := 237) hx hb dX5_doWord_29 (by rw [c75]; decide) (by rw [c75]; decide) (by rw [c75]; rfl) (by decide) ?_
    refine lv_aload_n hx hb dX5_doWord_237 rfl (lv_at hl 5 rfl) ?_
    refine lv_aload_n hx hb dX5_doWord_238 rfl (lv_at hl 5 rfl) ?_
    refine lv_iload hx hb dX5_doWord_239 (lv_at hl 1 rfl) ?_
    obtain ⟨r77, hc76, hf⟩ := ob_some hf
    refine k_I w (q_VN C w (c_X4_registerValue ok ht hc76) wy_X4_registerValue wi_X4_registerValue nw_m_X5_104 (iC10 ht) eC10 vc4 rfl rfl ⟨Nat.le_of_ble_eq_true rfl, Nat.le_of_ble_eq_true rfl⟩ rfl hl.1 rfl (Nat.le_of_ble_eq_true rfl) dX5_doWord_241 ⟨Nat.le_refl _, Nat.le_refl _⟩) (fun H locs w => ?_)
    refine lv_if_le (tgt := 253) hx hb dX5_doWord_244 (by decide) (fun c79 => ?_) (fun c79 => ?_)
    · rw [if_pos c79] at hf
      refine lv_aload_n hx hb dX5_doWord_253 rfl (lv_at hl 3 rfl) ?_
      refine lv_iload_n hx hb dX5_doWord_254 rfl (lv_at hl 2 rfl) ?_
      obtain ⟨r81, hc80, hf⟩ := ob_some hf
      refine k_I w (q_VN C w (c_X3_elsewhere ok ht hc80) wy_X3_elsewhere wi_X3_elsewhere nw_m_X5_172 (iC11 ht) eC11 vc3 rfl rfl ⟨Nat.le_of_ble_eq_true rfl, Nat.le_of_ble_eq_true rfl⟩ rfl hl.1 rfl (Nat.le_of_ble_eq_true rfl) dX5_doWord_255 ⟨Nat.le_refl _, Nat.le_refl _⟩) (fun H locs w => ?_)
      obtain ⟨r84, V85, hc83, hf⟩ := ob2_some hf
      refine k_I w (q_VN C w (c_X4_goOnTo ok ht hc83) wy_X4_goOnTo wi_X4_goOnTo nw_m_X5_157 (iC10 ht) eC10 vc4 rfl rfl ⟨Nat.le_of_ble_eq_true rfl, Nat.le_of_ble_eq_true rfl⟩ rfl hl.1 rfl (Nat.le_of_ble_eq_true rfl) dX5_doWord_258 ⟨Nat.le_refl _, Nat.le_refl _⟩) (fun H locs w => ?_)
      cases hf
      exact r_iret C hr hlk w dX5_doWord_261
    · rw [if_neg c79] at hf
      refine lv_iload_n hx hb dX5_doWord_247 rfl (lv_at hl 2 rfl) ?_
      refine lv_iconst (v := 1) hx hb dX5_doWord_248 (by decide) ?_
      refine lv_iadd hx hb dX5_doWord_249 ?_
      refine lv_goto (tgt := 258) hx hb dX5_doWord_250 (by decide) ?_
      obtain ⟨r87, V88, hc86, hf⟩ := ob2_some hf
      refine k_I w (q_VN C w (c_X4_goOnTo ok ht hc86) wy_X4_goOnTo wi_X4_goOnTo nw_m_X5_157 (iC10 ht) eC10 vc4 rfl rfl ⟨Nat.le_of_ble_eq_true rfl, Nat.le_of_ble_eq_true rfl⟩ rfl hl.1 rfl (Nat.le_of_ble_eq_true rfl) dX5_doWord_258 ⟨Nat.le_refl _, Nat.le_refl _⟩) (fun H locs w => ?_)
      cases hf
      exact r_iret C hr hlk w dX5_doWord_261
  rw [if_neg c75] at hf
  by_cases c89 : r8 = 12
  · rw [if_pos c89] at hf
    refine lv_tableIn (off := 198) (tgt := 227) hx hb dX5_doWord_29 (by rw [c89]; decide) (by rw [c89]; decide) (by rw [c89]; rfl) (by decide) ?_
    refine lv_aload_n hx hb dX5_doWord_227 rfl (lv_at hl 5 rfl) ?_
    refine lv_aload_n hx hb dX5_doWord_228 rfl (lv_at hl 3 rfl) ?_
    refine lv_iload_n hx hb dX5_doWord_229 rfl (lv_at hl 2 rfl) ?_
    obtain ⟨r91, hc90, hf⟩ := ob_some hf
    refine k_I w (q_VN C w (c_X3_behindEnd ok ht hc90) wy_X3_behindEnd wi_X3_behindEnd nw_m_X5_169 (iC11 ht) eC11 vc3 rfl rfl ⟨Nat.le_of_ble_eq_true rfl, Nat.le_of_ble_eq_true rfl⟩ rfl hl.1 rfl (Nat.le_of_ble_eq_true rfl) dX5_doWord_230 ⟨Nat.le_refl _, Nat.le_refl _⟩) (fun H locs w => ?_)
    obtain ⟨r94, V95, hc93, hf⟩ := ob2_some hf
    refine k_I w (q_VN C w (c_X4_goOnTo ok ht hc93) wy_X4_goOnTo wi_X4_goOnTo nw_m_X5_157 (iC10 ht) eC10 vc4 rfl rfl ⟨Nat.le_of_ble_eq_true rfl, Nat.le_of_ble_eq_true rfl⟩ rfl hl.1 rfl (Nat.le_of_ble_eq_true rfl) dX5_doWord_233 ⟨Nat.le_refl _, Nat.le_refl _⟩) (fun H locs w => ?_)
    cases hf
    exact r_iret C hr hlk w dX5_doWord_236
  rw [if_neg c89] at hf
  by_cases c96 : r8 = 13
  · rw [if_pos c96] at hf
    refine lv_tableIn (off := 208) (tgt := 237) hx hb dX5_doWord_29 (by rw [c96]; decide) (by rw [c96]; decide) (by rw [c96]; rfl) (by decide) ?_
    refine lv_aload_n hx hb dX5_doWord_237 rfl (lv_at hl 5 rfl) ?_
    refine lv_aload_n hx hb dX5_doWord_238 rfl (lv_at hl 5 rfl) ?_
    refine lv_iload hx hb dX5_doWord_239 (lv_at hl 1 rfl) ?_
    obtain ⟨r98, hc97, hf⟩ := ob_some hf
    refine k_I w (q_VN C w (c_X4_registerValue ok ht hc97) wy_X4_registerValue wi_X4_registerValue nw_m_X5_104 (iC10 ht) eC10 vc4 rfl rfl ⟨Nat.le_of_ble_eq_true rfl, Nat.le_of_ble_eq_true rfl⟩ rfl hl.1 rfl (Nat.le_of_ble_eq_true rfl) dX5_doWord_241 ⟨Nat.le_refl _, Nat.le_refl _⟩) (fun H locs w => ?_)
    refine lv_if_le (tgt := 253) hx hb dX5_doWord_244 (by decide) (fun c100 => ?_) (fun c100 => ?_)
    · rw [if_pos c100] at hf
      refine lv_aload_n hx hb dX5_doWord_253 rfl (lv_at hl 3 rfl) ?_
      refine lv_iload_n hx hb dX5_doWord_254 rfl (lv_at hl 2 rfl) ?_
      obtain ⟨r102, hc101, hf⟩ := ob_some hf
      refine k_I w (q_VN C w (c_X3_elsewhere ok ht hc101) wy_X3_elsewhere wi_X3_elsewhere nw_m_X5_172 (iC11 ht) eC11 vc3 rfl rfl ⟨Nat.le_of_ble_eq_true rfl, Nat.le_of_ble_eq_true rfl⟩ rfl hl.1 rfl (Nat.le_of_ble_eq_true rfl) dX5_doWord_255 ⟨Nat.le_refl _, Nat.le_refl _⟩) (fun H locs w => ?_)
      obtain ⟨r105, V106, hc104, hf⟩ := ob2_some hf
      refine k_I w (q_VN C w (c_X4_goOnTo ok ht hc104) wy_X4_goOnTo wi_X4_goOnTo nw_m_X5_157 (iC10 ht) eC10 vc4 rfl rfl ⟨Nat.le_of_ble_eq_true rfl, Nat.le_of_ble_eq_true rfl⟩ rfl hl.1 rfl (Nat.le_of_ble_eq_true rfl) dX5_doWord_258 ⟨Nat.le_refl _, Nat.le_refl _⟩) (fun H locs w => ?_)
      cases hf
      exact r_iret C hr hlk w dX5_doWord_261
    · rw [if_neg c100] at hf
      refine lv_iload_n hx hb dX5_doWord_247 rfl (lv_at hl 2 rfl) ?_
      refine lv_iconst (v := 1) hx hb dX5_doWord_248 (by decide) ?_
      refine lv_iadd hx hb dX5_doWord_249 ?_
      refine lv_goto (tgt := 258) hx hb dX5_doWord_250 (by decide) ?_
      obtain ⟨r108, V109, hc107, hf⟩ := ob2_some hf
      refine k_I w (q_VN C w (c_X4_goOnTo ok ht hc107) wy_X4_goOnTo wi_X4_goOnTo nw_m_X5_157 (iC10 ht) eC10 vc4 rfl rfl ⟨Nat.le_of_ble_eq_true rfl, Nat.le_of_ble_eq_true rfl⟩ rfl hl.1 rfl (Nat.le_of_ble_eq_true rfl) dX5_doWord_258 ⟨Nat.le_refl _, Nat.le_refl _⟩) (fun H locs w => ?_)
      cases hf
      exact r_iret C hr hlk w dX5_doWord_261
  rw [if_neg c96] at hf
  by_cases c110 : r8 = 14
  · rw [if_pos c110] at hf
    refine lv_tableIn (off := 239) (tgt := 268) hx hb dX5_doWord_29 (by rw [c110]; decide) (by rw [c110]; decide) (by rw [c110]; rfl) (by decide) ?_
    refine lv_aload_n hx hb dX5_doWord_268 rfl (lv_at hl 4 rfl) ?_
    refine lv_aload_n hx hb dX5_doWord_269 rfl (lv_at hl 5 rfl) ?_
    refine lv_aload_n hx hb dX5_doWord_270 rfl (lv_at hl 5 rfl) ?_
    refine lv_iload hx hb dX5_doWord_271 (lv_at hl 1 rfl) ?_
    obtain ⟨r112, hc111, hf⟩ := ob_some hf
    refine k_I w (q_VN C w (c_X4_registerValue ok ht hc111) wy_X4_registerValue wi_X4_registerValue nw_m_X5_104 (iC10 ht) eC10 vc4 rfl rfl ⟨Nat.le_of_ble_eq_true rfl, Nat.le_of_ble_eq_true rfl⟩ rfl hl.1 rfl (Nat.le_of_ble_eq_true rfl) dX5_doWord_273 ⟨Nat.le_refl _, Nat.le_refl _⟩) (fun H locs w => ?_)
    obtain ⟨r115, V116, hc114, hf⟩ := ob2_some hf
    refine k_I w (q_V C w (c_X5_doThrow ok ht hc114) wy_X5_doThrow wi_X5_doThrow w_ml_RX5_178_yX5_doThrow iC0 eC0 vc5 rfl rfl ⟨Nat.le_of_ble_eq_true rfl, Nat.le_of_ble_eq_true rfl⟩ rfl hl.1 rfl (Nat.le_of_ble_eq_true rfl) dX5_doWord_276 ⟨Nat.le_refl _, Nat.le_refl _⟩) (fun H locs w => ?_)
    cases hf
    exact r_iret C hr hlk w dX5_doWord_279
  rw [if_neg c110] at hf
  by_cases c117 : r8 = 15
  · rw [if_pos c117] at hf
    refine lv_tableIn (off := 188) (tgt := 217) hx hb dX5_doWord_29 (by rw [c117]; decide) (by rw [c117]; decide) (by rw [c117]; rfl) (by decide) ?_
    refine lv_aload_n hx hb dX5_doWord_217 rfl (lv_at hl 5 rfl) ?_
    obtain ⟨r119, V120, hc118, hf⟩ := ob2_some hf
    refine k_I w (q_VN C w (c_X4_noteAndGoOn ok ht hc118) wy_X4_noteAndGoOn wi_X4_noteAndGoOn nw_m_X5_163 (iC10 ht) eC10 vc4 rfl rfl ⟨Nat.le_of_ble_eq_true rfl, Nat.le_of_ble_eq_true rfl⟩ rfl hl.1 rfl (Nat.le_of_ble_eq_true rfl) dX5_doWord_218 ⟨Nat.le_refl _, Nat.le_refl _⟩) (fun H locs w => ?_)
    cases hf
    exact r_iret C hr hlk w dX5_doWord_221
  rw [if_neg c117] at hf
  by_cases c121 : r8 = 16
  · rw [if_pos c121] at hf
    refine lv_tableIn (off := 193) (tgt := 222) hx hb dX5_doWord_29 (by rw [c121]; decide) (by rw [c121]; decide) (by rw [c121]; rfl) (by decide) ?_
    refine lv_aload_n hx hb dX5_doWord_222 rfl (lv_at hl 5 rfl) ?_
    obtain ⟨r123, V124, hc122, hf⟩ := ob2_some hf
    refine k_I w (q_VN C w (c_X4_endFirstPart ok ht hc122) wy_X4_endFirstPart wi_X4_endFirstPart nw_m_X5_166 (iC10 ht) eC10 vc4 rfl rfl ⟨Nat.le_of_ble_eq_true rfl, Nat.le_of_ble_eq_true rfl⟩ rfl hl.1 rfl (Nat.le_of_ble_eq_true rfl) dX5_doWord_223 ⟨Nat.le_refl _, Nat.le_refl _⟩) (fun H locs w => ?_)
    cases hf
    exact r_iret C hr hlk w dX5_doWord_226
  rw [if_neg c121] at hf
  refine lv_tableOut (tgt := 286) hx hb dX5_doWord_29 (by have nc10 := lv_neT c10 (a := 0) (by decide); have nc14 := lv_neT c14 (a := 1) (by decide); have nc24 := lv_neT c24 (a := 2) (by decide); have nc34 := lv_neT c34 (a := 3) (by decide); have nc38 := lv_neT c38 (a := 4) (by decide); have nc45 := lv_neT c45 (a := 5) (by decide); have nc55 := lv_neT c55 (a := 6) (by decide); have nc59 := lv_neT c59 (a := 7) (by decide); have nc63 := lv_neT c63 (a := 8) (by decide); have nc67 := lv_neT c67 (a := 9) (by decide); have nc71 := lv_neT c71 (a := 10) (by decide); have nc75 := lv_neT c75 (a := 11) (by decide); have nc89 := lv_neT c89 (a := 12) (by decide); have nc96 := lv_neT c96 (a := 13) (by decide); have nc110 := lv_neT c110 (a := 14) (by decide); have nc117 := lv_neT c117 (a := 15) (by decide); have nc121 := lv_neT c121 (a := 16) (by decide); omega) (by decide) ?_
  refine lv_iconst (v := (-1)) hx hb dX5_doWord_286 (by decide) ?_
  cases hf
  exact r_iret C hr hlk w dX5_doWord_287
end S31_metC03
