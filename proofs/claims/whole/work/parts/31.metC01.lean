section S31_metC01
variable {p : Program} {l : Launch} {e : Env} {R : Room} {s : State} {m : MethodId} {args : Array Value} {below : List Frame} {meth : Method} {c : Code} {cy : Nat → ClassId} {D : va_G} {a : Id3 → Nat}
set_option maxHeartbeats 4000000 in
set_option maxRecDepth 100000 in
theorem c_X3_connectOpener (ok : Wok EC idC a) {t : Nat} (ht : t < 4) {V : Sto} {V' : Sto} {x1 : Int32} (hf : fX3_connectOpener V t x1 = some V') : MtV l cy D EC idC a yX3_connectOpener cX3_connectOpener 2 rm_X3_connectOpener [.ref (a (11, t, 0)), .int x1] V V' := by
  refine ofM (by decide +kernel) ok (Nat.le_of_ble_eq_true rfl) (fun p e s m args below meth c C hr hlk w ls hl => ?_)
  have hx := C.1.1
  have hb := C.1.2.1
  rw [fX3_connectOpener] at hf
  skip
  refine lv_aload_n hx hb dX3_connectOpener_0 rfl (lv_at hl 0 rfl) ?_
  refine r_get C w (iC11 ht) eC11 vc3 inlX3 7 (by decide) w_fl_RX3_52_Program_openCount_I rfl dX3_connectOpener_1 ?_
  refine lv_iconst (v := 5) hx hb dX3_connectOpener_4 (by decide) ?_
  refine lv_icmp_ge (tgt := 35) hx hb dX3_connectOpener_5 (by decide) (fun c1 => ?_) (fun c1 => ?_)
  · rw [if_pos c1] at hf
    cases hf
    exact r_vret C hr hlk w dX3_connectOpener_35
  · rw [if_neg c1] at hf
    refine lv_aload_n hx hb dX3_connectOpener_8 rfl (lv_at hl 0 rfl) ?_
    refine r_get C w (iC11 ht) eC11 vc3 inlX3 4 (by decide) w_fl_RX3_24_Program_middles_I rfl dX3_connectOpener_9 ?_
    refine lv_iload_n hx hb dX3_connectOpener_12 rfl (lv_at hl 1 rfl) ?_
    refine lv_iconst (v := (-1)) hx hb dX3_connectOpener_13 (by decide) ?_
    obtain ⟨g2, hf⟩ := gd_some hf
    refine r_iast C w (iC16 ht) aC16 g2 dX3_connectOpener_14 (fun H locs w => ?_)
    obtain ⟨V3, e4, hf⟩ := bnd_some hf
    rw [← e4] at w
    refine lv_aload_n hx hb dX3_connectOpener_15 rfl (lv_at hl 0 rfl) ?_
    refine r_get C w (iC11 ht) eC11 vc3 inlX3 6 (by decide) w_fl_RX3_30_Program_open_I rfl dX3_connectOpener_16 ?_
    refine lv_aload_n hx hb dX3_connectOpener_19 rfl (lv_at hl 0 rfl) ?_
    refine r_get C w (iC11 ht) eC11 vc3 inlX3 7 (by decide) w_fl_RX3_52_Program_openCount_I rfl dX3_connectOpener_20 ?_
    refine lv_iload_n hx hb dX3_connectOpener_23 rfl (lv_at hl 1 rfl) ?_
    obtain ⟨g5, hf⟩ := gd_some hf
    refine r_iast C w (iC18 ht) aC18 g5 dX3_connectOpener_24 (fun H locs w => ?_)
    obtain ⟨V6, e7, hf⟩ := bnd_some hf
    rw [← e7] at w
    refine lv_aload_n hx hb dX3_connectOpener_25 rfl (lv_at hl 0 rfl) ?_
    refine lv_dup hx hb dX3_connectOpener_26 rfl ?_
    refine r_get C w (iC11 ht) eC11 vc3 inlX3 7 (by decide) w_fl_RX3_52_Program_openCount_I rfl dX3_connectOpener_27 ?_
    refine lv_iconst (v := 1) hx hb dX3_connectOpener_30 (by decide) ?_
    refine lv_iadd hx hb dX3_connectOpener_31 ?_
    refine r_put C w (iC11 ht) eC11 vc3 inlX3 tyX3 tyX3_ok nmX3 7 (by decide) w_fl_RX3_52_Program_openCount_I rfl pd_I uC11_7 (Nat.le_of_ble_eq_true rfl) dX3_connectOpener_32 (fun H locs w => ?_)
    obtain ⟨V8, e9, hf⟩ := bnd_some hf
    rw [← e9] at w
    cases hf
    exact r_vret C hr hlk w dX3_connectOpener_35
set_option maxHeartbeats 4000000 in
set_option maxRecDepth 100000 in
theorem c_X3_connectTo (ok : Wok EC idC a) {t : Nat} (ht : t < 4) {ca na : Nat} (hq : (ca, t, 0) ∈ idC) (hE : isAI EC ca t 0 na) {V : Sto} {V' : Sto} {x2 : Int32} (hf : fX3_connectTo V t ca na x2 = some V') : MtV l cy D EC idC a yX3_connectTo cX3_connectTo 4 rm_X3_connectTo [.ref (a (11, t, 0)), .ref (a (ca, t, 0)), .int x2] V V' := by
  refine ofM (by decide +kernel) ok (Nat.le_of_ble_eq_true rfl) (fun p e s m args below meth c C hr hlk w ls hl => ?_)
  have hx := C.1.1
  have hb := C.1.2.1
  rw [fX3_connectTo] at hf
  skip
  refine lv_aload_n hx hb dX3_connectTo_0 rfl (lv_at hl 0 rfl) ?_
  obtain ⟨r2, hc1, hf⟩ := ob_some hf
  refine k_I w (q_V C w (c_X3_innermost ok ht hc1) wy_X3_innermost wi_X3_innermost w_ml_RX3_72_yX3_innermost (iC11 ht) eC11 vc3 rfl rfl ⟨Nat.le_of_ble_eq_true rfl, Nat.le_of_ble_eq_true rfl⟩ rfl hl.1 rfl (Nat.le_of_ble_eq_true rfl) dX3_connectTo_1 ⟨Nat.le_refl _, Nat.le_refl _⟩) (fun H locs w => ?_)
  refine lv_istore_n hx hb dX3_connectTo_4 rfl hl (by decide) rfl (fun ls hl => ?_)
  refine lv_iload_n hx hb dX3_connectTo_5 rfl (lv_at hl 0 rfl) ?_
  refine lv_if_lt (tgt := 26) hx hb dX3_connectTo_6 (by decide) (fun c4 => ?_) (fun c4 => ?_)
  · rw [if_pos c4] at hf
    cases hf
    exact r_vret C hr hlk w dX3_connectTo_26
  · rw [if_neg c4] at hf
    refine lv_iload_n hx hb dX3_connectTo_9 rfl (lv_at hl 0 rfl) ?_
    refine lv_aload_n hx hb dX3_connectTo_10 rfl (lv_at hl 2 rfl) ?_
    refine r_alen C w hq hE dX3_connectTo_11 ?_
    refine lv_icmp_ge (tgt := 26) hx hb dX3_connectTo_12 (by decide) (fun c5 => ?_) (fun c5 => ?_)
    · rw [if_pos c5] at hf
      cases hf
      exact r_vret C hr hlk w dX3_connectTo_26
    · rw [if_neg c5] at hf
      refine lv_aload_n hx hb dX3_connectTo_15 rfl (lv_at hl 2 rfl) ?_
      refine lv_iload_n hx hb dX3_connectTo_16 rfl (lv_at hl 0 rfl) ?_
      refine lv_iload_n hx hb dX3_connectTo_17 rfl (lv_at hl 3 rfl) ?_
      obtain ⟨g6, hf⟩ := gd_some hf
      refine r_iast C w hq hE g6 dX3_connectTo_18 (fun H locs w => ?_)
      obtain ⟨V7, e8, hf⟩ := bnd_some hf
      rw [← e8] at w
      refine lv_aload_n hx hb dX3_connectTo_19 rfl (lv_at hl 1 rfl) ?_
      refine r_get C w (iC11 ht) eC11 vc3 inlX3 3 (by decide) w_fl_RX3_21_Program_openers_I rfl dX3_connectTo_20 ?_
      refine lv_iload_n hx hb dX3_connectTo_23 rfl (lv_at hl 3 rfl) ?_
      refine lv_iload_n hx hb dX3_connectTo_24 rfl (lv_at hl 0 rfl) ?_
      obtain ⟨g9, hf⟩ := gd_some hf
      refine r_iast C w (iC15 ht) aC15 g9 dX3_connectTo_25 (fun H locs w => ?_)
      obtain ⟨V10, e11, hf⟩ := bnd_some hf
      rw [← e11] at w
      cases hf
      exact r_vret C hr hlk w dX3_connectTo_26
set_option maxHeartbeats 4000000 in
set_option maxRecDepth 100000 in
theorem c_X3_connect (ok : Wok EC idC a) {t : Nat} (ht : t < 4) {V : Sto} {V' : Sto} {x1 : Int32} (hf : fX3_connect V t x1 = some V') : MtV l cy D EC idC a yX3_connect cX3_connect 2 rm_X3_connect [.ref (a (11, t, 0)), .int x1] V V' := by
  refine ofM (by decide +kernel) ok (Nat.le_of_ble_eq_true rfl) (fun p e s m args below meth c C hr hlk w ls hl => ?_)
  have hx := C.1.1
  have hb := C.1.2.1
  rw [fX3_connect] at hf
  skip
  refine lv_aload_n hx hb dX3_connect_0 rfl (lv_at hl 0 rfl) ?_
  refine lv_iload_n hx hb dX3_connect_1 rfl (lv_at hl 1 rfl) ?_
  obtain ⟨r2, hc1, hf⟩ := ob_some hf
  refine k_I w (q_V C w (c_X3_kindAt ok ht hc1) wy_X3_kindAt wi_X3_kindAt w_ml_RX3_55_yX3_kindAt (iC11 ht) eC11 vc3 rfl rfl ⟨Nat.le_of_ble_eq_true rfl, Nat.le_of_ble_eq_true rfl⟩ rfl hl.1 rfl (Nat.le_of_ble_eq_true rfl) dX3_connect_2 ⟨Nat.le_refl _, Nat.le_refl _⟩) (fun H locs w => ?_)
  by_cases c4 : r2 = 6
  · rw [if_pos c4] at hf
    refine lv_tableIn (off := 59) (tgt := 64) hx hb dX3_connect_5 (by rw [c4]; decide) (by rw [c4]; decide) (by rw [c4]; rfl) (by decide) ?_
    refine lv_aload_n hx hb dX3_connect_64 rfl (lv_at hl 0 rfl) ?_
    refine lv_iload_n hx hb dX3_connect_65 rfl (lv_at hl 1 rfl) ?_
    obtain ⟨V7, hc5, hf⟩ := ob_some hf
    refine k_V w (q_V C w (c_X3_connectOpener ok ht hc5) wy_X3_connectOpener wi_X3_connectOpener w_ml_RX3_76_yX3_connectOpener (iC11 ht) eC11 vc3 rfl rfl ⟨Nat.le_of_ble_eq_true rfl, Nat.le_of_ble_eq_true rfl⟩ rfl hl.1 rfl (Nat.le_of_ble_eq_true rfl) dX3_connect_66 ⟨Nat.le_refl _, Nat.le_refl _⟩) (fun H locs w => ?_)
    refine lv_goto (tgt := 106) hx hb dX3_connect_69 (by decide) ?_
    cases hf
    exact r_vret C hr hlk w dX3_connect_106
  rw [if_neg c4] at hf
  by_cases c8 : r2 = 7
  · rw [if_pos c8] at hf
    refine lv_tableIn (off := 79) (tgt := 84) hx hb dX3_connect_5 (by rw [c8]; decide) (by rw [c8]; decide) (by rw [c8]; rfl) (by decide) ?_
    refine lv_aload_n hx hb dX3_connect_84 rfl (lv_at hl 0 rfl) ?_
    refine lv_aload_n hx hb dX3_connect_85 rfl (lv_at hl 0 rfl) ?_
    refine r_get C w (iC11 ht) eC11 vc3 inlX3 5 (by decide) w_fl_RX3_27_Program_ends_I rfl dX3_connect_86 ?_
    refine lv_iload_n hx hb dX3_connect_89 rfl (lv_at hl 1 rfl) ?_
    obtain ⟨V11, hc9, hf⟩ := ob_some hf
    refine k_V w (q_V C w (c_X3_connectTo ok ht (iC17 ht) aC17 hc9) wy_X3_connectTo wi_X3_connectTo w_ml_RX3_79_yX3_connectTo (iC11 ht) eC11 vc3 rfl rfl ⟨Nat.le_of_ble_eq_true rfl, Nat.le_of_ble_eq_true rfl⟩ rfl hl.1 rfl (Nat.le_of_ble_eq_true rfl) dX3_connect_90 ⟨Nat.le_refl _, Nat.le_refl _⟩) (fun H locs w => ?_)
    refine lv_aload_n hx hb dX3_connect_93 rfl (lv_at hl 0 rfl) ?_
    refine lv_dup hx hb dX3_connect_94 rfl ?_
    refine r_get C w (iC11 ht) eC11 vc3 inlX3 7 (by decide) w_fl_RX3_52_Program_openCount_I rfl dX3_connect_95 ?_
    refine lv_iconst (v := 1) hx hb dX3_connect_98 (by decide) ?_
    refine lv_isub hx hb dX3_connect_99 ?_
    refine r_put C w (iC11 ht) eC11 vc3 inlX3 tyX3 tyX3_ok nmX3 7 (by decide) w_fl_RX3_52_Program_openCount_I rfl pd_I uC11_7 (Nat.le_of_ble_eq_true rfl) dX3_connect_100 (fun H locs w => ?_)
    obtain ⟨V12, e13, hf⟩ := bnd_some hf
    rw [← e13] at w
    refine lv_goto (tgt := 106) hx hb dX3_connect_103 (by decide) ?_
    cases hf
    exact r_vret C hr hlk w dX3_connect_106
  rw [if_neg c8] at hf
  by_cases c14 : r2 = 8
  · rw [if_pos c14] at hf
    refine lv_tableIn (off := 101) (tgt := 106) hx hb dX3_connect_5 (by rw [c14]; decide) (by rw [c14]; decide) (by rw [c14]; rfl) (by decide) ?_
    cases hf
    exact r_vret C hr hlk w dX3_connect_106
  rw [if_neg c14] at hf
  by_cases c15 : r2 = 9
  · rw [if_pos c15] at hf
    refine lv_tableIn (off := 59) (tgt := 64) hx hb dX3_connect_5 (by rw [c15]; decide) (by rw [c15]; decide) (by rw [c15]; rfl) (by decide) ?_
    refine lv_aload_n hx hb dX3_connect_64 rfl (lv_at hl 0 rfl) ?_
    refine lv_iload_n hx hb dX3_connect_65 rfl (lv_at hl 1 rfl) ?_
    obtain ⟨V18, hc16, hf⟩ := ob_some hf
    refine k_V w (q_V C w (c_X3_connectOpener ok ht hc16) wy_X3_connectOpener wi_X3_connectOpener w_ml_RX3_76_yX3_connectOpener (iC11 ht) eC11 vc3 rfl rfl ⟨Nat.le_of_ble_eq_true rfl, Nat.le_of_ble_eq_true rfl⟩ rfl hl.1 rfl (Nat.le_of_ble_eq_true rfl) dX3_connect_66 ⟨Nat.le_refl _, Nat.le_refl _⟩) (fun H locs w => ?_)
    refine lv_goto (tgt := 106) hx hb dX3_connect_69 (by decide) ?_
    cases hf
    exact r_vret C hr hlk w dX3_connect_106
  rw [if_neg c15] at hf
  by_cases c19 : r2 = 10
  · rw [if_pos c19] at hf
    refine lv_tableIn (off := 67) (tgt := 72) hx hb dX3_connect_5 (by rw [c19]; decide) (by rw [c19]; decide) (by rw [c19]; rfl) (by decide) ?_
    refine lv_aload_n hx hb dX3_connect_72 rfl (lv_at hl 0 rfl) ?_
    refine lv_aload_n hx hb dX3_connect_73 rfl (lv_at hl 0 rfl) ?_
    refine r_get C w (iC11 ht) eC11 vc3 inlX3 4 (by decide) w_fl_RX3_24_Program_middles_I rfl dX3_connect_74 ?_
    refine lv_iload_n hx hb dX3_connect_77 rfl (lv_at hl 1 rfl) ?_
    obtain ⟨V22, hc20, hf⟩ := ob_some hf
    refine k_V w (q_V C w (c_X3_connectTo ok ht (iC16 ht) aC16 hc20) wy_X3_connectTo wi_X3_connectTo w_ml_RX3_79_yX3_connectTo (iC11 ht) eC11 vc3 rfl rfl ⟨Nat.le_of_ble_eq_true rfl, Nat.le_of_ble_eq_true rfl⟩ rfl hl.1 rfl (Nat.le_of_ble_eq_true rfl) dX3_connect_78 ⟨Nat.le_refl _, Nat.le_refl _⟩) (fun H locs w => ?_)
    refine lv_goto (tgt := 106) hx hb dX3_connect_81 (by decide) ?_
    cases hf
    exact r_vret C hr hlk w dX3_connect_106
  rw [if_neg c19] at hf
  by_cases c23 : r2 = 11
  · rw [if_pos c23] at hf
    refine lv_tableIn (off := 59) (tgt := 64) hx hb dX3_connect_5 (by rw [c23]; decide) (by rw [c23]; decide) (by rw [c23]; rfl) (by decide) ?_
    refine lv_aload_n hx hb dX3_connect_64 rfl (lv_at hl 0 rfl) ?_
    refine lv_iload_n hx hb dX3_connect_65 rfl (lv_at hl 1 rfl) ?_
    obtain ⟨V26, hc24, hf⟩ := ob_some hf
    refine k_V w (q_V C w (c_X3_connectOpener ok ht hc24) wy_X3_connectOpener wi_X3_connectOpener w_ml_RX3_76_yX3_connectOpener (iC11 ht) eC11 vc3 rfl rfl ⟨Nat.le_of_ble_eq_true rfl, Nat.le_of_ble_eq_true rfl⟩ rfl hl.1 rfl (Nat.le_of_ble_eq_true rfl) dX3_connect_66 ⟨Nat.le_refl _, Nat.le_refl _⟩) (fun H locs w => ?_)
    refine lv_goto (tgt := 106) hx hb dX3_connect_69 (by decide) ?_
    cases hf
    exact r_vret C hr hlk w dX3_connect_106
  rw [if_neg c23] at hf
  by_cases c27 : r2 = 12
  · rw [if_pos c27] at hf
    refine lv_tableIn (off := 67) (tgt := 72) hx hb dX3_connect_5 (by rw [c27]; decide) (by rw [c27]; decide) (by rw [c27]; rfl) (by decide) ?_
    refine lv_aload_n hx hb dX3_connect_72 rfl (lv_at hl 0 rfl) ?_
    refine lv_aload_n hx hb dX3_connect_73 rfl (lv_at hl 0 rfl) ?_
    refine r_get C w (iC11 ht) eC11 vc3 inlX3 4 (by decide) w_fl_RX3_24_Program_middles_I rfl dX3_connect_74 ?_
    refine lv_iload_n hx hb dX3_connect_77 rfl (lv_at hl 1 rfl) ?_
    obtain ⟨V30, hc28, hf⟩ := ob_some hf
    refine k_V w (q_V C w (c_X3_connectTo ok ht (iC16 ht) aC16 hc28) wy_X3_connectTo wi_X3_connectTo w_ml_RX3_79_yX3_connectTo (iC11 ht) eC11 vc3 rfl rfl ⟨Nat.le_of_ble_eq_true rfl, Nat.le_of_ble_eq_true rfl⟩ rfl hl.1 rfl (Nat.le_of_ble_eq_true rfl) dX3_connect_78 ⟨Nat.le_refl _, Nat.le_refl _⟩) (fun H locs w => ?_)
    refine lv_goto (tgt := 106) hx hb dX3_connect_81 (by decide) ?_
    cases hf
    exact r_vret C hr hlk w dX3_connect_106
  rw [if_neg c27] at hf
  by_cases c31 : r2 = 13
  · rw [if_pos c31] at hf
    refine lv_tableIn (off := 59) (tgt := 64) hx hb dX3_connect_5 (by rw [c31]; decide) (by rw [c31]; decide) (by rw [c31]; rfl) (by decide) ?_
    refine lv_aload_n hx hb dX3_connect_64 rfl (lv_at hl 0 rfl) ?_
    refine lv_iload_n hx hb dX3_connect_65 rfl (lv_at hl 1 rfl) ?_
    obtain ⟨V34, hc32, hf⟩ := ob_some hf
    refine k_V w (q_V C w (c_X3_connectOpener ok ht hc32) wy_X3_connectOpener wi_X3_connectOpener w_ml_RX3_76_yX3_connectOpener (iC11 ht) eC11 vc3 rfl rfl ⟨Nat.le_of_ble_eq_true rfl, Nat.le_of_ble_eq_true rfl⟩ rfl hl.1 rfl (Nat.le_of_ble_eq_true rfl) dX3_connect_66 ⟨Nat.le_refl _, Nat.le_refl _⟩) (fun H locs w => ?_)
    refine lv_goto (tgt := 106) hx hb dX3_connect_69 (by decide) ?_
    cases hf
    exact r_vret C hr hlk w dX3_connect_106
  rw [if_neg c31] at hf
  by_cases c35 : r2 = 14
  · rw [if_pos c35] at hf
    refine lv_tableIn (off := 101) (tgt := 106) hx hb dX3_connect_5 (by rw [c35]; decide) (by rw [c35]; decide) (by rw [c35]; rfl) (by decide) ?_
    cases hf
    exact r_vret C hr hlk w dX3_connect_106
  rw [if_neg c35] at hf
  by_cases c36 : r2 = 15
  · rw [if_pos c36] at hf
    refine lv_tableIn (off := 59) (tgt := 64) hx hb dX3_connect_5 (by rw [c36]; decide) (by rw [c36]; decide) (by rw [c36]; rfl) (by decide) ?_
    refine lv_aload_n hx hb dX3_connect_64 rfl (lv_at hl 0 rfl) ?_
    refine lv_iload_n hx hb dX3_connect_65 rfl (lv_at hl 1 rfl) ?_
    obtain ⟨V39, hc37, hf⟩ := ob_some hf
    refine k_V w (q_V C w (c_X3_connectOpener ok ht hc37) wy_X3_connectOpener wi_X3_connectOpener w_ml_RX3_76_yX3_connectOpener (iC11 ht) eC11 vc3 rfl rfl ⟨Nat.le_of_ble_eq_true rfl, Nat.le_of_ble_eq_true rfl⟩ rfl hl.1 rfl (Nat.le_of_ble_eq_true rfl) dX3_connect_66 ⟨Nat.le_refl _, Nat.le_refl _⟩) (fun H locs w => ?_)
    refine lv_goto (tgt := 106) hx hb dX3_connect_69 (by decide) ?_
    cases hf
    exact r_vret C hr hlk w dX3_connect_106
  rw [if_neg c36] at hf
  by_cases c40 : r2 = 16
  · rw [if_pos c40] at hf
    refine lv_tableIn (off := 67) (tgt := 72) hx hb dX3_connect_5 (by rw [c40]; decide) (by rw [c40]; decide) (by rw [c40]; rfl) (by decide) ?_
    refine lv_aload_n hx hb dX3_connect_72 rfl (lv_at hl 0 rfl) ?_
    refine lv_aload_n hx hb dX3_connect_73 rfl (lv_at hl 0 rfl) ?_
    refine r_get C w (iC11 ht) eC11 vc3 inlX3 4 (by decide) w_fl_RX3_24_Program_middles_I rfl dX3_connect_74 ?_
    refine lv_iload_n hx hb dX3_connect_77 rfl (lv_at hl 1 rfl) ?_
    obtain ⟨V43, hc41, hf⟩ := ob_some hf
    refine k_V w (q_V C w (c_X3_connectTo ok ht (iC16 ht) aC16 hc41) wy_X3_connectTo wi_X3_connectTo w_ml_RX3_79_yX3_connectTo (iC11 ht) eC11 vc3 rfl rfl ⟨Nat.le_of_ble_eq_true rfl, Nat.le_of_ble_eq_true rfl⟩ rfl hl.1 rfl (Nat.le_of_ble_eq_true rfl) dX3_connect_78 ⟨Nat.le_refl _, Nat.le_refl _⟩) (fun H locs w => ?_)
    refine lv_goto (tgt := 106) hx hb dX3_connect_81 (by decide) ?_
    cases hf
    exact r_vret C hr hlk w dX3_connect_106
  rw [if_neg c40] at hf
  refine lv_tableOut (tgt := 106) hx hb dX3_connect_5 (by have nc4 := lv_neT c4 (a := 6) (by decide); have nc8 := lv_neT c8 (a := 7) (by decide); have nc14 := lv_neT c14 (a := 8) (by decide); have nc15 := lv_neT c15 (a := 9) (by decide); have nc19 := lv_neT c19 (a := 10) (by decide); have nc23 := lv_neT c23 (a := 11) (by decide); have nc27 := lv_neT c27 (a := 12) (by decide); have nc31 := lv_neT c31 (a := 13) (by decide); have nc35 := lv_neT c35 (a := 14) (by decide); have nc36 := lv_neT c36 (a := 15) (by decide); have nc40 := lv_neT c40 (a := 16) (by decide); omega) (by decide) ?_
  cases hf
  exact r_vret C hr hlk w dX3_connect_106
set_option maxHeartbeats 4000000 in
set_option maxRecDepth 100000 in
theorem jX3_goThrough_L7 (C : Cx cy D EC idC a p s m args c RX3 cX3_goThrough 2) (hr : meth.sig.returnType = some .int) (hlk : meth.locks = false) {t : Nat} (ht : t < 4) : ∀ (n : Nat) {V : Sto} {r : Int32} {V' : Sto} {x1 : Int32} {H : Heap} {locs : List Loc} {ls : Array Slot}, Wd cy D EC idC a V s H locs → lv_has ls 2 [(0, .ref (a (11, t, 0))), (1, .int x1)] → fX3_goThrough_L7 n V t x1 = some (r, V') → W p l e rm_X3_goThrough s m args below meth c H locs 0 0 (MQ below (QI cy D EC idC a r V') args s 0 0 (inA idC a)) (F0 m 7 ls []) := by
  have hx := C.1.1
  have hb := C.1.2.1
  have ok := C.2.2.2
  intro n
  induction n with
  | zero => intro V r V' x1 H locs ls w hl hf; cases hf
  | succ n ih =>
    intro V r V' x1 H locs ls w hl hf
    rw [fX3_goThrough_L7] at hf
    refine lv_iload_n hx hb dX3_goThrough_7 rfl (lv_at hl 1 rfl) ?_
    refine lv_aload_n hx hb dX3_goThrough_8 rfl (lv_at hl 0 rfl) ?_
    refine r_get C w (iC11 ht) eC11 vc3 inlX3 8 (by decide) w_fl_RX3_33_Program_length_I rfl dX3_goThrough_9 ?_
    refine lv_icmp_ge (tgt := 40) hx hb dX3_goThrough_12 (by decide) (fun c3 => ?_) (fun c3 => ?_)
    · rw [if_pos c3] at hf
      refine lv_aload_n hx hb dX3_goThrough_40 rfl (lv_at hl 0 rfl) ?_
      refine r_get C w (iC11 ht) eC11 vc3 inlX3 7 (by decide) w_fl_RX3_52_Program_openCount_I rfl dX3_goThrough_41 ?_
      refine lv_if_ne (tgt := 51) hx hb dX3_goThrough_44 (by decide) (fun c4 => ?_) (fun c4 => ?_)
      · rw [if_neg c4] at hf
        refine lv_aload_n hx hb dX3_goThrough_51 rfl (lv_at hl 0 rfl) ?_
        refine r_get C w (iC11 ht) eC11 vc3 inlX3 8 (by decide) w_fl_RX3_33_Program_length_I rfl dX3_goThrough_52 ?_
        cases hf
        exact r_iret C hr hlk w dX3_goThrough_55
      · rw [if_pos c4] at hf
        refine lv_iconst (v := (-1)) hx hb dX3_goThrough_47 (by decide) ?_
        refine lv_goto (tgt := 55) hx hb dX3_goThrough_48 (by decide) ?_
        cases hf
        exact r_iret C hr hlk w dX3_goThrough_55
    · rw [if_neg c3] at hf
      refine lv_aload_n hx hb dX3_goThrough_15 rfl (lv_at hl 0 rfl) ?_
      refine lv_aload_n hx hb dX3_goThrough_16 rfl (lv_at hl 0 rfl) ?_
      refine lv_iload_n hx hb dX3_goThrough_17 rfl (lv_at hl 1 rfl) ?_
      obtain ⟨r6, hc5, hf⟩ := ob_some hf
      refine k_I w (q_V C w (c_X3_kindAt ok ht hc5) wy_X3_kindAt wi_X3_kindAt w_ml_RX3_55_yX3_kindAt (iC11 ht) eC11 vc3 rfl rfl ⟨Nat.le_of_ble_eq_true rfl, Nat.le_of_ble_eq_true rfl⟩ rfl hl.1 rfl (Nat.le_of_ble_eq_true rfl) dX3_goThrough_18 ⟨Nat.le_refl _, Nat.le_refl _⟩) (fun H locs w => ?_)
      obtain ⟨r9, hc8, hf⟩ := ob_some hf
      refine k_I w (q_V C w (c_X3_isWrong ok ht hc8) wy_X3_isWrong wi_X3_isWrong w_ml_RX3_58_yX3_isWrong (iC11 ht) eC11 vc3 rfl rfl ⟨Nat.le_of_ble_eq_true rfl, Nat.le_of_ble_eq_true rfl⟩ rfl hl.1 rfl (Nat.le_of_ble_eq_true rfl) dX3_goThrough_21 ⟨Nat.le_refl _, Nat.le_refl _⟩) (fun H locs w => ?_)
      refine lv_if_eq (tgt := 29) hx hb dX3_goThrough_24 (by decide) (fun c11 => ?_) (fun c11 => ?_)
      · rw [if_pos c11] at hf
        refine lv_aload_n hx hb dX3_goThrough_29 rfl (lv_at hl 0 rfl) ?_
        refine lv_iload_n hx hb dX3_goThrough_30 rfl (lv_at hl 1 rfl) ?_
        obtain ⟨V14, hc12, hf⟩ := ob_some hf
        refine k_V w (q_V C w (c_X3_connect ok ht hc12) wy_X3_connect wi_X3_connect w_ml_RX3_62_yX3_connect (iC11 ht) eC11 vc3 rfl rfl ⟨Nat.le_of_ble_eq_true rfl, Nat.le_of_ble_eq_true rfl⟩ rfl hl.1 rfl (Nat.le_of_ble_eq_true rfl) dX3_goThrough_31 ⟨Nat.le_refl _, Nat.le_refl _⟩) (fun H locs w => ?_)
        refine lv_iinc (v := (x1 + 1)) hx hb dX3_goThrough_34 hl (k := 1) rfl (by rfl) (by decide) rfl (fun ls hl => ?_)
        refine lv_goto (tgt := 7) hx hb dX3_goThrough_37 (by decide) ?_
        exact ih w (lv_sub hl [1, 0] rfl) hf
      · rw [if_neg c11] at hf
        refine lv_iload_n hx hb dX3_goThrough_27 rfl (lv_at hl 1 rfl) ?_
        cases hf
        exact r_iret C hr hlk w dX3_goThrough_28
set_option maxHeartbeats 4000000 in
set_option maxRecDepth 100000 in
theorem c_X3_goThrough (ok : Wok EC idC a) {t : Nat} (ht : t < 4) {V : Sto} {r : Int32} {V' : Sto} (hf : fX3_goThrough V t = some (r, V')) : MtI l cy D EC idC a yX3_goThrough cX3_goThrough 2 .int rm_X3_goThrough [.ref (a (11, t, 0))] V r V' := by
  refine ofM (by decide +kernel) ok (Nat.le_of_ble_eq_true rfl) (fun p e s m args below meth c C hr hlk w ls hl => ?_)
  have hx := C.1.1
  have hb := C.1.2.1
  rw [fX3_goThrough] at hf
  skip
  refine lv_aload_n hx hb dX3_goThrough_0 rfl (lv_at hl 0 rfl) ?_
  refine lv_iconst (v := 0) hx hb dX3_goThrough_1 (by decide) ?_
  refine r_put C w (iC11 ht) eC11 vc3 inlX3 tyX3 tyX3_ok nmX3 7 (by decide) w_fl_RX3_52_Program_openCount_I rfl pd_I uC11_7 (Nat.le_of_ble_eq_true rfl) dX3_goThrough_2 (fun H locs w => ?_)
  obtain ⟨V1, e2, hf⟩ := bnd_some hf
  rw [← e2] at w
  refine lv_iconst (v := 0) hx hb dX3_goThrough_5 (by decide) ?_
  refine lv_istore_n hx hb dX3_goThrough_6 rfl hl (by decide) rfl (fun ls hl => ?_)
  exact jX3_goThrough_L7 C hr hlk ht 40 w (lv_sub hl [1, 0] rfl) hf
set_option maxHeartbeats 4000000 in
set_option maxRecDepth 100000 in
theorem c_X4_isUnderWay (ok : Wok EC idC a) {t : Nat} (ht : t < 4) {V : Sto} {r : Int32} (hf : fX4_isUnderWay V t = some r) : MtI l cy D EC idC a yX4_isUnderWay cX4_isUnderWay 1 .boolean rm_X4_isUnderWay [.ref (a (10, t, 0))] V r V := by
  refine ofM (by decide +kernel) ok (Nat.le_of_ble_eq_true rfl) (fun p e s m args below meth c C hr hlk w ls hl => ?_)
  have hx := C.1.1
  have hb := C.1.2.1
  rw [fX4_isUnderWay] at hf
  skip
  refine lv_aload_n hx hb dX4_isUnderWay_0 rfl (lv_at hl 0 rfl) ?_
  refine r_get C w (iC10 ht) eC10 vc4 inlX4 9 (by decide) w_fl_RX4_35_Strand_state_I rfl dX4_isUnderWay_1 ?_
  refine lv_iconst (v := 1) hx hb dX4_isUnderWay_4 (by decide) ?_
  refine lv_icmp_eq (tgt := 16) hx hb dX4_isUnderWay_5 (by decide) (fun c1 => ?_) (fun c1 => ?_)
  · rw [if_pos c1] at hf
    refine lv_iconst (v := 1) hx hb dX4_isUnderWay_16 (by decide) ?_
    refine lv_goto (tgt := 21) hx hb dX4_isUnderWay_17 (by decide) ?_
    cases hf
    exact r_zret C hr hlk w (by decide) dX4_isUnderWay_21
  · rw [if_neg c1] at hf
    refine lv_aload_n hx hb dX4_isUnderWay_8 rfl (lv_at hl 0 rfl) ?_
    refine r_get C w (iC10 ht) eC10 vc4 inlX4 9 (by decide) w_fl_RX4_35_Strand_state_I rfl dX4_isUnderWay_9 ?_
    refine lv_iconst (v := 2) hx hb dX4_isUnderWay_12 (by decide) ?_
    refine lv_icmp_ne (tgt := 20) hx hb dX4_isUnderWay_13 (by decide) (fun c2 => ?_) (fun c2 => ?_)
    · rw [if_neg c2] at hf
      refine lv_iconst (v := 0) hx hb dX4_isUnderWay_20 (by decide) ?_
      cases hf
      exact r_zret C hr hlk w (by decide) dX4_isUnderWay_21
    · rw [if_pos c2] at hf
      refine lv_iconst (v := 1) hx hb dX4_isUnderWay_16 (by decide) ?_
      refine lv_goto (tgt := 21) hx hb dX4_isUnderWay_17 (by decide) ?_
      cases hf
      exact r_zret C hr hlk w (by decide) dX4_isUnderWay_21
set_option maxHeartbeats 4000000 in
set_option maxRecDepth 100000 in
theorem c_X4_isInAttempt (ok : Wok EC idC a) {t : Nat} (ht : t < 4) {V : Sto} {r : Int32} (hf : fX4_isInAttempt V t = some r) : MtI l cy D EC idC a yX4_isInAttempt cX4_isInAttempt 1 .boolean rm_X4_isInAttempt [.ref (a (10, t, 0))] V r V := by
  refine ofM (by decide +kernel) ok (Nat.le_of_ble_eq_true rfl) (fun p e s m args below meth c C hr hlk w ls hl => ?_)
  have hx := C.1.1
  have hb := C.1.2.1
  rw [fX4_isInAttempt] at hf
  skip
  refine lv_aload_n hx hb dX4_isInAttempt_0 rfl (lv_at hl 0 rfl) ?_
  refine r_get C w (iC10 ht) eC10 vc4 inlX4 5 (by decide) w_fl_RX4_31_Strand_attemptMark_I rfl dX4_isInAttempt_1 ?_
  refine lv_iconst (v := (-1)) hx hb dX4_isInAttempt_4 (by decide) ?_
  refine lv_icmp_eq (tgt := 12) hx hb dX4_isInAttempt_5 (by decide) (fun c1 => ?_) (fun c1 => ?_)
  · rw [if_pos c1] at hf
    refine lv_iconst (v := 0) hx hb dX4_isInAttempt_12 (by decide) ?_
    cases hf
    exact r_zret C hr hlk w (by decide) dX4_isInAttempt_13
  · rw [if_neg c1] at hf
    refine lv_iconst (v := 1) hx hb dX4_isInAttempt_8 (by decide) ?_
    refine lv_goto (tgt := 13) hx hb dX4_isInAttempt_9 (by decide) ?_
    cases hf
    exact r_zret C hr hlk w (by decide) dX4_isInAttempt_13
set_option maxHeartbeats 4000000 in
set_option maxRecDepth 100000 in
theorem c_X4_hasWritten (ok : Wok EC idC a) {t : Nat} (ht : t < 4) {V : Sto} {r : Int32} {x1 : Int32} (hf : fX4_hasWritten V t x1 = some r) : MtI l cy D EC idC a yX4_hasWritten cX4_hasWritten 2 .boolean rm_X4_hasWritten [.ref (a (10, t, 0)), .int x1] V r V := by
  refine ofM (by decide +kernel) ok (Nat.le_of_ble_eq_true rfl) (fun p e s m args below meth c C hr hlk w ls hl => ?_)
  have hx := C.1.1
  have hb := C.1.2.1
  rw [fX4_hasWritten] at hf
  skip
  refine lv_aload_n hx hb dX4_hasWritten_0 rfl (lv_at hl 0 rfl) ?_
  refine r_get C w (iC10 ht) eC10 vc4 inlX4 8 (by decide) w_fl_RX4_39_Strand_written_I rfl dX4_hasWritten_1 ?_
  refine lv_iconst (v := 1) hx hb dX4_hasWritten_4 (by decide) ?_
  refine lv_iload_n hx hb dX4_hasWritten_5 rfl (lv_at hl 1 rfl) ?_
  refine lv_ishl hx hb dX4_hasWritten_6 ?_
  refine lv_iand hx hb dX4_hasWritten_7 ?_
  refine lv_if_eq (tgt := 15) hx hb dX4_hasWritten_8 (by decide) (fun c1 => ?_) (fun c1 => ?_)
  · rw [if_pos c1] at hf
    refine lv_iconst (v := 0) hx hb dX4_hasWritten_15 (by decide) ?_
    cases hf
    exact r_zret C hr hlk w (by decide) dX4_hasWritten_16
  · rw [if_neg c1] at hf
    refine lv_iconst (v := 1) hx hb dX4_hasWritten_11 (by decide) ?_
    refine lv_goto (tgt := 16) hx hb dX4_hasWritten_12 (by decide) ?_
    cases hf
    exact r_zret C hr hlk w (by decide) dX4_hasWritten_16
set_option maxHeartbeats 4000000 in
set_option maxRecDepth 100000 in
theorem c_X4_waitsFor (ok : Wok EC idC a) {t : Nat} (ht : t < 4) {V : Sto} {r : Int32} {x1 : Int32} (hf : fX4_waitsFor V t x1 = some r) : MtI l cy D EC idC a yX4_waitsFor cX4_waitsFor 2 .boolean rm_X4_waitsFor [.ref (a (10, t, 0)), .int x1] V r V := by
  refine ofM (by decide +kernel) ok (Nat.le_of_ble_eq_true rfl) (fun p e s m args below meth c C hr hlk w ls hl => ?_)
  have hx := C.1.1
  have hb := C.1.2.1
  rw [fX4_waitsFor] at hf
  skip
  refine lv_aload_n hx hb dX4_waitsFor_0 rfl (lv_at hl 0 rfl) ?_
  refine r_get C w (iC10 ht) eC10 vc4 inlX4 9 (by decide) w_fl_RX4_35_Strand_state_I rfl dX4_waitsFor_1 ?_
  refine lv_iconst (v := 2) hx hb dX4_waitsFor_4 (by decide) ?_
  refine lv_icmp_ne (tgt := 21) hx hb dX4_waitsFor_5 (by decide) (fun c1 => ?_) (fun c1 => ?_)
  · rw [if_neg c1] at hf
    refine lv_iconst (v := 0) hx hb dX4_waitsFor_21 (by decide) ?_
    cases hf
    exact r_zret C hr hlk w (by decide) dX4_waitsFor_22
  · rw [if_pos c1] at hf
    refine lv_aload_n hx hb dX4_waitsFor_8 rfl (lv_at hl 0 rfl) ?_
    refine r_get C w (iC10 ht) eC10 vc4 inlX4 7 (by decide) w_fl_RX4_42_Strand_readSet_I rfl dX4_waitsFor_9 ?_
    refine lv_iload_n hx hb dX4_waitsFor_12 rfl (lv_at hl 1 rfl) ?_
    refine lv_iand hx hb dX4_waitsFor_13 ?_
    refine lv_if_eq (tgt := 21) hx hb dX4_waitsFor_14 (by decide) (fun c2 => ?_) (fun c2 => ?_)
    · rw [if_pos c2] at hf
      refine lv_iconst (v := 0) hx hb dX4_waitsFor_21 (by decide) ?_
      cases hf
      exact r_zret C hr hlk w (by decide) dX4_waitsFor_22
    · rw [if_neg c2] at hf
      refine lv_iconst (v := 1) hx hb dX4_waitsFor_17 (by decide) ?_
      refine lv_goto (tgt := 22) hx hb dX4_waitsFor_18 (by decide) ?_
      cases hf
      exact r_zret C hr hlk w (by decide) dX4_waitsFor_22
set_option maxHeartbeats 4000000 in
set_option maxRecDepth 100000 in
theorem c_X5_isRegister (ok : Wok EC idC a) {V : Sto} {r : Int32} {x0 : Int32} (hf : fX5_isRegister V x0 = some r) : MtI l cy D EC idC a yX5_isRegister cX5_isRegister 1 .boolean rm_X5_isRegister [.int x0] V r V := by
  refine ofM (by decide +kernel) ok (Nat.le_of_ble_eq_true rfl) (fun p e s m args below meth c C hr hlk w ls hl => ?_)
  have hx := C.1.1
  have hb := C.1.2.1
  rw [fX5_isRegister] at hf
  skip
  refine lv_iload_n hx hb dX5_isRegister_0 rfl (lv_at hl 0 rfl) ?_
  refine lv_if_lt (tgt := 13) hx hb dX5_isRegister_1 (by decide) (fun c1 => ?_) (fun c1 => ?_)
  · rw [if_pos c1] at hf
    refine lv_iconst (v := 0) hx hb dX5_isRegister_13 (by decide) ?_
    cases hf
    exact r_zret C hr hlk w (by decide) dX5_isRegister_14
  · rw [if_neg c1] at hf
    refine lv_iload_n hx hb dX5_isRegister_4 rfl (lv_at hl 0 rfl) ?_
    refine lv_iconst (v := 4) hx hb dX5_isRegister_5 (by decide) ?_
    refine lv_icmp_ge (tgt := 13) hx hb dX5_isRegister_6 (by decide) (fun c2 => ?_) (fun c2 => ?_)
    · rw [if_pos c2] at hf
      refine lv_iconst (v := 0) hx hb dX5_isRegister_13 (by decide) ?_
      cases hf
      exact r_zret C hr hlk w (by decide) dX5_isRegister_14
    · rw [if_neg c2] at hf
      refine lv_iconst (v := 1) hx hb dX5_isRegister_9 (by decide) ?_
      refine lv_goto (tgt := 14) hx hb dX5_isRegister_10 (by decide) ?_
      cases hf
      exact r_zret C hr hlk w (by decide) dX5_isRegister_14
set_option maxHeartbeats 4000000 in
set_option maxRecDepth 100000 in
theorem c_X4_registerValue (ok : Wok EC idC a) {t : Nat} (ht : t < 4) {V : Sto} {r : Int32} {x1 : Int32} (hf : fX4_registerValue V t x1 = some r) : MtI l cy D EC idC a yX4_registerValue cX4_registerValue 2 .int rm_X4_registerValue [.ref (a (10, t, 0)), .int x1] V r V := by
  refine ofM (by decide +kernel) ok (Nat.le_of_ble_eq_true rfl) (fun p e s m args below meth c C hr hlk w ls hl => ?_)
  have hx := C.1.1
  have hb := C.1.2.1
  rw [fX4_registerValue] at hf
  skip
  refine lv_iload_n hx hb dX4_registerValue_0 rfl (lv_at hl 1 rfl) ?_
  obtain ⟨r2, hc1, hf⟩ := ob_some hf
  refine k_I w (q_SN C w (c_X5_isRegister ok hc1) wy_X5_isRegister w_sta_yX5_isRegister nw_m_X4_45 rfl rfl ⟨Nat.le_of_ble_eq_true rfl, Nat.le_of_ble_eq_true rfl⟩ rfl hl.1 rfl (Nat.le_of_ble_eq_true rfl) dX4_registerValue_1 ⟨Nat.le_refl _, Nat.le_refl _⟩) (fun H locs w => ?_)
  refine lv_if_eq (tgt := 16) hx hb dX4_registerValue_4 (by decide) (fun c4 => ?_) (fun c4 => ?_)
  · rw [if_pos c4] at hf
    refine lv_iconst (v := 0) hx hb dX4_registerValue_16 (by decide) ?_
    cases hf
    exact r_iret C hr hlk w dX4_registerValue_17
  · rw [if_neg c4] at hf
    refine lv_aload_n hx hb dX4_registerValue_7 rfl (lv_at hl 0 rfl) ?_
    refine r_get C w (iC10 ht) eC10 vc4 inlX4 1 (by decide) w_fl_RX4_18_Strand_registers_I rfl dX4_registerValue_8 ?_
    refine lv_iload_n hx hb dX4_registerValue_11 rfl (lv_at hl 1 rfl) ?_
    obtain ⟨g5, hf⟩ := gd_some hf
    refine r_iald C w (iC19 ht) aC19 g5 dX4_registerValue_12 ?_
    refine lv_goto (tgt := 17) hx hb dX4_registerValue_13 (by decide) ?_
    cases hf
    exact r_iret C hr hlk w dX4_registerValue_17
set_option maxHeartbeats 4000000 in
set_option maxRecDepth 100000 in
theorem c_X4_setRegister (ok : Wok EC idC a) {t : Nat} (ht : t < 4) {V : Sto} {V' : Sto} {x1 : Int32} {x2 : Int32} (hf : fX4_setRegister V t x1 x2 = some V') : MtV l cy D EC idC a yX4_setRegister cX4_setRegister 3 rm_X4_setRegister [.ref (a (10, t, 0)), .int x1, .int x2] V V' := by
  refine ofM (by decide +kernel) ok (Nat.le_of_ble_eq_true rfl) (fun p e s m args below meth c C hr hlk w ls hl => ?_)
  have hx := C.1.1
  have hb := C.1.2.1
  rw [fX4_setRegister] at hf
  skip
  refine lv_iload_n hx hb dX4_setRegister_0 rfl (lv_at hl 1 rfl) ?_
  obtain ⟨r2, hc1, hf⟩ := ob_some hf
  refine k_I w (q_SN C w (c_X5_isRegister ok hc1) wy_X5_isRegister w_sta_yX5_isRegister nw_m_X4_45 rfl rfl ⟨Nat.le_of_ble_eq_true rfl, Nat.le_of_ble_eq_true rfl⟩ rfl hl.1 rfl (Nat.le_of_ble_eq_true rfl) dX4_setRegister_1 ⟨Nat.le_refl _, Nat.le_refl _⟩) (fun H locs w => ?_)
  refine lv_if_eq (tgt := 14) hx hb dX4_setRegister_4 (by decide) (fun c4 => ?_) (fun c4 => ?_)
  · rw [if_pos c4] at hf
    cases hf
    exact r_vret C hr hlk w dX4_setRegister_14
  · rw [if_neg c4] at hf
    refine lv_aload_n hx hb dX4_setRegister_7 rfl (lv_at hl 0 rfl) ?_
    refine r_get C w (iC10 ht) eC10 vc4 inlX4 1 (by decide) w_fl_RX4_18_Strand_registers_I rfl dX4_setRegister_8 ?_
    refine lv_iload_n hx hb dX4_setRegister_11 rfl (lv_at hl 1 rfl) ?_
    refine lv_iload_n hx hb dX4_setRegister_12 rfl (lv_at hl 2 rfl) ?_
    obtain ⟨g5, hf⟩ := gd_some hf
    refine r_iast C w (iC19 ht) aC19 g5 dX4_setRegister_13 (fun H locs w => ?_)
    obtain ⟨V6, e7, hf⟩ := bnd_some hf
    rw [← e7] at w
    cases hf
    exact r_vret C hr hlk w dX4_setRegister_14
set_option maxHeartbeats 4000000 in
set_option maxRecDepth 100000 in
theorem c_X4_goOnTo (ok : Wok EC idC a) {t : Nat} (ht : t < 4) {V : Sto} {r : Int32} {V' : Sto} {x1 : Int32} (hf : fX4_goOnTo V t x1 = some (r, V')) : MtI l cy D EC idC a yX4_goOnTo cX4_goOnTo 2 .int rm_X4_goOnTo [.ref (a (10, t, 0)), .int x1] V r V' := by
  refine ofM (by decide +kernel) ok (Nat.le_of_ble_eq_true rfl) (fun p e s m args below meth c C hr hlk w ls hl => ?_)
  have hx := C.1.1
  have hb := C.1.2.1
  rw [fX4_goOnTo] at hf
  skip
  refine lv_aload_n hx hb dX4_goOnTo_0 rfl (lv_at hl 0 rfl) ?_
  refine lv_iload_n hx hb dX4_goOnTo_1 rfl (lv_at hl 1 rfl) ?_
  refine r_put C w (iC10 ht) eC10 vc4 inlX4 tyX4 tyX4_ok nmX4 10 (by decide) w_fl_RX4_59_Strand_place_I rfl pd_I uC10_10 (Nat.le_of_ble_eq_true rfl) dX4_goOnTo_2 (fun H locs w => ?_)
  obtain ⟨V1, e2, hf⟩ := bnd_some hf
  rw [← e2] at w
  refine lv_iload_n hx hb dX4_goOnTo_5 rfl (lv_at hl 1 rfl) ?_
  refine lv_aload_n hx hb dX4_goOnTo_6 rfl (lv_at hl 0 rfl) ?_
  refine r_get C w (iC10 ht) eC10 vc4 inlX4 0 (by decide) w_fl_RX4_12_Strand_program_LAtomicThreads_Program rfl dX4_goOnTo_7 ?_
  refine r_getN C w (iC11 ht) eC11 vc3 inlX3 8 (by decide) nw_f_X4_62 rfl dX4_goOnTo_10 ?_
  refine lv_icmp_lt (tgt := 21) hx hb dX4_goOnTo_13 (by decide) (fun c3 => ?_) (fun c3 => ?_)
  · rw [if_pos c3] at hf
    refine lv_iconst (v := 0) hx hb dX4_goOnTo_21 (by decide) ?_
    cases hf
    exact r_iret C hr hlk w dX4_goOnTo_22
  · rw [if_neg c3] at hf
    refine lv_aload_n hx hb dX4_goOnTo_16 rfl (lv_at hl 0 rfl) ?_
    refine lv_iconst (v := 3) hx hb dX4_goOnTo_17 (by decide) ?_
    refine r_put C w (iC10 ht) eC10 vc4 inlX4 tyX4 tyX4_ok nmX4 9 (by decide) w_fl_RX4_35_Strand_state_I rfl pd_I uC10_9 (Nat.le_of_ble_eq_true rfl) dX4_goOnTo_18 (fun H locs w => ?_)
    obtain ⟨V4, e5, hf⟩ := bnd_some hf
    rw [← e5] at w
    refine lv_iconst (v := 0) hx hb dX4_goOnTo_21 (by decide) ?_
    cases hf
    exact r_iret C hr hlk w dX4_goOnTo_22
set_option maxHeartbeats 4000000 in
set_option maxRecDepth 100000 in
theorem jX4_begin_L2 (C : Cx cy D EC idC a p s m args c RX4 cX4_begin 2) (hr : meth.sig.returnType = none) (hlk : meth.locks = false) {t : Nat} (ht : t < 4) {Q : State → Prop} : ∀ (n : Nat) {V V' : Sto} {x1 : Int32} {H : Heap} {locs : List Loc} {ls : Array Slot}, Wd cy D EC idC a V s H locs → lv_has ls 2 [(0, .ref (a (10, t, 0))), (1, .int x1)] → fX4_begin_L2 n V t x1 = some (V') → (∀ (H1 : Heap) (locs1 : List Loc) (ls1 : Array Slot), Wd cy D EC idC a V' s H1 locs1 → lv_has ls1 2 [(0, .ref (a (10, t, 0)))] → W p l e rm_X4_begin s m args below meth c H1 locs1 0 0 (Q) (F0 m 20 ls1 [])) → W p l e rm_X4_begin s m args below meth c H locs 0 0 (Q) (F0 m 2 ls []) := by
  have hx := C.1.1
  have hb := C.1.2.1
  have ok := C.2.2.2
  intro n
  induction n with
  | zero => intro V V' x1  H locs ls w hl hf kk; cases hf
  | succ n ih =>
    intro V V' x1  H locs ls w hl hf kk
    rw [fX4_begin_L2] at hf
    refine lv_iload_n hx hb dX4_begin_2 rfl (lv_at hl 1 rfl) ?_
    refine lv_iconst (v := 4) hx hb dX4_begin_3 (by decide) ?_
    refine lv_icmp_ge (tgt := 20) hx hb dX4_begin_4 (by decide) (fun c1 => ?_) (fun c1 => ?_)
    · rw [if_pos c1] at hf
      cases hf
      exact kk _ _ _ w (lv_sub hl [0] rfl)
    · rw [if_neg c1] at hf
      refine lv_aload_n hx hb dX4_begin_7 rfl (lv_at hl 0 rfl) ?_
      refine r_get C w (iC10 ht) eC10 vc4 inlX4 1 (by decide) w_fl_RX4_18_Strand_registers_I rfl dX4_begin_8 ?_
      refine lv_iload_n hx hb dX4_begin_11 rfl (lv_at hl 1 rfl) ?_
      refine lv_iconst (v := 0) hx hb dX4_begin_12 (by decide) ?_
      obtain ⟨g2, hf⟩ := gd_some hf
      refine r_iast C w (iC19 ht) aC19 g2 dX4_begin_13 (fun H locs w => ?_)
      obtain ⟨V3, e4, hf⟩ := bnd_some hf
      rw [← e4] at w
      refine lv_iinc (v := (x1 + 1)) hx hb dX4_begin_14 hl (k := 1) rfl (by rfl) (by decide) rfl (fun ls hl => ?_)
      refine lv_goto (tgt := 2) hx hb dX4_begin_17 (by decide) ?_
      exact ih w (lv_sub hl [1, 0] rfl) hf kk
set_option maxHeartbeats 4000000 in
set_option maxRecDepth 100000 in
theorem c_X4_begin (ok : Wok EC idC a) {t : Nat} (ht : t < 4) {V : Sto} {V' : Sto} (hf : fX4_begin V t = some V') : MtV l cy D EC idC a yX4_begin cX4_begin 2 rm_X4_begin [.ref (a (10, t, 0))] V V' := by
  refine ofM (by decide +kernel) ok (Nat.le_of_ble_eq_true rfl) (fun p e s m args below meth c C hr hlk w ls hl => ?_)
  have hx := C.1.1
  have hb := C.1.2.1
  rw [fX4_begin] at hf
  skip
  refine lv_iconst (v := 0) hx hb dX4_begin_0 (by decide) ?_
  refine lv_istore_n hx hb dX4_begin_1 rfl hl (by decide) rfl (fun ls hl => ?_)
  obtain ⟨V6, hc5, hf⟩ := ob_some hf
  refine jX4_begin_L2 C hr hlk ht 40 w (lv_sub hl [1, 0] rfl) hc5 (fun H locs ls w hl => ?_)
  refine lv_aload_n hx hb dX4_begin_20 rfl (lv_at hl 0 rfl) ?_
  refine lv_iconst (v := 0) hx hb dX4_begin_21 (by decide) ?_
  refine r_put C w (iC10 ht) eC10 vc4 inlX4 tyX4 tyX4_ok nmX4 11 (by decide) w_fl_RX4_49_Strand_discarded_I rfl pd_I uC10_11 (Nat.le_of_ble_eq_true rfl) dX4_begin_22 (fun H locs w => ?_)
  obtain ⟨V7, e8, hf⟩ := bnd_some hf
  rw [← e8] at w
  refine lv_aload_n hx hb dX4_begin_25 rfl (lv_at hl 0 rfl) ?_
  refine lv_iconst (v := 0) hx hb dX4_begin_26 (by decide) ?_
  refine r_put C w (iC10 ht) eC10 vc4 inlX4 tyX4 tyX4_ok nmX4 4 (by decide) w_fl_RX4_52_Strand_markCount_I rfl pd_I uC10_4 (Nat.le_of_ble_eq_true rfl) dX4_begin_27 (fun H locs w => ?_)
  obtain ⟨V9, e10, hf⟩ := bnd_some hf
  rw [← e10] at w
  refine lv_aload_n hx hb dX4_begin_30 rfl (lv_at hl 0 rfl) ?_
  refine lv_iconst (v := 1) hx hb dX4_begin_31 (by decide) ?_
  refine r_put C w (iC10 ht) eC10 vc4 inlX4 tyX4 tyX4_ok nmX4 9 (by decide) w_fl_RX4_35_Strand_state_I rfl pd_I uC10_9 (Nat.le_of_ble_eq_true rfl) dX4_begin_32 (fun H locs w => ?_)
  obtain ⟨V11, e12, hf⟩ := bnd_some hf
  rw [← e12] at w
  refine lv_aload_n hx hb dX4_begin_35 rfl (lv_at hl 0 rfl) ?_
  refine lv_iconst (v := 0) hx hb dX4_begin_36 (by decide) ?_
  obtain ⟨r14, V15, hc13, hf⟩ := ob2_some hf
  refine k_I w (q_V C w (c_X4_goOnTo ok ht hc13) wy_X4_goOnTo wi_X4_goOnTo w_ml_RX4_55_yX4_goOnTo (iC10 ht) eC10 vc4 rfl rfl ⟨Nat.le_of_ble_eq_true rfl, Nat.le_of_ble_eq_true rfl⟩ rfl hl.1 rfl (Nat.le_of_ble_eq_true rfl) dX4_begin_37 ⟨Nat.le_refl _, Nat.le_refl _⟩) (fun H locs w => ?_)
  refine lv_pop hx hb dX4_begin_40 rfl ?_
  cases hf
  exact r_vret C hr hlk w dX4_begin_41
set_option maxHeartbeats 4000000 in
set_option maxRecDepth 100000 in
theorem c_X4_assign (ok : Wok EC idC a) {t : Nat} (ht : t < 4) {V : Sto} {r : Int32} {V' : Sto} {x1 : Int32} {x2 : Int32} (hf : fX4_assign V t x1 x2 = some (r, V')) : MtI l cy D EC idC a yX4_assign cX4_assign 3 .int rm_X4_assign [.ref (a (10, t, 0)), .int x1, .int x2] V r V' := by
  refine ofM (by decide +kernel) ok (Nat.le_of_ble_eq_true rfl) (fun p e s m args below meth c C hr hlk w ls hl => ?_)
  have hx := C.1.1
  have hb := C.1.2.1
  rw [fX4_assign] at hf
  skip
  refine lv_aload_n hx hb dX4_assign_0 rfl (lv_at hl 0 rfl) ?_
  refine lv_iload_n hx hb dX4_assign_1 rfl (lv_at hl 1 rfl) ?_
  refine lv_iload_n hx hb dX4_assign_2 rfl (lv_at hl 2 rfl) ?_
  obtain ⟨V3, hc1, hf⟩ := ob_some hf
  refine k_V w (q_V C w (c_X4_setRegister ok ht hc1) wy_X4_setRegister wi_X4_setRegister w_ml_RX4_65_yX4_setRegister (iC10 ht) eC10 vc4 rfl rfl ⟨Nat.le_of_ble_eq_true rfl, Nat.le_of_ble_eq_true rfl⟩ rfl hl.1 rfl (Nat.le_of_ble_eq_true rfl) dX4_assign_3 ⟨Nat.le_refl _, Nat.le_refl _⟩) (fun H locs w => ?_)
  refine lv_aload_n hx hb dX4_assign_6 rfl (lv_at hl 0 rfl) ?_
  refine lv_aload_n hx hb dX4_assign_7 rfl (lv_at hl 0 rfl) ?_
  refine r_get C w (iC10 ht) eC10 vc4 inlX4 10 (by decide) w_fl_RX4_59_Strand_place_I rfl dX4_assign_8 ?_
  refine lv_iconst (v := 1) hx hb dX4_assign_11 (by decide) ?_
  refine lv_iadd hx hb dX4_assign_12 ?_
  obtain ⟨r5, V6, hc4, hf⟩ := ob2_some hf
  refine k_I w (q_V C w (c_X4_goOnTo ok ht hc4) wy_X4_goOnTo wi_X4_goOnTo w_ml_RX4_55_yX4_goOnTo (iC10 ht) eC10 vc4 rfl rfl ⟨Nat.le_of_ble_eq_true rfl, Nat.le_of_ble_eq_true rfl⟩ rfl hl.1 rfl (Nat.le_of_ble_eq_true rfl) dX4_assign_13 ⟨Nat.le_refl _, Nat.le_refl _⟩) (fun H locs w => ?_)
  cases hf
  exact r_iret C hr hlk w dX4_assign_16
set_option maxHeartbeats 4000000 in
set_option maxRecDepth 100000 in
theorem c_X4_write (ok : Wok EC idC a) {t : Nat} (ht : t < 4) {V : Sto} {r : Int32} {V' : Sto} {x1 : Int32} {x2 : Int32} (hf : fX4_write V t x1 x2 = some (r, V')) : MtI l cy D EC idC a yX4_write cX4_write 3 .int rm_X4_write [.ref (a (10, t, 0)), .int x1, .int x2] V r V' := by
  refine ofM (by decide +kernel) ok (Nat.le_of_ble_eq_true rfl) (fun p e s m args below meth c C hr hlk w ls hl => ?_)
  have hx := C.1.1
  have hb := C.1.2.1
  rw [fX4_write] at hf
  skip
  refine lv_iload_n hx hb dX4_write_0 rfl (lv_at hl 1 rfl) ?_
  obtain ⟨r2, hc1, hf⟩ := ob_some hf
  refine k_I w (q_SN C w (c_X5_isVariable ok hc1) wy_X5_isVariable w_sta_yX5_isVariable nw_m_X4_69 rfl rfl ⟨Nat.le_of_ble_eq_true rfl, Nat.le_of_ble_eq_true rfl⟩ rfl hl.1 rfl (Nat.le_of_ble_eq_true rfl) dX4_write_1 ⟨Nat.le_refl _, Nat.le_refl _⟩) (fun H locs w => ?_)
  refine lv_if_eq (tgt := 26) hx hb dX4_write_4 (by decide) (fun c4 => ?_) (fun c4 => ?_)
  · rw [if_pos c4] at hf
    refine lv_aload_n hx hb dX4_write_26 rfl (lv_at hl 0 rfl) ?_
    refine lv_aload_n hx hb dX4_write_27 rfl (lv_at hl 0 rfl) ?_
    refine r_get C w (iC10 ht) eC10 vc4 inlX4 10 (by decide) w_fl_RX4_59_Strand_place_I rfl dX4_write_28 ?_
    refine lv_iconst (v := 1) hx hb dX4_write_31 (by decide) ?_
    refine lv_iadd hx hb dX4_write_32 ?_
    obtain ⟨r6, V7, hc5, hf⟩ := ob2_some hf
    refine k_I w (q_V C w (c_X4_goOnTo ok ht hc5) wy_X4_goOnTo wi_X4_goOnTo w_ml_RX4_55_yX4_goOnTo (iC10 ht) eC10 vc4 rfl rfl ⟨Nat.le_of_ble_eq_true rfl, Nat.le_of_ble_eq_true rfl⟩ rfl hl.1 rfl (Nat.le_of_ble_eq_true rfl) dX4_write_33 ⟨Nat.le_refl _, Nat.le_refl _⟩) (fun H locs w => ?_)
    cases hf
    exact r_iret C hr hlk w dX4_write_36
  · rw [if_neg c4] at hf
    refine lv_aload_n hx hb dX4_write_7 rfl (lv_at hl 0 rfl) ?_
    refine r_get C w (iC10 ht) eC10 vc4 inlX4 2 (by decide) w_fl_RX4_22_Strand_writtenValues_I rfl dX4_write_8 ?_
    refine lv_iload_n hx hb dX4_write_11 rfl (lv_at hl 1 rfl) ?_
    refine lv_iload_n hx hb dX4_write_12 rfl (lv_at hl 2 rfl) ?_
    obtain ⟨g8, hf⟩ := gd_some hf
    refine r_iast C w (iC20 ht) aC20 g8 dX4_write_13 (fun H locs w => ?_)
    obtain ⟨V9, e10, hf⟩ := bnd_some hf
    rw [← e10] at w
    refine lv_aload_n hx hb dX4_write_14 rfl (lv_at hl 0 rfl) ?_
    refine lv_dup hx hb dX4_write_15 rfl ?_
    refine r_get C w (iC10 ht) eC10 vc4 inlX4 8 (by decide) w_fl_RX4_39_Strand_written_I rfl dX4_write_16 ?_
    refine lv_iconst (v := 1) hx hb dX4_write_19 (by decide) ?_
    refine lv_iload_n hx hb dX4_write_20 rfl (lv_at hl 1 rfl) ?_
    refine lv_ishl hx hb dX4_write_21 ?_
    refine lv_ior hx hb dX4_write_22 ?_
    refine r_put C w (iC10 ht) eC10 vc4 inlX4 tyX4 tyX4_ok nmX4 8 (by decide) w_fl_RX4_39_Strand_written_I rfl pd_I uC10_8 (Nat.le_of_ble_eq_true rfl) dX4_write_23 (fun H locs w => ?_)
    obtain ⟨V11, e12, hf⟩ := bnd_some hf
    rw [← e12] at w
    refine lv_aload_n hx hb dX4_write_26 rfl (lv_at hl 0 rfl) ?_
    refine lv_aload_n hx hb dX4_write_27 rfl (lv_at hl 0 rfl) ?_
    refine r_get C w (iC10 ht) eC10 vc4 inlX4 10 (by decide) w_fl_RX4_59_Strand_place_I rfl dX4_write_28 ?_
    refine lv_iconst (v := 1) hx hb dX4_write_31 (by decide) ?_
    refine lv_iadd hx hb dX4_write_32 ?_
    obtain ⟨r14, V15, hc13, hf⟩ := ob2_some hf
    refine k_I w (q_V C w (c_X4_goOnTo ok ht hc13) wy_X4_goOnTo wi_X4_goOnTo w_ml_RX4_55_yX4_goOnTo (iC10 ht) eC10 vc4 rfl rfl ⟨Nat.le_of_ble_eq_true rfl, Nat.le_of_ble_eq_true rfl⟩ rfl hl.1 rfl (Nat.le_of_ble_eq_true rfl) dX4_write_33 ⟨Nat.le_refl _, Nat.le_refl _⟩) (fun H locs w => ?_)
    cases hf
    exact r_iret C hr hlk w dX4_write_36
set_option maxHeartbeats 4000000 in
set_option maxRecDepth 100000 in
theorem c_X4_noteAndGoOn (ok : Wok EC idC a) {t : Nat} (ht : t < 4) {V : Sto} {r : Int32} {V' : Sto} (hf : fX4_noteAndGoOn V t = some (r, V')) : MtI l cy D EC idC a yX4_noteAndGoOn cX4_noteAndGoOn 2 .int rm_X4_noteAndGoOn [.ref (a (10, t, 0))] V r V' := by
  refine ofM (by decide +kernel) ok (Nat.le_of_ble_eq_true rfl) (fun p e s m args below meth c C hr hlk w ls hl => ?_)
  have hx := C.1.1
  have hb := C.1.2.1
  rw [fX4_noteAndGoOn] at hf
  skip
  refine lv_aload_n hx hb dX4_noteAndGoOn_0 rfl (lv_at hl 0 rfl) ?_
  refine r_get C w (iC10 ht) eC10 vc4 inlX4 4 (by decide) w_fl_RX4_52_Strand_markCount_I rfl dX4_noteAndGoOn_1 ?_
  refine lv_iconst (v := 5) hx hb dX4_noteAndGoOn_4 (by decide) ?_
  refine lv_icmp_ge (tgt := 73) hx hb dX4_noteAndGoOn_5 (by decide) (fun c1 => ?_) (fun c1 => ?_)
  · rw [if_pos c1] at hf
    refine lv_aload_n hx hb dX4_noteAndGoOn_73 rfl (lv_at hl 0 rfl) ?_
    refine lv_aload_n hx hb dX4_noteAndGoOn_74 rfl (lv_at hl 0 rfl) ?_
    refine r_get C w (iC10 ht) eC10 vc4 inlX4 10 (by decide) w_fl_RX4_59_Strand_place_I rfl dX4_noteAndGoOn_75 ?_
    refine lv_iconst (v := 1) hx hb dX4_noteAndGoOn_78 (by decide) ?_
    refine lv_iadd hx hb dX4_noteAndGoOn_79 ?_
    obtain ⟨r3, V4, hc2, hf⟩ := ob2_some hf
    refine k_I w (q_V C w (c_X4_goOnTo ok ht hc2) wy_X4_goOnTo wi_X4_goOnTo w_ml_RX4_55_yX4_goOnTo (iC10 ht) eC10 vc4 rfl rfl ⟨Nat.le_of_ble_eq_true rfl, Nat.le_of_ble_eq_true rfl⟩ rfl hl.1 rfl (Nat.le_of_ble_eq_true rfl) dX4_noteAndGoOn_80 ⟨Nat.le_refl _, Nat.le_refl _⟩) (fun H locs w => ?_)
    cases hf
    exact r_iret C hr hlk w dX4_noteAndGoOn_83
  · rw [if_neg c1] at hf
    refine lv_aload_n hx hb dX4_noteAndGoOn_8 rfl (lv_at hl 0 rfl) ?_
    refine r_get C w (iC10 ht) eC10 vc4 inlX4 3 (by decide) w_fl_RX4_27_Strand_marks_LAtomicThreads_Mark rfl dX4_noteAndGoOn_9 ?_
    refine lv_aload_n hx hb dX4_noteAndGoOn_12 rfl (lv_at hl 0 rfl) ?_
    refine r_get C w (iC10 ht) eC10 vc4 inlX4 4 (by decide) w_fl_RX4_52_Strand_markCount_I rfl dX4_noteAndGoOn_13 ?_
    obtain ⟨g5, hf⟩ := gd_some hf
    refine r_aald C w (iC21 ht) qC21 rfl g5 dX4_noteAndGoOn_16 ?_
    refine lv_astore_n hx hb dX4_noteAndGoOn_17 rfl hl (by decide) rfl (fun ls hl => ?_)
    refine lv_aload_n hx hb dX4_noteAndGoOn_18 rfl (lv_at hl 0 rfl) ?_
    refine lv_aload_n hx hb dX4_noteAndGoOn_19 rfl (lv_at hl 1 rfl) ?_
    refine r_get C w (iC10 ht) eC10 vc4 inlX4 10 (by decide) w_fl_RX4_59_Strand_place_I rfl dX4_noteAndGoOn_20 ?_
    refine r_putN C w (iC22 ht (inb_lt g5)) eC22 vc0 inlX0 tyX0 tyX0_ok nmX0 3 (by decide) nw_f_X4_79 rfl pd_I uC22_3 (Nat.le_of_ble_eq_true rfl) dX4_noteAndGoOn_23 (fun H locs w => ?_)
    obtain ⟨V6, e7, hf⟩ := bnd_some hf
    rw [← e7] at w
    refine lv_aload_n hx hb dX4_noteAndGoOn_26 rfl (lv_at hl 0 rfl) ?_
    refine lv_aload_n hx hb dX4_noteAndGoOn_27 rfl (lv_at hl 1 rfl) ?_
    refine r_get C w (iC10 ht) eC10 vc4 inlX4 8 (by decide) w_fl_RX4_39_Strand_written_I rfl dX4_noteAndGoOn_28 ?_
    refine r_putN C w (iC22 ht (inb_lt g5)) eC22 vc0 inlX0 tyX0 tyX0_ok nmX0 2 (by decide) nw_f_X4_80 rfl pd_I uC22_2 (Nat.le_of_ble_eq_true rfl) dX4_noteAndGoOn_31 (fun H locs w => ?_)
    obtain ⟨V8, e9, hf⟩ := bnd_some hf
    rw [← e9] at w
    refine lv_aload_n hx hb dX4_noteAndGoOn_34 rfl (lv_at hl 1 rfl) ?_
    refine r_get C w (iC10 ht) eC10 vc4 inlX4 1 (by decide) w_fl_RX4_18_Strand_registers_I rfl dX4_noteAndGoOn_35 ?_
    refine lv_iconst (v := 0) hx hb dX4_noteAndGoOn_38 (by decide) ?_
    refine lv_aload_n hx hb dX4_noteAndGoOn_39 rfl (lv_at hl 0 rfl) ?_
    refine r_getN C w (iC22 ht (inb_lt g5)) eC22 vc0 inlX0 0 (by decide) nw_f_X4_81 rfl dX4_noteAndGoOn_40 ?_
    refine lv_iconst (v := 0) hx hb dX4_noteAndGoOn_43 (by decide) ?_
    refine lv_iconst (v := 4) hx hb dX4_noteAndGoOn_44 (by decide) ?_
    refine r_copy (N := 4) C w (iC19 ht) aC19 (iC23 ht (inb_lt g5)) aC23 (by decide) rfl (Nat.le_of_ble_eq_true rfl) (Nat.le_of_ble_eq_true rfl) w_ml_RX4_82_arraycopyName hl.1 (Nat.le_of_ble_eq_true rfl) (Nat.le_of_ble_eq_true rfl) dX4_noteAndGoOn_45 (fun H locs w => ?_)
    obtain ⟨V10, e11, hf⟩ := bnd_some hf
    rw [← e11] at w
    refine lv_aload_n hx hb dX4_noteAndGoOn_48 rfl (lv_at hl 1 rfl) ?_
    refine r_get C w (iC10 ht) eC10 vc4 inlX4 2 (by decide) w_fl_RX4_22_Strand_writtenValues_I rfl dX4_noteAndGoOn_49 ?_
    refine lv_iconst (v := 0) hx hb dX4_noteAndGoOn_52 (by decide) ?_
    refine lv_aload_n hx hb dX4_noteAndGoOn_53 rfl (lv_at hl 0 rfl) ?_
    refine r_getN C w (iC22 ht (inb_lt g5)) eC22 vc0 inlX0 1 (by decide) nw_f_X4_88 rfl dX4_noteAndGoOn_54 ?_
    refine lv_iconst (v := 0) hx hb dX4_noteAndGoOn_57 (by decide) ?_
    refine lv_bipush (v := 8) hx hb dX4_noteAndGoOn_58 (by decide) ?_
    refine r_copy (N := 8) C w (iC20 ht) aC20 (iC24 ht (inb_lt g5)) aC24 (by decide) rfl (Nat.le_of_ble_eq_true rfl) (Nat.le_of_ble_eq_true rfl) w_ml_RX4_82_arraycopyName hl.1 (Nat.le_of_ble_eq_true rfl) (Nat.le_of_ble_eq_true rfl) dX4_noteAndGoOn_60 (fun H locs w => ?_)
    obtain ⟨V12, e13, hf⟩ := bnd_some hf
    rw [← e13] at w
    refine lv_aload_n hx hb dX4_noteAndGoOn_63 rfl (lv_at hl 1 rfl) ?_
    refine lv_dup hx hb dX4_noteAndGoOn_64 rfl ?_
    refine r_get C w (iC10 ht) eC10 vc4 inlX4 4 (by decide) w_fl_RX4_52_Strand_markCount_I rfl dX4_noteAndGoOn_65 ?_
    refine lv_iconst (v := 1) hx hb dX4_noteAndGoOn_68 (by decide) ?_
    refine lv_iadd hx hb dX4_noteAndGoOn_69 ?_
    refine r_put C w (iC10 ht) eC10 vc4 inlX4 tyX4 tyX4_ok nmX4 4 (by decide) w_fl_RX4_52_Strand_markCount_I rfl pd_I uC10_4 (Nat.le_of_ble_eq_true rfl) dX4_noteAndGoOn_70 (fun H locs w => ?_)
    obtain ⟨V14, e15, hf⟩ := bnd_some hf
    rw [← e15] at w
    refine lv_aload_n hx hb dX4_noteAndGoOn_73 rfl (lv_at hl 1 rfl) ?_
    refine lv_aload_n hx hb dX4_noteAndGoOn_74 rfl (lv_at hl 1 rfl) ?_
    refine r_get C w (iC10 ht) eC10 vc4 inlX4 10 (by decide) w_fl_RX4_59_Strand_place_I rfl dX4_noteAndGoOn_75 ?_
    refine lv_iconst (v := 1) hx hb dX4_noteAndGoOn_78 (by decide) ?_
    refine lv_iadd hx hb dX4_noteAndGoOn_79 ?_
    obtain ⟨r17, V18, hc16, hf⟩ := ob2_some hf
    refine k_I w (q_V C w (c_X4_goOnTo ok ht hc16) wy_X4_goOnTo wi_X4_goOnTo w_ml_RX4_55_yX4_goOnTo (iC10 ht) eC10 vc4 rfl rfl ⟨Nat.le_of_ble_eq_true rfl, Nat.le_of_ble_eq_true rfl⟩ rfl hl.1 rfl (Nat.le_of_ble_eq_true rfl) dX4_noteAndGoOn_80 ⟨Nat.le_refl _, Nat.le_refl _⟩) (fun H locs w => ?_)
    cases hf
    exact r_iret C hr hlk w dX4_noteAndGoOn_83
set_option maxHeartbeats 4000000 in
set_option maxRecDepth 100000 in
theorem c_X4_beginAttempt (ok : Wok EC idC a) {t : Nat} (ht : t < 4) {V : Sto} {r : Int32} {V' : Sto} {x1 : Int32} (hf : fX4_beginAttempt V t x1 = some (r, V')) : MtI l cy D EC idC a yX4_beginAttempt cX4_beginAttempt 2 .int rm_X4_beginAttempt [.ref (a (10, t, 0)), .int x1] V r V' := by
  refine ofM (by decide +kernel) ok (Nat.le_of_ble_eq_true rfl) (fun p e s m args below meth c C hr hlk w ls hl => ?_)
  have hx := C.1.1
  have hb := C.1.2.1
  rw [fX4_beginAttempt] at hf
  skip
  refine lv_aload_n hx hb dX4_beginAttempt_0 rfl (lv_at hl 0 rfl) ?_
  refine lv_aload_n hx hb dX4_beginAttempt_1 rfl (lv_at hl 0 rfl) ?_
  refine r_get C w (iC10 ht) eC10 vc4 inlX4 4 (by decide) w_fl_RX4_52_Strand_markCount_I rfl dX4_beginAttempt_2 ?_
  refine r_put C w (iC10 ht) eC10 vc4 inlX4 tyX4 tyX4_ok nmX4 5 (by decide) w_fl_RX4_31_Strand_attemptMark_I rfl pd_I uC10_5 (Nat.le_of_ble_eq_true rfl) dX4_beginAttempt_5 (fun H locs w => ?_)
  obtain ⟨V1, e2, hf⟩ := bnd_some hf
  rw [← e2] at w
  refine lv_aload_n hx hb dX4_beginAttempt_8 rfl (lv_at hl 0 rfl) ?_
  refine lv_iload_n hx hb dX4_beginAttempt_9 rfl (lv_at hl 1 rfl) ?_
  refine r_put C w (iC10 ht) eC10 vc4 inlX4 tyX4 tyX4_ok nmX4 6 (by decide) w_fl_RX4_72_Strand_attemptSince_I rfl pd_I uC10_6 (Nat.le_of_ble_eq_true rfl) dX4_beginAttempt_10 (fun H locs w => ?_)
  obtain ⟨V3, e4, hf⟩ := bnd_some hf
  rw [← e4] at w
  refine lv_aload_n hx hb dX4_beginAttempt_13 rfl (lv_at hl 0 rfl) ?_
  obtain ⟨r6, V7, hc5, hf⟩ := ob2_some hf
  refine k_I w (q_V C w (c_X4_noteAndGoOn ok ht hc5) wy_X4_noteAndGoOn wi_X4_noteAndGoOn w_ml_RX4_75_yX4_noteAndGoOn (iC10 ht) eC10 vc4 rfl rfl ⟨Nat.le_of_ble_eq_true rfl, Nat.le_of_ble_eq_true rfl⟩ rfl hl.1 rfl (Nat.le_of_ble_eq_true rfl) dX4_beginAttempt_14 ⟨Nat.le_refl _, Nat.le_refl _⟩) (fun H locs w => ?_)
  cases hf
  exact r_iret C hr hlk w dX4_beginAttempt_17
set_option maxHeartbeats 4000000 in
set_option maxRecDepth 100000 in
theorem c_X4_endFirstPart (ok : Wok EC idC a) {t : Nat} (ht : t < 4) {V : Sto} {r : Int32} {V' : Sto} (hf : fX4_endFirstPart V t = some (r, V')) : MtI l cy D EC idC a yX4_endFirstPart cX4_endFirstPart 1 .int rm_X4_endFirstPart [.ref (a (10, t, 0))] V r V' := by
  refine ofM (by decide +kernel) ok (Nat.le_of_ble_eq_true rfl) (fun p e s m args below meth c C hr hlk w ls hl => ?_)
  have hx := C.1.1
  have hb := C.1.2.1
  rw [fX4_endFirstPart] at hf
  skip
  refine lv_aload_n hx hb dX4_endFirstPart_0 rfl (lv_at hl 0 rfl) ?_
  refine r_get C w (iC10 ht) eC10 vc4 inlX4 4 (by decide) w_fl_RX4_52_Strand_markCount_I rfl dX4_endFirstPart_1 ?_
  refine lv_if_le (tgt := 17) hx hb dX4_endFirstPart_4 (by decide) (fun c1 => ?_) (fun c1 => ?_)
  · rw [if_pos c1] at hf
    refine lv_aload_n hx hb dX4_endFirstPart_17 rfl (lv_at hl 0 rfl) ?_
    refine lv_aload_n hx hb dX4_endFirstPart_18 rfl (lv_at hl 0 rfl) ?_
    refine r_get C w (iC10 ht) eC10 vc4 inlX4 0 (by decide) w_fl_RX4_12_Strand_program_LAtomicThreads_Program rfl dX4_endFirstPart_19 ?_
    refine lv_aload_n hx hb dX4_endFirstPart_22 rfl (lv_at hl 0 rfl) ?_
    refine r_get C w (iC10 ht) eC10 vc4 inlX4 10 (by decide) w_fl_RX4_59_Strand_place_I rfl dX4_endFirstPart_23 ?_
    obtain ⟨r3, hc2, hf⟩ := ob_some hf
    refine k_I w (q_VN C w (c_X3_behindEnd ok ht hc2) wy_X3_behindEnd wi_X3_behindEnd nw_m_X4_89 (iC11 ht) eC11 vc3 rfl rfl ⟨Nat.le_of_ble_eq_true rfl, Nat.le_of_ble_eq_true rfl⟩ rfl hl.1 rfl (Nat.le_of_ble_eq_true rfl) dX4_endFirstPart_26 ⟨Nat.le_refl _, Nat.le_refl _⟩) (fun H locs w => ?_)
    obtain ⟨r6, V7, hc5, hf⟩ := ob2_some hf
    refine k_I w (q_V C w (c_X4_goOnTo ok ht hc5) wy_X4_goOnTo wi_X4_goOnTo w_ml_RX4_55_yX4_goOnTo (iC10 ht) eC10 vc4 rfl rfl ⟨Nat.le_of_ble_eq_true rfl, Nat.le_of_ble_eq_true rfl⟩ rfl hl.1 rfl (Nat.le_of_ble_eq_true rfl) dX4_endFirstPart_29 ⟨Nat.le_refl _, Nat.le_refl _⟩) (fun H locs w => ?_)
    cases hf
    exact r_iret C hr hlk w dX4_endFirstPart_32
  · rw [if_neg c1] at hf
    refine lv_aload_n hx hb dX4_endFirstPart_7 rfl (lv_at hl 0 rfl) ?_
    refine lv_dup hx hb dX4_endFirstPart_8 rfl ?_
    refine r_get C w (iC10 ht) eC10 vc4 inlX4 4 (by decide) w_fl_RX4_52_Strand_markCount_I rfl dX4_endFirstPart_9 ?_
    refine lv_iconst (v := 1) hx hb dX4_endFirstPart_12 (by decide) ?_
    refine lv_isub hx hb dX4_endFirstPart_13 ?_
    refine r_put C w (iC10 ht) eC10 vc4 inlX4 tyX4 tyX4_ok nmX4 4 (by decide) w_fl_RX4_52_Strand_markCount_I rfl pd_I uC10_4 (Nat.le_of_ble_eq_true rfl) dX4_endFirstPart_14 (fun H locs w => ?_)
    obtain ⟨V8, e9, hf⟩ := bnd_some hf
    rw [← e9] at w
    refine lv_aload_n hx hb dX4_endFirstPart_17 rfl (lv_at hl 0 rfl) ?_
    refine lv_aload_n hx hb dX4_endFirstPart_18 rfl (lv_at hl 0 rfl) ?_
    refine r_get C w (iC10 ht) eC10 vc4 inlX4 0 (by decide) w_fl_RX4_12_Strand_program_LAtomicThreads_Program rfl dX4_endFirstPart_19 ?_
    refine lv_aload_n hx hb dX4_endFirstPart_22 rfl (lv_at hl 0 rfl) ?_
    refine r_get C w (iC10 ht) eC10 vc4 inlX4 10 (by decide) w_fl_RX4_59_Strand_place_I rfl dX4_endFirstPart_23 ?_
    obtain ⟨r11, hc10, hf⟩ := ob_some hf
    refine k_I w (q_VN C w (c_X3_behindEnd ok ht hc10) wy_X3_behindEnd wi_X3_behindEnd nw_m_X4_89 (iC11 ht) eC11 vc3 rfl rfl ⟨Nat.le_of_ble_eq_true rfl, Nat.le_of_ble_eq_true rfl⟩ rfl hl.1 rfl (Nat.le_of_ble_eq_true rfl) dX4_endFirstPart_26 ⟨Nat.le_refl _, Nat.le_refl _⟩) (fun H locs w => ?_)
    obtain ⟨r14, V15, hc13, hf⟩ := ob2_some hf
    refine k_I w (q_V C w (c_X4_goOnTo ok ht hc13) wy_X4_goOnTo wi_X4_goOnTo w_ml_RX4_55_yX4_goOnTo (iC10 ht) eC10 vc4 rfl rfl ⟨Nat.le_of_ble_eq_true rfl, Nat.le_of_ble_eq_true rfl⟩ rfl hl.1 rfl (Nat.le_of_ble_eq_true rfl) dX4_endFirstPart_29 ⟨Nat.le_refl _, Nat.le_refl _⟩) (fun H locs w => ?_)
    cases hf
    exact r_iret C hr hlk w dX4_endFirstPart_32
end S31_metC01
