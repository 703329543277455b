section S32_metM00
variable {p : Program} {l : Launch} {e : Env} {R : Room} {s : State} {m : MethodId} {args : Array Value} {below : List Frame} {meth : Method} {c : Code} {cy : Nat → ClassId} {D : va_G} {a : Id3 → Nat}
set_option maxHeartbeats 4000000 in
set_option maxRecDepth 100000 in
theorem c_X6_out (ok : Wok EM idM a) {V : Sto} {r : Int32} {x0 : Int32} {x1 : Int32} (hf : fX6_out V x0 x1 = some r) : MtI l cy D EM idM a yX6_out cX6_out 2 .boolean rm_X6_out [.int x0, .int x1] V r V := by
  refine ofM (by decide +kernel) ok (Nat.le_of_ble_eq_true rfl) (fun p e s m args below meth c C hr hlk w ls hl => ?_)
  have hx := C.1.1
  have hb := C.1.2.1
  rw [fX6_out] at hf
  skip
  refine lv_iload_n hx hb dX6_out_0 rfl (lv_at hl 0 rfl) ?_
  refine lv_if_lt (tgt := 9) hx hb dX6_out_1 (by decide) (fun c1 => ?_) (fun c1 => ?_)
  · rw [if_pos c1] at hf
    refine lv_iconst (v := 1) hx hb dX6_out_9 (by decide) ?_
    refine lv_goto (tgt := 14) hx hb dX6_out_10 (by decide) ?_
    cases hf
    exact r_zret C hr hlk w (by decide) dX6_out_14
  · rw [if_neg c1] at hf
    refine lv_iload_n hx hb dX6_out_4 rfl (lv_at hl 0 rfl) ?_
    refine lv_iload_n hx hb dX6_out_5 rfl (lv_at hl 1 rfl) ?_
    refine lv_icmp_lt (tgt := 13) hx hb dX6_out_6 (by decide) (fun c2 => ?_) (fun c2 => ?_)
    · rw [if_pos c2] at hf
      refine lv_iconst (v := 0) hx hb dX6_out_13 (by decide) ?_
      cases hf
      exact r_zret C hr hlk w (by decide) dX6_out_14
    · rw [if_neg c2] at hf
      refine lv_iconst (v := 1) hx hb dX6_out_9 (by decide) ?_
      refine lv_goto (tgt := 14) hx hb dX6_out_10 (by decide) ?_
      cases hf
      exact r_zret C hr hlk w (by decide) dX6_out_14
set_option maxHeartbeats 4000000 in
set_option maxRecDepth 100000 in
theorem c_X6_busy (ok : Wok EM idM a) {V : Sto} {r : Int32} {x1 : Int32} (hf : fX6_busy V x1 = some r) : MtI l cy D EM idM a yX6_busy cX6_busy 2 .boolean rm_X6_busy [.ref (a (0, 0, 0)), .int x1] V r V := by
  refine ofM (by decide +kernel) ok (Nat.le_of_ble_eq_true rfl) (fun p e s m args below meth c C hr hlk w ls hl => ?_)
  have hx := C.1.1
  have hb := C.1.2.1
  rw [fX6_busy] at hf
  skip
  refine lv_aload_n hx hb dX6_busy_0 rfl (lv_at hl 0 rfl) ?_
  refine r_get C w iM0 eM0 vc6 inlX6 4 (by decide) w_fl_RX6_22_AtomicThreadsModel_state_I rfl dX6_busy_1 ?_
  refine lv_iload_n hx hb dX6_busy_4 rfl (lv_at hl 1 rfl) ?_
  obtain ⟨g1, hf⟩ := gd_some hf
  refine r_iald C w iM5 aM5 g1 dX6_busy_5 ?_
  refine lv_iconst (v := 1) hx hb dX6_busy_6 (by decide) ?_
  refine lv_icmp_eq (tgt := 20) hx hb dX6_busy_7 (by decide) (fun c2 => ?_) (fun c2 => ?_)
  · rw [if_pos c2] at hf
    refine lv_iconst (v := 1) hx hb dX6_busy_20 (by decide) ?_
    refine lv_goto (tgt := 25) hx hb dX6_busy_21 (by decide) ?_
    cases hf
    exact r_zret C hr hlk w (by decide) dX6_busy_25
  · rw [if_neg c2] at hf
    refine lv_aload_n hx hb dX6_busy_10 rfl (lv_at hl 0 rfl) ?_
    refine r_get C w iM0 eM0 vc6 inlX6 4 (by decide) w_fl_RX6_22_AtomicThreadsModel_state_I rfl dX6_busy_11 ?_
    refine lv_iload_n hx hb dX6_busy_14 rfl (lv_at hl 1 rfl) ?_
    obtain ⟨g3, hf⟩ := gd_some hf
    refine r_iald C w iM5 aM5 g3 dX6_busy_15 ?_
    refine lv_iconst (v := 2) hx hb dX6_busy_16 (by decide) ?_
    refine lv_icmp_ne (tgt := 24) hx hb dX6_busy_17 (by decide) (fun c4 => ?_) (fun c4 => ?_)
    · rw [if_neg c4] at hf
      refine lv_iconst (v := 0) hx hb dX6_busy_24 (by decide) ?_
      cases hf
      exact r_zret C hr hlk w (by decide) dX6_busy_25
    · rw [if_pos c4] at hf
      refine lv_iconst (v := 1) hx hb dX6_busy_20 (by decide) ?_
      refine lv_goto (tgt := 25) hx hb dX6_busy_21 (by decide) ?_
      cases hf
      exact r_zret C hr hlk w (by decide) dX6_busy_25
set_option maxHeartbeats 4000000 in
set_option maxRecDepth 100000 in
theorem c_X6_opens (ok : Wok EM idM a) {V : Sto} {r : Int32} {x0 : Int32} (hf : fX6_opens V x0 = some r) : MtI l cy D EM idM a yX6_opens cX6_opens 1 .boolean rm_X6_opens [.int x0] V r V := by
  refine ofM (by decide +kernel) ok (Nat.le_of_ble_eq_true rfl) (fun p e s m args below meth c C hr hlk w ls hl => ?_)
  have hx := C.1.1
  have hb := C.1.2.1
  rw [fX6_opens] at hf
  skip
  refine lv_iload_n hx hb dX6_opens_0 rfl (lv_at hl 0 rfl) ?_
  refine lv_bipush (v := 6) hx hb dX6_opens_1 (by decide) ?_
  refine lv_icmp_eq (tgt := 30) hx hb dX6_opens_3 (by decide) (fun c1 => ?_) (fun c1 => ?_)
  · rw [if_pos c1] at hf
    refine lv_iconst (v := 1) hx hb dX6_opens_30 (by decide) ?_
    refine lv_goto (tgt := 35) hx hb dX6_opens_31 (by decide) ?_
    cases hf
    exact r_zret C hr hlk w (by decide) dX6_opens_35
  · rw [if_neg c1] at hf
    refine lv_iload_n hx hb dX6_opens_6 rfl (lv_at hl 0 rfl) ?_
    refine lv_bipush (v := 9) hx hb dX6_opens_7 (by decide) ?_
    refine lv_icmp_eq (tgt := 30) hx hb dX6_opens_9 (by decide) (fun c2 => ?_) (fun c2 => ?_)
    · rw [if_pos c2] at hf
      refine lv_iconst (v := 1) hx hb dX6_opens_30 (by decide) ?_
      refine lv_goto (tgt := 35) hx hb dX6_opens_31 (by decide) ?_
      cases hf
      exact r_zret C hr hlk w (by decide) dX6_opens_35
    · rw [if_neg c2] at hf
      refine lv_iload_n hx hb dX6_opens_12 rfl (lv_at hl 0 rfl) ?_
      refine lv_bipush (v := 11) hx hb dX6_opens_13 (by decide) ?_
      refine lv_icmp_eq (tgt := 30) hx hb dX6_opens_15 (by decide) (fun c3 => ?_) (fun c3 => ?_)
      · rw [if_pos c3] at hf
        refine lv_iconst (v := 1) hx hb dX6_opens_30 (by decide) ?_
        refine lv_goto (tgt := 35) hx hb dX6_opens_31 (by decide) ?_
        cases hf
        exact r_zret C hr hlk w (by decide) dX6_opens_35
      · rw [if_neg c3] at hf
        refine lv_iload_n hx hb dX6_opens_18 rfl (lv_at hl 0 rfl) ?_
        refine lv_bipush (v := 13) hx hb dX6_opens_19 (by decide) ?_
        refine lv_icmp_eq (tgt := 30) hx hb dX6_opens_21 (by decide) (fun c4 => ?_) (fun c4 => ?_)
        · rw [if_pos c4] at hf
          refine lv_iconst (v := 1) hx hb dX6_opens_30 (by decide) ?_
          refine lv_goto (tgt := 35) hx hb dX6_opens_31 (by decide) ?_
          cases hf
          exact r_zret C hr hlk w (by decide) dX6_opens_35
        · rw [if_neg c4] at hf
          refine lv_iload_n hx hb dX6_opens_24 rfl (lv_at hl 0 rfl) ?_
          refine lv_bipush (v := 15) hx hb dX6_opens_25 (by decide) ?_
          refine lv_icmp_ne (tgt := 34) hx hb dX6_opens_27 (by decide) (fun c5 => ?_) (fun c5 => ?_)
          · rw [if_neg c5] at hf
            refine lv_iconst (v := 0) hx hb dX6_opens_34 (by decide) ?_
            cases hf
            exact r_zret C hr hlk w (by decide) dX6_opens_35
          · rw [if_pos c5] at hf
            refine lv_iconst (v := 1) hx hb dX6_opens_30 (by decide) ?_
            refine lv_goto (tgt := 35) hx hb dX6_opens_31 (by decide) ?_
            cases hf
            exact r_zret C hr hlk w (by decide) dX6_opens_35
set_option maxHeartbeats 4000000 in
set_option maxRecDepth 100000 in
theorem jX6_named_J74 (C : Cx cy D EM idM a p s m args c RX6 cX6_named 4) (hr : meth.sig.returnType = some .boolean) (hlk : meth.locks = false) {V : Sto} {r : Int32} {x0 : Int32} {x1 : Int32} {x2 : Int32} {H : Heap} {locs : List Loc} {ls : Array Slot} (w : Wd cy D EM idM a V s H locs) (hl : lv_has ls 4 [(0, .int x0), (1, .int x1), (2, .int x2)]) (hf : fX6_named_J74 V x0 x1 x2 = some r) : W p l e rm_X6_named s m args below meth c H locs 0 0 (MQ below (QI cy D EM idM a r V) args s 0 0 (inA idM a)) (F0 m 74 ls []) := by
  have hx := C.1.1
  have hb := C.1.2.1
  have ok := C.2.2.2
  rw [fX6_named_J74] at hf
  refine lv_iload_n hx hb dX6_named_74 rfl (lv_at hl 0 rfl) ?_
  refine lv_iconst (v := 3) hx hb dX6_named_75 (by decide) ?_
  refine lv_icmp_ne (tgt := 90) hx hb dX6_named_76 (by decide) (fun c8 => ?_) (fun c8 => ?_)
  · rw [if_neg c8] at hf
    refine lv_iload_n hx hb dX6_named_90 rfl (lv_at hl 0 rfl) ?_
    refine lv_iconst (v := 4) hx hb dX6_named_91 (by decide) ?_
    refine lv_icmp_ne (tgt := 112) hx hb dX6_named_92 (by decide) (fun c9 => ?_) (fun c9 => ?_)
    · rw [if_neg c9] at hf
      refine lv_iconst (v := 1) hx hb dX6_named_112 (by decide) ?_
      refine lv_goto (tgt := 117) hx hb dX6_named_113 (by decide) ?_
      cases hf
      exact r_zret C hr hlk w (by decide) dX6_named_117
    · rw [if_pos c9] at hf
      refine lv_iload_n hx hb dX6_named_95 rfl (lv_at hl 1 rfl) ?_
      refine lv_bipush (v := 8) hx hb dX6_named_96 (by decide) ?_
      obtain ⟨r11, hc10, hf⟩ := ob_some hf
      refine k_I w (q_S C w (c_X6_out ok hc10) wy_X6_out w_sta_yX6_out w_ml_RX6_89_yX6_out rfl rfl ⟨Nat.le_of_ble_eq_true rfl, Nat.le_of_ble_eq_true rfl⟩ rfl hl.1 rfl (Nat.le_of_ble_eq_true rfl) dX6_named_98 ⟨Nat.le_refl _, Nat.le_refl _⟩) (fun H locs w => ?_)
      refine lv_if_ne (tgt := 116) hx hb dX6_named_101 (by decide) (fun c13 => ?_) (fun c13 => ?_)
      · rw [if_neg c13] at hf
        refine lv_iconst (v := 0) hx hb dX6_named_116 (by decide) ?_
        cases hf
        exact r_zret C hr hlk w (by decide) dX6_named_117
      · rw [if_pos c13] at hf
        refine lv_iload_n hx hb dX6_named_104 rfl (lv_at hl 2 rfl) ?_
        refine lv_iconst (v := 4) hx hb dX6_named_105 (by decide) ?_
        obtain ⟨r15, hc14, hf⟩ := ob_some hf
        refine k_I w (q_S C w (c_X6_out ok hc14) wy_X6_out w_sta_yX6_out w_ml_RX6_89_yX6_out rfl rfl ⟨Nat.le_of_ble_eq_true rfl, Nat.le_of_ble_eq_true rfl⟩ rfl hl.1 rfl (Nat.le_of_ble_eq_true rfl) dX6_named_106 ⟨Nat.le_refl _, Nat.le_refl _⟩) (fun H locs w => ?_)
        refine lv_if_ne (tgt := 116) hx hb dX6_named_109 (by decide) (fun c17 => ?_) (fun c17 => ?_)
        · rw [if_neg c17] at hf
          refine lv_iconst (v := 0) hx hb dX6_named_116 (by decide) ?_
          cases hf
          exact r_zret C hr hlk w (by decide) dX6_named_117
        · rw [if_pos c17] at hf
          refine lv_iconst (v := 1) hx hb dX6_named_112 (by decide) ?_
          refine lv_goto (tgt := 117) hx hb dX6_named_113 (by decide) ?_
          cases hf
          exact r_zret C hr hlk w (by decide) dX6_named_117
  · rw [if_pos c8] at hf
    refine lv_iload_n hx hb dX6_named_79 rfl (lv_at hl 2 rfl) ?_
    refine lv_bipush (v := 8) hx hb dX6_named_80 (by decide) ?_
    obtain ⟨r19, hc18, hf⟩ := ob_some hf
    refine k_I w (q_S C w (c_X6_out ok hc18) wy_X6_out w_sta_yX6_out w_ml_RX6_89_yX6_out rfl rfl ⟨Nat.le_of_ble_eq_true rfl, Nat.le_of_ble_eq_true rfl⟩ rfl hl.1 rfl (Nat.le_of_ble_eq_true rfl) dX6_named_82 ⟨Nat.le_refl _, Nat.le_refl _⟩) (fun H locs w => ?_)
    refine lv_if_eq (tgt := 90) hx hb dX6_named_85 (by decide) (fun c21 => ?_) (fun c21 => ?_)
    · rw [if_pos c21] at hf
      refine lv_iload_n hx hb dX6_named_90 rfl (lv_at hl 0 rfl) ?_
      refine lv_iconst (v := 4) hx hb dX6_named_91 (by decide) ?_
      refine lv_icmp_ne (tgt := 112) hx hb dX6_named_92 (by decide) (fun c22 => ?_) (fun c22 => ?_)
      · rw [if_neg c22] at hf
        refine lv_iconst (v := 1) hx hb dX6_named_112 (by decide) ?_
        refine lv_goto (tgt := 117) hx hb dX6_named_113 (by decide) ?_
        cases hf
        exact r_zret C hr hlk w (by decide) dX6_named_117
      · rw [if_pos c22] at hf
        refine lv_iload_n hx hb dX6_named_95 rfl (lv_at hl 1 rfl) ?_
        refine lv_bipush (v := 8) hx hb dX6_named_96 (by decide) ?_
        obtain ⟨r24, hc23, hf⟩ := ob_some hf
        refine k_I w (q_S C w (c_X6_out ok hc23) wy_X6_out w_sta_yX6_out w_ml_RX6_89_yX6_out rfl rfl ⟨Nat.le_of_ble_eq_true rfl, Nat.le_of_ble_eq_true rfl⟩ rfl hl.1 rfl (Nat.le_of_ble_eq_true rfl) dX6_named_98 ⟨Nat.le_refl _, Nat.le_refl _⟩) (fun H locs w => ?_)
        refine lv_if_ne (tgt := 116) hx hb dX6_named_101 (by decide) (fun c26 => ?_) (fun c26 => ?_)
        · rw [if_neg c26] at hf
          refine lv_iconst (v := 0) hx hb dX6_named_116 (by decide) ?_
          cases hf
          exact r_zret C hr hlk w (by decide) dX6_named_117
        · rw [if_pos c26] at hf
          refine lv_iload_n hx hb dX6_named_104 rfl (lv_at hl 2 rfl) ?_
          refine lv_iconst (v := 4) hx hb dX6_named_105 (by decide) ?_
          obtain ⟨r28, hc27, hf⟩ := ob_some hf
          refine k_I w (q_S C w (c_X6_out ok hc27) wy_X6_out w_sta_yX6_out w_ml_RX6_89_yX6_out rfl rfl ⟨Nat.le_of_ble_eq_true rfl, Nat.le_of_ble_eq_true rfl⟩ rfl hl.1 rfl (Nat.le_of_ble_eq_true rfl) dX6_named_106 ⟨Nat.le_refl _, Nat.le_refl _⟩) (fun H locs w => ?_)
          refine lv_if_ne (tgt := 116) hx hb dX6_named_109 (by decide) (fun c30 => ?_) (fun c30 => ?_)
          · rw [if_neg c30] at hf
            refine lv_iconst (v := 0) hx hb dX6_named_116 (by decide) ?_
            cases hf
            exact r_zret C hr hlk w (by decide) dX6_named_117
          · rw [if_pos c30] at hf
            refine lv_iconst (v := 1) hx hb dX6_named_112 (by decide) ?_
            refine lv_goto (tgt := 117) hx hb dX6_named_113 (by decide) ?_
            cases hf
            exact r_zret C hr hlk w (by decide) dX6_named_117
    · rw [if_neg c21] at hf
      refine lv_iconst (v := 0) hx hb dX6_named_88 (by decide) ?_
      cases hf
      exact r_zret C hr hlk w (by decide) dX6_named_89
set_option maxHeartbeats 4000000 in
set_option maxRecDepth 100000 in
theorem jX6_named_J64 (C : Cx cy D EM idM a p s m args c RX6 cX6_named 4) (hr : meth.sig.returnType = some .boolean) (hlk : meth.locks = false) {V : Sto} {r : Int32} {x0 : Int32} {x1 : Int32} {x2 : Int32} {H : Heap} {locs : List Loc} {ls : Array Slot} (w : Wd cy D EM idM a V s H locs) (hl : lv_has ls 4 [(0, .int x0), (1, .int x1), (2, .int x2)]) (hf : fX6_named_J64 V x0 x1 x2 = some r) : W p l e rm_X6_named s m args below meth c H locs 0 0 (MQ below (QI cy D EM idM a r V) args s 0 0 (inA idM a)) (F0 m 64 ls []) := by
  have hx := C.1.1
  have hb := C.1.2.1
  have ok := C.2.2.2
  rw [fX6_named_J64] at hf
  refine lv_iload_n hx hb dX6_named_64 rfl (lv_at hl 2 rfl) ?_
  refine lv_iconst (v := 4) hx hb dX6_named_65 (by decide) ?_
  obtain ⟨r5, hc4, hf⟩ := ob_some hf
  refine k_I w (q_S C w (c_X6_out ok hc4) wy_X6_out w_sta_yX6_out w_ml_RX6_89_yX6_out rfl rfl ⟨Nat.le_of_ble_eq_true rfl, Nat.le_of_ble_eq_true rfl⟩ rfl hl.1 rfl (Nat.le_of_ble_eq_true rfl) dX6_named_66 ⟨Nat.le_refl _, Nat.le_refl _⟩) (fun H locs w => ?_)
  refine lv_if_eq (tgt := 74) hx hb dX6_named_69 (by decide) (fun c7 => ?_) (fun c7 => ?_)
  · rw [if_pos c7] at hf
    exact jX6_named_J74 C hr hlk w (lv_sub hl [0, 1, 2] rfl) hf
  · rw [if_neg c7] at hf
    refine lv_iconst (v := 0) hx hb dX6_named_72 (by decide) ?_
    cases hf
    exact r_zret C hr hlk w (by decide) dX6_named_73
set_option maxHeartbeats 4000000 in
set_option maxRecDepth 100000 in
theorem jX6_named_J54 (C : Cx cy D EM idM a p s m args c RX6 cX6_named 4) (hr : meth.sig.returnType = some .boolean) (hlk : meth.locks = false) {V : Sto} {r : Int32} {x0 : Int32} {x1 : Int32} {x2 : Int32} {H : Heap} {locs : List Loc} {ls : Array Slot} (w : Wd cy D EM idM a V s H locs) (hl : lv_has ls 4 [(0, .int x0), (1, .int x1), (2, .int x2)]) (hf : fX6_named_J54 V x0 x1 x2 = some r) : W p l e rm_X6_named s m args below meth c H locs 0 0 (MQ below (QI cy D EM idM a r V) args s 0 0 (inA idM a)) (F0 m 54 ls []) := by
  have hx := C.1.1
  have hb := C.1.2.1
  have ok := C.2.2.2
  rw [fX6_named_J54] at hf
  refine lv_iload_n hx hb dX6_named_54 rfl (lv_at hl 0 rfl) ?_
  refine lv_iconst (v := 1) hx hb dX6_named_55 (by decide) ?_
  refine lv_icmp_eq (tgt := 64) hx hb dX6_named_56 (by decide) (fun c3 => ?_) (fun c3 => ?_)
  · rw [if_pos c3] at hf
    exact jX6_named_J64 C hr hlk w (lv_sub hl [0, 1, 2] rfl) hf
  · rw [if_neg c3] at hf
    refine lv_iload_n hx hb dX6_named_59 rfl (lv_at hl 0 rfl) ?_
    refine lv_iconst (v := 2) hx hb dX6_named_60 (by decide) ?_
    refine lv_icmp_ne (tgt := 74) hx hb dX6_named_61 (by decide) (fun c31 => ?_) (fun c31 => ?_)
    · rw [if_neg c31] at hf
      exact jX6_named_J74 C hr hlk w (lv_sub hl [0, 1, 2] rfl) hf
    · rw [if_pos c31] at hf
      exact jX6_named_J64 C hr hlk w (lv_sub hl [0, 1, 2] rfl) hf
set_option maxHeartbeats 4000000 in
set_option maxRecDepth 100000 in
theorem jX6_named_J39 (C : Cx cy D EM idM a p s m args c RX6 cX6_named 4) (hr : meth.sig.returnType = some .boolean) (hlk : meth.locks = false) {V : Sto} {r : Int32} {x0 : Int32} {x1 : Int32} {x2 : Int32} {y0 : Int32} {H : Heap} {locs : List Loc} {ls : Array Slot} (w : Wd cy D EM idM a V s H locs) (hl : lv_has ls 4 [(0, .int x0), (1, .int x1), (2, .int x2)]) (hf : fX6_named_J39 V x0 x1 x2 y0 = some r) : W p l e rm_X6_named s m args below meth c H locs 0 0 (MQ below (QI cy D EM idM a r V) args s 0 0 (inA idM a)) (F0 m 39 ls [.int y0]) := by
  have hx := C.1.1
  have hb := C.1.2.1
  have ok := C.2.2.2
  rw [fX6_named_J39] at hf
  refine lv_istore_n hx hb dX6_named_39 rfl hl (by decide) rfl (fun ls hl => ?_)
  refine lv_iload_n hx hb dX6_named_40 rfl (lv_at hl 0 rfl) ?_
  refine lv_if_eq (tgt := 54) hx hb dX6_named_41 (by decide) (fun c2 => ?_) (fun c2 => ?_)
  · rw [if_pos c2] at hf
    exact jX6_named_J54 C hr hlk w (lv_sub hl [1, 2, 3] rfl) hf
  · rw [if_neg c2] at hf
    refine lv_iload_n hx hb dX6_named_44 rfl (lv_at hl 2 rfl) ?_
    refine lv_iconst (v := 4) hx hb dX6_named_45 (by decide) ?_
    obtain ⟨r33, hc32, hf⟩ := ob_some hf
    refine k_I w (q_S C w (c_X6_out ok hc32) wy_X6_out w_sta_yX6_out w_ml_RX6_89_yX6_out rfl rfl ⟨Nat.le_of_ble_eq_true rfl, Nat.le_of_ble_eq_true rfl⟩ rfl hl.1 rfl (Nat.le_of_ble_eq_true rfl) dX6_named_46 ⟨Nat.le_refl _, Nat.le_refl _⟩) (fun H locs w => ?_)
    refine lv_if_eq (tgt := 54) hx hb dX6_named_49 (by decide) (fun c35 => ?_) (fun c35 => ?_)
    · rw [if_pos c35] at hf
      exact jX6_named_J54 C hr hlk w (lv_sub hl [1, 2, 3] rfl) hf
    · rw [if_neg c35] at hf
      refine lv_iconst (v := 0) hx hb dX6_named_52 (by decide) ?_
      cases hf
      exact r_zret C hr hlk w (by decide) dX6_named_53
set_option maxHeartbeats 4000000 in
set_option maxRecDepth 100000 in
theorem jX6_named_J34 (C : Cx cy D EM idM a p s m args c RX6 cX6_named 4) (hr : meth.sig.returnType = some .boolean) (hlk : meth.locks = false) {V : Sto} {r : Int32} {x0 : Int32} {x1 : Int32} {x2 : Int32} {H : Heap} {locs : List Loc} {ls : Array Slot} (w : Wd cy D EM idM a V s H locs) (hl : lv_has ls 4 [(0, .int x0), (1, .int x1), (2, .int x2)]) (hf : fX6_named_J34 V x0 x1 x2 = some r) : W p l e rm_X6_named s m args below meth c H locs 0 0 (MQ below (QI cy D EM idM a r V) args s 0 0 (inA idM a)) (F0 m 34 ls []) := by
  have hx := C.1.1
  have hb := C.1.2.1
  have ok := C.2.2.2
  rw [fX6_named_J34] at hf
  refine lv_iconst (v := 1) hx hb dX6_named_34 (by decide) ?_
  refine lv_goto (tgt := 39) hx hb dX6_named_35 (by decide) ?_
  exact jX6_named_J39 C hr hlk w (lv_sub hl [0, 1, 2] rfl) hf
set_option maxHeartbeats 4000000 in
set_option maxRecDepth 100000 in
theorem c_X6_named (ok : Wok EM idM a) {V : Sto} {r : Int32} {x0 : Int32} {x1 : Int32} {x2 : Int32} (hf : fX6_named V x0 x1 x2 = some r) : MtI l cy D EM idM a yX6_named cX6_named 4 .boolean rm_X6_named [.int x0, .int x1, .int x2] V r V := by
  refine ofM (by decide +kernel) ok (Nat.le_of_ble_eq_true rfl) (fun p e s m args below meth c C hr hlk w ls hl => ?_)
  have hx := C.1.1
  have hb := C.1.2.1
  rw [fX6_named] at hf
  skip
  refine lv_iload_n hx hb dX6_named_0 rfl (lv_at hl 0 rfl) ?_
  refine lv_iconst (v := 3) hx hb dX6_named_1 (by decide) ?_
  refine lv_icmp_le (tgt := 34) hx hb dX6_named_2 (by decide) (fun c1 => ?_) (fun c1 => ?_)
  · rw [if_pos c1] at hf
    exact jX6_named_J34 C hr hlk w (lv_sub hl [0, 1, 2] rfl) hf
  · rw [if_neg c1] at hf
    refine lv_iload_n hx hb dX6_named_5 rfl (lv_at hl 0 rfl) ?_
    refine lv_iconst (v := 5) hx hb dX6_named_6 (by decide) ?_
    refine lv_icmp_eq (tgt := 34) hx hb dX6_named_7 (by decide) (fun c36 => ?_) (fun c36 => ?_)
    · rw [if_pos c36] at hf
      exact jX6_named_J34 C hr hlk w (lv_sub hl [0, 1, 2] rfl) hf
    · rw [if_neg c36] at hf
      refine lv_iload_n hx hb dX6_named_10 rfl (lv_at hl 0 rfl) ?_
      refine lv_bipush (v := 11) hx hb dX6_named_11 (by decide) ?_
      refine lv_icmp_eq (tgt := 34) hx hb dX6_named_13 (by decide) (fun c37 => ?_) (fun c37 => ?_)
      · rw [if_pos c37] at hf
        exact jX6_named_J34 C hr hlk w (lv_sub hl [0, 1, 2] rfl) hf
      · rw [if_neg c37] at hf
        refine lv_iload_n hx hb dX6_named_16 rfl (lv_at hl 0 rfl) ?_
        refine lv_bipush (v := 13) hx hb dX6_named_17 (by decide) ?_
        refine lv_icmp_eq (tgt := 34) hx hb dX6_named_19 (by decide) (fun c38 => ?_) (fun c38 => ?_)
        · rw [if_pos c38] at hf
          exact jX6_named_J34 C hr hlk w (lv_sub hl [0, 1, 2] rfl) hf
        · rw [if_neg c38] at hf
          refine lv_iload_n hx hb dX6_named_22 rfl (lv_at hl 0 rfl) ?_
          refine lv_bipush (v := 14) hx hb dX6_named_23 (by decide) ?_
          refine lv_icmp_eq (tgt := 34) hx hb dX6_named_25 (by decide) (fun c39 => ?_) (fun c39 => ?_)
          · rw [if_pos c39] at hf
            exact jX6_named_J34 C hr hlk w (lv_sub hl [0, 1, 2] rfl) hf
          · rw [if_neg c39] at hf
            refine lv_iload_n hx hb dX6_named_28 rfl (lv_at hl 0 rfl) ?_
            refine lv_bipush (v := 16) hx hb dX6_named_29 (by decide) ?_
            refine lv_icmp_ne (tgt := 38) hx hb dX6_named_31 (by decide) (fun c40 => ?_) (fun c40 => ?_)
            · rw [if_neg c40] at hf
              refine lv_iconst (v := 0) hx hb dX6_named_38 (by decide) ?_
              exact jX6_named_J39 C hr hlk w (lv_sub hl [0, 1, 2] rfl) hf
            · rw [if_pos c40] at hf
              exact jX6_named_J34 C hr hlk w (lv_sub hl [0, 1, 2] rfl) hf
set_option maxHeartbeats 4000000 in
set_option maxRecDepth 100000 in
theorem c_X6_add (ok : Wok EM idM a) {V : Sto} {r : Int32} {V' : Sto} {x1 : Int32} {x2 : Int32} {x3 : Int32} {x4 : Int32} (hf : fX6_add V x1 x2 x3 x4 = some (r, V')) : MtI l cy D EM idM a yX6_add cX6_add 6 .boolean rm_X6_add [.ref (a (0, 0, 0)), .int x1, .int x2, .int x3, .int x4] V r V' := by
  refine ofM (by decide +kernel) ok (Nat.le_of_ble_eq_true rfl) (fun p e s m args below meth c C hr hlk w ls hl => ?_)
  have hx := C.1.1
  have hb := C.1.2.1
  rw [fX6_add] at hf
  skip
  refine lv_iload_n hx hb dX6_add_0 rfl (lv_at hl 1 rfl) ?_
  refine lv_iconst (v := 4) hx hb dX6_add_1 (by decide) ?_
  obtain ⟨r2, hc1, hf⟩ := ob_some hf
  refine k_I w (q_S C w (c_X6_out ok hc1) wy_X6_out w_sta_yX6_out w_ml_RX6_89_yX6_out rfl rfl ⟨Nat.le_of_ble_eq_true rfl, Nat.le_of_ble_eq_true rfl⟩ rfl hl.1 rfl (Nat.le_of_ble_eq_true rfl) dX6_add_2 ⟨Nat.le_refl _, Nat.le_refl _⟩) (fun H locs w => ?_)
  refine lv_if_ne (tgt := 17) hx hb dX6_add_5 (by decide) (fun c4 => ?_) (fun c4 => ?_)
  · rw [if_neg c4] at hf
    refine lv_iconst (v := 0) hx hb dX6_add_17 (by decide) ?_
    cases hf
    exact r_zret C hr hlk w (by decide) dX6_add_18
  · rw [if_pos c4] at hf
    refine lv_iload_n hx hb dX6_add_8 rfl (lv_at hl 2 rfl) ?_
    refine lv_bipush (v := 17) hx hb dX6_add_9 (by decide) ?_
    obtain ⟨r6, hc5, hf⟩ := ob_some hf
    refine k_I w (q_S C w (c_X6_out ok hc5) wy_X6_out w_sta_yX6_out w_ml_RX6_89_yX6_out rfl rfl ⟨Nat.le_of_ble_eq_true rfl, Nat.le_of_ble_eq_true rfl⟩ rfl hl.1 rfl (Nat.le_of_ble_eq_true rfl) dX6_add_11 ⟨Nat.le_refl _, Nat.le_refl _⟩) (fun H locs w => ?_)
    refine lv_if_eq (tgt := 19) hx hb dX6_add_14 (by decide) (fun c8 => ?_) (fun c8 => ?_)
    · rw [if_pos c8] at hf
      refine lv_aload_n hx hb dX6_add_19 rfl (lv_at hl 0 rfl) ?_
      refine lv_iload_n hx hb dX6_add_20 rfl (lv_at hl 1 rfl) ?_
      obtain ⟨r10, hc9, hf⟩ := ob_some hf
      refine k_I w (q_V C w (c_X6_busy ok hc9) wy_X6_busy wi_X6_busy w_ml_RX6_93_yX6_busy iM0 eM0 vc6 rfl rfl ⟨Nat.le_of_ble_eq_true rfl, Nat.le_of_ble_eq_true rfl⟩ rfl hl.1 rfl (Nat.le_of_ble_eq_true rfl) dX6_add_21 ⟨Nat.le_refl _, Nat.le_refl _⟩) (fun H locs w => ?_)
      refine lv_if_ne (tgt := 48) hx hb dX6_add_24 (by decide) (fun c12 => ?_) (fun c12 => ?_)
      · rw [if_neg c12] at hf
        refine lv_iconst (v := 0) hx hb dX6_add_48 (by decide) ?_
        cases hf
        exact r_zret C hr hlk w (by decide) dX6_add_49
      · rw [if_pos c12] at hf
        refine lv_aload_n hx hb dX6_add_27 rfl (lv_at hl 0 rfl) ?_
        refine r_get C w iM0 eM0 vc6 inlX6 3 (by decide) w_fl_RX6_19_AtomicThreadsModel_size_I rfl dX6_add_28 ?_
        refine lv_iload_n hx hb dX6_add_31 rfl (lv_at hl 1 rfl) ?_
        obtain ⟨g13, hf⟩ := gd_some hf
        refine r_iald C w iM4 aM4 g13 dX6_add_32 ?_
        refine lv_bipush (v := 30) hx hb dX6_add_33 (by decide) ?_
        refine lv_icmp_eq (tgt := 48) hx hb dX6_add_35 (by decide) (fun c14 => ?_) (fun c14 => ?_)
        · rw [if_pos c14] at hf
          refine lv_iconst (v := 0) hx hb dX6_add_48 (by decide) ?_
          cases hf
          exact r_zret C hr hlk w (by decide) dX6_add_49
        · rw [if_neg c14] at hf
          refine lv_iload_n hx hb dX6_add_38 rfl (lv_at hl 2 rfl) ?_
          refine lv_iload_n hx hb dX6_add_39 rfl (lv_at hl 3 rfl) ?_
          refine lv_iload hx hb dX6_add_40 (lv_at hl 4 rfl) ?_
          obtain ⟨r16, hc15, hf⟩ := ob_some hf
          refine k_I w (q_S C w (c_X6_named ok hc15) wy_X6_named w_sta_yX6_named w_ml_RX6_97_yX6_named rfl rfl ⟨Nat.le_of_ble_eq_true rfl, Nat.le_of_ble_eq_true rfl⟩ rfl hl.1 rfl (Nat.le_of_ble_eq_true rfl) dX6_add_42 ⟨Nat.le_refl _, Nat.le_refl _⟩) (fun H locs w => ?_)
          refine lv_if_ne (tgt := 50) hx hb dX6_add_45 (by decide) (fun c18 => ?_) (fun c18 => ?_)
          · rw [if_neg c18] at hf
            refine lv_bipush (v := 30) hx hb dX6_add_50 (by decide) ?_
            refine lv_iload_n hx hb dX6_add_52 rfl (lv_at hl 1 rfl) ?_
            refine lv_imul hx hb dX6_add_53 ?_
            refine lv_aload_n hx hb dX6_add_54 rfl (lv_at hl 0 rfl) ?_
            refine r_get C w iM0 eM0 vc6 inlX6 3 (by decide) w_fl_RX6_19_AtomicThreadsModel_size_I rfl dX6_add_55 ?_
            refine lv_iload_n hx hb dX6_add_58 rfl (lv_at hl 1 rfl) ?_
            obtain ⟨g19, hf⟩ := gd_some hf
            refine r_iald C w iM4 aM4 g19 dX6_add_59 ?_
            refine lv_iadd hx hb dX6_add_60 ?_
            refine lv_istore hx hb dX6_add_61 hl (by decide) rfl (fun ls hl => ?_)
            refine lv_aload_n hx hb dX6_add_63 rfl (lv_at hl 1 rfl) ?_
            refine r_get C w iM0 eM0 vc6 inlX6 0 (by decide) w_fl_RX6_7_AtomicThreadsModel_kind_I rfl dX6_add_64 ?_
            refine lv_iload hx hb dX6_add_67 (lv_at hl 0 rfl) ?_
            refine lv_iload_n hx hb dX6_add_69 rfl (lv_at hl 3 rfl) ?_
            obtain ⟨g20, hf⟩ := gd_some hf
            refine r_iast C w iM1 aM1 g20 dX6_add_70 (fun H locs w => ?_)
            obtain ⟨V21, e22, hf⟩ := bnd_some hf
            rw [← e22] at w
            refine lv_aload_n hx hb dX6_add_71 rfl (lv_at hl 1 rfl) ?_
            refine r_get C w iM0 eM0 vc6 inlX6 1 (by decide) w_fl_RX6_13_AtomicThreadsModel_first_I rfl dX6_add_72 ?_
            refine lv_iload hx hb dX6_add_75 (lv_at hl 0 rfl) ?_
            refine lv_iload_n hx hb dX6_add_77 rfl (lv_at hl 4 rfl) ?_
            obtain ⟨g23, hf⟩ := gd_some hf
            refine r_iast C w iM2 aM2 g23 dX6_add_78 (fun H locs w => ?_)
            obtain ⟨V24, e25, hf⟩ := bnd_some hf
            rw [← e25] at w
            refine lv_aload_n hx hb dX6_add_79 rfl (lv_at hl 1 rfl) ?_
            refine r_get C w iM0 eM0 vc6 inlX6 2 (by decide) w_fl_RX6_16_AtomicThreadsModel_second_I rfl dX6_add_80 ?_
            refine lv_iload hx hb dX6_add_83 (lv_at hl 0 rfl) ?_
            refine lv_iload hx hb dX6_add_85 (lv_at hl 5 rfl) ?_
            obtain ⟨g26, hf⟩ := gd_some hf
            refine r_iast C w iM3 aM3 g26 dX6_add_87 (fun H locs w => ?_)
            obtain ⟨V27, e28, hf⟩ := bnd_some hf
            rw [← e28] at w
            refine lv_aload_n hx hb dX6_add_88 rfl (lv_at hl 1 rfl) ?_
            refine r_get C w iM0 eM0 vc6 inlX6 3 (by decide) w_fl_RX6_19_AtomicThreadsModel_size_I rfl dX6_add_89 ?_
            refine lv_iload_n hx hb dX6_add_92 rfl (lv_at hl 2 rfl) ?_
            refine lv_dup2_11 hx hb dX6_add_93 rfl rfl ?_
            obtain ⟨g29, hf⟩ := gd_some hf
            refine r_iald C w iM4 aM4 g29 dX6_add_94 ?_
            refine lv_iconst (v := 1) hx hb dX6_add_95 (by decide) ?_
            refine lv_iadd hx hb dX6_add_96 ?_
            obtain ⟨g30, hf⟩ := gd_some hf
            refine r_iast C w iM4 aM4 g30 dX6_add_97 (fun H locs w => ?_)
            obtain ⟨V31, e32, hf⟩ := bnd_some hf
            rw [← e32] at w
            refine lv_aload_n hx hb dX6_add_98 rfl (lv_at hl 1 rfl) ?_
            refine r_get C w iM0 eM0 vc6 inlX6 4 (by decide) w_fl_RX6_22_AtomicThreadsModel_state_I rfl dX6_add_99 ?_
            refine lv_iload_n hx hb dX6_add_102 rfl (lv_at hl 2 rfl) ?_
            refine lv_iconst (v := 0) hx hb dX6_add_103 (by decide) ?_
            obtain ⟨g33, hf⟩ := gd_some hf
            refine r_iast C w iM5 aM5 g33 dX6_add_104 (fun H locs w => ?_)
            obtain ⟨V34, e35, hf⟩ := bnd_some hf
            rw [← e35] at w
            refine lv_iconst (v := 1) hx hb dX6_add_105 (by decide) ?_
            cases hf
            exact r_zret C hr hlk w (by decide) dX6_add_106
          · rw [if_pos c18] at hf
            refine lv_iconst (v := 0) hx hb dX6_add_48 (by decide) ?_
            cases hf
            exact r_zret C hr hlk w (by decide) dX6_add_49
    · rw [if_neg c8] at hf
      refine lv_iconst (v := 0) hx hb dX6_add_17 (by decide) ?_
      cases hf
      exact r_zret C hr hlk w (by decide) dX6_add_18
set_option maxHeartbeats 4000000 in
set_option maxRecDepth 100000 in
theorem c_X6_cut (ok : Wok EM idM a) {V : Sto} {r : Int32} {V' : Sto} {x1 : Int32} {x2 : Int32} (hf : fX6_cut V x1 x2 = some (r, V')) : MtI l cy D EM idM a yX6_cut cX6_cut 3 .boolean rm_X6_cut [.ref (a (0, 0, 0)), .int x1, .int x2] V r V' := by
  refine ofM (by decide +kernel) ok (Nat.le_of_ble_eq_true rfl) (fun p e s m args below meth c C hr hlk w ls hl => ?_)
  have hx := C.1.1
  have hb := C.1.2.1
  rw [fX6_cut] at hf
  skip
  refine lv_iload_n hx hb dX6_cut_0 rfl (lv_at hl 1 rfl) ?_
  refine lv_iconst (v := 4) hx hb dX6_cut_1 (by decide) ?_
  obtain ⟨r2, hc1, hf⟩ := ob_some hf
  refine k_I w (q_S C w (c_X6_out ok hc1) wy_X6_out w_sta_yX6_out w_ml_RX6_89_yX6_out rfl rfl ⟨Nat.le_of_ble_eq_true rfl, Nat.le_of_ble_eq_true rfl⟩ rfl hl.1 rfl (Nat.le_of_ble_eq_true rfl) dX6_cut_2 ⟨Nat.le_refl _, Nat.le_refl _⟩) (fun H locs w => ?_)
  refine lv_if_eq (tgt := 10) hx hb dX6_cut_5 (by decide) (fun c4 => ?_) (fun c4 => ?_)
  · rw [if_pos c4] at hf
    refine lv_aload_n hx hb dX6_cut_10 rfl (lv_at hl 0 rfl) ?_
    refine lv_iload_n hx hb dX6_cut_11 rfl (lv_at hl 1 rfl) ?_
    obtain ⟨r6, hc5, hf⟩ := ob_some hf
    refine k_I w (q_V C w (c_X6_busy ok hc5) wy_X6_busy wi_X6_busy w_ml_RX6_93_yX6_busy iM0 eM0 vc6 rfl rfl ⟨Nat.le_of_ble_eq_true rfl, Nat.le_of_ble_eq_true rfl⟩ rfl hl.1 rfl (Nat.le_of_ble_eq_true rfl) dX6_cut_12 ⟨Nat.le_refl _, Nat.le_refl _⟩) (fun H locs w => ?_)
    refine lv_if_ne (tgt := 32) hx hb dX6_cut_15 (by decide) (fun c8 => ?_) (fun c8 => ?_)
    · rw [if_neg c8] at hf
      refine lv_iconst (v := 0) hx hb dX6_cut_32 (by decide) ?_
      cases hf
      exact r_zret C hr hlk w (by decide) dX6_cut_33
    · rw [if_pos c8] at hf
      refine lv_iload_n hx hb dX6_cut_18 rfl (lv_at hl 2 rfl) ?_
      refine lv_if_lt (tgt := 32) hx hb dX6_cut_19 (by decide) (fun c9 => ?_) (fun c9 => ?_)
      · rw [if_pos c9] at hf
        refine lv_iconst (v := 0) hx hb dX6_cut_32 (by decide) ?_
        cases hf
        exact r_zret C hr hlk w (by decide) dX6_cut_33
      · rw [if_neg c9] at hf
        refine lv_iload_n hx hb dX6_cut_22 rfl (lv_at hl 2 rfl) ?_
        refine lv_aload_n hx hb dX6_cut_23 rfl (lv_at hl 0 rfl) ?_
        refine r_get C w iM0 eM0 vc6 inlX6 3 (by decide) w_fl_RX6_19_AtomicThreadsModel_size_I rfl dX6_cut_24 ?_
        refine lv_iload_n hx hb dX6_cut_27 rfl (lv_at hl 1 rfl) ?_
        obtain ⟨g10, hf⟩ := gd_some hf
        refine r_iald C w iM4 aM4 g10 dX6_cut_28 ?_
        refine lv_icmp_le (tgt := 34) hx hb dX6_cut_29 (by decide) (fun c11 => ?_) (fun c11 => ?_)
        · rw [if_pos c11] at hf
          refine lv_aload_n hx hb dX6_cut_34 rfl (lv_at hl 0 rfl) ?_
          refine r_get C w iM0 eM0 vc6 inlX6 3 (by decide) w_fl_RX6_19_AtomicThreadsModel_size_I rfl dX6_cut_35 ?_
          refine lv_iload_n hx hb dX6_cut_38 rfl (lv_at hl 1 rfl) ?_
          refine lv_iload_n hx hb dX6_cut_39 rfl (lv_at hl 2 rfl) ?_
          obtain ⟨g12, hf⟩ := gd_some hf
          refine r_iast C w iM4 aM4 g12 dX6_cut_40 (fun H locs w => ?_)
          obtain ⟨V13, e14, hf⟩ := bnd_some hf
          rw [← e14] at w
          refine lv_aload_n hx hb dX6_cut_41 rfl (lv_at hl 0 rfl) ?_
          refine r_get C w iM0 eM0 vc6 inlX6 4 (by decide) w_fl_RX6_22_AtomicThreadsModel_state_I rfl dX6_cut_42 ?_
          refine lv_iload_n hx hb dX6_cut_45 rfl (lv_at hl 1 rfl) ?_
          refine lv_iconst (v := 0) hx hb dX6_cut_46 (by decide) ?_
          obtain ⟨g15, hf⟩ := gd_some hf
          refine r_iast C w iM5 aM5 g15 dX6_cut_47 (fun H locs w => ?_)
          obtain ⟨V16, e17, hf⟩ := bnd_some hf
          rw [← e17] at w
          refine lv_iconst (v := 1) hx hb dX6_cut_48 (by decide) ?_
          cases hf
          exact r_zret C hr hlk w (by decide) dX6_cut_49
        · rw [if_neg c11] at hf
          refine lv_iconst (v := 0) hx hb dX6_cut_32 (by decide) ?_
          cases hf
          exact r_zret C hr hlk w (by decide) dX6_cut_33
  · rw [if_neg c4] at hf
    refine lv_iconst (v := 0) hx hb dX6_cut_8 (by decide) ?_
    cases hf
    exact r_zret C hr hlk w (by decide) dX6_cut_9
set_option maxHeartbeats 4000000 in
set_option maxRecDepth 100000 in
theorem c_X6_halfway (ok : Wok EM idM a) {V : Sto} {r : Int32} {x1 : Int32} {x2 : Int32} (hf : fX6_halfway V x1 x2 = some r) : MtI l cy D EM idM a yX6_halfway cX6_halfway 3 .boolean rm_X6_halfway [.ref (a (0, 0, 0)), .int x1, .int x2] V r V := by
  refine ofM (by decide +kernel) ok (Nat.le_of_ble_eq_true rfl) (fun p e s m args below meth c C hr hlk w ls hl => ?_)
  have hx := C.1.1
  have hb := C.1.2.1
  rw [fX6_halfway] at hf
  skip
  refine lv_iload_n hx hb dX6_halfway_0 rfl (lv_at hl 1 rfl) ?_
  refine lv_if_le (tgt := 31) hx hb dX6_halfway_1 (by decide) (fun c1 => ?_) (fun c1 => ?_)
  · rw [if_pos c1] at hf
    refine lv_iconst (v := 0) hx hb dX6_halfway_31 (by decide) ?_
    cases hf
    exact r_zret C hr hlk w (by decide) dX6_halfway_32
  · rw [if_neg c1] at hf
    refine lv_aload_n hx hb dX6_halfway_4 rfl (lv_at hl 0 rfl) ?_
    refine r_get C w iM0 eM0 vc6 inlX6 26 (by decide) w_fl_RX6_83_AtomicThreadsModel_open_I rfl dX6_halfway_5 ?_
    refine lv_iload_n hx hb dX6_halfway_8 rfl (lv_at hl 1 rfl) ?_
    refine lv_iconst (v := 1) hx hb dX6_halfway_9 (by decide) ?_
    refine lv_isub hx hb dX6_halfway_10 ?_
    obtain ⟨g2, hf⟩ := gd_some hf
    refine r_iald C w iM27 aM27 g2 dX6_halfway_11 ?_
    refine lv_iload_n hx hb dX6_halfway_12 rfl (lv_at hl 2 rfl) ?_
    refine lv_icmp_ne (tgt := 31) hx hb dX6_halfway_13 (by decide) (fun c3 => ?_) (fun c3 => ?_)
    · rw [if_neg c3] at hf
      refine lv_iconst (v := 0) hx hb dX6_halfway_31 (by decide) ?_
      cases hf
      exact r_zret C hr hlk w (by decide) dX6_halfway_32
    · rw [if_pos c3] at hf
      refine lv_aload_n hx hb dX6_halfway_16 rfl (lv_at hl 0 rfl) ?_
      refine r_get C w iM0 eM0 vc6 inlX6 27 (by decide) w_fl_RX6_86_AtomicThreadsModel_middle_Z rfl dX6_halfway_17 ?_
      refine lv_iload_n hx hb dX6_halfway_20 rfl (lv_at hl 1 rfl) ?_
      refine lv_iconst (v := 1) hx hb dX6_halfway_21 (by decide) ?_
      refine lv_isub hx hb dX6_halfway_22 ?_
      obtain ⟨g4, hf⟩ := gd_some hf
      refine r_zald C w iM28 aM28 g4 dX6_halfway_23 ?_
      refine lv_if_ne (tgt := 31) hx hb dX6_halfway_24 (by decide) (fun c5 => ?_) (fun c5 => ?_)
      · rw [if_neg c5] at hf
        refine lv_iconst (v := 0) hx hb dX6_halfway_31 (by decide) ?_
        cases hf
        exact r_zret C hr hlk w (by decide) dX6_halfway_32
      · rw [if_pos c5] at hf
        refine lv_iconst (v := 1) hx hb dX6_halfway_27 (by decide) ?_
        refine lv_goto (tgt := 32) hx hb dX6_halfway_28 (by decide) ?_
        cases hf
        exact r_zret C hr hlk w (by decide) dX6_halfway_32
set_option maxHeartbeats 4000000 in
set_option maxRecDepth 100000 in
theorem c_X6_wrong (ok : Wok EM idM a) {V : Sto} {r : Int32} {x1 : Int32} {x2 : Int32} {x3 : Int32} (hf : fX6_wrong V x1 x2 x3 = some r) : MtI l cy D EM idM a yX6_wrong cX6_wrong 4 .boolean rm_X6_wrong [.ref (a (0, 0, 0)), .int x1, .int x2, .int x3] V r V := by
  refine ofM (by decide +kernel) ok (Nat.le_of_ble_eq_true rfl) (fun p e s m args below meth c C hr hlk w ls hl => ?_)
  have hx := C.1.1
  have hb := C.1.2.1
  rw [fX6_wrong] at hf
  skip
  refine lv_iload_n hx hb dX6_wrong_0 rfl (lv_at hl 1 rfl) ?_
  by_cases c1 : x1 = 3
  · rw [if_pos c1] at hf
    refine lv_tableIn (off := 149) (tgt := 150) hx hb dX6_wrong_1 (by rw [c1]; decide) (by rw [c1]; decide) (by rw [c1]; rfl) (by decide) ?_
    refine lv_iload_n hx hb dX6_wrong_150 rfl (lv_at hl 3 rfl) ?_
    refine lv_if_ne (tgt := 158) hx hb dX6_wrong_151 (by decide) (fun c2 => ?_) (fun c2 => ?_)
    · rw [if_neg c2] at hf
      refine lv_iconst (v := 0) hx hb dX6_wrong_158 (by decide) ?_
      cases hf
      exact r_zret C hr hlk w (by decide) dX6_wrong_159
    · rw [if_pos c2] at hf
      refine lv_iconst (v := 1) hx hb dX6_wrong_154 (by decide) ?_
      refine lv_goto (tgt := 159) hx hb dX6_wrong_155 (by decide) ?_
      cases hf
      exact r_zret C hr hlk w (by decide) dX6_wrong_159
  rw [if_neg c1] at hf
  by_cases c3 : x1 = 4
  · rw [if_pos c3] at hf
    refine lv_tableIn (off := 159) (tgt := 160) hx hb dX6_wrong_1 (by rw [c3]; decide) (by rw [c3]; decide) (by rw [c3]; rfl) (by decide) ?_
    refine lv_iload_n hx hb dX6_wrong_160 rfl (lv_at hl 3 rfl) ?_
    refine lv_if_ne (tgt := 168) hx hb dX6_wrong_161 (by decide) (fun c4 => ?_) (fun c4 => ?_)
    · rw [if_neg c4] at hf
      refine lv_iconst (v := 0) hx hb dX6_wrong_168 (by decide) ?_
      cases hf
      exact r_zret C hr hlk w (by decide) dX6_wrong_169
    · rw [if_pos c4] at hf
      refine lv_iconst (v := 1) hx hb dX6_wrong_164 (by decide) ?_
      refine lv_goto (tgt := 169) hx hb dX6_wrong_165 (by decide) ?_
      cases hf
      exact r_zret C hr hlk w (by decide) dX6_wrong_169
  rw [if_neg c3] at hf
  by_cases c5 : x1 = 5
  · rw [if_pos c5] at hf
    refine lv_tableIn (off := 194) (tgt := 195) hx hb dX6_wrong_1 (by rw [c5]; decide) (by rw [c5]; decide) (by rw [c5]; rfl) (by decide) ?_
    refine lv_iload_n hx hb dX6_wrong_195 rfl (lv_at hl 3 rfl) ?_
    obtain ⟨g6, hf⟩ := gd_some hf
    cases hf
    exact r_zret C hr hlk w g6 dX6_wrong_196
  rw [if_neg c5] at hf
  by_cases c7 : x1 = 6
  · rw [if_pos c7] at hf
    refine lv_tableIn (off := 196) (tgt := 197) hx hb dX6_wrong_1 (by rw [c7]; decide) (by rw [c7]; decide) (by rw [c7]; rfl) (by decide) ?_
    refine lv_iload_n hx hb dX6_wrong_197 rfl (lv_at hl 3 rfl) ?_
    refine lv_if_ne (tgt := 206) hx hb dX6_wrong_198 (by decide) (fun c8 => ?_) (fun c8 => ?_)
    · rw [if_neg c8] at hf
      refine lv_iconst (v := 1) hx hb dX6_wrong_206 (by decide) ?_
      refine lv_goto (tgt := 211) hx hb dX6_wrong_207 (by decide) ?_
      cases hf
      exact r_zret C hr hlk w (by decide) dX6_wrong_211
    · rw [if_pos c8] at hf
      refine lv_iload_n hx hb dX6_wrong_201 rfl (lv_at hl 2 rfl) ?_
      refine lv_iconst (v := 5) hx hb dX6_wrong_202 (by decide) ?_
      refine lv_icmp_ne (tgt := 210) hx hb dX6_wrong_203 (by decide) (fun c9 => ?_) (fun c9 => ?_)
      · rw [if_neg c9] at hf
        refine lv_iconst (v := 0) hx hb dX6_wrong_210 (by decide) ?_
        cases hf
        exact r_zret C hr hlk w (by decide) dX6_wrong_211
      · rw [if_pos c9] at hf
        refine lv_iconst (v := 1) hx hb dX6_wrong_206 (by decide) ?_
        refine lv_goto (tgt := 211) hx hb dX6_wrong_207 (by decide) ?_
        cases hf
        exact r_zret C hr hlk w (by decide) dX6_wrong_211
  rw [if_neg c7] at hf
  by_cases c10 : x1 = 7
  · rw [if_pos c10] at hf
    refine lv_tableIn (off := 71) (tgt := 72) hx hb dX6_wrong_1 (by rw [c10]; decide) (by rw [c10]; decide) (by rw [c10]; rfl) (by decide) ?_
    refine lv_iload_n hx hb dX6_wrong_72 rfl (lv_at hl 2 rfl) ?_
    refine lv_if_eq (tgt := 96) hx hb dX6_wrong_73 (by decide) (fun c11 => ?_) (fun c11 => ?_)
    · rw [if_pos c11] at hf
      refine lv_iconst (v := 1) hx hb dX6_wrong_96 (by decide) ?_
      refine lv_goto (tgt := 101) hx hb dX6_wrong_97 (by decide) ?_
      cases hf
      exact r_zret C hr hlk w (by decide) dX6_wrong_101
    · rw [if_neg c11] at hf
      refine lv_aload_n hx hb dX6_wrong_76 rfl (lv_at hl 0 rfl) ?_
      refine lv_iload_n hx hb dX6_wrong_77 rfl (lv_at hl 2 rfl) ?_
      refine lv_bipush (v := 9) hx hb dX6_wrong_78 (by decide) ?_
      obtain ⟨r13, hc12, hf⟩ := ob_some hf
      refine k_I w (q_V C w (c_X6_halfway ok hc12) wy_X6_halfway wi_X6_halfway w_ml_RX6_101_yX6_halfway iM0 eM0 vc6 rfl rfl ⟨Nat.le_of_ble_eq_true rfl, Nat.le_of_ble_eq_true rfl⟩ rfl hl.1 rfl (Nat.le_of_ble_eq_true rfl) dX6_wrong_80 ⟨Nat.le_refl _, Nat.le_refl _⟩) (fun H locs w => ?_)
      refine lv_if_ne (tgt := 96) hx hb dX6_wrong_83 (by decide) (fun c15 => ?_) (fun c15 => ?_)
      · rw [if_neg c15] at hf
        refine lv_iconst (v := 1) hx hb dX6_wrong_96 (by decide) ?_
        refine lv_goto (tgt := 101) hx hb dX6_wrong_97 (by decide) ?_
        cases hf
        exact r_zret C hr hlk w (by decide) dX6_wrong_101
      · rw [if_pos c15] at hf
        refine lv_aload_n hx hb dX6_wrong_86 rfl (lv_at hl 0 rfl) ?_
        refine lv_iload_n hx hb dX6_wrong_87 rfl (lv_at hl 2 rfl) ?_
        refine lv_bipush (v := 15) hx hb dX6_wrong_88 (by decide) ?_
        obtain ⟨r17, hc16, hf⟩ := ob_some hf
        refine k_I w (q_V C w (c_X6_halfway ok hc16) wy_X6_halfway wi_X6_halfway w_ml_RX6_101_yX6_halfway iM0 eM0 vc6 rfl rfl ⟨Nat.le_of_ble_eq_true rfl, Nat.le_of_ble_eq_true rfl⟩ rfl hl.1 rfl (Nat.le_of_ble_eq_true rfl) dX6_wrong_90 ⟨Nat.le_refl _, Nat.le_refl _⟩) (fun H locs w => ?_)
        refine lv_if_eq (tgt := 100) hx hb dX6_wrong_93 (by decide) (fun c19 => ?_) (fun c19 => ?_)
        · rw [if_pos c19] at hf
          refine lv_iconst (v := 0) hx hb dX6_wrong_100 (by decide) ?_
          cases hf
          exact r_zret C hr hlk w (by decide) dX6_wrong_101
        · rw [if_neg c19] at hf
          refine lv_iconst (v := 1) hx hb dX6_wrong_96 (by decide) ?_
          refine lv_goto (tgt := 101) hx hb dX6_wrong_97 (by decide) ?_
          cases hf
          exact r_zret C hr hlk w (by decide) dX6_wrong_101
  rw [if_neg c10] at hf
  by_cases c20 : x1 = 8
  · rw [if_pos c20] at hf
    refine lv_tableIn (off := 169) (tgt := 170) hx hb dX6_wrong_1 (by rw [c20]; decide) (by rw [c20]; decide) (by rw [c20]; rfl) (by decide) ?_
    refine lv_iload_n hx hb dX6_wrong_170 rfl (lv_at hl 3 rfl) ?_
    refine lv_if_ne (tgt := 178) hx hb dX6_wrong_171 (by decide) (fun c21 => ?_) (fun c21 => ?_)
    · rw [if_neg c21] at hf
      refine lv_iconst (v := 0) hx hb dX6_wrong_178 (by decide) ?_
      cases hf
      exact r_zret C hr hlk w (by decide) dX6_wrong_179
    · rw [if_pos c21] at hf
      refine lv_iconst (v := 1) hx hb dX6_wrong_174 (by decide) ?_
      refine lv_goto (tgt := 179) hx hb dX6_wrong_175 (by decide) ?_
      cases hf
      exact r_zret C hr hlk w (by decide) dX6_wrong_179
  rw [if_neg c20] at hf
  by_cases c22 : x1 = 9
  · rw [if_pos c22] at hf
    refine lv_tableIn (off := 179) (tgt := 180) hx hb dX6_wrong_1 (by rw [c22]; decide) (by rw [c22]; decide) (by rw [c22]; rfl) (by decide) ?_
    refine lv_iload_n hx hb dX6_wrong_180 rfl (lv_at hl 3 rfl) ?_
    refine lv_if_eq (tgt := 189) hx hb dX6_wrong_181 (by decide) (fun c23 => ?_) (fun c23 => ?_)
    · rw [if_pos c23] at hf
      refine lv_iconst (v := 1) hx hb dX6_wrong_189 (by decide) ?_
      refine lv_goto (tgt := 194) hx hb dX6_wrong_190 (by decide) ?_
      cases hf
      exact r_zret C hr hlk w (by decide) dX6_wrong_194
    · rw [if_neg c23] at hf
      refine lv_iload_n hx hb dX6_wrong_184 rfl (lv_at hl 2 rfl) ?_
      refine lv_iconst (v := 5) hx hb dX6_wrong_185 (by decide) ?_
      refine lv_icmp_ne (tgt := 193) hx hb dX6_wrong_186 (by decide) (fun c24 => ?_) (fun c24 => ?_)
      · rw [if_neg c24] at hf
        refine lv_iconst (v := 0) hx hb dX6_wrong_193 (by decide) ?_
        cases hf
        exact r_zret C hr hlk w (by decide) dX6_wrong_194
      · rw [if_pos c24] at hf
        refine lv_iconst (v := 1) hx hb dX6_wrong_189 (by decide) ?_
        refine lv_goto (tgt := 194) hx hb dX6_wrong_190 (by decide) ?_
        cases hf
        exact r_zret C hr hlk w (by decide) dX6_wrong_194
  rw [if_neg c22] at hf
  by_cases c25 : x1 = 10
  · rw [if_pos c25] at hf
    refine lv_tableIn (off := 101) (tgt := 102) hx hb dX6_wrong_1 (by rw [c25]; decide) (by rw [c25]; decide) (by rw [c25]; rfl) (by decide) ?_
    refine lv_aload_n hx hb dX6_wrong_102 rfl (lv_at hl 0 rfl) ?_
    refine lv_iload_n hx hb dX6_wrong_103 rfl (lv_at hl 2 rfl) ?_
    refine lv_bipush (v := 9) hx hb dX6_wrong_104 (by decide) ?_
    obtain ⟨r27, hc26, hf⟩ := ob_some hf
    refine k_I w (q_V C w (c_X6_halfway ok hc26) wy_X6_halfway wi_X6_halfway w_ml_RX6_101_yX6_halfway iM0 eM0 vc6 rfl rfl ⟨Nat.le_of_ble_eq_true rfl, Nat.le_of_ble_eq_true rfl⟩ rfl hl.1 rfl (Nat.le_of_ble_eq_true rfl) dX6_wrong_106 ⟨Nat.le_refl _, Nat.le_refl _⟩) (fun H locs w => ?_)
    refine lv_if_ne (tgt := 116) hx hb dX6_wrong_109 (by decide) (fun c29 => ?_) (fun c29 => ?_)
    · rw [if_neg c29] at hf
      refine lv_iconst (v := 0) hx hb dX6_wrong_116 (by decide) ?_
      cases hf
      exact r_zret C hr hlk w (by decide) dX6_wrong_117
    · rw [if_pos c29] at hf
      refine lv_iconst (v := 1) hx hb dX6_wrong_112 (by decide) ?_
      refine lv_goto (tgt := 117) hx hb dX6_wrong_113 (by decide) ?_
      cases hf
      exact r_zret C hr hlk w (by decide) dX6_wrong_117
  rw [if_neg c25] at hf
  by_cases c30 : x1 = 11
  · rw [if_pos c30] at hf
    refine lv_tableIn (off := 211) (tgt := 212) hx hb dX6_wrong_1 (by rw [c30]; decide) (by rw [c30]; decide) (by rw [c30]; rfl) (by decide) ?_
    refine lv_iload_n hx hb dX6_wrong_212 rfl (lv_at hl 1 rfl) ?_
    obtain ⟨r32, hc31, hf⟩ := ob_some hf
    refine k_I w (q_S C w (c_X6_opens ok hc31) wy_X6_opens w_sta_yX6_opens w_ml_RX6_104_yX6_opens rfl rfl ⟨Nat.le_of_ble_eq_true rfl, Nat.le_of_ble_eq_true rfl⟩ rfl hl.1 rfl (Nat.le_of_ble_eq_true rfl) dX6_wrong_213 ⟨Nat.le_refl _, Nat.le_refl _⟩) (fun H locs w => ?_)
    refine lv_if_eq (tgt := 228) hx hb dX6_wrong_216 (by decide) (fun c34 => ?_) (fun c34 => ?_)
    · rw [if_pos c34] at hf
      refine lv_iconst (v := 0) hx hb dX6_wrong_228 (by decide) ?_
      cases hf
      exact r_zret C hr hlk w (by decide) dX6_wrong_229
    · rw [if_neg c34] at hf
      refine lv_iload_n hx hb dX6_wrong_219 rfl (lv_at hl 2 rfl) ?_
      refine lv_iconst (v := 5) hx hb dX6_wrong_220 (by decide) ?_
      refine lv_icmp_ne (tgt := 228) hx hb dX6_wrong_221 (by decide) (fun c35 => ?_) (fun c35 => ?_)
      · rw [if_neg c35] at hf
        refine lv_iconst (v := 0) hx hb dX6_wrong_228 (by decide) ?_
        cases hf
        exact r_zret C hr hlk w (by decide) dX6_wrong_229
      · rw [if_pos c35] at hf
        refine lv_iconst (v := 1) hx hb dX6_wrong_224 (by decide) ?_
        refine lv_goto (tgt := 229) hx hb dX6_wrong_225 (by decide) ?_
        cases hf
        exact r_zret C hr hlk w (by decide) dX6_wrong_229
  rw [if_neg c30] at hf
  by_cases c36 : x1 = 12
  · rw [if_pos c36] at hf
    refine lv_tableIn (off := 117) (tgt := 118) hx hb dX6_wrong_1 (by rw [c36]; decide) (by rw [c36]; decide) (by rw [c36]; rfl) (by decide) ?_
    refine lv_aload_n hx hb dX6_wrong_118 rfl (lv_at hl 0 rfl) ?_
    refine lv_iload_n hx hb dX6_wrong_119 rfl (lv_at hl 2 rfl) ?_
    refine lv_bipush (v := 11) hx hb dX6_wrong_120 (by decide) ?_
    obtain ⟨r38, hc37, hf⟩ := ob_some hf
    refine k_I w (q_V C w (c_X6_halfway ok hc37) wy_X6_halfway wi_X6_halfway w_ml_RX6_101_yX6_halfway iM0 eM0 vc6 rfl rfl ⟨Nat.le_of_ble_eq_true rfl, Nat.le_of_ble_eq_true rfl⟩ rfl hl.1 rfl (Nat.le_of_ble_eq_true rfl) dX6_wrong_122 ⟨Nat.le_refl _, Nat.le_refl _⟩) (fun H locs w => ?_)
    refine lv_if_ne (tgt := 132) hx hb dX6_wrong_125 (by decide) (fun c40 => ?_) (fun c40 => ?_)
    · rw [if_neg c40] at hf
      refine lv_iconst (v := 0) hx hb dX6_wrong_132 (by decide) ?_
      cases hf
      exact r_zret C hr hlk w (by decide) dX6_wrong_133
    · rw [if_pos c40] at hf
      refine lv_iconst (v := 1) hx hb dX6_wrong_128 (by decide) ?_
      refine lv_goto (tgt := 133) hx hb dX6_wrong_129 (by decide) ?_
      cases hf
      exact r_zret C hr hlk w (by decide) dX6_wrong_133
  rw [if_neg c36] at hf
  by_cases c41 : x1 = 13
  · rw [if_pos c41] at hf
    refine lv_tableIn (off := 211) (tgt := 212) hx hb dX6_wrong_1 (by rw [c41]; decide) (by rw [c41]; decide) (by rw [c41]; rfl) (by decide) ?_
    refine lv_iload_n hx hb dX6_wrong_212 rfl (lv_at hl 1 rfl) ?_
    obtain ⟨r43, hc42, hf⟩ := ob_some hf
    refine k_I w (q_S C w (c_X6_opens ok hc42) wy_X6_opens w_sta_yX6_opens w_ml_RX6_104_yX6_opens rfl rfl ⟨Nat.le_of_ble_eq_true rfl, Nat.le_of_ble_eq_true rfl⟩ rfl hl.1 rfl (Nat.le_of_ble_eq_true rfl) dX6_wrong_213 ⟨Nat.le_refl _, Nat.le_refl _⟩) (fun H locs w => ?_)
    refine lv_if_eq (tgt := 228) hx hb dX6_wrong_216 (by decide) (fun c45 => ?_) (fun c45 => ?_)
    · rw [if_pos c45] at hf
      refine lv_iconst (v := 0) hx hb dX6_wrong_228 (by decide) ?_
      cases hf
      exact r_zret C hr hlk w (by decide) dX6_wrong_229
    · rw [if_neg c45] at hf
      refine lv_iload_n hx hb dX6_wrong_219 rfl (lv_at hl 2 rfl) ?_
      refine lv_iconst (v := 5) hx hb dX6_wrong_220 (by decide) ?_
      refine lv_icmp_ne (tgt := 228) hx hb dX6_wrong_221 (by decide) (fun c46 => ?_) (fun c46 => ?_)
      · rw [if_neg c46] at hf
        refine lv_iconst (v := 0) hx hb dX6_wrong_228 (by decide) ?_
        cases hf
        exact r_zret C hr hlk w (by decide) dX6_wrong_229
      · rw [if_pos c46] at hf
        refine lv_iconst (v := 1) hx hb dX6_wrong_224 (by decide) ?_
        refine lv_goto (tgt := 229) hx hb dX6_wrong_225 (by decide) ?_
        cases hf
        exact r_zret C hr hlk w (by decide) dX6_wrong_229
  rw [if_neg c41] at hf
  by_cases c47 : x1 = 14
  · rw [if_pos c47] at hf
    refine lv_tableIn (off := 211) (tgt := 212) hx hb dX6_wrong_1 (by rw [c47]; decide) (by rw [c47]; decide) (by rw [c47]; rfl) (by decide) ?_
    refine lv_iload_n hx hb dX6_wrong_212 rfl (lv_at hl 1 rfl) ?_
    obtain ⟨r49, hc48, hf⟩ := ob_some hf
    refine k_I w (q_S C w (c_X6_opens ok hc48) wy_X6_opens w_sta_yX6_opens w_ml_RX6_104_yX6_opens rfl rfl ⟨Nat.le_of_ble_eq_true rfl, Nat.le_of_ble_eq_true rfl⟩ rfl hl.1 rfl (Nat.le_of_ble_eq_true rfl) dX6_wrong_213 ⟨Nat.le_refl _, Nat.le_refl _⟩) (fun H locs w => ?_)
    refine lv_if_eq (tgt := 228) hx hb dX6_wrong_216 (by decide) (fun c51 => ?_) (fun c51 => ?_)
    · rw [if_pos c51] at hf
      refine lv_iconst (v := 0) hx hb dX6_wrong_228 (by decide) ?_
      cases hf
      exact r_zret C hr hlk w (by decide) dX6_wrong_229
    · rw [if_neg c51] at hf
      refine lv_iload_n hx hb dX6_wrong_219 rfl (lv_at hl 2 rfl) ?_
      refine lv_iconst (v := 5) hx hb dX6_wrong_220 (by decide) ?_
      refine lv_icmp_ne (tgt := 228) hx hb dX6_wrong_221 (by decide) (fun c52 => ?_) (fun c52 => ?_)
      · rw [if_neg c52] at hf
        refine lv_iconst (v := 0) hx hb dX6_wrong_228 (by decide) ?_
        cases hf
        exact r_zret C hr hlk w (by decide) dX6_wrong_229
      · rw [if_pos c52] at hf
        refine lv_iconst (v := 1) hx hb dX6_wrong_224 (by decide) ?_
        refine lv_goto (tgt := 229) hx hb dX6_wrong_225 (by decide) ?_
        cases hf
        exact r_zret C hr hlk w (by decide) dX6_wrong_229
  rw [if_neg c47] at hf
  by_cases c53 : x1 = 15
  · rw [if_pos c53] at hf
    refine lv_tableIn (off := 211) (tgt := 212) hx hb dX6_wrong_1 (by rw [c53]; decide) (by rw [c53]; decide) (by rw [c53]; rfl) (by decide) ?_
    refine lv_iload_n hx hb dX6_wrong_212 rfl (lv_at hl 1 rfl) ?_
    obtain ⟨r55, hc54, hf⟩ := ob_some hf
    refine k_I w (q_S C w (c_X6_opens ok hc54) wy_X6_opens w_sta_yX6_opens w_ml_RX6_104_yX6_opens rfl rfl ⟨Nat.le_of_ble_eq_true rfl, Nat.le_of_ble_eq_true rfl⟩ rfl hl.1 rfl (Nat.le_of_ble_eq_true rfl) dX6_wrong_213 ⟨Nat.le_refl _, Nat.le_refl _⟩) (fun H locs w => ?_)
    refine lv_if_eq (tgt := 228) hx hb dX6_wrong_216 (by decide) (fun c57 => ?_) (fun c57 => ?_)
    · rw [if_pos c57] at hf
      refine lv_iconst (v := 0) hx hb dX6_wrong_228 (by decide) ?_
      cases hf
      exact r_zret C hr hlk w (by decide) dX6_wrong_229
    · rw [if_neg c57] at hf
      refine lv_iload_n hx hb dX6_wrong_219 rfl (lv_at hl 2 rfl) ?_
      refine lv_iconst (v := 5) hx hb dX6_wrong_220 (by decide) ?_
      refine lv_icmp_ne (tgt := 228) hx hb dX6_wrong_221 (by decide) (fun c58 => ?_) (fun c58 => ?_)
      · rw [if_neg c58] at hf
        refine lv_iconst (v := 0) hx hb dX6_wrong_228 (by decide) ?_
        cases hf
        exact r_zret C hr hlk w (by decide) dX6_wrong_229
      · rw [if_pos c58] at hf
        refine lv_iconst (v := 1) hx hb dX6_wrong_224 (by decide) ?_
        refine lv_goto (tgt := 229) hx hb dX6_wrong_225 (by decide) ?_
        cases hf
        exact r_zret C hr hlk w (by decide) dX6_wrong_229
  rw [if_neg c53] at hf
  by_cases c59 : x1 = 16
  · rw [if_pos c59] at hf
    refine lv_tableIn (off := 133) (tgt := 134) hx hb dX6_wrong_1 (by rw [c59]; decide) (by rw [c59]; decide) (by rw [c59]; rfl) (by decide) ?_
    refine lv_aload_n hx hb dX6_wrong_134 rfl (lv_at hl 0 rfl) ?_
    refine lv_iload_n hx hb dX6_wrong_135 rfl (lv_at hl 2 rfl) ?_
    refine lv_bipush (v := 15) hx hb dX6_wrong_136 (by decide) ?_
    obtain ⟨r61, hc60, hf⟩ := ob_some hf
    refine k_I w (q_V C w (c_X6_halfway ok hc60) wy_X6_halfway wi_X6_halfway w_ml_RX6_101_yX6_halfway iM0 eM0 vc6 rfl rfl ⟨Nat.le_of_ble_eq_true rfl, Nat.le_of_ble_eq_true rfl⟩ rfl hl.1 rfl (Nat.le_of_ble_eq_true rfl) dX6_wrong_138 ⟨Nat.le_refl _, Nat.le_refl _⟩) (fun H locs w => ?_)
    refine lv_if_ne (tgt := 148) hx hb dX6_wrong_141 (by decide) (fun c63 => ?_) (fun c63 => ?_)
    · rw [if_neg c63] at hf
      refine lv_iconst (v := 0) hx hb dX6_wrong_148 (by decide) ?_
      cases hf
      exact r_zret C hr hlk w (by decide) dX6_wrong_149
    · rw [if_pos c63] at hf
      refine lv_iconst (v := 1) hx hb dX6_wrong_144 (by decide) ?_
      refine lv_goto (tgt := 149) hx hb dX6_wrong_145 (by decide) ?_
      cases hf
      exact r_zret C hr hlk w (by decide) dX6_wrong_149
  rw [if_neg c59] at hf
  refine lv_tableOut (tgt := 212) hx hb dX6_wrong_1 (by have nc1 := lv_neT c1 (a := 3) (by decide); have nc3 := lv_neT c3 (a := 4) (by decide); have nc5 := lv_neT c5 (a := 5) (by decide); have nc7 := lv_neT c7 (a := 6) (by decide); have nc10 := lv_neT c10 (a := 7) (by decide); have nc20 := lv_neT c20 (a := 8) (by decide); have nc22 := lv_neT c22 (a := 9) (by decide); have nc25 := lv_neT c25 (a := 10) (by decide); have nc30 := lv_neT c30 (a := 11) (by decide); have nc36 := lv_neT c36 (a := 12) (by decide); have nc41 := lv_neT c41 (a := 13) (by decide); have nc47 := lv_neT c47 (a := 14) (by decide); have nc53 := lv_neT c53 (a := 15) (by decide); have nc59 := lv_neT c59 (a := 16) (by decide); omega) (by decide) ?_
  refine lv_iload_n hx hb dX6_wrong_212 rfl (lv_at hl 1 rfl) ?_
  obtain ⟨r65, hc64, hf⟩ := ob_some hf
  refine k_I w (q_S C w (c_X6_opens ok hc64) wy_X6_opens w_sta_yX6_opens w_ml_RX6_104_yX6_opens rfl rfl ⟨Nat.le_of_ble_eq_true rfl, Nat.le_of_ble_eq_true rfl⟩ rfl hl.1 rfl (Nat.le_of_ble_eq_true rfl) dX6_wrong_213 ⟨Nat.le_refl _, Nat.le_refl _⟩) (fun H locs w => ?_)
  refine lv_if_eq (tgt := 228) hx hb dX6_wrong_216 (by decide) (fun c67 => ?_) (fun c67 => ?_)
  · rw [if_pos c67] at hf
    refine lv_iconst (v := 0) hx hb dX6_wrong_228 (by decide) ?_
    cases hf
    exact r_zret C hr hlk w (by decide) dX6_wrong_229
  · rw [if_neg c67] at hf
    refine lv_iload_n hx hb dX6_wrong_219 rfl (lv_at hl 2 rfl) ?_
    refine lv_iconst (v := 5) hx hb dX6_wrong_220 (by decide) ?_
    refine lv_icmp_ne (tgt := 228) hx hb dX6_wrong_221 (by decide) (fun c68 => ?_) (fun c68 => ?_)
    · rw [if_neg c68] at hf
      refine lv_iconst (v := 0) hx hb dX6_wrong_228 (by decide) ?_
      cases hf
      exact r_zret C hr hlk w (by decide) dX6_wrong_229
    · rw [if_pos c68] at hf
      refine lv_iconst (v := 1) hx hb dX6_wrong_224 (by decide) ?_
      refine lv_goto (tgt := 229) hx hb dX6_wrong_225 (by decide) ?_
      cases hf
      exact r_zret C hr hlk w (by decide) dX6_wrong_229
end S32_metM00
