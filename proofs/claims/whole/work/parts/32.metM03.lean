section S32_metM03
variable {p : Program} {l : Launch} {e : Env} {R : Room} {s : State} {m : MethodId} {args : Array Value} {below : List Frame} {meth : Method} {c : Code} {cy : Nat → ClassId} {D : va_G} {a : Id3 → Nat}
set_option maxHeartbeats 4000000 in
set_option maxRecDepth 100000 in
theorem jX6_latest_L6 (C : Cx cy D EM idM a p s m args c RX6 cX6_latest 7) (hr : meth.sig.returnType = some .int) (hlk : meth.locks = false) {Q : State → Prop} : ∀ (n : Nat) {V : Sto} {x1 : Int32} {x2 : Int32} {x4 : Int32} {x5 : Int32} {x4' : Int32} {H : Heap} {locs : List Loc} {ls : Array Slot}, Wd cy D EM idM a V s H locs → lv_has ls 7 [(0, .ref (a (0, 0, 0))), (1, .int x1), (2, .int x2), (4, .int x4), (5, .int x5)] → fX6_latest_L6 n V x1 x2 x4 x5 = some (x4') → (∀ (H1 : Heap) (locs1 : List Loc) (ls1 : Array Slot), Wd cy D EM idM a V s H1 locs1 → lv_has ls1 7 [(4, .int x4')] → W p l e rm_X6_latest s m args below meth c H1 locs1 0 0 (Q) (F0 m 62 ls1 [])) → W p l e rm_X6_latest s m args below meth c H locs 0 0 (Q) (F0 m 6 ls []) := by
  have hx := C.1.1
  have hb := C.1.2.1
  have ok := C.2.2.2
  intro n
  induction n with
  | zero => intro V x1 x2 x4 x5 x4' H locs ls w hl hf kk; cases hf
  | succ n ih =>
    intro V x1 x2 x4 x5 x4' H locs ls w hl hf kk
    rw [fX6_latest_L6] at hf
    refine lv_iload hx hb dX6_latest_6 (lv_at hl 4 rfl) ?_
    refine lv_aload_n hx hb dX6_latest_8 rfl (lv_at hl 0 rfl) ?_
    refine r_get C w iM0 eM0 vc6 inlX6 19 (by decide) w_fl_RX6_65_AtomicThreadsModel_parts_I rfl dX6_latest_9 ?_
    refine lv_iload_n hx hb dX6_latest_12 rfl (lv_at hl 1 rfl) ?_
    obtain ⟨g1, hf⟩ := gd_some hf
    refine r_iald C w iM20 aM20 g1 dX6_latest_13 ?_
    refine lv_icmp_ge (tgt := 62) hx hb dX6_latest_14 (by decide) (fun c2 => ?_) (fun c2 => ?_)
    · rw [if_pos c2] at hf
      cases hf
      exact kk _ _ _ w (lv_sub hl [3] rfl)
    · rw [if_neg c2] at hf
      refine lv_aload_n hx hb dX6_latest_17 rfl (lv_at hl 0 rfl) ?_
      refine r_get C w iM0 eM0 vc6 inlX6 20 (by decide) w_fl_RX6_68_AtomicThreadsModel_opener_I rfl dX6_latest_18 ?_
      refine lv_bipush (v := 6) hx hb dX6_latest_21 (by decide) ?_
      refine lv_iload_n hx hb dX6_latest_23 rfl (lv_at hl 1 rfl) ?_
      refine lv_imul hx hb dX6_latest_24 ?_
      refine lv_iload hx hb dX6_latest_25 (lv_at hl 4 rfl) ?_
      refine lv_iadd hx hb dX6_latest_27 ?_
      obtain ⟨g3, hf⟩ := gd_some hf
      refine r_iald C w iM21 aM21 g3 dX6_latest_28 ?_
      refine lv_istore hx hb dX6_latest_29 hl (by decide) rfl (fun ls hl => ?_)
      refine lv_aload_n hx hb dX6_latest_31 rfl (lv_at hl 1 rfl) ?_
      refine r_get C w iM0 eM0 vc6 inlX6 0 (by decide) w_fl_RX6_7_AtomicThreadsModel_kind_I rfl dX6_latest_32 ?_
      refine lv_bipush (v := 30) hx hb dX6_latest_35 (by decide) ?_
      refine lv_iload_n hx hb dX6_latest_37 rfl (lv_at hl 2 rfl) ?_
      refine lv_imul hx hb dX6_latest_38 ?_
      refine lv_iload hx hb dX6_latest_39 (lv_at hl 0 rfl) ?_
      refine lv_iadd hx hb dX6_latest_41 ?_
      obtain ⟨g4, hf⟩ := gd_some hf
      refine r_iald C w iM1 aM1 g4 dX6_latest_42 ?_
      refine lv_iload_n hx hb dX6_latest_43 rfl (lv_at hl 3 rfl) ?_
      refine lv_icmp_ne (tgt := 52) hx hb dX6_latest_44 (by decide) (fun c5 => ?_) (fun c5 => ?_)
      · rw [if_neg c5] at hf
        refine lv_iload hx hb dX6_latest_52 (lv_at hl 4 rfl) ?_
        refine lv_istore hx hb dX6_latest_54 hl (by decide) rfl (fun ls hl => ?_)
        refine lv_iinc (v := (x5 + 1)) hx hb dX6_latest_56 hl (k := 5) rfl (by rfl) (by decide) rfl (fun ls hl => ?_)
        refine lv_goto (tgt := 6) hx hb dX6_latest_59 (by decide) ?_
        exact ih w (lv_sub hl [3, 4, 5, 1, 0] rfl) hf kk
      · rw [if_pos c5] at hf
        refine lv_iload hx hb dX6_latest_47 (lv_at hl 5 rfl) ?_
        refine lv_goto (tgt := 54) hx hb dX6_latest_49 (by decide) ?_
        refine lv_istore hx hb dX6_latest_54 hl (by decide) rfl (fun ls hl => ?_)
        refine lv_iinc (v := (x5 + 1)) hx hb dX6_latest_56 hl (k := 5) rfl (by rfl) (by decide) rfl (fun ls hl => ?_)
        refine lv_goto (tgt := 6) hx hb dX6_latest_59 (by decide) ?_
        exact ih w (lv_sub hl [3, 4, 5, 1, 0] rfl) hf kk
set_option maxHeartbeats 4000000 in
set_option maxRecDepth 100000 in
theorem c_X6_latest (ok : Wok EM idM a) {V : Sto} {r : Int32} {x1 : Int32} {x2 : Int32} {x3 : Int32} (hf : fX6_latest V x1 x2 x3 = some r) : MtI l cy D EM idM a yX6_latest cX6_latest 7 .int rm_X6_latest [.ref (a (0, 0, 0)), .int x1, .int x2, .int x3] V r V := by
  refine ofM (by decide +kernel) ok (Nat.le_of_ble_eq_true rfl) (fun p e s m args below meth c C hr hlk w ls hl => ?_)
  have hx := C.1.1
  have hb := C.1.2.1
  rw [fX6_latest] at hf
  skip
  refine lv_iconst (v := (-1)) hx hb dX6_latest_0 (by decide) ?_
  refine lv_istore hx hb dX6_latest_1 hl (by decide) rfl (fun ls hl => ?_)
  refine lv_iload_n hx hb dX6_latest_3 rfl (lv_at hl 4 rfl) ?_
  refine lv_istore hx hb dX6_latest_4 hl (by decide) rfl (fun ls hl => ?_)
  obtain ⟨z7, hc6, hf⟩ := ob_some hf
  refine jX6_latest_L6 C hr hlk 40 w (lv_sub hl [2, 3, 4, 1, 0] rfl) hc6 (fun H locs ls w hl => ?_)
  refine lv_iload hx hb dX6_latest_62 (lv_at hl 0 rfl) ?_
  cases hf
  exact r_iret C hr hlk w dX6_latest_64
set_option maxHeartbeats 4000000 in
set_option maxRecDepth 100000 in
theorem jX6_back_L10 (C : Cx cy D EM idM a p s m args c RX6 cX6_back 5) (hr : meth.sig.returnType = some .int) (hlk : meth.locks = false) {Q : State → Prop} : ∀ (n : Nat) {V V' : Sto} {x1 : Int32} {x2 : Int32} {x3 : Int32} {x4 : Int32} {H : Heap} {locs : List Loc} {ls : Array Slot}, Wd cy D EM idM a V s H locs → lv_has ls 5 [(0, .ref (a (0, 0, 0))), (1, .int x1), (2, .int x2), (3, .int x3), (4, .int x4)] → fX6_back_L10 n V x1 x2 x3 x4 = some (V') → (∀ (H1 : Heap) (locs1 : List Loc) (ls1 : Array Slot), Wd cy D EM idM a V' s H1 locs1 → lv_has ls1 5 [(0, .ref (a (0, 0, 0))), (1, .int x1), (2, .int x2), (3, .int x3)] → W p l e rm_X6_back s m args below meth c H1 locs1 0 0 (Q) (F0 m 44 ls1 [])) → W p l e rm_X6_back s m args below meth c H locs 0 0 (Q) (F0 m 10 ls []) := by
  have hx := C.1.1
  have hb := C.1.2.1
  have ok := C.2.2.2
  intro n
  induction n with
  | zero => intro V V' x1 x2 x3 x4  H locs ls w hl hf kk; cases hf
  | succ n ih =>
    intro V V' x1 x2 x3 x4  H locs ls w hl hf kk
    rw [fX6_back_L10] at hf
    refine lv_iload hx hb dX6_back_10 (lv_at hl 4 rfl) ?_
    refine lv_iconst (v := 4) hx hb dX6_back_12 (by decide) ?_
    refine lv_icmp_ge (tgt := 44) hx hb dX6_back_13 (by decide) (fun c1 => ?_) (fun c1 => ?_)
    · rw [if_pos c1] at hf
      cases hf
      exact kk _ _ _ w (lv_sub hl [0, 1, 2, 3] rfl)
    · rw [if_neg c1] at hf
      refine lv_aload_n hx hb dX6_back_16 rfl (lv_at hl 0 rfl) ?_
      refine r_get C w iM0 eM0 vc6 inlX6 7 (by decide) w_fl_RX6_31_AtomicThreadsModel_register_I rfl dX6_back_17 ?_
      refine lv_iconst (v := 4) hx hb dX6_back_20 (by decide) ?_
      refine lv_iload_n hx hb dX6_back_21 rfl (lv_at hl 1 rfl) ?_
      refine lv_imul hx hb dX6_back_22 ?_
      refine lv_iload hx hb dX6_back_23 (lv_at hl 4 rfl) ?_
      refine lv_iadd hx hb dX6_back_25 ?_
      refine lv_aload_n hx hb dX6_back_26 rfl (lv_at hl 0 rfl) ?_
      refine r_get C w iM0 eM0 vc6 inlX6 21 (by decide) w_fl_RX6_71_AtomicThreadsModel_partRegister_I rfl dX6_back_27 ?_
      refine lv_iconst (v := 4) hx hb dX6_back_30 (by decide) ?_
      refine lv_iload_n hx hb dX6_back_31 rfl (lv_at hl 3 rfl) ?_
      refine lv_imul hx hb dX6_back_32 ?_
      refine lv_iload hx hb dX6_back_33 (lv_at hl 4 rfl) ?_
      refine lv_iadd hx hb dX6_back_35 ?_
      obtain ⟨g2, hf⟩ := gd_some hf
      refine r_iald C w iM22 aM22 g2 dX6_back_36 ?_
      obtain ⟨g3, hf⟩ := gd_some hf
      refine r_iast C w iM8 aM8 g3 dX6_back_37 (fun H locs w => ?_)
      obtain ⟨V4, e5, hf⟩ := bnd_some hf
      rw [← e5] at w
      refine lv_iinc (v := (x4 + 1)) hx hb dX6_back_38 hl (k := 4) rfl (by rfl) (by decide) rfl (fun ls hl => ?_)
      refine lv_goto (tgt := 10) hx hb dX6_back_41 (by decide) ?_
      exact ih w (lv_sub hl [1, 2, 3, 4, 0] rfl) hf kk
set_option maxHeartbeats 4000000 in
set_option maxRecDepth 100000 in
theorem jX6_back_L47 (C : Cx cy D EM idM a p s m args c RX6 cX6_back 5) (hr : meth.sig.returnType = some .int) (hlk : meth.locks = false) {Q : State → Prop} : ∀ (n : Nat) {V V' : Sto} {x1 : Int32} {x2 : Int32} {x3 : Int32} {x4 : Int32} {H : Heap} {locs : List Loc} {ls : Array Slot}, Wd cy D EM idM a V s H locs → lv_has ls 5 [(0, .ref (a (0, 0, 0))), (1, .int x1), (2, .int x2), (3, .int x3), (4, .int x4)] → fX6_back_L47 n V x1 x2 x3 x4 = some (V') → (∀ (H1 : Heap) (locs1 : List Loc) (ls1 : Array Slot), Wd cy D EM idM a V' s H1 locs1 → lv_has ls1 5 [(0, .ref (a (0, 0, 0))), (1, .int x1), (2, .int x2), (3, .int x3)] → W p l e rm_X6_back s m args below meth c H1 locs1 0 0 (Q) (F0 m 108 ls1 [])) → W p l e rm_X6_back s m args below meth c H locs 0 0 (Q) (F0 m 47 ls []) := by
  have hx := C.1.1
  have hb := C.1.2.1
  have ok := C.2.2.2
  intro n
  induction n with
  | zero => intro V V' x1 x2 x3 x4  H locs ls w hl hf kk; cases hf
  | succ n ih =>
    intro V V' x1 x2 x3 x4  H locs ls w hl hf kk
    rw [fX6_back_L47] at hf
    refine lv_iload hx hb dX6_back_47 (lv_at hl 4 rfl) ?_
    refine lv_bipush (v := 8) hx hb dX6_back_49 (by decide) ?_
    refine lv_icmp_ge (tgt := 108) hx hb dX6_back_51 (by decide) (fun c8 => ?_) (fun c8 => ?_)
    · rw [if_pos c8] at hf
      cases hf
      exact kk _ _ _ w (lv_sub hl [0, 1, 2, 3] rfl)
    · rw [if_neg c8] at hf
      refine lv_aload_n hx hb dX6_back_54 rfl (lv_at hl 0 rfl) ?_
      refine r_get C w iM0 eM0 vc6 inlX6 17 (by decide) w_fl_RX6_59_AtomicThreadsModel_written_Z rfl dX6_back_55 ?_
      refine lv_bipush (v := 8) hx hb dX6_back_58 (by decide) ?_
      refine lv_iload_n hx hb dX6_back_60 rfl (lv_at hl 1 rfl) ?_
      refine lv_imul hx hb dX6_back_61 ?_
      refine lv_iload hx hb dX6_back_62 (lv_at hl 4 rfl) ?_
      refine lv_iadd hx hb dX6_back_64 ?_
      refine lv_aload_n hx hb dX6_back_65 rfl (lv_at hl 0 rfl) ?_
      refine r_get C w iM0 eM0 vc6 inlX6 22 (by decide) w_fl_RX6_74_AtomicThreadsModel_partWritten_Z rfl dX6_back_66 ?_
      refine lv_bipush (v := 8) hx hb dX6_back_69 (by decide) ?_
      refine lv_iload_n hx hb dX6_back_71 rfl (lv_at hl 3 rfl) ?_
      refine lv_imul hx hb dX6_back_72 ?_
      refine lv_iload hx hb dX6_back_73 (lv_at hl 4 rfl) ?_
      refine lv_iadd hx hb dX6_back_75 ?_
      obtain ⟨g9, hf⟩ := gd_some hf
      refine r_zald C w iM23 aM23 g9 dX6_back_76 ?_
      obtain ⟨g10, hf⟩ := gd_some hf
      refine r_zast C w iM18 aM18 g10 dX6_back_77 (fun H locs w => ?_)
      obtain ⟨V11, e12, hf⟩ := bnd_some hf
      rw [← e12] at w
      refine lv_aload_n hx hb dX6_back_78 rfl (lv_at hl 0 rfl) ?_
      refine r_get C w iM0 eM0 vc6 inlX6 18 (by decide) w_fl_RX6_62_AtomicThreadsModel_wrote_I rfl dX6_back_79 ?_
      refine lv_bipush (v := 8) hx hb dX6_back_82 (by decide) ?_
      refine lv_iload_n hx hb dX6_back_84 rfl (lv_at hl 1 rfl) ?_
      refine lv_imul hx hb dX6_back_85 ?_
      refine lv_iload hx hb dX6_back_86 (lv_at hl 4 rfl) ?_
      refine lv_iadd hx hb dX6_back_88 ?_
      refine lv_aload_n hx hb dX6_back_89 rfl (lv_at hl 0 rfl) ?_
      refine r_get C w iM0 eM0 vc6 inlX6 23 (by decide) w_fl_RX6_77_AtomicThreadsModel_partWrote_I rfl dX6_back_90 ?_
      refine lv_bipush (v := 8) hx hb dX6_back_93 (by decide) ?_
      refine lv_iload_n hx hb dX6_back_95 rfl (lv_at hl 3 rfl) ?_
      refine lv_imul hx hb dX6_back_96 ?_
      refine lv_iload hx hb dX6_back_97 (lv_at hl 4 rfl) ?_
      refine lv_iadd hx hb dX6_back_99 ?_
      obtain ⟨g13, hf⟩ := gd_some hf
      refine r_iald C w iM24 aM24 g13 dX6_back_100 ?_
      obtain ⟨g14, hf⟩ := gd_some hf
      refine r_iast C w iM19 aM19 g14 dX6_back_101 (fun H locs w => ?_)
      obtain ⟨V15, e16, hf⟩ := bnd_some hf
      rw [← e16] at w
      refine lv_iinc (v := (x4 + 1)) hx hb dX6_back_102 hl (k := 4) rfl (by rfl) (by decide) rfl (fun ls hl => ?_)
      refine lv_goto (tgt := 47) hx hb dX6_back_105 (by decide) ?_
      exact ih w (lv_sub hl [1, 2, 3, 4, 0] rfl) hf kk
set_option maxHeartbeats 4000000 in
set_option maxRecDepth 100000 in
theorem c_X6_back (ok : Wok EM idM a) {V : Sto} {r : Int32} {V' : Sto} {x1 : Int32} {x2 : Int32} (hf : fX6_back V x1 x2 = some (r, V')) : MtI l cy D EM idM a yX6_back cX6_back 5 .int rm_X6_back [.ref (a (0, 0, 0)), .int x1, .int x2] V r V' := by
  refine ofM (by decide +kernel) ok (Nat.le_of_ble_eq_true rfl) (fun p e s m args below meth c C hr hlk w ls hl => ?_)
  have hx := C.1.1
  have hb := C.1.2.1
  rw [fX6_back] at hf
  skip
  refine lv_bipush (v := 6) hx hb dX6_back_0 (by decide) ?_
  refine lv_iload_n hx hb dX6_back_2 rfl (lv_at hl 1 rfl) ?_
  refine lv_imul hx hb dX6_back_3 ?_
  refine lv_iload_n hx hb dX6_back_4 rfl (lv_at hl 2 rfl) ?_
  refine lv_iadd hx hb dX6_back_5 ?_
  refine lv_istore_n hx hb dX6_back_6 rfl hl (by decide) rfl (fun ls hl => ?_)
  refine lv_iconst (v := 0) hx hb dX6_back_7 (by decide) ?_
  refine lv_istore hx hb dX6_back_8 hl (by decide) rfl (fun ls hl => ?_)
  obtain ⟨V7, hc6, hf⟩ := ob_some hf
  refine jX6_back_L10 C hr hlk 40 w (lv_sub hl [2, 3, 4, 1, 0] rfl) hc6 (fun H locs ls w hl => ?_)
  refine lv_iconst (v := 0) hx hb dX6_back_44 (by decide) ?_
  refine lv_istore hx hb dX6_back_45 hl (by decide) rfl (fun ls hl => ?_)
  obtain ⟨V18, hc17, hf⟩ := ob_some hf
  refine jX6_back_L47 C hr hlk 40 w (lv_sub hl [1, 2, 3, 4, 0] rfl) hc17 (fun H locs ls w hl => ?_)
  refine lv_aload_n hx hb dX6_back_108 rfl (lv_at hl 0 rfl) ?_
  refine r_get C w iM0 eM0 vc6 inlX6 19 (by decide) w_fl_RX6_65_AtomicThreadsModel_parts_I rfl dX6_back_109 ?_
  refine lv_iload_n hx hb dX6_back_112 rfl (lv_at hl 1 rfl) ?_
  refine lv_iload_n hx hb dX6_back_113 rfl (lv_at hl 2 rfl) ?_
  obtain ⟨g19, hf⟩ := gd_some hf
  refine r_iast C w iM20 aM20 g19 dX6_back_114 (fun H locs w => ?_)
  obtain ⟨V20, e21, hf⟩ := bnd_some hf
  rw [← e21] at w
  refine lv_aload_n hx hb dX6_back_115 rfl (lv_at hl 0 rfl) ?_
  refine lv_iload_n hx hb dX6_back_116 rfl (lv_at hl 1 rfl) ?_
  refine lv_aload_n hx hb dX6_back_117 rfl (lv_at hl 0 rfl) ?_
  refine r_get C w iM0 eM0 vc6 inlX6 20 (by decide) w_fl_RX6_68_AtomicThreadsModel_opener_I rfl dX6_back_118 ?_
  refine lv_iload_n hx hb dX6_back_121 rfl (lv_at hl 3 rfl) ?_
  obtain ⟨g22, hf⟩ := gd_some hf
  refine r_iald C w iM21 aM21 g22 dX6_back_122 ?_
  refine lv_iconst (v := 1) hx hb dX6_back_123 (by decide) ?_
  obtain ⟨r24, hc23, hf⟩ := ob_some hf
  refine k_I w (q_V C w (c_X6_partner ok hc23) wy_X6_partner wi_X6_partner w_ml_RX6_139_yX6_partner iM0 eM0 vc6 rfl rfl ⟨Nat.le_of_ble_eq_true rfl, Nat.le_of_ble_eq_true rfl⟩ rfl hl.1 rfl (Nat.le_of_ble_eq_true rfl) dX6_back_124 ⟨Nat.le_refl _, Nat.le_refl _⟩) (fun H locs w => ?_)
  cases hf
  exact r_iret C hr hlk w dX6_back_127
set_option maxHeartbeats 4000000 in
set_option maxRecDepth 100000 in
theorem jX6_retry_L56 (C : Cx cy D EM idM a p s m args c RX6 cX6_retry 4) (hr : meth.sig.returnType = some .int) (hlk : meth.locks = false) {Q : State → Prop} : ∀ (n : Nat) {V V' : Sto} {x1 : Int32} {x3 : Int32} {H : Heap} {locs : List Loc} {ls : Array Slot}, Wd cy D EM idM a V s H locs → lv_has ls 4 [(0, .ref (a (0, 0, 0))), (1, .int x1), (3, .int x3)] → fX6_retry_L56 n V x1 x3 = some (V') → (∀ (H1 : Heap) (locs1 : List Loc) (ls1 : Array Slot), Wd cy D EM idM a V' s H1 locs1 → lv_has ls1 4 [(0, .ref (a (0, 0, 0))), (1, .int x1)] → W p l e rm_X6_retry s m args below meth c H1 locs1 0 0 (Q) (F0 m 80 ls1 [])) → W p l e rm_X6_retry s m args below meth c H locs 0 0 (Q) (F0 m 56 ls []) := by
  have hx := C.1.1
  have hb := C.1.2.1
  have ok := C.2.2.2
  intro n
  induction n with
  | zero => intro V V' x1 x3  H locs ls w hl hf kk; cases hf
  | succ n ih =>
    intro V V' x1 x3  H locs ls w hl hf kk
    rw [fX6_retry_L56] at hf
    refine lv_iload_n hx hb dX6_retry_56 rfl (lv_at hl 2 rfl) ?_
    refine lv_bipush (v := 8) hx hb dX6_retry_57 (by decide) ?_
    refine lv_icmp_ge (tgt := 80) hx hb dX6_retry_59 (by decide) (fun c13 => ?_) (fun c13 => ?_)
    · rw [if_pos c13] at hf
      cases hf
      exact kk _ _ _ w (lv_sub hl [0, 1] rfl)
    · rw [if_neg c13] at hf
      refine lv_aload_n hx hb dX6_retry_62 rfl (lv_at hl 0 rfl) ?_
      refine r_get C w iM0 eM0 vc6 inlX6 17 (by decide) w_fl_RX6_59_AtomicThreadsModel_written_Z rfl dX6_retry_63 ?_
      refine lv_bipush (v := 8) hx hb dX6_retry_66 (by decide) ?_
      refine lv_iload_n hx hb dX6_retry_68 rfl (lv_at hl 1 rfl) ?_
      refine lv_imul hx hb dX6_retry_69 ?_
      refine lv_iload_n hx hb dX6_retry_70 rfl (lv_at hl 2 rfl) ?_
      refine lv_iadd hx hb dX6_retry_71 ?_
      refine lv_iconst (v := 0) hx hb dX6_retry_72 (by decide) ?_
      obtain ⟨g14, hf⟩ := gd_some hf
      refine r_zast C w iM18 aM18 g14 dX6_retry_73 (fun H locs w => ?_)
      obtain ⟨V15, e16, hf⟩ := bnd_some hf
      rw [← e16] at w
      refine lv_iinc (v := (x3 + 1)) hx hb dX6_retry_74 hl (k := 2) rfl (by rfl) (by decide) rfl (fun ls hl => ?_)
      refine lv_goto (tgt := 56) hx hb dX6_retry_77 (by decide) ?_
      exact ih w (lv_sub hl [1, 2, 0] rfl) hf kk
set_option maxHeartbeats 4000000 in
set_option maxRecDepth 100000 in
theorem c_X6_retry (ok : Wok EM idM a) {V : Sto} {r : Int32} {V' : Sto} {x1 : Int32} (hf : fX6_retry V x1 = some (r, V')) : MtI l cy D EM idM a yX6_retry cX6_retry 4 .int rm_X6_retry [.ref (a (0, 0, 0)), .int x1] V r V' := by
  refine ofM (by decide +kernel) ok (Nat.le_of_ble_eq_true rfl) (fun p e s m args below meth c C hr hlk w ls hl => ?_)
  have hx := C.1.1
  have hb := C.1.2.1
  rw [fX6_retry] at hf
  skip
  refine lv_aload_n hx hb dX6_retry_0 rfl (lv_at hl 0 rfl) ?_
  refine lv_iload_n hx hb dX6_retry_1 rfl (lv_at hl 1 rfl) ?_
  refine lv_bipush (v := 9) hx hb dX6_retry_2 (by decide) ?_
  refine lv_aload_n hx hb dX6_retry_4 rfl (lv_at hl 0 rfl) ?_
  refine r_get C w iM0 eM0 vc6 inlX6 14 (by decide) w_fl_RX6_50_AtomicThreadsModel_before_I rfl dX6_retry_5 ?_
  refine lv_iload_n hx hb dX6_retry_8 rfl (lv_at hl 1 rfl) ?_
  obtain ⟨g1, hf⟩ := gd_some hf
  refine r_iald C w iM15 aM15 g1 dX6_retry_9 ?_
  obtain ⟨r3, hc2, hf⟩ := ob_some hf
  refine k_I w (q_V C w (c_X6_latest ok hc2) wy_X6_latest wi_X6_latest w_ml_RX6_143_yX6_latest iM0 eM0 vc6 rfl rfl ⟨Nat.le_of_ble_eq_true rfl, Nat.le_of_ble_eq_true rfl⟩ rfl hl.1 rfl (Nat.le_of_ble_eq_true rfl) dX6_retry_10 ⟨Nat.le_refl _, Nat.le_refl _⟩) (fun H locs w => ?_)
  refine lv_istore_n hx hb dX6_retry_13 rfl hl (by decide) rfl (fun ls hl => ?_)
  refine lv_iload_n hx hb dX6_retry_14 rfl (lv_at hl 0 rfl) ?_
  refine lv_if_lt (tgt := 35) hx hb dX6_retry_15 (by decide) (fun c5 => ?_) (fun c5 => ?_)
  · rw [if_pos c5] at hf
    refine lv_aload_n hx hb dX6_retry_35 rfl (lv_at hl 1 rfl) ?_
    refine lv_iload_n hx hb dX6_retry_36 rfl (lv_at hl 2 rfl) ?_
    obtain ⟨r7, hc6, hf⟩ := ob_some hf
    refine k_I w (q_V C w (c_X6_outOfDate ok hc6) wy_X6_outOfDate wi_X6_outOfDate w_ml_RX6_130_yX6_outOfDate iM0 eM0 vc6 rfl rfl ⟨Nat.le_of_ble_eq_true rfl, Nat.le_of_ble_eq_true rfl⟩ rfl hl.1 rfl (Nat.le_of_ble_eq_true rfl) dX6_retry_37 ⟨Nat.le_refl _, Nat.le_refl _⟩) (fun H locs w => ?_)
    refine lv_if_eq (tgt := 49) hx hb dX6_retry_40 (by decide) (fun c9 => ?_) (fun c9 => ?_)
    · rw [if_pos c9] at hf
      refine lv_aload_n hx hb dX6_retry_49 rfl (lv_at hl 1 rfl) ?_
      refine lv_iload_n hx hb dX6_retry_50 rfl (lv_at hl 2 rfl) ?_
      obtain ⟨V12, hc10, hf⟩ := ob_some hf
      refine k_V w (q_V C w (c_X6_undo ok hc10) wy_X6_undo wi_X6_undo w_ml_RX6_123_yX6_undo iM0 eM0 vc6 rfl rfl ⟨Nat.le_of_ble_eq_true rfl, Nat.le_of_ble_eq_true rfl⟩ rfl hl.1 rfl (Nat.le_of_ble_eq_true rfl) dX6_retry_51 ⟨Nat.le_refl _, Nat.le_refl _⟩) (fun H locs w => ?_)
      refine lv_iconst (v := 0) hx hb dX6_retry_54 (by decide) ?_
      refine lv_istore_n hx hb dX6_retry_55 rfl hl (by decide) rfl (fun ls hl => ?_)
      obtain ⟨V18, hc17, hf⟩ := ob_some hf
      refine jX6_retry_L56 C hr hlk 40 w (lv_sub hl [2, 3, 0] rfl) hc17 (fun H locs ls w hl => ?_)
      refine lv_aload_n hx hb dX6_retry_80 rfl (lv_at hl 0 rfl) ?_
      refine r_get C w iM0 eM0 vc6 inlX6 4 (by decide) w_fl_RX6_22_AtomicThreadsModel_state_I rfl dX6_retry_81 ?_
      refine lv_iload_n hx hb dX6_retry_84 rfl (lv_at hl 1 rfl) ?_
      refine lv_iconst (v := 2) hx hb dX6_retry_85 (by decide) ?_
      obtain ⟨g19, hf⟩ := gd_some hf
      refine r_iast C w iM5 aM5 g19 dX6_retry_86 (fun H locs w => ?_)
      obtain ⟨V20, e21, hf⟩ := bnd_some hf
      rw [← e21] at w
      refine lv_iconst (v := 3) hx hb dX6_retry_87 (by decide) ?_
      cases hf
      exact r_iret C hr hlk w dX6_retry_88
    · rw [if_neg c9] at hf
      refine lv_aload_n hx hb dX6_retry_43 rfl (lv_at hl 1 rfl) ?_
      refine lv_iload_n hx hb dX6_retry_44 rfl (lv_at hl 2 rfl) ?_
      obtain ⟨r23, V24, hc22, hf⟩ := ob2_some hf
      refine k_I w (q_V C w (c_X6_discard ok hc22) wy_X6_discard wi_X6_discard w_ml_RX6_133_yX6_discard iM0 eM0 vc6 rfl rfl ⟨Nat.le_of_ble_eq_true rfl, Nat.le_of_ble_eq_true rfl⟩ rfl hl.1 rfl (Nat.le_of_ble_eq_true rfl) dX6_retry_45 ⟨Nat.le_refl _, Nat.le_refl _⟩) (fun H locs w => ?_)
      cases hf
      exact r_iret C hr hlk w dX6_retry_48
  · rw [if_neg c5] at hf
    refine lv_aload_n hx hb dX6_retry_18 rfl (lv_at hl 1 rfl) ?_
    refine lv_iload_n hx hb dX6_retry_19 rfl (lv_at hl 2 rfl) ?_
    refine lv_iload_n hx hb dX6_retry_20 rfl (lv_at hl 0 rfl) ?_
    obtain ⟨r26, V27, hc25, hf⟩ := ob2_some hf
    refine k_I w (q_V C w (c_X6_back ok hc25) wy_X6_back wi_X6_back w_ml_RX6_147_yX6_back iM0 eM0 vc6 rfl rfl ⟨Nat.le_of_ble_eq_true rfl, Nat.le_of_ble_eq_true rfl⟩ rfl hl.1 rfl (Nat.le_of_ble_eq_true rfl) dX6_retry_21 ⟨Nat.le_refl _, Nat.le_refl _⟩) (fun H locs w => ?_)
    refine lv_istore_n hx hb dX6_retry_24 rfl hl (by decide) rfl (fun ls hl => ?_)
    refine lv_aload_n hx hb dX6_retry_25 rfl (lv_at hl 2 rfl) ?_
    refine lv_iload_n hx hb dX6_retry_26 rfl (lv_at hl 3 rfl) ?_
    refine lv_iload_n hx hb dX6_retry_27 rfl (lv_at hl 0 rfl) ?_
    refine lv_iconst (v := 1) hx hb dX6_retry_28 (by decide) ?_
    refine lv_iadd hx hb dX6_retry_29 ?_
    obtain ⟨V30, hc28, hf⟩ := ob_some hf
    refine k_V w (q_V C w (c_X6_go ok hc28) wy_X6_go wi_X6_go w_ml_RX6_119_yX6_go iM0 eM0 vc6 rfl rfl ⟨Nat.le_of_ble_eq_true rfl, Nat.le_of_ble_eq_true rfl⟩ rfl hl.1 rfl (Nat.le_of_ble_eq_true rfl) dX6_retry_30 ⟨Nat.le_refl _, Nat.le_refl _⟩) (fun H locs w => ?_)
    refine lv_iconst (v := 0) hx hb dX6_retry_33 (by decide) ?_
    cases hf
    exact r_iret C hr hlk w dX6_retry_34
set_option maxHeartbeats 4000000 in
set_option maxRecDepth 100000 in
theorem jX6_toss_J73 (C : Cx cy D EM idM a p s m args c RX6 cX6_toss 5) (hr : meth.sig.returnType = some .int) (hlk : meth.locks = false) {V : Sto} {r : Int32} {V' : Sto} {x1 : Int32} {x2 : Int32} {x3 : Int32} {H : Heap} {locs : List Loc} {ls : Array Slot} (w : Wd cy D EM idM a V s H locs) (hl : lv_has ls 5 [(0, .ref (a (0, 0, 0))), (1, .int x1), (2, .int x2), (3, .int x3)]) (hf : fX6_toss_J73 V x1 x2 x3 = some (r, V')) : W p l e rm_X6_toss s m args below meth c H locs 0 0 (MQ below (QI cy D EM idM a r V') args s 0 0 (inA idM a)) (F0 m 73 ls []) := by
  have hx := C.1.1
  have hb := C.1.2.1
  have ok := C.2.2.2
  rw [fX6_toss_J73] at hf
  refine lv_iload_n hx hb dX6_toss_73 rfl (lv_at hl 3 rfl) ?_
  refine lv_if_ge (tgt := 95) hx hb dX6_toss_74 (by decide) (fun c7 => ?_) (fun c7 => ?_)
  · rw [if_pos c7] at hf
    refine lv_aload_n hx hb dX6_toss_95 rfl (lv_at hl 0 rfl) ?_
    refine lv_iload_n hx hb dX6_toss_96 rfl (lv_at hl 1 rfl) ?_
    refine lv_iload_n hx hb dX6_toss_97 rfl (lv_at hl 3 rfl) ?_
    obtain ⟨r9, V10, hc8, hf⟩ := ob2_some hf
    refine k_I w (q_V C w (c_X6_back ok hc8) wy_X6_back wi_X6_back w_ml_RX6_147_yX6_back iM0 eM0 vc6 rfl rfl ⟨Nat.le_of_ble_eq_true rfl, Nat.le_of_ble_eq_true rfl⟩ rfl hl.1 rfl (Nat.le_of_ble_eq_true rfl) dX6_toss_98 ⟨Nat.le_refl _, Nat.le_refl _⟩) (fun H locs w => ?_)
    refine lv_istore hx hb dX6_toss_101 hl (by decide) rfl (fun ls hl => ?_)
    refine lv_aload_n hx hb dX6_toss_103 rfl (lv_at hl 1 rfl) ?_
    refine r_get C w iM0 eM0 vc6 inlX6 7 (by decide) w_fl_RX6_31_AtomicThreadsModel_register_I rfl dX6_toss_104 ?_
    refine lv_iconst (v := 4) hx hb dX6_toss_107 (by decide) ?_
    refine lv_iload_n hx hb dX6_toss_108 rfl (lv_at hl 2 rfl) ?_
    refine lv_imul hx hb dX6_toss_109 ?_
    refine lv_aload_n hx hb dX6_toss_110 rfl (lv_at hl 1 rfl) ?_
    refine r_get C w iM0 eM0 vc6 inlX6 1 (by decide) w_fl_RX6_13_AtomicThreadsModel_first_I rfl dX6_toss_111 ?_
    refine lv_bipush (v := 30) hx hb dX6_toss_114 (by decide) ?_
    refine lv_iload_n hx hb dX6_toss_116 rfl (lv_at hl 2 rfl) ?_
    refine lv_imul hx hb dX6_toss_117 ?_
    refine lv_iload hx hb dX6_toss_118 (lv_at hl 0 rfl) ?_
    refine lv_iadd hx hb dX6_toss_120 ?_
    obtain ⟨g11, hf⟩ := gd_some hf
    refine r_iald C w iM2 aM2 g11 dX6_toss_121 ?_
    refine lv_iadd hx hb dX6_toss_122 ?_
    refine lv_iload_n hx hb dX6_toss_123 rfl (lv_at hl 3 rfl) ?_
    obtain ⟨g12, hf⟩ := gd_some hf
    refine r_iast C w iM8 aM8 g12 dX6_toss_124 (fun H locs w => ?_)
    obtain ⟨V13, e14, hf⟩ := bnd_some hf
    rw [← e14] at w
    refine lv_aload_n hx hb dX6_toss_125 rfl (lv_at hl 1 rfl) ?_
    refine lv_iload_n hx hb dX6_toss_126 rfl (lv_at hl 2 rfl) ?_
    refine lv_iload hx hb dX6_toss_127 (lv_at hl 0 rfl) ?_
    refine lv_iconst (v := 1) hx hb dX6_toss_129 (by decide) ?_
    refine lv_iadd hx hb dX6_toss_130 ?_
    obtain ⟨V17, hc15, hf⟩ := ob_some hf
    refine k_V w (q_V C w (c_X6_go ok hc15) wy_X6_go wi_X6_go w_ml_RX6_119_yX6_go iM0 eM0 vc6 rfl rfl ⟨Nat.le_of_ble_eq_true rfl, Nat.le_of_ble_eq_true rfl⟩ rfl hl.1 rfl (Nat.le_of_ble_eq_true rfl) dX6_toss_131 ⟨Nat.le_refl _, Nat.le_refl _⟩) (fun H locs w => ?_)
    refine lv_iconst (v := 4) hx hb dX6_toss_134 (by decide) ?_
    cases hf
    exact r_iret C hr hlk w dX6_toss_135
  · rw [if_neg c7] at hf
    refine lv_aload_n hx hb dX6_toss_77 rfl (lv_at hl 0 rfl) ?_
    refine r_get C w iM0 eM0 vc6 inlX6 7 (by decide) w_fl_RX6_31_AtomicThreadsModel_register_I rfl dX6_toss_78 ?_
    refine lv_iconst (v := 4) hx hb dX6_toss_81 (by decide) ?_
    refine lv_iload_n hx hb dX6_toss_82 rfl (lv_at hl 1 rfl) ?_
    refine lv_imul hx hb dX6_toss_83 ?_
    refine lv_iload_n hx hb dX6_toss_84 rfl (lv_at hl 2 rfl) ?_
    obtain ⟨g18, hf⟩ := gd_some hf
    refine r_iast C w iM8 aM8 g18 dX6_toss_85 (fun H locs w => ?_)
    obtain ⟨V19, e20, hf⟩ := bnd_some hf
    rw [← e20] at w
    refine lv_aload_n hx hb dX6_toss_86 rfl (lv_at hl 0 rfl) ?_
    refine r_get C w iM0 eM0 vc6 inlX6 4 (by decide) w_fl_RX6_22_AtomicThreadsModel_state_I rfl dX6_toss_87 ?_
    refine lv_iload_n hx hb dX6_toss_90 rfl (lv_at hl 1 rfl) ?_
    refine lv_iconst (v := 4) hx hb dX6_toss_91 (by decide) ?_
    obtain ⟨g21, hf⟩ := gd_some hf
    refine r_iast C w iM5 aM5 g21 dX6_toss_92 (fun H locs w => ?_)
    obtain ⟨V22, e23, hf⟩ := bnd_some hf
    rw [← e23] at w
    refine lv_iconst (v := 4) hx hb dX6_toss_93 (by decide) ?_
    cases hf
    exact r_iret C hr hlk w dX6_toss_94
set_option maxHeartbeats 4000000 in
set_option maxRecDepth 100000 in
theorem jX6_toss_J23 (C : Cx cy D EM idM a p s m args c RX6 cX6_toss 5) (hr : meth.sig.returnType = some .int) (hlk : meth.locks = false) {V : Sto} {r : Int32} {V' : Sto} {x1 : Int32} {x2 : Int32} {y1 : Int32} {y2 : Int32} {y3 : Int32} {H : Heap} {locs : List Loc} {ls : Array Slot} (w : Wd cy D EM idM a V s H locs) (hl : lv_has ls 5 [(0, .ref (a (0, 0, 0))), (1, .int x1), (2, .int x2)]) (hf : fX6_toss_J23 V x1 x2 y1 y2 y3 = some (r, V')) : W p l e rm_X6_toss s m args below meth c H locs 0 0 (MQ below (QI cy D EM idM a r V') args s 0 0 (inA idM a)) (F0 m 23 ls [.int y3, .int y2, .int y1, .ref (a (0, 0, 0))]) := by
  have hx := C.1.1
  have hb := C.1.2.1
  have ok := C.2.2.2
  rw [fX6_toss_J23] at hf
  obtain ⟨r4, hc3, hf⟩ := ob_some hf
  refine k_I w (q_V C w (c_X6_latest ok hc3) wy_X6_latest wi_X6_latest w_ml_RX6_143_yX6_latest iM0 eM0 vc6 rfl rfl ⟨Nat.le_of_ble_eq_true rfl, Nat.le_of_ble_eq_true rfl⟩ rfl hl.1 rfl (Nat.le_of_ble_eq_true rfl) dX6_toss_23 ⟨Nat.le_refl _, Nat.le_refl _⟩) (fun H locs w => ?_)
  refine lv_istore_n hx hb dX6_toss_26 rfl hl (by decide) rfl (fun ls hl => ?_)
  refine lv_iload_n hx hb dX6_toss_27 rfl (lv_at hl 0 rfl) ?_
  refine lv_if_ge (tgt := 73) hx hb dX6_toss_28 (by decide) (fun c6 => ?_) (fun c6 => ?_)
  · rw [if_pos c6] at hf
    exact jX6_toss_J73 C hr hlk w (lv_sub hl [1, 2, 3, 0] rfl) hf
  · rw [if_neg c6] at hf
    refine lv_aload_n hx hb dX6_toss_31 rfl (lv_at hl 1 rfl) ?_
    refine r_get C w iM0 eM0 vc6 inlX6 12 (by decide) w_fl_RX6_43_AtomicThreadsModel_attempt_Z rfl dX6_toss_32 ?_
    refine lv_iload_n hx hb dX6_toss_35 rfl (lv_at hl 2 rfl) ?_
    obtain ⟨g24, hf⟩ := gd_some hf
    refine r_zald C w iM13 aM13 g24 dX6_toss_36 ?_
    refine lv_if_eq (tgt := 73) hx hb dX6_toss_37 (by decide) (fun c25 => ?_) (fun c25 => ?_)
    · rw [if_pos c25] at hf
      exact jX6_toss_J73 C hr hlk w (lv_sub hl [1, 2, 3, 0] rfl) hf
    · rw [if_neg c25] at hf
      refine lv_aload_n hx hb dX6_toss_40 rfl (lv_at hl 1 rfl) ?_
      refine lv_iload_n hx hb dX6_toss_41 rfl (lv_at hl 2 rfl) ?_
      obtain ⟨r27, hc26, hf⟩ := ob_some hf
      refine k_I w (q_V C w (c_X6_outOfDate ok hc26) wy_X6_outOfDate wi_X6_outOfDate w_ml_RX6_130_yX6_outOfDate iM0 eM0 vc6 rfl rfl ⟨Nat.le_of_ble_eq_true rfl, Nat.le_of_ble_eq_true rfl⟩ rfl hl.1 rfl (Nat.le_of_ble_eq_true rfl) dX6_toss_42 ⟨Nat.le_refl _, Nat.le_refl _⟩) (fun H locs w => ?_)
      refine lv_if_eq (tgt := 54) hx hb dX6_toss_45 (by decide) (fun c29 => ?_) (fun c29 => ?_)
      · rw [if_pos c29] at hf
        refine lv_aload_n hx hb dX6_toss_54 rfl (lv_at hl 1 rfl) ?_
        refine lv_iload_n hx hb dX6_toss_55 rfl (lv_at hl 2 rfl) ?_
        obtain ⟨V32, hc30, hf⟩ := ob_some hf
        refine k_V w (q_V C w (c_X6_undo ok hc30) wy_X6_undo wi_X6_undo w_ml_RX6_123_yX6_undo iM0 eM0 vc6 rfl rfl ⟨Nat.le_of_ble_eq_true rfl, Nat.le_of_ble_eq_true rfl⟩ rfl hl.1 rfl (Nat.le_of_ble_eq_true rfl) dX6_toss_56 ⟨Nat.le_refl _, Nat.le_refl _⟩) (fun H locs w => ?_)
        refine lv_aload_n hx hb dX6_toss_59 rfl (lv_at hl 1 rfl) ?_
        refine lv_iload_n hx hb dX6_toss_60 rfl (lv_at hl 2 rfl) ?_
        obtain ⟨V35, hc33, hf⟩ := ob_some hf
        refine k_V w (q_V C w (c_X6_endAttempt ok hc33) wy_X6_endAttempt wi_X6_endAttempt w_ml_RX6_115_yX6_endAttempt iM0 eM0 vc6 rfl rfl ⟨Nat.le_of_ble_eq_true rfl, Nat.le_of_ble_eq_true rfl⟩ rfl hl.1 rfl (Nat.le_of_ble_eq_true rfl) dX6_toss_61 ⟨Nat.le_refl _, Nat.le_refl _⟩) (fun H locs w => ?_)
        refine lv_aload_n hx hb dX6_toss_64 rfl (lv_at hl 1 rfl) ?_
        refine lv_iload_n hx hb dX6_toss_65 rfl (lv_at hl 2 rfl) ?_
        refine lv_bipush (v := 15) hx hb dX6_toss_66 (by decide) ?_
        refine lv_iconst (v := 0) hx hb dX6_toss_68 (by decide) ?_
        obtain ⟨r37, hc36, hf⟩ := ob_some hf
        refine k_I w (q_V C w (c_X6_latest ok hc36) wy_X6_latest wi_X6_latest w_ml_RX6_143_yX6_latest iM0 eM0 vc6 rfl rfl ⟨Nat.le_of_ble_eq_true rfl, Nat.le_of_ble_eq_true rfl⟩ rfl hl.1 rfl (Nat.le_of_ble_eq_true rfl) dX6_toss_69 ⟨Nat.le_refl _, Nat.le_refl _⟩) (fun H locs w => ?_)
        refine lv_istore_n hx hb dX6_toss_72 rfl hl (by decide) rfl (fun ls hl => ?_)
        exact jX6_toss_J73 C hr hlk w (lv_sub hl [1, 2, 3, 0] rfl) hf
      · rw [if_neg c29] at hf
        refine lv_aload_n hx hb dX6_toss_48 rfl (lv_at hl 1 rfl) ?_
        refine lv_iload_n hx hb dX6_toss_49 rfl (lv_at hl 2 rfl) ?_
        obtain ⟨r40, V41, hc39, hf⟩ := ob2_some hf
        refine k_I w (q_V C w (c_X6_discard ok hc39) wy_X6_discard wi_X6_discard w_ml_RX6_133_yX6_discard iM0 eM0 vc6 rfl rfl ⟨Nat.le_of_ble_eq_true rfl, Nat.le_of_ble_eq_true rfl⟩ rfl hl.1 rfl (Nat.le_of_ble_eq_true rfl) dX6_toss_50 ⟨Nat.le_refl _, Nat.le_refl _⟩) (fun H locs w => ?_)
        cases hf
        exact r_iret C hr hlk w dX6_toss_53
set_option maxHeartbeats 4000000 in
set_option maxRecDepth 100000 in
theorem c_X6_toss (ok : Wok EM idM a) {V : Sto} {r : Int32} {V' : Sto} {x1 : Int32} {x2 : Int32} (hf : fX6_toss V x1 x2 = some (r, V')) : MtI l cy D EM idM a yX6_toss cX6_toss 5 .int rm_X6_toss [.ref (a (0, 0, 0)), .int x1, .int x2] V r V' := by
  refine ofM (by decide +kernel) ok (Nat.le_of_ble_eq_true rfl) (fun p e s m args below meth c C hr hlk w ls hl => ?_)
  have hx := C.1.1
  have hb := C.1.2.1
  rw [fX6_toss] at hf
  skip
  refine lv_aload_n hx hb dX6_toss_0 rfl (lv_at hl 0 rfl) ?_
  refine lv_iload_n hx hb dX6_toss_1 rfl (lv_at hl 1 rfl) ?_
  refine lv_bipush (v := 15) hx hb dX6_toss_2 (by decide) ?_
  refine lv_aload_n hx hb dX6_toss_4 rfl (lv_at hl 0 rfl) ?_
  refine r_get C w iM0 eM0 vc6 inlX6 12 (by decide) w_fl_RX6_43_AtomicThreadsModel_attempt_Z rfl dX6_toss_5 ?_
  refine lv_iload_n hx hb dX6_toss_8 rfl (lv_at hl 1 rfl) ?_
  obtain ⟨g1, hf⟩ := gd_some hf
  refine r_zald C w iM13 aM13 g1 dX6_toss_9 ?_
  refine lv_if_eq (tgt := 22) hx hb dX6_toss_10 (by decide) (fun c2 => ?_) (fun c2 => ?_)
  · rw [if_pos c2] at hf
    refine lv_iconst (v := 0) hx hb dX6_toss_22 (by decide) ?_
    exact jX6_toss_J23 C hr hlk w (lv_sub hl [0, 1, 2] rfl) hf
  · rw [if_neg c2] at hf
    refine lv_aload_n hx hb dX6_toss_13 rfl (lv_at hl 0 rfl) ?_
    refine r_get C w iM0 eM0 vc6 inlX6 14 (by decide) w_fl_RX6_50_AtomicThreadsModel_before_I rfl dX6_toss_14 ?_
    refine lv_iload_n hx hb dX6_toss_17 rfl (lv_at hl 1 rfl) ?_
    obtain ⟨g42, hf⟩ := gd_some hf
    refine r_iald C w iM15 aM15 g42 dX6_toss_18 ?_
    refine lv_goto (tgt := 23) hx hb dX6_toss_19 (by decide) ?_
    exact jX6_toss_J23 C hr hlk w (lv_sub hl [0, 1, 2] rfl) hf
set_option maxHeartbeats 4000000 in
set_option maxRecDepth 100000 in
theorem jX6_access_J42 (C : Cx cy D EM idM a p s m args c RX6 cX6_access 7) (hr : meth.sig.returnType = some .int) (hlk : meth.locks = false) {V : Sto} {r : Int32} {V' : Sto} {x1 : Int32} {x2 : Int32} {x4 : Int32} {x5 : Int32} {y0 : Int32} {H : Heap} {locs : List Loc} {ls : Array Slot} (w : Wd cy D EM idM a V s H locs) (hl : lv_has ls 7 [(0, .ref (a (0, 0, 0))), (1, .int x1), (2, .int x2), (4, .int x4), (5, .int x5)]) (hf : fX6_access_J42 V x1 x2 x4 x5 y0 = some (r, V')) : W p l e rm_X6_access s m args below meth c H locs 0 0 (MQ below (QI cy D EM idM a r V') args s 0 0 (inA idM a)) (F0 m 42 ls [.int y0]) := by
  have hx := C.1.1
  have hb := C.1.2.1
  have ok := C.2.2.2
  rw [fX6_access_J42] at hf
  refine lv_istore hx hb dX6_access_42 hl (by decide) rfl (fun ls hl => ?_)
  refine lv_iload_n hx hb dX6_access_44 rfl (lv_at hl 3 rfl) ?_
  refine lv_iconst (v := 4) hx hb dX6_access_45 (by decide) ?_
  refine lv_icmp_ne (tgt := 74) hx hb dX6_access_46 (by decide) (fun c3 => ?_) (fun c3 => ?_)
  · rw [if_neg c3] at hf
    refine lv_aload_n hx hb dX6_access_74 rfl (lv_at hl 1 rfl) ?_
    refine r_get C w iM0 eM0 vc6 inlX6 17 (by decide) w_fl_RX6_59_AtomicThreadsModel_written_Z rfl dX6_access_75 ?_
    refine lv_iload hx hb dX6_access_78 (lv_at hl 5 rfl) ?_
    obtain ⟨g4, hf⟩ := gd_some hf
    refine r_zald C w iM18 aM18 g4 dX6_access_80 ?_
    refine lv_if_eq (tgt := 101) hx hb dX6_access_81 (by decide) (fun c5 => ?_) (fun c5 => ?_)
    · rw [if_pos c5] at hf
      refine lv_aload_n hx hb dX6_access_101 rfl (lv_at hl 1 rfl) ?_
      refine r_get C w iM0 eM0 vc6 inlX6 15 (by decide) w_fl_RX6_53_AtomicThreadsModel_stale_Z rfl dX6_access_102 ?_
      refine lv_iload hx hb dX6_access_105 (lv_at hl 5 rfl) ?_
      obtain ⟨g6, hf⟩ := gd_some hf
      refine r_zald C w iM16 aM16 g6 dX6_access_107 ?_
      refine lv_if_eq (tgt := 117) hx hb dX6_access_108 (by decide) (fun c7 => ?_) (fun c7 => ?_)
      · rw [if_pos c7] at hf
        refine lv_aload_n hx hb dX6_access_117 rfl (lv_at hl 1 rfl) ?_
        refine r_get C w iM0 eM0 vc6 inlX6 7 (by decide) w_fl_RX6_31_AtomicThreadsModel_register_I rfl dX6_access_118 ?_
        refine lv_iload hx hb dX6_access_121 (lv_at hl 0 rfl) ?_
        refine lv_aload_n hx hb dX6_access_123 rfl (lv_at hl 1 rfl) ?_
        refine r_get C w iM0 eM0 vc6 inlX6 9 (by decide) w_fl_RX6_37_AtomicThreadsModel_value_I rfl dX6_access_124 ?_
        refine lv_iload hx hb dX6_access_127 (lv_at hl 4 rfl) ?_
        obtain ⟨g8, hf⟩ := gd_some hf
        refine r_iald C w iM10 aM10 g8 dX6_access_129 ?_
        obtain ⟨g9, hf⟩ := gd_some hf
        refine r_iast C w iM8 aM8 g9 dX6_access_130 (fun H locs w => ?_)
        obtain ⟨V10, e11, hf⟩ := bnd_some hf
        rw [← e11] at w
        refine lv_aload_n hx hb dX6_access_131 rfl (lv_at hl 1 rfl) ?_
        refine r_get C w iM0 eM0 vc6 inlX6 16 (by decide) w_fl_RX6_56_AtomicThreadsModel_read_Z rfl dX6_access_132 ?_
        refine lv_iload hx hb dX6_access_135 (lv_at hl 5 rfl) ?_
        refine lv_iconst (v := 1) hx hb dX6_access_137 (by decide) ?_
        obtain ⟨g12, hf⟩ := gd_some hf
        refine r_zast C w iM17 aM17 g12 dX6_access_138 (fun H locs w => ?_)
        obtain ⟨V13, e14, hf⟩ := bnd_some hf
        rw [← e14] at w
        refine lv_aload_n hx hb dX6_access_139 rfl (lv_at hl 1 rfl) ?_
        refine lv_iload_n hx hb dX6_access_140 rfl (lv_at hl 2 rfl) ?_
        refine lv_aload_n hx hb dX6_access_141 rfl (lv_at hl 1 rfl) ?_
        refine r_get C w iM0 eM0 vc6 inlX6 5 (by decide) w_fl_RX6_25_AtomicThreadsModel_place_I rfl dX6_access_142 ?_
        refine lv_iload_n hx hb dX6_access_145 rfl (lv_at hl 2 rfl) ?_
        obtain ⟨g15, hf⟩ := gd_some hf
        refine r_iald C w iM6 aM6 g15 dX6_access_146 ?_
        refine lv_iconst (v := 1) hx hb dX6_access_147 (by decide) ?_
        refine lv_iadd hx hb dX6_access_148 ?_
        obtain ⟨V18, hc16, hf⟩ := ob_some hf
        refine k_V w (q_V C w (c_X6_go ok hc16) wy_X6_go wi_X6_go w_ml_RX6_119_yX6_go iM0 eM0 vc6 rfl rfl ⟨Nat.le_of_ble_eq_true rfl, Nat.le_of_ble_eq_true rfl⟩ rfl hl.1 rfl (Nat.le_of_ble_eq_true rfl) dX6_access_149 ⟨Nat.le_refl _, Nat.le_refl _⟩) (fun H locs w => ?_)
        refine lv_iconst (v := 0) hx hb dX6_access_152 (by decide) ?_
        cases hf
        exact r_iret C hr hlk w dX6_access_153
      · rw [if_neg c7] at hf
        refine lv_aload_n hx hb dX6_access_111 rfl (lv_at hl 1 rfl) ?_
        refine lv_iload_n hx hb dX6_access_112 rfl (lv_at hl 2 rfl) ?_
        obtain ⟨r20, V21, hc19, hf⟩ := ob2_some hf
        refine k_I w (q_V C w (c_X6_discard ok hc19) wy_X6_discard wi_X6_discard w_ml_RX6_133_yX6_discard iM0 eM0 vc6 rfl rfl ⟨Nat.le_of_ble_eq_true rfl, Nat.le_of_ble_eq_true rfl⟩ rfl hl.1 rfl (Nat.le_of_ble_eq_true rfl) dX6_access_113 ⟨Nat.le_refl _, Nat.le_refl _⟩) (fun H locs w => ?_)
        cases hf
        exact r_iret C hr hlk w dX6_access_116
    · rw [if_neg c5] at hf
      refine lv_aload_n hx hb dX6_access_84 rfl (lv_at hl 1 rfl) ?_
      refine r_get C w iM0 eM0 vc6 inlX6 7 (by decide) w_fl_RX6_31_AtomicThreadsModel_register_I rfl dX6_access_85 ?_
      refine lv_iload hx hb dX6_access_88 (lv_at hl 0 rfl) ?_
      refine lv_aload_n hx hb dX6_access_90 rfl (lv_at hl 1 rfl) ?_
      refine r_get C w iM0 eM0 vc6 inlX6 18 (by decide) w_fl_RX6_62_AtomicThreadsModel_wrote_I rfl dX6_access_91 ?_
      refine lv_iload hx hb dX6_access_94 (lv_at hl 5 rfl) ?_
      obtain ⟨g22, hf⟩ := gd_some hf
      refine r_iald C w iM19 aM19 g22 dX6_access_96 ?_
      obtain ⟨g23, hf⟩ := gd_some hf
      refine r_iast C w iM8 aM8 g23 dX6_access_97 (fun H locs w => ?_)
      obtain ⟨V24, e25, hf⟩ := bnd_some hf
      rw [← e25] at w
      refine lv_goto (tgt := 139) hx hb dX6_access_98 (by decide) ?_
      refine lv_aload_n hx hb dX6_access_139 rfl (lv_at hl 1 rfl) ?_
      refine lv_iload_n hx hb dX6_access_140 rfl (lv_at hl 2 rfl) ?_
      refine lv_aload_n hx hb dX6_access_141 rfl (lv_at hl 1 rfl) ?_
      refine r_get C w iM0 eM0 vc6 inlX6 5 (by decide) w_fl_RX6_25_AtomicThreadsModel_place_I rfl dX6_access_142 ?_
      refine lv_iload_n hx hb dX6_access_145 rfl (lv_at hl 2 rfl) ?_
      obtain ⟨g26, hf⟩ := gd_some hf
      refine r_iald C w iM6 aM6 g26 dX6_access_146 ?_
      refine lv_iconst (v := 1) hx hb dX6_access_147 (by decide) ?_
      refine lv_iadd hx hb dX6_access_148 ?_
      obtain ⟨V29, hc27, hf⟩ := ob_some hf
      refine k_V w (q_V C w (c_X6_go ok hc27) wy_X6_go wi_X6_go w_ml_RX6_119_yX6_go iM0 eM0 vc6 rfl rfl ⟨Nat.le_of_ble_eq_true rfl, Nat.le_of_ble_eq_true rfl⟩ rfl hl.1 rfl (Nat.le_of_ble_eq_true rfl) dX6_access_149 ⟨Nat.le_refl _, Nat.le_refl _⟩) (fun H locs w => ?_)
      refine lv_iconst (v := 0) hx hb dX6_access_152 (by decide) ?_
      cases hf
      exact r_iret C hr hlk w dX6_access_153
  · rw [if_pos c3] at hf
    refine lv_aload_n hx hb dX6_access_49 rfl (lv_at hl 1 rfl) ?_
    refine r_get C w iM0 eM0 vc6 inlX6 17 (by decide) w_fl_RX6_59_AtomicThreadsModel_written_Z rfl dX6_access_50 ?_
    refine lv_iload hx hb dX6_access_53 (lv_at hl 5 rfl) ?_
    refine lv_iconst (v := 1) hx hb dX6_access_55 (by decide) ?_
    obtain ⟨g30, hf⟩ := gd_some hf
    refine r_zast C w iM18 aM18 g30 dX6_access_56 (fun H locs w => ?_)
    obtain ⟨V31, e32, hf⟩ := bnd_some hf
    rw [← e32] at w
    refine lv_aload_n hx hb dX6_access_57 rfl (lv_at hl 1 rfl) ?_
    refine r_get C w iM0 eM0 vc6 inlX6 18 (by decide) w_fl_RX6_62_AtomicThreadsModel_wrote_I rfl dX6_access_58 ?_
    refine lv_iload hx hb dX6_access_61 (lv_at hl 5 rfl) ?_
    refine lv_aload_n hx hb dX6_access_63 rfl (lv_at hl 1 rfl) ?_
    refine r_get C w iM0 eM0 vc6 inlX6 7 (by decide) w_fl_RX6_31_AtomicThreadsModel_register_I rfl dX6_access_64 ?_
    refine lv_iload hx hb dX6_access_67 (lv_at hl 0 rfl) ?_
    obtain ⟨g33, hf⟩ := gd_some hf
    refine r_iald C w iM8 aM8 g33 dX6_access_69 ?_
    obtain ⟨g34, hf⟩ := gd_some hf
    refine r_iast C w iM19 aM19 g34 dX6_access_70 (fun H locs w => ?_)
    obtain ⟨V35, e36, hf⟩ := bnd_some hf
    rw [← e36] at w
    refine lv_goto (tgt := 139) hx hb dX6_access_71 (by decide) ?_
    refine lv_aload_n hx hb dX6_access_139 rfl (lv_at hl 1 rfl) ?_
    refine lv_iload_n hx hb dX6_access_140 rfl (lv_at hl 2 rfl) ?_
    refine lv_aload_n hx hb dX6_access_141 rfl (lv_at hl 1 rfl) ?_
    refine r_get C w iM0 eM0 vc6 inlX6 5 (by decide) w_fl_RX6_25_AtomicThreadsModel_place_I rfl dX6_access_142 ?_
    refine lv_iload_n hx hb dX6_access_145 rfl (lv_at hl 2 rfl) ?_
    obtain ⟨g37, hf⟩ := gd_some hf
    refine r_iald C w iM6 aM6 g37 dX6_access_146 ?_
    refine lv_iconst (v := 1) hx hb dX6_access_147 (by decide) ?_
    refine lv_iadd hx hb dX6_access_148 ?_
    obtain ⟨V40, hc38, hf⟩ := ob_some hf
    refine k_V w (q_V C w (c_X6_go ok hc38) wy_X6_go wi_X6_go w_ml_RX6_119_yX6_go iM0 eM0 vc6 rfl rfl ⟨Nat.le_of_ble_eq_true rfl, Nat.le_of_ble_eq_true rfl⟩ rfl hl.1 rfl (Nat.le_of_ble_eq_true rfl) dX6_access_149 ⟨Nat.le_refl _, Nat.le_refl _⟩) (fun H locs w => ?_)
    refine lv_iconst (v := 0) hx hb dX6_access_152 (by decide) ?_
    cases hf
    exact r_iret C hr hlk w dX6_access_153
set_option maxHeartbeats 4000000 in
set_option maxRecDepth 100000 in
theorem jX6_access_J21 (C : Cx cy D EM idM a p s m args c RX6 cX6_access 7) (hr : meth.sig.returnType = some .int) (hlk : meth.locks = false) {V : Sto} {r : Int32} {V' : Sto} {x1 : Int32} {x2 : Int32} {x3 : Int32} {x4 : Int32} {y0 : Int32} {H : Heap} {locs : List Loc} {ls : Array Slot} (w : Wd cy D EM idM a V s H locs) (hl : lv_has ls 7 [(0, .ref (a (0, 0, 0))), (1, .int x1), (2, .int x2), (3, .int x3), (4, .int x4)]) (hf : fX6_access_J21 V x1 x2 x3 x4 y0 = some (r, V')) : W p l e rm_X6_access s m args below meth c H locs 0 0 (MQ below (QI cy D EM idM a r V') args s 0 0 (inA idM a)) (F0 m 21 ls [.int y0]) := by
  have hx := C.1.1
  have hb := C.1.2.1
  have ok := C.2.2.2
  rw [fX6_access_J21] at hf
  refine lv_istore hx hb dX6_access_21 hl (by decide) rfl (fun ls hl => ?_)
  refine lv_iload_n hx hb dX6_access_23 rfl (lv_at hl 3 rfl) ?_
  refine lv_iconst (v := 3) hx hb dX6_access_24 (by decide) ?_
  refine lv_icmp_ne (tgt := 36) hx hb dX6_access_25 (by decide) (fun c2 => ?_) (fun c2 => ?_)
  · rw [if_neg c2] at hf
    refine lv_iconst (v := 4) hx hb dX6_access_36 (by decide) ?_
    refine lv_iload_n hx hb dX6_access_37 rfl (lv_at hl 2 rfl) ?_
    refine lv_imul hx hb dX6_access_38 ?_
    refine lv_iload hx hb dX6_access_39 (lv_at hl 5 rfl) ?_
    refine lv_iadd hx hb dX6_access_41 ?_
    exact jX6_access_J42 C hr hlk w (lv_sub hl [1, 2, 3, 5, 0] rfl) hf
  · rw [if_pos c2] at hf
    refine lv_iconst (v := 4) hx hb dX6_access_28 (by decide) ?_
    refine lv_iload_n hx hb dX6_access_29 rfl (lv_at hl 2 rfl) ?_
    refine lv_imul hx hb dX6_access_30 ?_
    refine lv_iload_n hx hb dX6_access_31 rfl (lv_at hl 4 rfl) ?_
    refine lv_iadd hx hb dX6_access_32 ?_
    refine lv_goto (tgt := 42) hx hb dX6_access_33 (by decide) ?_
    exact jX6_access_J42 C hr hlk w (lv_sub hl [1, 2, 3, 5, 0] rfl) hf
set_option maxHeartbeats 4000000 in
set_option maxRecDepth 100000 in
theorem c_X6_access (ok : Wok EM idM a) {V : Sto} {r : Int32} {V' : Sto} {x1 : Int32} {x2 : Int32} {x3 : Int32} {x4 : Int32} (hf : fX6_access V x1 x2 x3 x4 = some (r, V')) : MtI l cy D EM idM a yX6_access cX6_access 7 .int rm_X6_access [.ref (a (0, 0, 0)), .int x1, .int x2, .int x3, .int x4] V r V' := by
  refine ofM (by decide +kernel) ok (Nat.le_of_ble_eq_true rfl) (fun p e s m args below meth c C hr hlk w ls hl => ?_)
  have hx := C.1.1
  have hb := C.1.2.1
  rw [fX6_access] at hf
  skip
  refine lv_iload_n hx hb dX6_access_0 rfl (lv_at hl 2 rfl) ?_
  refine lv_iconst (v := 3) hx hb dX6_access_1 (by decide) ?_
  refine lv_icmp_ne (tgt := 15) hx hb dX6_access_2 (by decide) (fun c1 => ?_) (fun c1 => ?_)
  · rw [if_neg c1] at hf
    refine lv_bipush (v := 8) hx hb dX6_access_15 (by decide) ?_
    refine lv_iload_n hx hb dX6_access_17 rfl (lv_at hl 1 rfl) ?_
    refine lv_imul hx hb dX6_access_18 ?_
    refine lv_iload_n hx hb dX6_access_19 rfl (lv_at hl 3 rfl) ?_
    refine lv_iadd hx hb dX6_access_20 ?_
    exact jX6_access_J21 C hr hlk w (lv_sub hl [0, 1, 2, 3, 4] rfl) hf
  · rw [if_pos c1] at hf
    refine lv_bipush (v := 8) hx hb dX6_access_5 (by decide) ?_
    refine lv_iload_n hx hb dX6_access_7 rfl (lv_at hl 1 rfl) ?_
    refine lv_imul hx hb dX6_access_8 ?_
    refine lv_iload hx hb dX6_access_9 (lv_at hl 4 rfl) ?_
    refine lv_iadd hx hb dX6_access_11 ?_
    refine lv_goto (tgt := 21) hx hb dX6_access_12 (by decide) ?_
    exact jX6_access_J21 C hr hlk w (lv_sub hl [0, 1, 2, 3, 4] rfl) hf
set_option maxHeartbeats 4000000 in
set_option maxRecDepth 100000 in
theorem c_X6_plain (ok : Wok EM idM a) {V : Sto} {V' : Sto} {x1 : Int32} {x2 : Int32} {x3 : Int32} {x4 : Int32} (hf : fX6_plain V x1 x2 x3 x4 = some V') : MtV l cy D EM idM a yX6_plain cX6_plain 6 rm_X6_plain [.ref (a (0, 0, 0)), .int x1, .int x2, .int x3, .int x4] V V' := by
  refine ofM (by decide +kernel) ok (Nat.le_of_ble_eq_true rfl) (fun p e s m args below meth c C hr hlk w ls hl => ?_)
  have hx := C.1.1
  have hb := C.1.2.1
  rw [fX6_plain] at hf
  skip
  refine lv_iconst (v := 4) hx hb dX6_plain_0 (by decide) ?_
  refine lv_iload_n hx hb dX6_plain_1 rfl (lv_at hl 1 rfl) ?_
  refine lv_imul hx hb dX6_plain_2 ?_
  refine lv_iload_n hx hb dX6_plain_3 rfl (lv_at hl 3 rfl) ?_
  refine lv_iconst (v := 3) hx hb dX6_plain_4 (by decide) ?_
  refine lv_iand hx hb dX6_plain_5 ?_
  refine lv_iadd hx hb dX6_plain_6 ?_
  refine lv_istore hx hb dX6_plain_7 hl (by decide) rfl (fun ls hl => ?_)
  refine lv_iload_n hx hb dX6_plain_9 rfl (lv_at hl 3 rfl) ?_
  refine lv_if_ne (tgt := 25) hx hb dX6_plain_10 (by decide) (fun c1 => ?_) (fun c1 => ?_)
  · rw [if_neg c1] at hf
    refine lv_iload_n hx hb dX6_plain_25 rfl (lv_at hl 3 rfl) ?_
    refine lv_iconst (v := 1) hx hb dX6_plain_26 (by decide) ?_
    refine lv_icmp_ne (tgt := 59) hx hb dX6_plain_27 (by decide) (fun c2 => ?_) (fun c2 => ?_)
    · rw [if_neg c2] at hf
      refine lv_iload_n hx hb dX6_plain_59 rfl (lv_at hl 3 rfl) ?_
      refine lv_iconst (v := 2) hx hb dX6_plain_60 (by decide) ?_
      refine lv_icmp_ne (tgt := 93) hx hb dX6_plain_61 (by decide) (fun c3 => ?_) (fun c3 => ?_)
      · rw [if_neg c3] at hf
        refine lv_iload_n hx hb dX6_plain_93 rfl (lv_at hl 3 rfl) ?_
        refine lv_iconst (v := 5) hx hb dX6_plain_94 (by decide) ?_
        refine lv_icmp_ne (tgt := 127) hx hb dX6_plain_95 (by decide) (fun c4 => ?_) (fun c4 => ?_)
        · rw [if_neg c4] at hf
          refine lv_aload_n hx hb dX6_plain_127 rfl (lv_at hl 1 rfl) ?_
          refine lv_iload_n hx hb dX6_plain_128 rfl (lv_at hl 2 rfl) ?_
          refine lv_aload_n hx hb dX6_plain_129 rfl (lv_at hl 1 rfl) ?_
          refine r_get C w iM0 eM0 vc6 inlX6 5 (by decide) w_fl_RX6_25_AtomicThreadsModel_place_I rfl dX6_plain_130 ?_
          refine lv_iload_n hx hb dX6_plain_133 rfl (lv_at hl 2 rfl) ?_
          obtain ⟨g5, hf⟩ := gd_some hf
          refine r_iald C w iM6 aM6 g5 dX6_plain_134 ?_
          refine lv_iconst (v := 1) hx hb dX6_plain_135 (by decide) ?_
          refine lv_iadd hx hb dX6_plain_136 ?_
          obtain ⟨V8, hc6, hf⟩ := ob_some hf
          refine k_V w (q_V C w (c_X6_go ok hc6) wy_X6_go wi_X6_go w_ml_RX6_119_yX6_go iM0 eM0 vc6 rfl rfl ⟨Nat.le_of_ble_eq_true rfl, Nat.le_of_ble_eq_true rfl⟩ rfl hl.1 rfl (Nat.le_of_ble_eq_true rfl) dX6_plain_137 ⟨Nat.le_refl _, Nat.le_refl _⟩) (fun H locs w => ?_)
          cases hf
          exact r_vret C hr hlk w dX6_plain_140
        · rw [if_pos c4] at hf
          refine lv_aload_n hx hb dX6_plain_98 rfl (lv_at hl 1 rfl) ?_
          refine r_get C w iM0 eM0 vc6 inlX6 25 (by decide) w_fl_RX6_80_AtomicThreadsModel_print_I rfl dX6_plain_99 ?_
          refine lv_aload_n hx hb dX6_plain_102 rfl (lv_at hl 1 rfl) ?_
          refine r_get C w iM0 eM0 vc6 inlX6 24 (by decide) w_fl_RX6_151_AtomicThreadsModel_prints_I rfl dX6_plain_103 ?_
          refine lv_bipush (v := 16) hx hb dX6_plain_106 (by decide) ?_
          refine lv_irem hx hb dX6_plain_108 (by decide) ?_
          refine lv_aload_n hx hb dX6_plain_109 rfl (lv_at hl 1 rfl) ?_
          refine r_get C w iM0 eM0 vc6 inlX6 7 (by decide) w_fl_RX6_31_AtomicThreadsModel_register_I rfl dX6_plain_110 ?_
          refine lv_iload hx hb dX6_plain_113 (lv_at hl 0 rfl) ?_
          obtain ⟨g9, hf⟩ := gd_some hf
          refine r_iald C w iM8 aM8 g9 dX6_plain_115 ?_
          obtain ⟨g10, hf⟩ := gd_some hf
          refine r_iast C w iM26 aM26 g10 dX6_plain_116 (fun H locs w => ?_)
          obtain ⟨V11, e12, hf⟩ := bnd_some hf
          rw [← e12] at w
          refine lv_aload_n hx hb dX6_plain_117 rfl (lv_at hl 1 rfl) ?_
          refine lv_dup hx hb dX6_plain_118 rfl ?_
          refine r_get C w iM0 eM0 vc6 inlX6 24 (by decide) w_fl_RX6_151_AtomicThreadsModel_prints_I rfl dX6_plain_119 ?_
          refine lv_iconst (v := 1) hx hb dX6_plain_122 (by decide) ?_
          refine lv_iadd hx hb dX6_plain_123 ?_
          refine r_put C w iM0 eM0 vc6 inlX6 tyX6 tyX6_ok nmX6 24 (by decide) w_fl_RX6_151_AtomicThreadsModel_prints_I rfl pd_I uM0_24 (Nat.le_of_ble_eq_true rfl) dX6_plain_124 (fun H locs w => ?_)
          obtain ⟨V13, e14, hf⟩ := bnd_some hf
          rw [← e14] at w
          refine lv_aload_n hx hb dX6_plain_127 rfl (lv_at hl 1 rfl) ?_
          refine lv_iload_n hx hb dX6_plain_128 rfl (lv_at hl 2 rfl) ?_
          refine lv_aload_n hx hb dX6_plain_129 rfl (lv_at hl 1 rfl) ?_
          refine r_get C w iM0 eM0 vc6 inlX6 5 (by decide) w_fl_RX6_25_AtomicThreadsModel_place_I rfl dX6_plain_130 ?_
          refine lv_iload_n hx hb dX6_plain_133 rfl (lv_at hl 2 rfl) ?_
          obtain ⟨g15, hf⟩ := gd_some hf
          refine r_iald C w iM6 aM6 g15 dX6_plain_134 ?_
          refine lv_iconst (v := 1) hx hb dX6_plain_135 (by decide) ?_
          refine lv_iadd hx hb dX6_plain_136 ?_
          obtain ⟨V18, hc16, hf⟩ := ob_some hf
          refine k_V w (q_V C w (c_X6_go ok hc16) wy_X6_go wi_X6_go w_ml_RX6_119_yX6_go iM0 eM0 vc6 rfl rfl ⟨Nat.le_of_ble_eq_true rfl, Nat.le_of_ble_eq_true rfl⟩ rfl hl.1 rfl (Nat.le_of_ble_eq_true rfl) dX6_plain_137 ⟨Nat.le_refl _, Nat.le_refl _⟩) (fun H locs w => ?_)
          cases hf
          exact r_vret C hr hlk w dX6_plain_140
      · rw [if_pos c3] at hf
        refine lv_aload_n hx hb dX6_plain_64 rfl (lv_at hl 1 rfl) ?_
        refine r_get C w iM0 eM0 vc6 inlX6 7 (by decide) w_fl_RX6_31_AtomicThreadsModel_register_I rfl dX6_plain_65 ?_
        refine lv_iload hx hb dX6_plain_68 (lv_at hl 0 rfl) ?_
        refine lv_aload_n hx hb dX6_plain_70 rfl (lv_at hl 1 rfl) ?_
        refine r_get C w iM0 eM0 vc6 inlX6 7 (by decide) w_fl_RX6_31_AtomicThreadsModel_register_I rfl dX6_plain_71 ?_
        refine lv_iload hx hb dX6_plain_74 (lv_at hl 0 rfl) ?_
        obtain ⟨g19, hf⟩ := gd_some hf
        refine r_iald C w iM8 aM8 g19 dX6_plain_76 ?_
        refine lv_aload_n hx hb dX6_plain_77 rfl (lv_at hl 1 rfl) ?_
        refine r_get C w iM0 eM0 vc6 inlX6 7 (by decide) w_fl_RX6_31_AtomicThreadsModel_register_I rfl dX6_plain_78 ?_
        refine lv_iconst (v := 4) hx hb dX6_plain_81 (by decide) ?_
        refine lv_iload_n hx hb dX6_plain_82 rfl (lv_at hl 2 rfl) ?_
        refine lv_imul hx hb dX6_plain_83 ?_
        refine lv_iload hx hb dX6_plain_84 (lv_at hl 5 rfl) ?_
        refine lv_iadd hx hb dX6_plain_86 ?_
        obtain ⟨g20, hf⟩ := gd_some hf
        refine r_iald C w iM8 aM8 g20 dX6_plain_87 ?_
        refine lv_isub hx hb dX6_plain_88 ?_
        obtain ⟨g21, hf⟩ := gd_some hf
        refine r_iast C w iM8 aM8 g21 dX6_plain_89 (fun H locs w => ?_)
        obtain ⟨V22, e23, hf⟩ := bnd_some hf
        rw [← e23] at w
        refine lv_goto (tgt := 127) hx hb dX6_plain_90 (by decide) ?_
        refine lv_aload_n hx hb dX6_plain_127 rfl (lv_at hl 1 rfl) ?_
        refine lv_iload_n hx hb dX6_plain_128 rfl (lv_at hl 2 rfl) ?_
        refine lv_aload_n hx hb dX6_plain_129 rfl (lv_at hl 1 rfl) ?_
        refine r_get C w iM0 eM0 vc6 inlX6 5 (by decide) w_fl_RX6_25_AtomicThreadsModel_place_I rfl dX6_plain_130 ?_
        refine lv_iload_n hx hb dX6_plain_133 rfl (lv_at hl 2 rfl) ?_
        obtain ⟨g24, hf⟩ := gd_some hf
        refine r_iald C w iM6 aM6 g24 dX6_plain_134 ?_
        refine lv_iconst (v := 1) hx hb dX6_plain_135 (by decide) ?_
        refine lv_iadd hx hb dX6_plain_136 ?_
        obtain ⟨V27, hc25, hf⟩ := ob_some hf
        refine k_V w (q_V C w (c_X6_go ok hc25) wy_X6_go wi_X6_go w_ml_RX6_119_yX6_go iM0 eM0 vc6 rfl rfl ⟨Nat.le_of_ble_eq_true rfl, Nat.le_of_ble_eq_true rfl⟩ rfl hl.1 rfl (Nat.le_of_ble_eq_true rfl) dX6_plain_137 ⟨Nat.le_refl _, Nat.le_refl _⟩) (fun H locs w => ?_)
        cases hf
        exact r_vret C hr hlk w dX6_plain_140
    · rw [if_pos c2] at hf
      refine lv_aload_n hx hb dX6_plain_30 rfl (lv_at hl 1 rfl) ?_
      refine r_get C w iM0 eM0 vc6 inlX6 7 (by decide) w_fl_RX6_31_AtomicThreadsModel_register_I rfl dX6_plain_31 ?_
      refine lv_iload hx hb dX6_plain_34 (lv_at hl 0 rfl) ?_
      refine lv_aload_n hx hb dX6_plain_36 rfl (lv_at hl 1 rfl) ?_
      refine r_get C w iM0 eM0 vc6 inlX6 7 (by decide) w_fl_RX6_31_AtomicThreadsModel_register_I rfl dX6_plain_37 ?_
      refine lv_iload hx hb dX6_plain_40 (lv_at hl 0 rfl) ?_
      obtain ⟨g28, hf⟩ := gd_some hf
      refine r_iald C w iM8 aM8 g28 dX6_plain_42 ?_
      refine lv_aload_n hx hb dX6_plain_43 rfl (lv_at hl 1 rfl) ?_
      refine r_get C w iM0 eM0 vc6 inlX6 7 (by decide) w_fl_RX6_31_AtomicThreadsModel_register_I rfl dX6_plain_44 ?_
      refine lv_iconst (v := 4) hx hb dX6_plain_47 (by decide) ?_
      refine lv_iload_n hx hb dX6_plain_48 rfl (lv_at hl 2 rfl) ?_
      refine lv_imul hx hb dX6_plain_49 ?_
      refine lv_iload hx hb dX6_plain_50 (lv_at hl 5 rfl) ?_
      refine lv_iadd hx hb dX6_plain_52 ?_
      obtain ⟨g29, hf⟩ := gd_some hf
      refine r_iald C w iM8 aM8 g29 dX6_plain_53 ?_
      refine lv_iadd hx hb dX6_plain_54 ?_
      obtain ⟨g30, hf⟩ := gd_some hf
      refine r_iast C w iM8 aM8 g30 dX6_plain_55 (fun H locs w => ?_)
      obtain ⟨V31, e32, hf⟩ := bnd_some hf
      rw [← e32] at w
      refine lv_goto (tgt := 127) hx hb dX6_plain_56 (by decide) ?_
      refine lv_aload_n hx hb dX6_plain_127 rfl (lv_at hl 1 rfl) ?_
      refine lv_iload_n hx hb dX6_plain_128 rfl (lv_at hl 2 rfl) ?_
      refine lv_aload_n hx hb dX6_plain_129 rfl (lv_at hl 1 rfl) ?_
      refine r_get C w iM0 eM0 vc6 inlX6 5 (by decide) w_fl_RX6_25_AtomicThreadsModel_place_I rfl dX6_plain_130 ?_
      refine lv_iload_n hx hb dX6_plain_133 rfl (lv_at hl 2 rfl) ?_
      obtain ⟨g33, hf⟩ := gd_some hf
      refine r_iald C w iM6 aM6 g33 dX6_plain_134 ?_
      refine lv_iconst (v := 1) hx hb dX6_plain_135 (by decide) ?_
      refine lv_iadd hx hb dX6_plain_136 ?_
      obtain ⟨V36, hc34, hf⟩ := ob_some hf
      refine k_V w (q_V C w (c_X6_go ok hc34) wy_X6_go wi_X6_go w_ml_RX6_119_yX6_go iM0 eM0 vc6 rfl rfl ⟨Nat.le_of_ble_eq_true rfl, Nat.le_of_ble_eq_true rfl⟩ rfl hl.1 rfl (Nat.le_of_ble_eq_true rfl) dX6_plain_137 ⟨Nat.le_refl _, Nat.le_refl _⟩) (fun H locs w => ?_)
      cases hf
      exact r_vret C hr hlk w dX6_plain_140
  · rw [if_pos c1] at hf
    refine lv_aload_n hx hb dX6_plain_13 rfl (lv_at hl 1 rfl) ?_
    refine r_get C w iM0 eM0 vc6 inlX6 7 (by decide) w_fl_RX6_31_AtomicThreadsModel_register_I rfl dX6_plain_14 ?_
    refine lv_iload hx hb dX6_plain_17 (lv_at hl 0 rfl) ?_
    refine lv_iload hx hb dX6_plain_19 (lv_at hl 5 rfl) ?_
    obtain ⟨g37, hf⟩ := gd_some hf
    refine r_iast C w iM8 aM8 g37 dX6_plain_21 (fun H locs w => ?_)
    obtain ⟨V38, e39, hf⟩ := bnd_some hf
    rw [← e39] at w
    refine lv_goto (tgt := 127) hx hb dX6_plain_22 (by decide) ?_
    refine lv_aload_n hx hb dX6_plain_127 rfl (lv_at hl 1 rfl) ?_
    refine lv_iload_n hx hb dX6_plain_128 rfl (lv_at hl 2 rfl) ?_
    refine lv_aload_n hx hb dX6_plain_129 rfl (lv_at hl 1 rfl) ?_
    refine r_get C w iM0 eM0 vc6 inlX6 5 (by decide) w_fl_RX6_25_AtomicThreadsModel_place_I rfl dX6_plain_130 ?_
    refine lv_iload_n hx hb dX6_plain_133 rfl (lv_at hl 2 rfl) ?_
    obtain ⟨g40, hf⟩ := gd_some hf
    refine r_iald C w iM6 aM6 g40 dX6_plain_134 ?_
    refine lv_iconst (v := 1) hx hb dX6_plain_135 (by decide) ?_
    refine lv_iadd hx hb dX6_plain_136 ?_
    obtain ⟨V43, hc41, hf⟩ := ob_some hf
    refine k_V w (q_V C w (c_X6_go ok hc41) wy_X6_go wi_X6_go w_ml_RX6_119_yX6_go iM0 eM0 vc6 rfl rfl ⟨Nat.le_of_ble_eq_true rfl, Nat.le_of_ble_eq_true rfl⟩ rfl hl.1 rfl (Nat.le_of_ble_eq_true rfl) dX6_plain_137 ⟨Nat.le_refl _, Nat.le_refl _⟩) (fun H locs w => ?_)
    cases hf
    exact r_vret C hr hlk w dX6_plain_140
end S32_metM03
