section S32_metM05
variable {p : Program} {l : Launch} {e : Env} {R : Room} {s : State} {m : MethodId} {args : Array Value} {below : List Frame} {meth : Method} {c : Code} {cy : Nat → ClassId} {D : va_G} {a : Id3 → Nat}
set_option maxHeartbeats 4000000 in
set_option maxRecDepth 100000 in
theorem jX6_log_L14 (C : Cx cy D EM idM a p s m args c RX6 cX6_log 4) (hr : meth.sig.returnType = some .int) (hlk : meth.locks = false) {Q : State → Prop} : ∀ (n : Nat) {V : Sto} {x1 : Int32} {x2 : Int32} {x3 : Int32} {x2' : Int32} {H : Heap} {locs : List Loc} {ls : Array Slot}, Wd cy D EM idM a V s H locs → lv_has ls 4 [(0, .ref (a (0, 0, 0))), (1, .int x1), (2, .int x2), (3, .int x3)] → fX6_log_L14 n V x1 x2 x3 = some (x2') → (∀ (H1 : Heap) (locs1 : List Loc) (ls1 : Array Slot), Wd cy D EM idM a V s H1 locs1 → lv_has ls1 4 [(2, .int x2')] → W p l e rm_X6_log s m args below meth c H1 locs1 0 0 (Q) (F0 m 85 ls1 [])) → W p l e rm_X6_log s m args below meth c H locs 0 0 (Q) (F0 m 14 ls []) := by
  have hx := C.1.1
  have hb := C.1.2.1
  have ok := C.2.2.2
  intro n
  induction n with
  | zero => intro V x1 x2 x3 x2' H locs ls w hl hf kk; cases hf
  | succ n ih =>
    intro V x1 x2 x3 x2' H locs ls w hl hf kk
    rw [fX6_log_L14] at hf
    refine lv_iload_n hx hb dX6_log_14 rfl (lv_at hl 3 rfl) ?_
    refine lv_bipush (v := 8) hx hb dX6_log_15 (by decide) ?_
    refine lv_icmp_ge (tgt := 85) hx hb dX6_log_17 (by decide) (fun c5 => ?_) (fun c5 => ?_)
    · rw [if_pos c5] at hf
      cases hf
      exact kk _ _ _ w (lv_sub hl [2] rfl)
    · rw [if_neg c5] at hf
      refine lv_aload_n hx hb dX6_log_20 rfl (lv_at hl 0 rfl) ?_
      refine r_get C w iM0 eM0 vc6 inlX6 16 (by decide) w_fl_RX6_56_AtomicThreadsModel_read_Z rfl dX6_log_21 ?_
      refine lv_bipush (v := 8) hx hb dX6_log_24 (by decide) ?_
      refine lv_iload_n hx hb dX6_log_26 rfl (lv_at hl 1 rfl) ?_
      refine lv_imul hx hb dX6_log_27 ?_
      refine lv_iload_n hx hb dX6_log_28 rfl (lv_at hl 3 rfl) ?_
      refine lv_iadd hx hb dX6_log_29 ?_
      obtain ⟨g6, hf⟩ := gd_some hf
      refine r_zald C w iM17 aM17 g6 dX6_log_30 ?_
      refine lv_if_eq (tgt := 42) hx hb dX6_log_31 (by decide) (fun c7 => ?_) (fun c7 => ?_)
      · rw [if_pos c7] at hf
        refine lv_iload_n hx hb dX6_log_42 rfl (lv_at hl 2 rfl) ?_
        refine lv_istore_n hx hb dX6_log_43 rfl hl (by decide) rfl (fun ls hl => ?_)
        refine lv_aload_n hx hb dX6_log_44 rfl (lv_at hl 1 rfl) ?_
        refine r_get C w iM0 eM0 vc6 inlX6 12 (by decide) w_fl_RX6_43_AtomicThreadsModel_attempt_Z rfl dX6_log_45 ?_
        refine lv_iload_n hx hb dX6_log_48 rfl (lv_at hl 2 rfl) ?_
        obtain ⟨g8, hf⟩ := gd_some hf
        refine r_zald C w iM13 aM13 g8 dX6_log_49 ?_
        refine lv_if_eq (tgt := 77) hx hb dX6_log_50 (by decide) (fun c9 => ?_) (fun c9 => ?_)
        · rw [if_pos c9] at hf
          refine lv_iload_n hx hb dX6_log_77 rfl (lv_at hl 0 rfl) ?_
          refine lv_istore_n hx hb dX6_log_78 rfl hl (by decide) rfl (fun ls hl => ?_)
          refine lv_iinc (v := (x3 + 1)) hx hb dX6_log_79 hl (k := 3) rfl (by rfl) (by decide) rfl (fun ls hl => ?_)
          refine lv_goto (tgt := 14) hx hb dX6_log_82 (by decide) ?_
          exact ih w (lv_sub hl [2, 3, 1, 0] rfl) hf kk
        · rw [if_neg c9] at hf
          refine lv_aload_n hx hb dX6_log_53 rfl (lv_at hl 1 rfl) ?_
          refine r_get C w iM0 eM0 vc6 inlX6 17 (by decide) w_fl_RX6_59_AtomicThreadsModel_written_Z rfl dX6_log_54 ?_
          refine lv_bipush (v := 8) hx hb dX6_log_57 (by decide) ?_
          refine lv_iload_n hx hb dX6_log_59 rfl (lv_at hl 2 rfl) ?_
          refine lv_imul hx hb dX6_log_60 ?_
          refine lv_iload_n hx hb dX6_log_61 rfl (lv_at hl 3 rfl) ?_
          refine lv_iadd hx hb dX6_log_62 ?_
          obtain ⟨g10, hf⟩ := gd_some hf
          refine r_zald C w iM18 aM18 g10 dX6_log_63 ?_
          refine lv_if_eq (tgt := 77) hx hb dX6_log_64 (by decide) (fun c11 => ?_) (fun c11 => ?_)
          · rw [if_pos c11] at hf
            refine lv_iload_n hx hb dX6_log_77 rfl (lv_at hl 0 rfl) ?_
            refine lv_istore_n hx hb dX6_log_78 rfl hl (by decide) rfl (fun ls hl => ?_)
            refine lv_iinc (v := (x3 + 1)) hx hb dX6_log_79 hl (k := 3) rfl (by rfl) (by decide) rfl (fun ls hl => ?_)
            refine lv_goto (tgt := 14) hx hb dX6_log_82 (by decide) ?_
            exact ih w (lv_sub hl [2, 3, 1, 0] rfl) hf kk
          · rw [if_neg c11] at hf
            refine lv_iload_n hx hb dX6_log_67 rfl (lv_at hl 0 rfl) ?_
            refine lv_sipush (v := 256) hx hb dX6_log_68 (by decide) ?_
            refine lv_iload_n hx hb dX6_log_71 rfl (lv_at hl 3 rfl) ?_
            refine lv_ishl hx hb dX6_log_72 ?_
            refine lv_iadd hx hb dX6_log_73 ?_
            refine lv_goto (tgt := 78) hx hb dX6_log_74 (by decide) ?_
            refine lv_istore_n hx hb dX6_log_78 rfl hl (by decide) rfl (fun ls hl => ?_)
            refine lv_iinc (v := (x3 + 1)) hx hb dX6_log_79 hl (k := 3) rfl (by rfl) (by decide) rfl (fun ls hl => ?_)
            refine lv_goto (tgt := 14) hx hb dX6_log_82 (by decide) ?_
            exact ih w (lv_sub hl [2, 3, 1, 0] rfl) hf kk
      · rw [if_neg c7] at hf
        refine lv_iload_n hx hb dX6_log_34 rfl (lv_at hl 2 rfl) ?_
        refine lv_iconst (v := 1) hx hb dX6_log_35 (by decide) ?_
        refine lv_iload_n hx hb dX6_log_36 rfl (lv_at hl 3 rfl) ?_
        refine lv_ishl hx hb dX6_log_37 ?_
        refine lv_iadd hx hb dX6_log_38 ?_
        refine lv_goto (tgt := 43) hx hb dX6_log_39 (by decide) ?_
        refine lv_istore_n hx hb dX6_log_43 rfl hl (by decide) rfl (fun ls hl => ?_)
        refine lv_aload_n hx hb dX6_log_44 rfl (lv_at hl 1 rfl) ?_
        refine r_get C w iM0 eM0 vc6 inlX6 12 (by decide) w_fl_RX6_43_AtomicThreadsModel_attempt_Z rfl dX6_log_45 ?_
        refine lv_iload_n hx hb dX6_log_48 rfl (lv_at hl 2 rfl) ?_
        obtain ⟨g12, hf⟩ := gd_some hf
        refine r_zald C w iM13 aM13 g12 dX6_log_49 ?_
        refine lv_if_eq (tgt := 77) hx hb dX6_log_50 (by decide) (fun c13 => ?_) (fun c13 => ?_)
        · rw [if_pos c13] at hf
          refine lv_iload_n hx hb dX6_log_77 rfl (lv_at hl 0 rfl) ?_
          refine lv_istore_n hx hb dX6_log_78 rfl hl (by decide) rfl (fun ls hl => ?_)
          refine lv_iinc (v := (x3 + 1)) hx hb dX6_log_79 hl (k := 3) rfl (by rfl) (by decide) rfl (fun ls hl => ?_)
          refine lv_goto (tgt := 14) hx hb dX6_log_82 (by decide) ?_
          exact ih w (lv_sub hl [2, 3, 1, 0] rfl) hf kk
        · rw [if_neg c13] at hf
          refine lv_aload_n hx hb dX6_log_53 rfl (lv_at hl 1 rfl) ?_
          refine r_get C w iM0 eM0 vc6 inlX6 17 (by decide) w_fl_RX6_59_AtomicThreadsModel_written_Z rfl dX6_log_54 ?_
          refine lv_bipush (v := 8) hx hb dX6_log_57 (by decide) ?_
          refine lv_iload_n hx hb dX6_log_59 rfl (lv_at hl 2 rfl) ?_
          refine lv_imul hx hb dX6_log_60 ?_
          refine lv_iload_n hx hb dX6_log_61 rfl (lv_at hl 3 rfl) ?_
          refine lv_iadd hx hb dX6_log_62 ?_
          obtain ⟨g14, hf⟩ := gd_some hf
          refine r_zald C w iM18 aM18 g14 dX6_log_63 ?_
          refine lv_if_eq (tgt := 77) hx hb dX6_log_64 (by decide) (fun c15 => ?_) (fun c15 => ?_)
          · rw [if_pos c15] at hf
            refine lv_iload_n hx hb dX6_log_77 rfl (lv_at hl 0 rfl) ?_
            refine lv_istore_n hx hb dX6_log_78 rfl hl (by decide) rfl (fun ls hl => ?_)
            refine lv_iinc (v := (x3 + 1)) hx hb dX6_log_79 hl (k := 3) rfl (by rfl) (by decide) rfl (fun ls hl => ?_)
            refine lv_goto (tgt := 14) hx hb dX6_log_82 (by decide) ?_
            exact ih w (lv_sub hl [2, 3, 1, 0] rfl) hf kk
          · rw [if_neg c15] at hf
            refine lv_iload_n hx hb dX6_log_67 rfl (lv_at hl 0 rfl) ?_
            refine lv_sipush (v := 256) hx hb dX6_log_68 (by decide) ?_
            refine lv_iload_n hx hb dX6_log_71 rfl (lv_at hl 3 rfl) ?_
            refine lv_ishl hx hb dX6_log_72 ?_
            refine lv_iadd hx hb dX6_log_73 ?_
            refine lv_goto (tgt := 78) hx hb dX6_log_74 (by decide) ?_
            refine lv_istore_n hx hb dX6_log_78 rfl hl (by decide) rfl (fun ls hl => ?_)
            refine lv_iinc (v := (x3 + 1)) hx hb dX6_log_79 hl (k := 3) rfl (by rfl) (by decide) rfl (fun ls hl => ?_)
            refine lv_goto (tgt := 14) hx hb dX6_log_82 (by decide) ?_
            exact ih w (lv_sub hl [2, 3, 1, 0] rfl) hf kk
set_option maxHeartbeats 4000000 in
set_option maxRecDepth 100000 in
theorem c_X6_log (ok : Wok EM idM a) {V : Sto} {r : Int32} {x1 : Int32} (hf : fX6_log V x1 = some r) : MtI l cy D EM idM a yX6_log cX6_log 4 .int rm_X6_log [.ref (a (0, 0, 0)), .int x1] V r V := by
  refine ofM (by decide +kernel) ok (Nat.le_of_ble_eq_true rfl) (fun p e s m args below meth c C hr hlk w ls hl => ?_)
  have hx := C.1.1
  have hb := C.1.2.1
  rw [fX6_log] at hf
  skip
  refine lv_iload_n hx hb dX6_log_0 rfl (lv_at hl 1 rfl) ?_
  refine lv_iconst (v := 4) hx hb dX6_log_1 (by decide) ?_
  obtain ⟨r2, hc1, hf⟩ := ob_some hf
  refine k_I w (q_S C w (c_X6_out ok hc1) wy_X6_out w_sta_yX6_out w_ml_RX6_89_yX6_out rfl rfl ⟨Nat.le_of_ble_eq_true rfl, Nat.le_of_ble_eq_true rfl⟩ rfl hl.1 rfl (Nat.le_of_ble_eq_true rfl) dX6_log_2 ⟨Nat.le_refl _, Nat.le_refl _⟩) (fun H locs w => ?_)
  refine lv_if_eq (tgt := 10) hx hb dX6_log_5 (by decide) (fun c4 => ?_) (fun c4 => ?_)
  · rw [if_pos c4] at hf
    refine lv_iconst (v := 0) hx hb dX6_log_10 (by decide) ?_
    refine lv_istore_n hx hb dX6_log_11 rfl hl (by decide) rfl (fun ls hl => ?_)
    refine lv_iconst (v := 0) hx hb dX6_log_12 (by decide) ?_
    refine lv_istore_n hx hb dX6_log_13 rfl hl (by decide) rfl (fun ls hl => ?_)
    obtain ⟨z17, hc16, hf⟩ := ob_some hf
    refine jX6_log_L14 C hr hlk 40 w (lv_sub hl [2, 3, 1, 0] rfl) hc16 (fun H locs ls w hl => ?_)
    refine lv_iload_n hx hb dX6_log_85 rfl (lv_at hl 0 rfl) ?_
    cases hf
    exact r_iret C hr hlk w dX6_log_86
  · rw [if_neg c4] at hf
    refine lv_iconst (v := 0) hx hb dX6_log_8 (by decide) ?_
    cases hf
    exact r_iret C hr hlk w dX6_log_9
set_option maxHeartbeats 4000000 in
set_option maxRecDepth 100000 in
theorem jX6_waiting_L15 (C : Cx cy D EM idM a p s m args c RX6 cX6_waiting 4) (hr : meth.sig.returnType = some .int) (hlk : meth.locks = false) {Q : State → Prop} : ∀ (n : Nat) {V : Sto} {x1 : Int32} {x2 : Int32} {x3 : Int32} {x2' : Int32} {H : Heap} {locs : List Loc} {ls : Array Slot}, Wd cy D EM idM a V s H locs → lv_has ls 4 [(0, .ref (a (0, 0, 0))), (1, .int x1), (2, .int x2), (3, .int x3)] → fX6_waiting_L15 n V x1 x2 x3 = some (x2') → (∀ (H1 : Heap) (locs1 : List Loc) (ls1 : Array Slot), Wd cy D EM idM a V s H1 locs1 → lv_has ls1 4 [(2, .int x2')] → W p l e rm_X6_waiting s m args below meth c H1 locs1 0 0 (Q) (F0 m 58 ls1 [])) → W p l e rm_X6_waiting s m args below meth c H locs 0 0 (Q) (F0 m 15 ls []) := by
  have hx := C.1.1
  have hb := C.1.2.1
  have ok := C.2.2.2
  intro n
  induction n with
  | zero => intro V x1 x2 x3 x2' H locs ls w hl hf kk; cases hf
  | succ n ih =>
    intro V x1 x2 x3 x2' H locs ls w hl hf kk
    rw [fX6_waiting_L15] at hf
    refine lv_iload_n hx hb dX6_waiting_15 rfl (lv_at hl 3 rfl) ?_
    refine lv_iconst (v := 4) hx hb dX6_waiting_16 (by decide) ?_
    refine lv_icmp_ge (tgt := 58) hx hb dX6_waiting_17 (by decide) (fun c5 => ?_) (fun c5 => ?_)
    · rw [if_pos c5] at hf
      cases hf
      exact kk _ _ _ w (lv_sub hl [2] rfl)
    · rw [if_neg c5] at hf
      refine lv_aload_n hx hb dX6_waiting_20 rfl (lv_at hl 0 rfl) ?_
      refine r_get C w iM0 eM0 vc6 inlX6 4 (by decide) w_fl_RX6_22_AtomicThreadsModel_state_I rfl dX6_waiting_21 ?_
      refine lv_iload_n hx hb dX6_waiting_24 rfl (lv_at hl 3 rfl) ?_
      obtain ⟨g6, hf⟩ := gd_some hf
      refine r_iald C w iM5 aM5 g6 dX6_waiting_25 ?_
      refine lv_iconst (v := 2) hx hb dX6_waiting_26 (by decide) ?_
      refine lv_icmp_ne (tgt := 50) hx hb dX6_waiting_27 (by decide) (fun c7 => ?_) (fun c7 => ?_)
      · rw [if_neg c7] at hf
        refine lv_iload_n hx hb dX6_waiting_50 rfl (lv_at hl 2 rfl) ?_
        refine lv_istore_n hx hb dX6_waiting_51 rfl hl (by decide) rfl (fun ls hl => ?_)
        refine lv_iinc (v := (x3 + 1)) hx hb dX6_waiting_52 hl (k := 3) rfl (by rfl) (by decide) rfl (fun ls hl => ?_)
        refine lv_goto (tgt := 15) hx hb dX6_waiting_55 (by decide) ?_
        exact ih w (lv_sub hl [2, 3, 1, 0] rfl) hf kk
      · rw [if_pos c7] at hf
        refine lv_aload_n hx hb dX6_waiting_30 rfl (lv_at hl 0 rfl) ?_
        refine r_get C w iM0 eM0 vc6 inlX6 16 (by decide) w_fl_RX6_56_AtomicThreadsModel_read_Z rfl dX6_waiting_31 ?_
        refine lv_bipush (v := 8) hx hb dX6_waiting_34 (by decide) ?_
        refine lv_iload_n hx hb dX6_waiting_36 rfl (lv_at hl 3 rfl) ?_
        refine lv_imul hx hb dX6_waiting_37 ?_
        refine lv_iload_n hx hb dX6_waiting_38 rfl (lv_at hl 1 rfl) ?_
        refine lv_iadd hx hb dX6_waiting_39 ?_
        obtain ⟨g8, hf⟩ := gd_some hf
        refine r_zald C w iM17 aM17 g8 dX6_waiting_40 ?_
        refine lv_if_eq (tgt := 50) hx hb dX6_waiting_41 (by decide) (fun c9 => ?_) (fun c9 => ?_)
        · rw [if_pos c9] at hf
          refine lv_iload_n hx hb dX6_waiting_50 rfl (lv_at hl 2 rfl) ?_
          refine lv_istore_n hx hb dX6_waiting_51 rfl hl (by decide) rfl (fun ls hl => ?_)
          refine lv_iinc (v := (x3 + 1)) hx hb dX6_waiting_52 hl (k := 3) rfl (by rfl) (by decide) rfl (fun ls hl => ?_)
          refine lv_goto (tgt := 15) hx hb dX6_waiting_55 (by decide) ?_
          exact ih w (lv_sub hl [2, 3, 1, 0] rfl) hf kk
        · rw [if_neg c9] at hf
          refine lv_iload_n hx hb dX6_waiting_44 rfl (lv_at hl 2 rfl) ?_
          refine lv_iconst (v := 1) hx hb dX6_waiting_45 (by decide) ?_
          refine lv_iadd hx hb dX6_waiting_46 ?_
          refine lv_goto (tgt := 51) hx hb dX6_waiting_47 (by decide) ?_
          refine lv_istore_n hx hb dX6_waiting_51 rfl hl (by decide) rfl (fun ls hl => ?_)
          refine lv_iinc (v := (x3 + 1)) hx hb dX6_waiting_52 hl (k := 3) rfl (by rfl) (by decide) rfl (fun ls hl => ?_)
          refine lv_goto (tgt := 15) hx hb dX6_waiting_55 (by decide) ?_
          exact ih w (lv_sub hl [2, 3, 1, 0] rfl) hf kk
set_option maxHeartbeats 4000000 in
set_option maxRecDepth 100000 in
theorem c_X6_waiting (ok : Wok EM idM a) {V : Sto} {r : Int32} {x1 : Int32} (hf : fX6_waiting V x1 = some r) : MtI l cy D EM idM a yX6_waiting cX6_waiting 4 .int rm_X6_waiting [.ref (a (0, 0, 0)), .int x1] V r V := by
  refine ofM (by decide +kernel) ok (Nat.le_of_ble_eq_true rfl) (fun p e s m args below meth c C hr hlk w ls hl => ?_)
  have hx := C.1.1
  have hb := C.1.2.1
  rw [fX6_waiting] at hf
  skip
  refine lv_iload_n hx hb dX6_waiting_0 rfl (lv_at hl 1 rfl) ?_
  refine lv_bipush (v := 8) hx hb dX6_waiting_1 (by decide) ?_
  obtain ⟨r2, hc1, hf⟩ := ob_some hf
  refine k_I w (q_S C w (c_X6_out ok hc1) wy_X6_out w_sta_yX6_out w_ml_RX6_89_yX6_out rfl rfl ⟨Nat.le_of_ble_eq_true rfl, Nat.le_of_ble_eq_true rfl⟩ rfl hl.1 rfl (Nat.le_of_ble_eq_true rfl) dX6_waiting_3 ⟨Nat.le_refl _, Nat.le_refl _⟩) (fun H locs w => ?_)
  refine lv_if_eq (tgt := 11) hx hb dX6_waiting_6 (by decide) (fun c4 => ?_) (fun c4 => ?_)
  · rw [if_pos c4] at hf
    refine lv_iconst (v := 0) hx hb dX6_waiting_11 (by decide) ?_
    refine lv_istore_n hx hb dX6_waiting_12 rfl hl (by decide) rfl (fun ls hl => ?_)
    refine lv_iconst (v := 0) hx hb dX6_waiting_13 (by decide) ?_
    refine lv_istore_n hx hb dX6_waiting_14 rfl hl (by decide) rfl (fun ls hl => ?_)
    obtain ⟨z11, hc10, hf⟩ := ob_some hf
    refine jX6_waiting_L15 C hr hlk 40 w (lv_sub hl [2, 3, 1, 0] rfl) hc10 (fun H locs ls w hl => ?_)
    refine lv_iload_n hx hb dX6_waiting_58 rfl (lv_at hl 0 rfl) ?_
    cases hf
    exact r_iret C hr hlk w dX6_waiting_59
  · rw [if_neg c4] at hf
    refine lv_iconst (v := 0) hx hb dX6_waiting_9 (by decide) ?_
    cases hf
    exact r_iret C hr hlk w dX6_waiting_10
set_option maxHeartbeats 4000000 in
set_option maxRecDepth 100000 in
theorem c_X6_discards (ok : Wok EM idM a) {V : Sto} {r : Int32} {x1 : Int32} (hf : fX6_discards V x1 = some r) : MtI l cy D EM idM a yX6_discards cX6_discards 2 .int rm_X6_discards [.ref (a (0, 0, 0)), .int x1] V r V := by
  refine ofM (by decide +kernel) ok (Nat.le_of_ble_eq_true rfl) (fun p e s m args below meth c C hr hlk w ls hl => ?_)
  have hx := C.1.1
  have hb := C.1.2.1
  rw [fX6_discards] at hf
  skip
  refine lv_iload_n hx hb dX6_discards_0 rfl (lv_at hl 1 rfl) ?_
  refine lv_iconst (v := 4) hx hb dX6_discards_1 (by decide) ?_
  obtain ⟨r2, hc1, hf⟩ := ob_some hf
  refine k_I w (q_S C w (c_X6_out ok hc1) wy_X6_out w_sta_yX6_out w_ml_RX6_89_yX6_out rfl rfl ⟨Nat.le_of_ble_eq_true rfl, Nat.le_of_ble_eq_true rfl⟩ rfl hl.1 rfl (Nat.le_of_ble_eq_true rfl) dX6_discards_2 ⟨Nat.le_refl _, Nat.le_refl _⟩) (fun H locs w => ?_)
  refine lv_if_eq (tgt := 12) hx hb dX6_discards_5 (by decide) (fun c4 => ?_) (fun c4 => ?_)
  · rw [if_pos c4] at hf
    refine lv_aload_n hx hb dX6_discards_12 rfl (lv_at hl 0 rfl) ?_
    refine r_get C w iM0 eM0 vc6 inlX6 6 (by decide) w_fl_RX6_28_AtomicThreadsModel_discarded_I rfl dX6_discards_13 ?_
    refine lv_iload_n hx hb dX6_discards_16 rfl (lv_at hl 1 rfl) ?_
    obtain ⟨g5, hf⟩ := gd_some hf
    refine r_iald C w iM7 aM7 g5 dX6_discards_17 ?_
    cases hf
    exact r_iret C hr hlk w dX6_discards_18
  · rw [if_neg c4] at hf
    refine lv_iconst (v := 0) hx hb dX6_discards_8 (by decide) ?_
    refine lv_goto (tgt := 18) hx hb dX6_discards_9 (by decide) ?_
    cases hf
    exact r_iret C hr hlk w dX6_discards_18
set_option maxHeartbeats 4000000 in
set_option maxRecDepth 100000 in
theorem jX6_outcome_L6 (C : Cx cy D EM idM a p s m args c RX6 cX6_outcome 4) (hr : meth.sig.returnType = some .int) (hlk : meth.locks = false) {Q : State → Prop} : ∀ (n : Nat) {V : Sto} {x1 : Int32} {x2 : Int32} {x3 : Int32} {x1' : Int32} {x2' : Int32} {H : Heap} {locs : List Loc} {ls : Array Slot}, Wd cy D EM idM a V s H locs → lv_has ls 4 [(0, .ref (a (0, 0, 0))), (1, .int x1), (2, .int x2), (3, .int x3)] → fX6_outcome_L6 n V x1 x2 x3 = some (x1', x2') → (∀ (H1 : Heap) (locs1 : List Loc) (ls1 : Array Slot), Wd cy D EM idM a V s H1 locs1 → lv_has ls1 4 [(1, .int x1'), (2, .int x2')] → W p l e rm_X6_outcome s m args below meth c H1 locs1 0 0 (Q) (F0 m 57 ls1 [])) → W p l e rm_X6_outcome s m args below meth c H locs 0 0 (Q) (F0 m 6 ls []) := by
  have hx := C.1.1
  have hb := C.1.2.1
  have ok := C.2.2.2
  intro n
  induction n with
  | zero => intro V x1 x2 x3 x1' x2' H locs ls w hl hf kk; cases hf
  | succ n ih =>
    intro V x1 x2 x3 x1' x2' H locs ls w hl hf kk
    rw [fX6_outcome_L6] at hf
    refine lv_iload_n hx hb dX6_outcome_6 rfl (lv_at hl 3 rfl) ?_
    refine lv_iconst (v := 4) hx hb dX6_outcome_7 (by decide) ?_
    refine lv_icmp_ge (tgt := 57) hx hb dX6_outcome_8 (by decide) (fun c1 => ?_) (fun c1 => ?_)
    · rw [if_pos c1] at hf
      cases hf
      exact kk _ _ _ w (lv_sub hl [1, 2] rfl)
    · rw [if_neg c1] at hf
      refine lv_iload_n hx hb dX6_outcome_11 rfl (lv_at hl 1 rfl) ?_
      refine lv_if_ne (tgt := 25) hx hb dX6_outcome_12 (by decide) (fun c2 => ?_) (fun c2 => ?_)
      · rw [if_neg c2] at hf
        refine lv_iconst (v := 1) hx hb dX6_outcome_25 (by decide) ?_
        refine lv_goto (tgt := 30) hx hb dX6_outcome_26 (by decide) ?_
        refine lv_istore_n hx hb dX6_outcome_30 rfl hl (by decide) rfl (fun ls hl => ?_)
        refine lv_iload_n hx hb dX6_outcome_31 rfl (lv_at hl 2 rfl) ?_
        refine lv_if_ne (tgt := 45) hx hb dX6_outcome_32 (by decide) (fun c3 => ?_) (fun c3 => ?_)
        · rw [if_neg c3] at hf
          refine lv_iconst (v := 1) hx hb dX6_outcome_45 (by decide) ?_
          refine lv_goto (tgt := 50) hx hb dX6_outcome_46 (by decide) ?_
          refine lv_istore_n hx hb dX6_outcome_50 rfl hl (by decide) rfl (fun ls hl => ?_)
          refine lv_iinc (v := (x3 + 1)) hx hb dX6_outcome_51 hl (k := 3) rfl (by rfl) (by decide) rfl (fun ls hl => ?_)
          refine lv_goto (tgt := 6) hx hb dX6_outcome_54 (by decide) ?_
          exact ih w (lv_sub hl [3, 2, 1, 0] rfl) hf kk
        · rw [if_pos c3] at hf
          refine lv_aload_n hx hb dX6_outcome_35 rfl (lv_at hl 1 rfl) ?_
          refine r_get C w iM0 eM0 vc6 inlX6 4 (by decide) w_fl_RX6_22_AtomicThreadsModel_state_I rfl dX6_outcome_36 ?_
          refine lv_iload_n hx hb dX6_outcome_39 rfl (lv_at hl 3 rfl) ?_
          obtain ⟨g4, hf⟩ := gd_some hf
          refine r_iald C w iM5 aM5 g4 dX6_outcome_40 ?_
          refine lv_iconst (v := 2) hx hb dX6_outcome_41 (by decide) ?_
          refine lv_icmp_ne (tgt := 49) hx hb dX6_outcome_42 (by decide) (fun c5 => ?_) (fun c5 => ?_)
          · rw [if_neg c5] at hf
            refine lv_iconst (v := 0) hx hb dX6_outcome_49 (by decide) ?_
            refine lv_istore_n hx hb dX6_outcome_50 rfl hl (by decide) rfl (fun ls hl => ?_)
            refine lv_iinc (v := (x3 + 1)) hx hb dX6_outcome_51 hl (k := 3) rfl (by rfl) (by decide) rfl (fun ls hl => ?_)
            refine lv_goto (tgt := 6) hx hb dX6_outcome_54 (by decide) ?_
            exact ih w (lv_sub hl [3, 2, 1, 0] rfl) hf kk
          · rw [if_pos c5] at hf
            refine lv_iconst (v := 1) hx hb dX6_outcome_45 (by decide) ?_
            refine lv_goto (tgt := 50) hx hb dX6_outcome_46 (by decide) ?_
            refine lv_istore_n hx hb dX6_outcome_50 rfl hl (by decide) rfl (fun ls hl => ?_)
            refine lv_iinc (v := (x3 + 1)) hx hb dX6_outcome_51 hl (k := 3) rfl (by rfl) (by decide) rfl (fun ls hl => ?_)
            refine lv_goto (tgt := 6) hx hb dX6_outcome_54 (by decide) ?_
            exact ih w (lv_sub hl [3, 2, 1, 0] rfl) hf kk
      · rw [if_pos c2] at hf
        refine lv_aload_n hx hb dX6_outcome_15 rfl (lv_at hl 0 rfl) ?_
        refine r_get C w iM0 eM0 vc6 inlX6 4 (by decide) w_fl_RX6_22_AtomicThreadsModel_state_I rfl dX6_outcome_16 ?_
        refine lv_iload_n hx hb dX6_outcome_19 rfl (lv_at hl 3 rfl) ?_
        obtain ⟨g6, hf⟩ := gd_some hf
        refine r_iald C w iM5 aM5 g6 dX6_outcome_20 ?_
        refine lv_iconst (v := 1) hx hb dX6_outcome_21 (by decide) ?_
        refine lv_icmp_ne (tgt := 29) hx hb dX6_outcome_22 (by decide) (fun c7 => ?_) (fun c7 => ?_)
        · rw [if_neg c7] at hf
          refine lv_iconst (v := 0) hx hb dX6_outcome_29 (by decide) ?_
          refine lv_istore_n hx hb dX6_outcome_30 rfl hl (by decide) rfl (fun ls hl => ?_)
          refine lv_iload_n hx hb dX6_outcome_31 rfl (lv_at hl 2 rfl) ?_
          refine lv_if_ne (tgt := 45) hx hb dX6_outcome_32 (by decide) (fun c8 => ?_) (fun c8 => ?_)
          · rw [if_neg c8] at hf
            refine lv_iconst (v := 1) hx hb dX6_outcome_45 (by decide) ?_
            refine lv_goto (tgt := 50) hx hb dX6_outcome_46 (by decide) ?_
            refine lv_istore_n hx hb dX6_outcome_50 rfl hl (by decide) rfl (fun ls hl => ?_)
            refine lv_iinc (v := (x3 + 1)) hx hb dX6_outcome_51 hl (k := 3) rfl (by rfl) (by decide) rfl (fun ls hl => ?_)
            refine lv_goto (tgt := 6) hx hb dX6_outcome_54 (by decide) ?_
            exact ih w (lv_sub hl [3, 2, 1, 0] rfl) hf kk
          · rw [if_pos c8] at hf
            refine lv_aload_n hx hb dX6_outcome_35 rfl (lv_at hl 1 rfl) ?_
            refine r_get C w iM0 eM0 vc6 inlX6 4 (by decide) w_fl_RX6_22_AtomicThreadsModel_state_I rfl dX6_outcome_36 ?_
            refine lv_iload_n hx hb dX6_outcome_39 rfl (lv_at hl 3 rfl) ?_
            obtain ⟨g9, hf⟩ := gd_some hf
            refine r_iald C w iM5 aM5 g9 dX6_outcome_40 ?_
            refine lv_iconst (v := 2) hx hb dX6_outcome_41 (by decide) ?_
            refine lv_icmp_ne (tgt := 49) hx hb dX6_outcome_42 (by decide) (fun c10 => ?_) (fun c10 => ?_)
            · rw [if_neg c10] at hf
              refine lv_iconst (v := 0) hx hb dX6_outcome_49 (by decide) ?_
              refine lv_istore_n hx hb dX6_outcome_50 rfl hl (by decide) rfl (fun ls hl => ?_)
              refine lv_iinc (v := (x3 + 1)) hx hb dX6_outcome_51 hl (k := 3) rfl (by rfl) (by decide) rfl (fun ls hl => ?_)
              refine lv_goto (tgt := 6) hx hb dX6_outcome_54 (by decide) ?_
              exact ih w (lv_sub hl [3, 2, 1, 0] rfl) hf kk
            · rw [if_pos c10] at hf
              refine lv_iconst (v := 1) hx hb dX6_outcome_45 (by decide) ?_
              refine lv_goto (tgt := 50) hx hb dX6_outcome_46 (by decide) ?_
              refine lv_istore_n hx hb dX6_outcome_50 rfl hl (by decide) rfl (fun ls hl => ?_)
              refine lv_iinc (v := (x3 + 1)) hx hb dX6_outcome_51 hl (k := 3) rfl (by rfl) (by decide) rfl (fun ls hl => ?_)
              refine lv_goto (tgt := 6) hx hb dX6_outcome_54 (by decide) ?_
              exact ih w (lv_sub hl [3, 2, 1, 0] rfl) hf kk
        · rw [if_pos c7] at hf
          refine lv_iconst (v := 1) hx hb dX6_outcome_25 (by decide) ?_
          refine lv_goto (tgt := 30) hx hb dX6_outcome_26 (by decide) ?_
          refine lv_istore_n hx hb dX6_outcome_30 rfl hl (by decide) rfl (fun ls hl => ?_)
          refine lv_iload_n hx hb dX6_outcome_31 rfl (lv_at hl 2 rfl) ?_
          refine lv_if_ne (tgt := 45) hx hb dX6_outcome_32 (by decide) (fun c11 => ?_) (fun c11 => ?_)
          · rw [if_neg c11] at hf
            refine lv_iconst (v := 1) hx hb dX6_outcome_45 (by decide) ?_
            refine lv_goto (tgt := 50) hx hb dX6_outcome_46 (by decide) ?_
            refine lv_istore_n hx hb dX6_outcome_50 rfl hl (by decide) rfl (fun ls hl => ?_)
            refine lv_iinc (v := (x3 + 1)) hx hb dX6_outcome_51 hl (k := 3) rfl (by rfl) (by decide) rfl (fun ls hl => ?_)
            refine lv_goto (tgt := 6) hx hb dX6_outcome_54 (by decide) ?_
            exact ih w (lv_sub hl [3, 2, 1, 0] rfl) hf kk
          · rw [if_pos c11] at hf
            refine lv_aload_n hx hb dX6_outcome_35 rfl (lv_at hl 1 rfl) ?_
            refine r_get C w iM0 eM0 vc6 inlX6 4 (by decide) w_fl_RX6_22_AtomicThreadsModel_state_I rfl dX6_outcome_36 ?_
            refine lv_iload_n hx hb dX6_outcome_39 rfl (lv_at hl 3 rfl) ?_
            obtain ⟨g12, hf⟩ := gd_some hf
            refine r_iald C w iM5 aM5 g12 dX6_outcome_40 ?_
            refine lv_iconst (v := 2) hx hb dX6_outcome_41 (by decide) ?_
            refine lv_icmp_ne (tgt := 49) hx hb dX6_outcome_42 (by decide) (fun c13 => ?_) (fun c13 => ?_)
            · rw [if_neg c13] at hf
              refine lv_iconst (v := 0) hx hb dX6_outcome_49 (by decide) ?_
              refine lv_istore_n hx hb dX6_outcome_50 rfl hl (by decide) rfl (fun ls hl => ?_)
              refine lv_iinc (v := (x3 + 1)) hx hb dX6_outcome_51 hl (k := 3) rfl (by rfl) (by decide) rfl (fun ls hl => ?_)
              refine lv_goto (tgt := 6) hx hb dX6_outcome_54 (by decide) ?_
              exact ih w (lv_sub hl [3, 2, 1, 0] rfl) hf kk
            · rw [if_pos c13] at hf
              refine lv_iconst (v := 1) hx hb dX6_outcome_45 (by decide) ?_
              refine lv_goto (tgt := 50) hx hb dX6_outcome_46 (by decide) ?_
              refine lv_istore_n hx hb dX6_outcome_50 rfl hl (by decide) rfl (fun ls hl => ?_)
              refine lv_iinc (v := (x3 + 1)) hx hb dX6_outcome_51 hl (k := 3) rfl (by rfl) (by decide) rfl (fun ls hl => ?_)
              refine lv_goto (tgt := 6) hx hb dX6_outcome_54 (by decide) ?_
              exact ih w (lv_sub hl [3, 2, 1, 0] rfl) hf kk
set_option maxHeartbeats 4000000 in
set_option maxRecDepth 100000 in
theorem c_X6_outcome (ok : Wok EM idM a) {V : Sto} {r : Int32} (hf : fX6_outcome V = some r) : MtI l cy D EM idM a yX6_outcome cX6_outcome 4 .int rm_X6_outcome [.ref (a (0, 0, 0))] V r V := by
  refine ofM (by decide +kernel) ok (Nat.le_of_ble_eq_true rfl) (fun p e s m args below meth c C hr hlk w ls hl => ?_)
  have hx := C.1.1
  have hb := C.1.2.1
  rw [fX6_outcome] at hf
  skip
  refine lv_iconst (v := 0) hx hb dX6_outcome_0 (by decide) ?_
  refine lv_istore_n hx hb dX6_outcome_1 rfl hl (by decide) rfl (fun ls hl => ?_)
  refine lv_iconst (v := 0) hx hb dX6_outcome_2 (by decide) ?_
  refine lv_istore_n hx hb dX6_outcome_3 rfl hl (by decide) rfl (fun ls hl => ?_)
  refine lv_iconst (v := 0) hx hb dX6_outcome_4 (by decide) ?_
  refine lv_istore_n hx hb dX6_outcome_5 rfl hl (by decide) rfl (fun ls hl => ?_)
  obtain ⟨z15, z16, hc14, hf⟩ := ob2_some hf
  refine jX6_outcome_L6 C hr hlk 40 w (lv_sub hl [3, 2, 1, 0] rfl) hc14 (fun H locs ls w hl => ?_)
  refine lv_iload_n hx hb dX6_outcome_57 rfl (lv_at hl 0 rfl) ?_
  refine lv_if_eq (tgt := 65) hx hb dX6_outcome_58 (by decide) (fun c17 => ?_) (fun c17 => ?_)
  · rw [if_pos c17] at hf
    refine lv_iload_n hx hb dX6_outcome_65 rfl (lv_at hl 1 rfl) ?_
    refine lv_if_eq (tgt := 73) hx hb dX6_outcome_66 (by decide) (fun c18 => ?_) (fun c18 => ?_)
    · rw [if_pos c18] at hf
      refine lv_iconst (v := 1) hx hb dX6_outcome_73 (by decide) ?_
      cases hf
      exact r_iret C hr hlk w dX6_outcome_74
    · rw [if_neg c18] at hf
      refine lv_iconst (v := 2) hx hb dX6_outcome_69 (by decide) ?_
      refine lv_goto (tgt := 74) hx hb dX6_outcome_70 (by decide) ?_
      cases hf
      exact r_iret C hr hlk w dX6_outcome_74
  · rw [if_neg c17] at hf
    refine lv_iconst (v := 0) hx hb dX6_outcome_61 (by decide) ?_
    refine lv_goto (tgt := 74) hx hb dX6_outcome_62 (by decide) ?_
    cases hf
    exact r_iret C hr hlk w dX6_outcome_74
set_option maxHeartbeats 4000000 in
set_option maxRecDepth 100000 in
theorem c_X6_printed (ok : Wok EM idM a) {V : Sto} {r : Int32} {x1 : Int32} (hf : fX6_printed V x1 = some r) : MtI l cy D EM idM a yX6_printed cX6_printed 2 .int rm_X6_printed [.ref (a (0, 0, 0)), .int x1] V r V := by
  refine ofM (by decide +kernel) ok (Nat.le_of_ble_eq_true rfl) (fun p e s m args below meth c C hr hlk w ls hl => ?_)
  have hx := C.1.1
  have hb := C.1.2.1
  rw [fX6_printed] at hf
  skip
  refine lv_iload_n hx hb dX6_printed_0 rfl (lv_at hl 1 rfl) ?_
  refine lv_iconst (v := (-1)) hx hb dX6_printed_1 (by decide) ?_
  refine lv_icmp_ne (tgt := 10) hx hb dX6_printed_2 (by decide) (fun c1 => ?_) (fun c1 => ?_)
  · rw [if_neg c1] at hf
    refine lv_iload_n hx hb dX6_printed_10 rfl (lv_at hl 1 rfl) ?_
    refine lv_if_lt (tgt := 28) hx hb dX6_printed_11 (by decide) (fun c2 => ?_) (fun c2 => ?_)
    · rw [if_pos c2] at hf
      refine lv_iconst (v := 0) hx hb dX6_printed_28 (by decide) ?_
      cases hf
      exact r_iret C hr hlk w dX6_printed_29
    · rw [if_neg c2] at hf
      refine lv_iload_n hx hb dX6_printed_14 rfl (lv_at hl 1 rfl) ?_
      refine lv_bipush (v := 15) hx hb dX6_printed_15 (by decide) ?_
      refine lv_icmp_gt (tgt := 28) hx hb dX6_printed_17 (by decide) (fun c3 => ?_) (fun c3 => ?_)
      · rw [if_pos c3] at hf
        refine lv_iconst (v := 0) hx hb dX6_printed_28 (by decide) ?_
        cases hf
        exact r_iret C hr hlk w dX6_printed_29
      · rw [if_neg c3] at hf
        refine lv_iload_n hx hb dX6_printed_20 rfl (lv_at hl 1 rfl) ?_
        refine lv_aload_n hx hb dX6_printed_21 rfl (lv_at hl 0 rfl) ?_
        refine r_get C w iM0 eM0 vc6 inlX6 24 (by decide) w_fl_RX6_151_AtomicThreadsModel_prints_I rfl dX6_printed_22 ?_
        refine lv_icmp_lt (tgt := 30) hx hb dX6_printed_25 (by decide) (fun c4 => ?_) (fun c4 => ?_)
        · rw [if_pos c4] at hf
          refine lv_aload_n hx hb dX6_printed_30 rfl (lv_at hl 0 rfl) ?_
          refine r_get C w iM0 eM0 vc6 inlX6 25 (by decide) w_fl_RX6_80_AtomicThreadsModel_print_I rfl dX6_printed_31 ?_
          refine lv_aload_n hx hb dX6_printed_34 rfl (lv_at hl 0 rfl) ?_
          refine r_get C w iM0 eM0 vc6 inlX6 24 (by decide) w_fl_RX6_151_AtomicThreadsModel_prints_I rfl dX6_printed_35 ?_
          refine lv_iconst (v := 1) hx hb dX6_printed_38 (by decide) ?_
          refine lv_isub hx hb dX6_printed_39 ?_
          refine lv_iload_n hx hb dX6_printed_40 rfl (lv_at hl 1 rfl) ?_
          refine lv_isub hx hb dX6_printed_41 ?_
          refine lv_bipush (v := 16) hx hb dX6_printed_42 (by decide) ?_
          refine lv_irem hx hb dX6_printed_44 (by decide) ?_
          obtain ⟨g5, hf⟩ := gd_some hf
          refine r_iald C w iM26 aM26 g5 dX6_printed_45 ?_
          cases hf
          exact r_iret C hr hlk w dX6_printed_46
        · rw [if_neg c4] at hf
          refine lv_iconst (v := 0) hx hb dX6_printed_28 (by decide) ?_
          cases hf
          exact r_iret C hr hlk w dX6_printed_29
  · rw [if_pos c1] at hf
    refine lv_aload_n hx hb dX6_printed_5 rfl (lv_at hl 0 rfl) ?_
    refine r_get C w iM0 eM0 vc6 inlX6 24 (by decide) w_fl_RX6_151_AtomicThreadsModel_prints_I rfl dX6_printed_6 ?_
    cases hf
    exact r_iret C hr hlk w dX6_printed_9
end S32_metM05
