section S32_metM01
variable {p : Program} {l : Launch} {e : Env} {R : Room} {s : State} {m : MethodId} {args : Array Value} {below : List Frame} {meth : Method} {c : Code} {cy : Nat → ClassId} {D : va_G} {a : Id3 → Nat}
set_option maxHeartbeats 4000000 in
set_option maxRecDepth 100000 in
theorem jX6_check_L44 (C : Cx cy D EM idM a p s m args c RX6 cX6_check 7) (hr : meth.sig.returnType = some .int) (hlk : meth.locks = false) {Q : State → Prop} : ∀ (n : Nat) {V : Sto} {x1 : Int32} {x2 : Int32} {x3 : Int32} {x4 : Int32} {x5 : Int32} {x6 : Int32} {x5' : Int32} {H : Heap} {locs : List Loc} {ls : Array Slot}, Wd cy D EM idM a V s H locs → lv_has ls 7 [(0, .ref (a (0, 0, 0))), (1, .int x1), (2, .int x2), (3, .int x3), (4, .int x4), (5, .int x5), (6, .int x6)] → fX6_check_L44 n V x1 x2 x3 x4 x5 x6 = some (x5') → (∀ (H1 : Heap) (locs1 : List Loc) (ls1 : Array Slot), Wd cy D EM idM a V s H1 locs1 → lv_has ls1 7 [(0, .ref (a (0, 0, 0))), (1, .int x1), (2, .int x2), (3, .int x3), (4, .int x4), (5, .int x5')] → W p l e rm_X6_check s m args below meth c H1 locs1 0 0 (Q) (F0 m 80 ls1 [])) → W p l e rm_X6_check s m args below meth c H locs 0 0 (Q) (F0 m 44 ls []) := by
  have hx := C.1.1
  have hb := C.1.2.1
  have ok := C.2.2.2
  intro n
  induction n with
  | zero => intro V x1 x2 x3 x4 x5 x6 x5' H locs ls w hl hf kk; cases hf
  | succ n ih =>
    intro V x1 x2 x3 x4 x5 x6 x5' H locs ls w hl hf kk
    rw [fX6_check_L44] at hf
    refine lv_iload hx hb dX6_check_44 (lv_at hl 6 rfl) ?_
    refine lv_iload_n hx hb dX6_check_46 rfl (lv_at hl 2 rfl) ?_
    refine lv_icmp_ge (tgt := 80) hx hb dX6_check_47 (by decide) (fun c10 => ?_) (fun c10 => ?_)
    · rw [if_pos c10] at hf
      cases hf
      exact kk _ _ _ w (lv_sub hl [0, 1, 2, 3, 4, 5] rfl)
    · rw [if_neg c10] at hf
      refine lv_iload hx hb dX6_check_50 (lv_at hl 5 rfl) ?_
      refine lv_if_ne (tgt := 67) hx hb dX6_check_52 (by decide) (fun c11 => ?_) (fun c11 => ?_)
      · rw [if_neg c11] at hf
        refine lv_iconst (v := 1) hx hb dX6_check_67 (by decide) ?_
        refine lv_goto (tgt := 72) hx hb dX6_check_68 (by decide) ?_
        refine lv_istore hx hb dX6_check_72 hl (by decide) rfl (fun ls hl => ?_)
        refine lv_iinc (v := (x6 + 1)) hx hb dX6_check_74 hl (k := 6) rfl (by rfl) (by decide) rfl (fun ls hl => ?_)
        refine lv_goto (tgt := 44) hx hb dX6_check_77 (by decide) ?_
        exact ih w (lv_sub hl [2, 3, 4, 5, 6, 1, 0] rfl) hf kk
      · rw [if_pos c11] at hf
        refine lv_aload_n hx hb dX6_check_55 rfl (lv_at hl 0 rfl) ?_
        refine r_get C w iM0 eM0 vc6 inlX6 26 (by decide) w_fl_RX6_83_AtomicThreadsModel_open_I rfl dX6_check_56 ?_
        refine lv_iload hx hb dX6_check_59 (lv_at hl 6 rfl) ?_
        obtain ⟨g12, hf⟩ := gd_some hf
        refine r_iald C w iM27 aM27 g12 dX6_check_61 ?_
        refine lv_bipush (v := 6) hx hb dX6_check_62 (by decide) ?_
        refine lv_icmp_ne (tgt := 71) hx hb dX6_check_64 (by decide) (fun c13 => ?_) (fun c13 => ?_)
        · rw [if_neg c13] at hf
          refine lv_iconst (v := 0) hx hb dX6_check_71 (by decide) ?_
          refine lv_istore hx hb dX6_check_72 hl (by decide) rfl (fun ls hl => ?_)
          refine lv_iinc (v := (x6 + 1)) hx hb dX6_check_74 hl (k := 6) rfl (by rfl) (by decide) rfl (fun ls hl => ?_)
          refine lv_goto (tgt := 44) hx hb dX6_check_77 (by decide) ?_
          exact ih w (lv_sub hl [2, 3, 4, 5, 6, 1, 0] rfl) hf kk
        · rw [if_pos c13] at hf
          refine lv_iconst (v := 1) hx hb dX6_check_67 (by decide) ?_
          refine lv_goto (tgt := 72) hx hb dX6_check_68 (by decide) ?_
          refine lv_istore hx hb dX6_check_72 hl (by decide) rfl (fun ls hl => ?_)
          refine lv_iinc (v := (x6 + 1)) hx hb dX6_check_74 hl (k := 6) rfl (by rfl) (by decide) rfl (fun ls hl => ?_)
          refine lv_goto (tgt := 44) hx hb dX6_check_77 (by decide) ?_
          exact ih w (lv_sub hl [2, 3, 4, 5, 6, 1, 0] rfl) hf kk
set_option maxHeartbeats 4000000 in
set_option maxRecDepth 100000 in
theorem jX6_check_L15 (C : Cx cy D EM idM a p s m args c RX6 cX6_check 7) (hr : meth.sig.returnType = some .int) (hlk : meth.locks = false) : ∀ (n : Nat) {V : Sto} {r : Int32} {V' : Sto} {x1 : Int32} {x2 : Int32} {x3 : Int32} {H : Heap} {locs : List Loc} {ls : Array Slot}, Wd cy D EM idM a V s H locs → lv_has ls 7 [(0, .ref (a (0, 0, 0))), (1, .int x1), (2, .int x2), (3, .int x3)] → fX6_check_L15 n V x1 x2 x3 = some (r, V') → W p l e rm_X6_check s m args below meth c H locs 0 0 (MQ below (QI cy D EM idM a r V') args s 0 0 (inA idM a)) (F0 m 15 ls []) := by
  have hx := C.1.1
  have hb := C.1.2.1
  have ok := C.2.2.2
  intro n
  induction n with
  | zero => intro V r V' x1 x2 x3 H locs ls w hl hf; cases hf
  | succ n ih =>
    intro V r V' x1 x2 x3 H locs ls w hl hf
    rw [fX6_check_L15] at hf
    refine lv_iload_n hx hb dX6_check_15 rfl (lv_at hl 3 rfl) ?_
    refine lv_aload_n hx hb dX6_check_16 rfl (lv_at hl 0 rfl) ?_
    refine r_get C w iM0 eM0 vc6 inlX6 3 (by decide) w_fl_RX6_19_AtomicThreadsModel_size_I rfl dX6_check_17 ?_
    refine lv_iload_n hx hb dX6_check_20 rfl (lv_at hl 1 rfl) ?_
    obtain ⟨g5, hf⟩ := gd_some hf
    refine r_iald C w iM4 aM4 g5 dX6_check_21 ?_
    refine lv_icmp_ge (tgt := 172) hx hb dX6_check_22 (by decide) (fun c6 => ?_) (fun c6 => ?_)
    · rw [if_pos c6] at hf
      refine lv_iload_n hx hb dX6_check_172 rfl (lv_at hl 2 rfl) ?_
      refine lv_if_le (tgt := 185) hx hb dX6_check_173 (by decide) (fun c7 => ?_) (fun c7 => ?_)
      · rw [if_pos c7] at hf
        refine lv_iconst (v := (-1)) hx hb dX6_check_185 (by decide) ?_
        cases hf
        exact r_iret C hr hlk w dX6_check_186
      · rw [if_neg c7] at hf
        refine lv_aload_n hx hb dX6_check_176 rfl (lv_at hl 0 rfl) ?_
        refine r_get C w iM0 eM0 vc6 inlX6 3 (by decide) w_fl_RX6_19_AtomicThreadsModel_size_I rfl dX6_check_177 ?_
        refine lv_iload_n hx hb dX6_check_180 rfl (lv_at hl 1 rfl) ?_
        obtain ⟨g8, hf⟩ := gd_some hf
        refine r_iald C w iM4 aM4 g8 dX6_check_181 ?_
        refine lv_goto (tgt := 186) hx hb dX6_check_182 (by decide) ?_
        cases hf
        exact r_iret C hr hlk w dX6_check_186
    · rw [if_neg c6] at hf
      refine lv_aload_n hx hb dX6_check_25 rfl (lv_at hl 0 rfl) ?_
      refine r_get C w iM0 eM0 vc6 inlX6 0 (by decide) w_fl_RX6_7_AtomicThreadsModel_kind_I rfl dX6_check_26 ?_
      refine lv_bipush (v := 30) hx hb dX6_check_29 (by decide) ?_
      refine lv_iload_n hx hb dX6_check_31 rfl (lv_at hl 1 rfl) ?_
      refine lv_imul hx hb dX6_check_32 ?_
      refine lv_iload_n hx hb dX6_check_33 rfl (lv_at hl 3 rfl) ?_
      refine lv_iadd hx hb dX6_check_34 ?_
      obtain ⟨g9, hf⟩ := gd_some hf
      refine r_iald C w iM1 aM1 g9 dX6_check_35 ?_
      refine lv_istore hx hb dX6_check_36 hl (by decide) rfl (fun ls hl => ?_)
      refine lv_iconst (v := 0) hx hb dX6_check_38 (by decide) ?_
      refine lv_istore hx hb dX6_check_39 hl (by decide) rfl (fun ls hl => ?_)
      refine lv_iconst (v := 0) hx hb dX6_check_41 (by decide) ?_
      refine lv_istore hx hb dX6_check_42 hl (by decide) rfl (fun ls hl => ?_)
      obtain ⟨z15, hc14, hf⟩ := ob_some hf
      refine jX6_check_L44 C hr hlk 40 w (lv_sub hl [3, 4, 5, 6, 2, 1, 0] rfl) hc14 (fun H locs ls w hl => ?_)
      refine lv_aload_n hx hb dX6_check_80 rfl (lv_at hl 0 rfl) ?_
      refine lv_iload hx hb dX6_check_81 (lv_at hl 4 rfl) ?_
      refine lv_iload_n hx hb dX6_check_83 rfl (lv_at hl 2 rfl) ?_
      refine lv_iload hx hb dX6_check_84 (lv_at hl 5 rfl) ?_
      obtain ⟨r17, hc16, hf⟩ := ob_some hf
      refine k_I w (q_V C w (c_X6_wrong ok hc16) wy_X6_wrong wi_X6_wrong w_ml_RX6_107_yX6_wrong iM0 eM0 vc6 rfl rfl ⟨Nat.le_of_ble_eq_true rfl, Nat.le_of_ble_eq_true rfl⟩ rfl hl.1 rfl (Nat.le_of_ble_eq_true rfl) dX6_check_86 ⟨Nat.le_refl _, Nat.le_refl _⟩) (fun H locs w => ?_)
      refine lv_if_eq (tgt := 94) hx hb dX6_check_89 (by decide) (fun c19 => ?_) (fun c19 => ?_)
      · rw [if_pos c19] at hf
        refine lv_iload hx hb dX6_check_94 (lv_at hl 4 rfl) ?_
        obtain ⟨r21, hc20, hf⟩ := ob_some hf
        refine k_I w (q_S C w (c_X6_opens ok hc20) wy_X6_opens w_sta_yX6_opens w_ml_RX6_104_yX6_opens rfl rfl ⟨Nat.le_of_ble_eq_true rfl, Nat.le_of_ble_eq_true rfl⟩ rfl hl.1 rfl (Nat.le_of_ble_eq_true rfl) dX6_check_96 ⟨Nat.le_refl _, Nat.le_refl _⟩) (fun H locs w => ?_)
        refine lv_if_eq (tgt := 123) hx hb dX6_check_99 (by decide) (fun c23 => ?_) (fun c23 => ?_)
        · rw [if_pos c23] at hf
          refine lv_iload hx hb dX6_check_123 (lv_at hl 4 rfl) ?_
          refine lv_bipush (v := 7) hx hb dX6_check_125 (by decide) ?_
          refine lv_icmp_ne (tgt := 136) hx hb dX6_check_127 (by decide) (fun c24 => ?_) (fun c24 => ?_)
          · rw [if_neg c24] at hf
            refine lv_iload hx hb dX6_check_136 (lv_at hl 4 rfl) ?_
            refine lv_bipush (v := 10) hx hb dX6_check_138 (by decide) ?_
            refine lv_icmp_eq (tgt := 157) hx hb dX6_check_140 (by decide) (fun c25 => ?_) (fun c25 => ?_)
            · rw [if_pos c25] at hf
              refine lv_aload_n hx hb dX6_check_157 rfl (lv_at hl 0 rfl) ?_
              refine r_get C w iM0 eM0 vc6 inlX6 27 (by decide) w_fl_RX6_86_AtomicThreadsModel_middle_Z rfl dX6_check_158 ?_
              refine lv_iload_n hx hb dX6_check_161 rfl (lv_at hl 2 rfl) ?_
              refine lv_iconst (v := 1) hx hb dX6_check_162 (by decide) ?_
              refine lv_isub hx hb dX6_check_163 ?_
              refine lv_iconst (v := 1) hx hb dX6_check_164 (by decide) ?_
              obtain ⟨g26, hf⟩ := gd_some hf
              refine r_zast C w iM28 aM28 g26 dX6_check_165 (fun H locs w => ?_)
              obtain ⟨V27, e28, hf⟩ := bnd_some hf
              rw [← e28] at w
              refine lv_iinc (v := (x3 + 1)) hx hb dX6_check_166 hl (k := 3) rfl (by rfl) (by decide) rfl (fun ls hl => ?_)
              refine lv_goto (tgt := 15) hx hb dX6_check_169 (by decide) ?_
              exact ih w (lv_sub hl [1, 2, 3, 0] rfl) hf
            · rw [if_neg c25] at hf
              refine lv_iload hx hb dX6_check_143 (lv_at hl 4 rfl) ?_
              refine lv_bipush (v := 12) hx hb dX6_check_145 (by decide) ?_
              refine lv_icmp_eq (tgt := 157) hx hb dX6_check_147 (by decide) (fun c29 => ?_) (fun c29 => ?_)
              · rw [if_pos c29] at hf
                refine lv_aload_n hx hb dX6_check_157 rfl (lv_at hl 0 rfl) ?_
                refine r_get C w iM0 eM0 vc6 inlX6 27 (by decide) w_fl_RX6_86_AtomicThreadsModel_middle_Z rfl dX6_check_158 ?_
                refine lv_iload_n hx hb dX6_check_161 rfl (lv_at hl 2 rfl) ?_
                refine lv_iconst (v := 1) hx hb dX6_check_162 (by decide) ?_
                refine lv_isub hx hb dX6_check_163 ?_
                refine lv_iconst (v := 1) hx hb dX6_check_164 (by decide) ?_
                obtain ⟨g30, hf⟩ := gd_some hf
                refine r_zast C w iM28 aM28 g30 dX6_check_165 (fun H locs w => ?_)
                obtain ⟨V31, e32, hf⟩ := bnd_some hf
                rw [← e32] at w
                refine lv_iinc (v := (x3 + 1)) hx hb dX6_check_166 hl (k := 3) rfl (by rfl) (by decide) rfl (fun ls hl => ?_)
                refine lv_goto (tgt := 15) hx hb dX6_check_169 (by decide) ?_
                exact ih w (lv_sub hl [1, 2, 3, 0] rfl) hf
              · rw [if_neg c29] at hf
                refine lv_iload hx hb dX6_check_150 (lv_at hl 4 rfl) ?_
                refine lv_bipush (v := 16) hx hb dX6_check_152 (by decide) ?_
                refine lv_icmp_ne (tgt := 166) hx hb dX6_check_154 (by decide) (fun c33 => ?_) (fun c33 => ?_)
                · rw [if_neg c33] at hf
                  refine lv_iinc (v := (x3 + 1)) hx hb dX6_check_166 hl (k := 3) rfl (by rfl) (by decide) rfl (fun ls hl => ?_)
                  refine lv_goto (tgt := 15) hx hb dX6_check_169 (by decide) ?_
                  exact ih w (lv_sub hl [1, 2, 3, 0] rfl) hf
                · rw [if_pos c33] at hf
                  refine lv_aload_n hx hb dX6_check_157 rfl (lv_at hl 0 rfl) ?_
                  refine r_get C w iM0 eM0 vc6 inlX6 27 (by decide) w_fl_RX6_86_AtomicThreadsModel_middle_Z rfl dX6_check_158 ?_
                  refine lv_iload_n hx hb dX6_check_161 rfl (lv_at hl 2 rfl) ?_
                  refine lv_iconst (v := 1) hx hb dX6_check_162 (by decide) ?_
                  refine lv_isub hx hb dX6_check_163 ?_
                  refine lv_iconst (v := 1) hx hb dX6_check_164 (by decide) ?_
                  obtain ⟨g34, hf⟩ := gd_some hf
                  refine r_zast C w iM28 aM28 g34 dX6_check_165 (fun H locs w => ?_)
                  obtain ⟨V35, e36, hf⟩ := bnd_some hf
                  rw [← e36] at w
                  refine lv_iinc (v := (x3 + 1)) hx hb dX6_check_166 hl (k := 3) rfl (by rfl) (by decide) rfl (fun ls hl => ?_)
                  refine lv_goto (tgt := 15) hx hb dX6_check_169 (by decide) ?_
                  exact ih w (lv_sub hl [1, 2, 3, 0] rfl) hf
          · rw [if_pos c24] at hf
            refine lv_iinc (v := (x2 + (-1))) hx hb dX6_check_130 hl (k := 2) rfl (by rfl) (by decide) rfl (fun ls hl => ?_)
            refine lv_goto (tgt := 166) hx hb dX6_check_133 (by decide) ?_
            refine lv_iinc (v := (x3 + 1)) hx hb dX6_check_166 hl (k := 3) rfl (by rfl) (by decide) rfl (fun ls hl => ?_)
            refine lv_goto (tgt := 15) hx hb dX6_check_169 (by decide) ?_
            exact ih w (lv_sub hl [2, 3, 1, 0] rfl) hf
        · rw [if_neg c23] at hf
          refine lv_aload_n hx hb dX6_check_102 rfl (lv_at hl 0 rfl) ?_
          refine r_get C w iM0 eM0 vc6 inlX6 26 (by decide) w_fl_RX6_83_AtomicThreadsModel_open_I rfl dX6_check_103 ?_
          refine lv_iload_n hx hb dX6_check_106 rfl (lv_at hl 2 rfl) ?_
          refine lv_iload hx hb dX6_check_107 (lv_at hl 4 rfl) ?_
          obtain ⟨g37, hf⟩ := gd_some hf
          refine r_iast C w iM27 aM27 g37 dX6_check_109 (fun H locs w => ?_)
          obtain ⟨V38, e39, hf⟩ := bnd_some hf
          rw [← e39] at w
          refine lv_aload_n hx hb dX6_check_110 rfl (lv_at hl 0 rfl) ?_
          refine r_get C w iM0 eM0 vc6 inlX6 27 (by decide) w_fl_RX6_86_AtomicThreadsModel_middle_Z rfl dX6_check_111 ?_
          refine lv_iload_n hx hb dX6_check_114 rfl (lv_at hl 2 rfl) ?_
          refine lv_iconst (v := 0) hx hb dX6_check_115 (by decide) ?_
          obtain ⟨g40, hf⟩ := gd_some hf
          refine r_zast C w iM28 aM28 g40 dX6_check_116 (fun H locs w => ?_)
          obtain ⟨V41, e42, hf⟩ := bnd_some hf
          rw [← e42] at w
          refine lv_iinc (v := (x2 + 1)) hx hb dX6_check_117 hl (k := 2) rfl (by rfl) (by decide) rfl (fun ls hl => ?_)
          refine lv_goto (tgt := 166) hx hb dX6_check_120 (by decide) ?_
          refine lv_iinc (v := (x3 + 1)) hx hb dX6_check_166 hl (k := 3) rfl (by rfl) (by decide) rfl (fun ls hl => ?_)
          refine lv_goto (tgt := 15) hx hb dX6_check_169 (by decide) ?_
          exact ih w (lv_sub hl [2, 3, 1, 0] rfl) hf
      · rw [if_neg c19] at hf
        refine lv_iload_n hx hb dX6_check_92 rfl (lv_at hl 3 rfl) ?_
        cases hf
        exact r_iret C hr hlk w dX6_check_93
set_option maxHeartbeats 4000000 in
set_option maxRecDepth 100000 in
theorem c_X6_check (ok : Wok EM idM a) {V : Sto} {r : Int32} {V' : Sto} {x1 : Int32} (hf : fX6_check V x1 = some (r, V')) : MtI l cy D EM idM a yX6_check cX6_check 7 .int rm_X6_check [.ref (a (0, 0, 0)), .int x1] V r V' := by
  refine ofM (by decide +kernel) ok (Nat.le_of_ble_eq_true rfl) (fun p e s m args below meth c C hr hlk w ls hl => ?_)
  have hx := C.1.1
  have hb := C.1.2.1
  rw [fX6_check] at hf
  skip
  refine lv_iload_n hx hb dX6_check_0 rfl (lv_at hl 1 rfl) ?_
  refine lv_iconst (v := 4) hx hb dX6_check_1 (by decide) ?_
  obtain ⟨r2, hc1, hf⟩ := ob_some hf
  refine k_I w (q_S C w (c_X6_out ok hc1) wy_X6_out w_sta_yX6_out w_ml_RX6_89_yX6_out rfl rfl ⟨Nat.le_of_ble_eq_true rfl, Nat.le_of_ble_eq_true rfl⟩ rfl hl.1 rfl (Nat.le_of_ble_eq_true rfl) dX6_check_2 ⟨Nat.le_refl _, Nat.le_refl _⟩) (fun H locs w => ?_)
  refine lv_if_eq (tgt := 11) hx hb dX6_check_5 (by decide) (fun c4 => ?_) (fun c4 => ?_)
  · rw [if_pos c4] at hf
    refine lv_iconst (v := 0) hx hb dX6_check_11 (by decide) ?_
    refine lv_istore_n hx hb dX6_check_12 rfl hl (by decide) rfl (fun ls hl => ?_)
    refine lv_iconst (v := 0) hx hb dX6_check_13 (by decide) ?_
    refine lv_istore_n hx hb dX6_check_14 rfl hl (by decide) rfl (fun ls hl => ?_)
    exact jX6_check_L15 C hr hlk 40 w (lv_sub hl [2, 3, 1, 0] rfl) hf
  · rw [if_neg c4] at hf
    refine lv_bipush (v := (-2)) hx hb dX6_check_8 (by decide) ?_
    cases hf
    exact r_iret C hr hlk w dX6_check_10
set_option maxHeartbeats 4000000 in
set_option maxRecDepth 100000 in
theorem jX6_partner_L8 (C : Cx cy D EM idM a p s m args c RX6 cX6_partner 7) (hr : meth.sig.returnType = some .int) (hlk : meth.locks = false) : ∀ (n : Nat) {V : Sto} {r : Int32} {x1 : Int32} {x3 : Int32} {x4 : Int32} {x5 : Int32} {H : Heap} {locs : List Loc} {ls : Array Slot}, Wd cy D EM idM a V s H locs → lv_has ls 7 [(0, .ref (a (0, 0, 0))), (1, .int x1), (3, .int x3), (4, .int x4), (5, .int x5)] → fX6_partner_L8 n V x1 x3 x4 x5 = some r → W p l e rm_X6_partner s m args below meth c H locs 0 0 (MQ below (QI cy D EM idM a r V) args s 0 0 (inA idM a)) (F0 m 8 ls []) := by
  have hx := C.1.1
  have hb := C.1.2.1
  have ok := C.2.2.2
  intro n
  induction n with
  | zero => intro V r x1 x3 x4 x5 H locs ls w hl hf; cases hf
  | succ n ih =>
    intro V r x1 x3 x4 x5 H locs ls w hl hf
    rw [fX6_partner_L8] at hf
    refine lv_iload hx hb dX6_partner_8 (lv_at hl 4 rfl) ?_
    refine lv_aload_n hx hb dX6_partner_10 rfl (lv_at hl 0 rfl) ?_
    refine r_get C w iM0 eM0 vc6 inlX6 3 (by decide) w_fl_RX6_19_AtomicThreadsModel_size_I rfl dX6_partner_11 ?_
    refine lv_iload_n hx hb dX6_partner_14 rfl (lv_at hl 1 rfl) ?_
    obtain ⟨g1, hf⟩ := gd_some hf
    refine r_iald C w iM4 aM4 g1 dX6_partner_15 ?_
    refine lv_icmp_ge (tgt := 112) hx hb dX6_partner_16 (by decide) (fun c2 => ?_) (fun c2 => ?_)
    · rw [if_pos c2] at hf
      refine lv_aload_n hx hb dX6_partner_112 rfl (lv_at hl 0 rfl) ?_
      refine r_get C w iM0 eM0 vc6 inlX6 3 (by decide) w_fl_RX6_19_AtomicThreadsModel_size_I rfl dX6_partner_113 ?_
      refine lv_iload_n hx hb dX6_partner_116 rfl (lv_at hl 1 rfl) ?_
      obtain ⟨g3, hf⟩ := gd_some hf
      refine r_iald C w iM4 aM4 g3 dX6_partner_117 ?_
      refine lv_iconst (v := 1) hx hb dX6_partner_118 (by decide) ?_
      refine lv_isub hx hb dX6_partner_119 ?_
      cases hf
      exact r_iret C hr hlk w dX6_partner_120
    · rw [if_neg c2] at hf
      refine lv_aload_n hx hb dX6_partner_19 rfl (lv_at hl 0 rfl) ?_
      refine r_get C w iM0 eM0 vc6 inlX6 0 (by decide) w_fl_RX6_7_AtomicThreadsModel_kind_I rfl dX6_partner_20 ?_
      refine lv_bipush (v := 30) hx hb dX6_partner_23 (by decide) ?_
      refine lv_iload_n hx hb dX6_partner_25 rfl (lv_at hl 1 rfl) ?_
      refine lv_imul hx hb dX6_partner_26 ?_
      refine lv_iload hx hb dX6_partner_27 (lv_at hl 4 rfl) ?_
      refine lv_iadd hx hb dX6_partner_29 ?_
      obtain ⟨g4, hf⟩ := gd_some hf
      refine r_iald C w iM1 aM1 g4 dX6_partner_30 ?_
      refine lv_istore hx hb dX6_partner_31 hl (by decide) rfl (fun ls hl => ?_)
      refine lv_iload hx hb dX6_partner_33 (lv_at hl 4 rfl) ?_
      refine lv_if_ne (tgt := 73) hx hb dX6_partner_35 (by decide) (fun c5 => ?_) (fun c5 => ?_)
      · rw [if_neg c5] at hf
        refine lv_iload hx hb dX6_partner_73 (lv_at hl 0 rfl) ?_
        obtain ⟨r7, hc6, hf⟩ := ob_some hf
        refine k_I w (q_S C w (c_X6_opens ok hc6) wy_X6_opens w_sta_yX6_opens w_ml_RX6_104_yX6_opens rfl rfl ⟨Nat.le_of_ble_eq_true rfl, Nat.le_of_ble_eq_true rfl⟩ rfl hl.1 rfl (Nat.le_of_ble_eq_true rfl) dX6_partner_75 ⟨Nat.le_refl _, Nat.le_refl _⟩) (fun H locs w => ?_)
        refine lv_if_eq (tgt := 88) hx hb dX6_partner_78 (by decide) (fun c9 => ?_) (fun c9 => ?_)
        · rw [if_pos c9] at hf
          refine lv_iload hx hb dX6_partner_88 (lv_at hl 0 rfl) ?_
          refine lv_bipush (v := 7) hx hb dX6_partner_90 (by decide) ?_
          refine lv_icmp_ne (tgt := 102) hx hb dX6_partner_92 (by decide) (fun c10 => ?_) (fun c10 => ?_)
          · rw [if_neg c10] at hf
            refine lv_iload hx hb dX6_partner_102 (lv_at hl 4 rfl) ?_
            refine lv_istore hx hb dX6_partner_104 hl (by decide) rfl (fun ls hl => ?_)
            refine lv_iinc (v := (x5 + 1)) hx hb dX6_partner_106 hl (k := 5) rfl (by rfl) (by decide) rfl (fun ls hl => ?_)
            refine lv_goto (tgt := 8) hx hb dX6_partner_109 (by decide) ?_
            exact ih w (lv_sub hl [3, 4, 5, 1, 0] rfl) hf
          · rw [if_pos c10] at hf
            refine lv_iload hx hb dX6_partner_95 (lv_at hl 4 rfl) ?_
            refine lv_iconst (v := 1) hx hb dX6_partner_97 (by decide) ?_
            refine lv_isub hx hb dX6_partner_98 ?_
            refine lv_goto (tgt := 104) hx hb dX6_partner_99 (by decide) ?_
            refine lv_istore hx hb dX6_partner_104 hl (by decide) rfl (fun ls hl => ?_)
            refine lv_iinc (v := (x5 + 1)) hx hb dX6_partner_106 hl (k := 5) rfl (by rfl) (by decide) rfl (fun ls hl => ?_)
            refine lv_goto (tgt := 8) hx hb dX6_partner_109 (by decide) ?_
            exact ih w (lv_sub hl [3, 4, 5, 1, 0] rfl) hf
        · rw [if_neg c9] at hf
          refine lv_iload hx hb dX6_partner_81 (lv_at hl 4 rfl) ?_
          refine lv_iconst (v := 1) hx hb dX6_partner_83 (by decide) ?_
          refine lv_iadd hx hb dX6_partner_84 ?_
          refine lv_goto (tgt := 104) hx hb dX6_partner_85 (by decide) ?_
          refine lv_istore hx hb dX6_partner_104 hl (by decide) rfl (fun ls hl => ?_)
          refine lv_iinc (v := (x5 + 1)) hx hb dX6_partner_106 hl (k := 5) rfl (by rfl) (by decide) rfl (fun ls hl => ?_)
          refine lv_goto (tgt := 8) hx hb dX6_partner_109 (by decide) ?_
          exact ih w (lv_sub hl [3, 4, 5, 1, 0] rfl) hf
      · rw [if_pos c5] at hf
        refine lv_iload hx hb dX6_partner_38 (lv_at hl 0 rfl) ?_
        refine lv_bipush (v := 7) hx hb dX6_partner_40 (by decide) ?_
        refine lv_icmp_eq (tgt := 70) hx hb dX6_partner_42 (by decide) (fun c11 => ?_) (fun c11 => ?_)
        · rw [if_pos c11] at hf
          refine lv_iload hx hb dX6_partner_70 (lv_at hl 5 rfl) ?_
          cases hf
          exact r_iret C hr hlk w dX6_partner_72
        · rw [if_neg c11] at hf
          refine lv_iload_n hx hb dX6_partner_45 rfl (lv_at hl 3 rfl) ?_
          refine lv_if_eq (tgt := 73) hx hb dX6_partner_46 (by decide) (fun c12 => ?_) (fun c12 => ?_)
          · rw [if_pos c12] at hf
            refine lv_iload hx hb dX6_partner_73 (lv_at hl 0 rfl) ?_
            obtain ⟨r14, hc13, hf⟩ := ob_some hf
            refine k_I w (q_S C w (c_X6_opens ok hc13) wy_X6_opens w_sta_yX6_opens w_ml_RX6_104_yX6_opens rfl rfl ⟨Nat.le_of_ble_eq_true rfl, Nat.le_of_ble_eq_true rfl⟩ rfl hl.1 rfl (Nat.le_of_ble_eq_true rfl) dX6_partner_75 ⟨Nat.le_refl _, Nat.le_refl _⟩) (fun H locs w => ?_)
            refine lv_if_eq (tgt := 88) hx hb dX6_partner_78 (by decide) (fun c16 => ?_) (fun c16 => ?_)
            · rw [if_pos c16] at hf
              refine lv_iload hx hb dX6_partner_88 (lv_at hl 0 rfl) ?_
              refine lv_bipush (v := 7) hx hb dX6_partner_90 (by decide) ?_
              refine lv_icmp_ne (tgt := 102) hx hb dX6_partner_92 (by decide) (fun c17 => ?_) (fun c17 => ?_)
              · rw [if_neg c17] at hf
                refine lv_iload hx hb dX6_partner_102 (lv_at hl 4 rfl) ?_
                refine lv_istore hx hb dX6_partner_104 hl (by decide) rfl (fun ls hl => ?_)
                refine lv_iinc (v := (x5 + 1)) hx hb dX6_partner_106 hl (k := 5) rfl (by rfl) (by decide) rfl (fun ls hl => ?_)
                refine lv_goto (tgt := 8) hx hb dX6_partner_109 (by decide) ?_
                exact ih w (lv_sub hl [3, 4, 5, 1, 0] rfl) hf
              · rw [if_pos c17] at hf
                refine lv_iload hx hb dX6_partner_95 (lv_at hl 4 rfl) ?_
                refine lv_iconst (v := 1) hx hb dX6_partner_97 (by decide) ?_
                refine lv_isub hx hb dX6_partner_98 ?_
                refine lv_goto (tgt := 104) hx hb dX6_partner_99 (by decide) ?_
                refine lv_istore hx hb dX6_partner_104 hl (by decide) rfl (fun ls hl => ?_)
                refine lv_iinc (v := (x5 + 1)) hx hb dX6_partner_106 hl (k := 5) rfl (by rfl) (by decide) rfl (fun ls hl => ?_)
                refine lv_goto (tgt := 8) hx hb dX6_partner_109 (by decide) ?_
                exact ih w (lv_sub hl [3, 4, 5, 1, 0] rfl) hf
            · rw [if_neg c16] at hf
              refine lv_iload hx hb dX6_partner_81 (lv_at hl 4 rfl) ?_
              refine lv_iconst (v := 1) hx hb dX6_partner_83 (by decide) ?_
              refine lv_iadd hx hb dX6_partner_84 ?_
              refine lv_goto (tgt := 104) hx hb dX6_partner_85 (by decide) ?_
              refine lv_istore hx hb dX6_partner_104 hl (by decide) rfl (fun ls hl => ?_)
              refine lv_iinc (v := (x5 + 1)) hx hb dX6_partner_106 hl (k := 5) rfl (by rfl) (by decide) rfl (fun ls hl => ?_)
              refine lv_goto (tgt := 8) hx hb dX6_partner_109 (by decide) ?_
              exact ih w (lv_sub hl [3, 4, 5, 1, 0] rfl) hf
          · rw [if_neg c12] at hf
            refine lv_iload hx hb dX6_partner_49 (lv_at hl 0 rfl) ?_
            refine lv_bipush (v := 10) hx hb dX6_partner_51 (by decide) ?_
            refine lv_icmp_eq (tgt := 70) hx hb dX6_partner_53 (by decide) (fun c18 => ?_) (fun c18 => ?_)
            · rw [if_pos c18] at hf
              refine lv_iload hx hb dX6_partner_70 (lv_at hl 5 rfl) ?_
              cases hf
              exact r_iret C hr hlk w dX6_partner_72
            · rw [if_neg c18] at hf
              refine lv_iload hx hb dX6_partner_56 (lv_at hl 0 rfl) ?_
              refine lv_bipush (v := 12) hx hb dX6_partner_58 (by decide) ?_
              refine lv_icmp_eq (tgt := 70) hx hb dX6_partner_60 (by decide) (fun c19 => ?_) (fun c19 => ?_)
              · rw [if_pos c19] at hf
                refine lv_iload hx hb dX6_partner_70 (lv_at hl 5 rfl) ?_
                cases hf
                exact r_iret C hr hlk w dX6_partner_72
              · rw [if_neg c19] at hf
                refine lv_iload hx hb dX6_partner_63 (lv_at hl 0 rfl) ?_
                refine lv_bipush (v := 16) hx hb dX6_partner_65 (by decide) ?_
                refine lv_icmp_ne (tgt := 73) hx hb dX6_partner_67 (by decide) (fun c20 => ?_) (fun c20 => ?_)
                · rw [if_neg c20] at hf
                  refine lv_iload hx hb dX6_partner_73 (lv_at hl 0 rfl) ?_
                  obtain ⟨r22, hc21, hf⟩ := ob_some hf
                  refine k_I w (q_S C w (c_X6_opens ok hc21) wy_X6_opens w_sta_yX6_opens w_ml_RX6_104_yX6_opens rfl rfl ⟨Nat.le_of_ble_eq_true rfl, Nat.le_of_ble_eq_true rfl⟩ rfl hl.1 rfl (Nat.le_of_ble_eq_true rfl) dX6_partner_75 ⟨Nat.le_refl _, Nat.le_refl _⟩) (fun H locs w => ?_)
                  refine lv_if_eq (tgt := 88) hx hb dX6_partner_78 (by decide) (fun c24 => ?_) (fun c24 => ?_)
                  · rw [if_pos c24] at hf
                    refine lv_iload hx hb dX6_partner_88 (lv_at hl 0 rfl) ?_
                    refine lv_bipush (v := 7) hx hb dX6_partner_90 (by decide) ?_
                    refine lv_icmp_ne (tgt := 102) hx hb dX6_partner_92 (by decide) (fun c25 => ?_) (fun c25 => ?_)
                    · rw [if_neg c25] at hf
                      refine lv_iload hx hb dX6_partner_102 (lv_at hl 4 rfl) ?_
                      refine lv_istore hx hb dX6_partner_104 hl (by decide) rfl (fun ls hl => ?_)
                      refine lv_iinc (v := (x5 + 1)) hx hb dX6_partner_106 hl (k := 5) rfl (by rfl) (by decide) rfl (fun ls hl => ?_)
                      refine lv_goto (tgt := 8) hx hb dX6_partner_109 (by decide) ?_
                      exact ih w (lv_sub hl [3, 4, 5, 1, 0] rfl) hf
                    · rw [if_pos c25] at hf
                      refine lv_iload hx hb dX6_partner_95 (lv_at hl 4 rfl) ?_
                      refine lv_iconst (v := 1) hx hb dX6_partner_97 (by decide) ?_
                      refine lv_isub hx hb dX6_partner_98 ?_
                      refine lv_goto (tgt := 104) hx hb dX6_partner_99 (by decide) ?_
                      refine lv_istore hx hb dX6_partner_104 hl (by decide) rfl (fun ls hl => ?_)
                      refine lv_iinc (v := (x5 + 1)) hx hb dX6_partner_106 hl (k := 5) rfl (by rfl) (by decide) rfl (fun ls hl => ?_)
                      refine lv_goto (tgt := 8) hx hb dX6_partner_109 (by decide) ?_
                      exact ih w (lv_sub hl [3, 4, 5, 1, 0] rfl) hf
                  · rw [if_neg c24] at hf
                    refine lv_iload hx hb dX6_partner_81 (lv_at hl 4 rfl) ?_
                    refine lv_iconst (v := 1) hx hb dX6_partner_83 (by decide) ?_
                    refine lv_iadd hx hb dX6_partner_84 ?_
                    refine lv_goto (tgt := 104) hx hb dX6_partner_85 (by decide) ?_
                    refine lv_istore hx hb dX6_partner_104 hl (by decide) rfl (fun ls hl => ?_)
                    refine lv_iinc (v := (x5 + 1)) hx hb dX6_partner_106 hl (k := 5) rfl (by rfl) (by decide) rfl (fun ls hl => ?_)
                    refine lv_goto (tgt := 8) hx hb dX6_partner_109 (by decide) ?_
                    exact ih w (lv_sub hl [3, 4, 5, 1, 0] rfl) hf
                · rw [if_pos c20] at hf
                  refine lv_iload hx hb dX6_partner_70 (lv_at hl 5 rfl) ?_
                  cases hf
                  exact r_iret C hr hlk w dX6_partner_72
set_option maxHeartbeats 4000000 in
set_option maxRecDepth 100000 in
theorem c_X6_partner (ok : Wok EM idM a) {V : Sto} {r : Int32} {x1 : Int32} {x2 : Int32} {x3 : Int32} (hf : fX6_partner V x1 x2 x3 = some r) : MtI l cy D EM idM a yX6_partner cX6_partner 7 .int rm_X6_partner [.ref (a (0, 0, 0)), .int x1, .int x2, .int x3] V r V := by
  refine ofM (by decide +kernel) ok (Nat.le_of_ble_eq_true rfl) (fun p e s m args below meth c C hr hlk w ls hl => ?_)
  have hx := C.1.1
  have hb := C.1.2.1
  rw [fX6_partner] at hf
  skip
  refine lv_iconst (v := 0) hx hb dX6_partner_0 (by decide) ?_
  refine lv_istore hx hb dX6_partner_1 hl (by decide) rfl (fun ls hl => ?_)
  refine lv_iload_n hx hb dX6_partner_3 rfl (lv_at hl 3 rfl) ?_
  refine lv_iconst (v := 1) hx hb dX6_partner_4 (by decide) ?_
  refine lv_iadd hx hb dX6_partner_5 ?_
  refine lv_istore hx hb dX6_partner_6 hl (by decide) rfl (fun ls hl => ?_)
  exact jX6_partner_L8 C hr hlk 40 w (lv_sub hl [2, 3, 5, 1, 0] rfl) hf
set_option maxHeartbeats 4000000 in
set_option maxRecDepth 100000 in
theorem jX6_origin_L7 (C : Cx cy D EM idM a p s m args c RX6 cX6_origin 6) (hr : meth.sig.returnType = some .int) (hlk : meth.locks = false) : ∀ (n : Nat) {V : Sto} {r : Int32} {x1 : Int32} {x3 : Int32} {x4 : Int32} {H : Heap} {locs : List Loc} {ls : Array Slot}, Wd cy D EM idM a V s H locs → lv_has ls 6 [(0, .ref (a (0, 0, 0))), (1, .int x1), (3, .int x3), (4, .int x4)] → fX6_origin_L7 n V x1 x3 x4 = some r → W p l e rm_X6_origin s m args below meth c H locs 0 0 (MQ below (QI cy D EM idM a r V) args s 0 0 (inA idM a)) (F0 m 7 ls []) := by
  have hx := C.1.1
  have hb := C.1.2.1
  have ok := C.2.2.2
  intro n
  induction n with
  | zero => intro V r x1 x3 x4 H locs ls w hl hf; cases hf
  | succ n ih =>
    intro V r x1 x3 x4 H locs ls w hl hf
    rw [fX6_origin_L7] at hf
    refine lv_iload hx hb dX6_origin_7 (lv_at hl 3 rfl) ?_
    refine lv_if_le (tgt := 76) hx hb dX6_origin_9 (by decide) (fun c1 => ?_) (fun c1 => ?_)
    · rw [if_pos c1] at hf
      refine lv_iconst (v := 0) hx hb dX6_origin_76 (by decide) ?_
      cases hf
      exact r_iret C hr hlk w dX6_origin_77
    · rw [if_neg c1] at hf
      refine lv_aload_n hx hb dX6_origin_12 rfl (lv_at hl 0 rfl) ?_
      refine r_get C w iM0 eM0 vc6 inlX6 0 (by decide) w_fl_RX6_7_AtomicThreadsModel_kind_I rfl dX6_origin_13 ?_
      refine lv_bipush (v := 30) hx hb dX6_origin_16 (by decide) ?_
      refine lv_iload_n hx hb dX6_origin_18 rfl (lv_at hl 1 rfl) ?_
      refine lv_imul hx hb dX6_origin_19 ?_
      refine lv_iload hx hb dX6_origin_20 (lv_at hl 3 rfl) ?_
      refine lv_iadd hx hb dX6_origin_22 ?_
      obtain ⟨g2, hf⟩ := gd_some hf
      refine r_iald C w iM1 aM1 g2 dX6_origin_23 ?_
      refine lv_istore hx hb dX6_origin_24 hl (by decide) rfl (fun ls hl => ?_)
      refine lv_iload_n hx hb dX6_origin_26 rfl (lv_at hl 3 rfl) ?_
      refine lv_if_ne (tgt := 41) hx hb dX6_origin_27 (by decide) (fun c3 => ?_) (fun c3 => ?_)
      · rw [if_neg c3] at hf
        refine lv_iload hx hb dX6_origin_41 (lv_at hl 0 rfl) ?_
        obtain ⟨r5, hc4, hf⟩ := ob_some hf
        refine k_I w (q_S C w (c_X6_opens ok hc4) wy_X6_opens w_sta_yX6_opens w_ml_RX6_104_yX6_opens rfl rfl ⟨Nat.le_of_ble_eq_true rfl, Nat.le_of_ble_eq_true rfl⟩ rfl hl.1 rfl (Nat.le_of_ble_eq_true rfl) dX6_origin_43 ⟨Nat.le_refl _, Nat.le_refl _⟩) (fun H locs w => ?_)
        refine lv_if_eq (tgt := 55) hx hb dX6_origin_46 (by decide) (fun c7 => ?_) (fun c7 => ?_)
        · rw [if_pos c7] at hf
          refine lv_iload hx hb dX6_origin_55 (lv_at hl 0 rfl) ?_
          refine lv_bipush (v := 7) hx hb dX6_origin_57 (by decide) ?_
          refine lv_icmp_ne (tgt := 68) hx hb dX6_origin_59 (by decide) (fun c8 => ?_) (fun c8 => ?_)
          · rw [if_neg c8] at hf
            refine lv_iload_n hx hb dX6_origin_68 rfl (lv_at hl 3 rfl) ?_
            refine lv_istore_n hx hb dX6_origin_69 rfl hl (by decide) rfl (fun ls hl => ?_)
            refine lv_iinc (v := (x4 + (-1))) hx hb dX6_origin_70 hl (k := 4) rfl (by rfl) (by decide) rfl (fun ls hl => ?_)
            refine lv_goto (tgt := 7) hx hb dX6_origin_73 (by decide) ?_
            exact ih w (lv_sub hl [3, 4, 1, 0] rfl) hf
          · rw [if_pos c8] at hf
            refine lv_iload_n hx hb dX6_origin_62 rfl (lv_at hl 3 rfl) ?_
            refine lv_iconst (v := 1) hx hb dX6_origin_63 (by decide) ?_
            refine lv_iadd hx hb dX6_origin_64 ?_
            refine lv_goto (tgt := 69) hx hb dX6_origin_65 (by decide) ?_
            refine lv_istore_n hx hb dX6_origin_69 rfl hl (by decide) rfl (fun ls hl => ?_)
            refine lv_iinc (v := (x4 + (-1))) hx hb dX6_origin_70 hl (k := 4) rfl (by rfl) (by decide) rfl (fun ls hl => ?_)
            refine lv_goto (tgt := 7) hx hb dX6_origin_73 (by decide) ?_
            exact ih w (lv_sub hl [3, 4, 1, 0] rfl) hf
        · rw [if_neg c7] at hf
          refine lv_iload_n hx hb dX6_origin_49 rfl (lv_at hl 3 rfl) ?_
          refine lv_iconst (v := 1) hx hb dX6_origin_50 (by decide) ?_
          refine lv_isub hx hb dX6_origin_51 ?_
          refine lv_goto (tgt := 69) hx hb dX6_origin_52 (by decide) ?_
          refine lv_istore_n hx hb dX6_origin_69 rfl hl (by decide) rfl (fun ls hl => ?_)
          refine lv_iinc (v := (x4 + (-1))) hx hb dX6_origin_70 hl (k := 4) rfl (by rfl) (by decide) rfl (fun ls hl => ?_)
          refine lv_goto (tgt := 7) hx hb dX6_origin_73 (by decide) ?_
          exact ih w (lv_sub hl [3, 4, 1, 0] rfl) hf
      · rw [if_pos c3] at hf
        refine lv_iload hx hb dX6_origin_30 (lv_at hl 0 rfl) ?_
        obtain ⟨r10, hc9, hf⟩ := ob_some hf
        refine k_I w (q_S C w (c_X6_opens ok hc9) wy_X6_opens w_sta_yX6_opens w_ml_RX6_104_yX6_opens rfl rfl ⟨Nat.le_of_ble_eq_true rfl, Nat.le_of_ble_eq_true rfl⟩ rfl hl.1 rfl (Nat.le_of_ble_eq_true rfl) dX6_origin_32 ⟨Nat.le_refl _, Nat.le_refl _⟩) (fun H locs w => ?_)
        refine lv_if_eq (tgt := 41) hx hb dX6_origin_35 (by decide) (fun c12 => ?_) (fun c12 => ?_)
        · rw [if_pos c12] at hf
          refine lv_iload hx hb dX6_origin_41 (lv_at hl 0 rfl) ?_
          obtain ⟨r14, hc13, hf⟩ := ob_some hf
          refine k_I w (q_S C w (c_X6_opens ok hc13) wy_X6_opens w_sta_yX6_opens w_ml_RX6_104_yX6_opens rfl rfl ⟨Nat.le_of_ble_eq_true rfl, Nat.le_of_ble_eq_true rfl⟩ rfl hl.1 rfl (Nat.le_of_ble_eq_true rfl) dX6_origin_43 ⟨Nat.le_refl _, Nat.le_refl _⟩) (fun H locs w => ?_)
          refine lv_if_eq (tgt := 55) hx hb dX6_origin_46 (by decide) (fun c16 => ?_) (fun c16 => ?_)
          · rw [if_pos c16] at hf
            refine lv_iload hx hb dX6_origin_55 (lv_at hl 0 rfl) ?_
            refine lv_bipush (v := 7) hx hb dX6_origin_57 (by decide) ?_
            refine lv_icmp_ne (tgt := 68) hx hb dX6_origin_59 (by decide) (fun c17 => ?_) (fun c17 => ?_)
            · rw [if_neg c17] at hf
              refine lv_iload_n hx hb dX6_origin_68 rfl (lv_at hl 3 rfl) ?_
              refine lv_istore_n hx hb dX6_origin_69 rfl hl (by decide) rfl (fun ls hl => ?_)
              refine lv_iinc (v := (x4 + (-1))) hx hb dX6_origin_70 hl (k := 4) rfl (by rfl) (by decide) rfl (fun ls hl => ?_)
              refine lv_goto (tgt := 7) hx hb dX6_origin_73 (by decide) ?_
              exact ih w (lv_sub hl [3, 4, 1, 0] rfl) hf
            · rw [if_pos c17] at hf
              refine lv_iload_n hx hb dX6_origin_62 rfl (lv_at hl 3 rfl) ?_
              refine lv_iconst (v := 1) hx hb dX6_origin_63 (by decide) ?_
              refine lv_iadd hx hb dX6_origin_64 ?_
              refine lv_goto (tgt := 69) hx hb dX6_origin_65 (by decide) ?_
              refine lv_istore_n hx hb dX6_origin_69 rfl hl (by decide) rfl (fun ls hl => ?_)
              refine lv_iinc (v := (x4 + (-1))) hx hb dX6_origin_70 hl (k := 4) rfl (by rfl) (by decide) rfl (fun ls hl => ?_)
              refine lv_goto (tgt := 7) hx hb dX6_origin_73 (by decide) ?_
              exact ih w (lv_sub hl [3, 4, 1, 0] rfl) hf
          · rw [if_neg c16] at hf
            refine lv_iload_n hx hb dX6_origin_49 rfl (lv_at hl 3 rfl) ?_
            refine lv_iconst (v := 1) hx hb dX6_origin_50 (by decide) ?_
            refine lv_isub hx hb dX6_origin_51 ?_
            refine lv_goto (tgt := 69) hx hb dX6_origin_52 (by decide) ?_
            refine lv_istore_n hx hb dX6_origin_69 rfl hl (by decide) rfl (fun ls hl => ?_)
            refine lv_iinc (v := (x4 + (-1))) hx hb dX6_origin_70 hl (k := 4) rfl (by rfl) (by decide) rfl (fun ls hl => ?_)
            refine lv_goto (tgt := 7) hx hb dX6_origin_73 (by decide) ?_
            exact ih w (lv_sub hl [3, 4, 1, 0] rfl) hf
        · rw [if_neg c12] at hf
          refine lv_iload hx hb dX6_origin_38 (lv_at hl 4 rfl) ?_
          cases hf
          exact r_iret C hr hlk w dX6_origin_40
set_option maxHeartbeats 4000000 in
set_option maxRecDepth 100000 in
theorem c_X6_origin (ok : Wok EM idM a) {V : Sto} {r : Int32} {x1 : Int32} {x2 : Int32} (hf : fX6_origin V x1 x2 = some r) : MtI l cy D EM idM a yX6_origin cX6_origin 6 .int rm_X6_origin [.ref (a (0, 0, 0)), .int x1, .int x2] V r V := by
  refine ofM (by decide +kernel) ok (Nat.le_of_ble_eq_true rfl) (fun p e s m args below meth c C hr hlk w ls hl => ?_)
  have hx := C.1.1
  have hb := C.1.2.1
  rw [fX6_origin] at hf
  skip
  refine lv_iconst (v := 0) hx hb dX6_origin_0 (by decide) ?_
  refine lv_istore_n hx hb dX6_origin_1 rfl hl (by decide) rfl (fun ls hl => ?_)
  refine lv_iload_n hx hb dX6_origin_2 rfl (lv_at hl 3 rfl) ?_
  refine lv_iconst (v := 1) hx hb dX6_origin_3 (by decide) ?_
  refine lv_isub hx hb dX6_origin_4 ?_
  refine lv_istore hx hb dX6_origin_5 hl (by decide) rfl (fun ls hl => ?_)
  exact jX6_origin_L7 C hr hlk 40 w (lv_sub hl [2, 3, 1, 0] rfl) hf
set_option maxHeartbeats 4000000 in
set_option maxRecDepth 100000 in
theorem jX6_endAttempt_L9 (C : Cx cy D EM idM a p s m args c RX6 cX6_endAttempt 3) (hr : meth.sig.returnType = none) (hlk : meth.locks = false) {Q : State → Prop} : ∀ (n : Nat) {V V' : Sto} {x1 : Int32} {x2 : Int32} {H : Heap} {locs : List Loc} {ls : Array Slot}, Wd cy D EM idM a V s H locs → lv_has ls 3 [(0, .ref (a (0, 0, 0))), (1, .int x1), (2, .int x2)] → fX6_endAttempt_L9 n V x1 x2 = some (V') → (∀ (H1 : Heap) (locs1 : List Loc) (ls1 : Array Slot), Wd cy D EM idM a V' s H1 locs1 → lv_has ls1 3 [] → W p l e rm_X6_endAttempt s m args below meth c H1 locs1 0 0 (Q) (F0 m 57 ls1 [])) → W p l e rm_X6_endAttempt s m args below meth c H locs 0 0 (Q) (F0 m 9 ls []) := by
  have hx := C.1.1
  have hb := C.1.2.1
  have ok := C.2.2.2
  intro n
  induction n with
  | zero => intro V V' x1 x2  H locs ls w hl hf kk; cases hf
  | succ n ih =>
    intro V V' x1 x2  H locs ls w hl hf kk
    rw [fX6_endAttempt_L9] at hf
    refine lv_iload_n hx hb dX6_endAttempt_9 rfl (lv_at hl 2 rfl) ?_
    refine lv_bipush (v := 8) hx hb dX6_endAttempt_10 (by decide) ?_
    refine lv_icmp_ge (tgt := 57) hx hb dX6_endAttempt_12 (by decide) (fun c4 => ?_) (fun c4 => ?_)
    · rw [if_pos c4] at hf
      cases hf
      exact kk _ _ _ w (lv_sub hl [] rfl)
    · rw [if_neg c4] at hf
      refine lv_aload_n hx hb dX6_endAttempt_15 rfl (lv_at hl 0 rfl) ?_
      refine r_get C w iM0 eM0 vc6 inlX6 16 (by decide) w_fl_RX6_56_AtomicThreadsModel_read_Z rfl dX6_endAttempt_16 ?_
      refine lv_bipush (v := 8) hx hb dX6_endAttempt_19 (by decide) ?_
      refine lv_iload_n hx hb dX6_endAttempt_21 rfl (lv_at hl 1 rfl) ?_
      refine lv_imul hx hb dX6_endAttempt_22 ?_
      refine lv_iload_n hx hb dX6_endAttempt_23 rfl (lv_at hl 2 rfl) ?_
      refine lv_iadd hx hb dX6_endAttempt_24 ?_
      refine lv_iconst (v := 0) hx hb dX6_endAttempt_25 (by decide) ?_
      obtain ⟨g5, hf⟩ := gd_some hf
      refine r_zast C w iM17 aM17 g5 dX6_endAttempt_26 (fun H locs w => ?_)
      obtain ⟨V6, e7, hf⟩ := bnd_some hf
      rw [← e7] at w
      refine lv_aload_n hx hb dX6_endAttempt_27 rfl (lv_at hl 0 rfl) ?_
      refine r_get C w iM0 eM0 vc6 inlX6 17 (by decide) w_fl_RX6_59_AtomicThreadsModel_written_Z rfl dX6_endAttempt_28 ?_
      refine lv_bipush (v := 8) hx hb dX6_endAttempt_31 (by decide) ?_
      refine lv_iload_n hx hb dX6_endAttempt_33 rfl (lv_at hl 1 rfl) ?_
      refine lv_imul hx hb dX6_endAttempt_34 ?_
      refine lv_iload_n hx hb dX6_endAttempt_35 rfl (lv_at hl 2 rfl) ?_
      refine lv_iadd hx hb dX6_endAttempt_36 ?_
      refine lv_iconst (v := 0) hx hb dX6_endAttempt_37 (by decide) ?_
      obtain ⟨g8, hf⟩ := gd_some hf
      refine r_zast C w iM18 aM18 g8 dX6_endAttempt_38 (fun H locs w => ?_)
      obtain ⟨V9, e10, hf⟩ := bnd_some hf
      rw [← e10] at w
      refine lv_aload_n hx hb dX6_endAttempt_39 rfl (lv_at hl 0 rfl) ?_
      refine r_get C w iM0 eM0 vc6 inlX6 15 (by decide) w_fl_RX6_53_AtomicThreadsModel_stale_Z rfl dX6_endAttempt_40 ?_
      refine lv_bipush (v := 8) hx hb dX6_endAttempt_43 (by decide) ?_
      refine lv_iload_n hx hb dX6_endAttempt_45 rfl (lv_at hl 1 rfl) ?_
      refine lv_imul hx hb dX6_endAttempt_46 ?_
      refine lv_iload_n hx hb dX6_endAttempt_47 rfl (lv_at hl 2 rfl) ?_
      refine lv_iadd hx hb dX6_endAttempt_48 ?_
      refine lv_iconst (v := 0) hx hb dX6_endAttempt_49 (by decide) ?_
      obtain ⟨g11, hf⟩ := gd_some hf
      refine r_zast C w iM16 aM16 g11 dX6_endAttempt_50 (fun H locs w => ?_)
      obtain ⟨V12, e13, hf⟩ := bnd_some hf
      rw [← e13] at w
      refine lv_iinc (v := (x2 + 1)) hx hb dX6_endAttempt_51 hl (k := 2) rfl (by rfl) (by decide) rfl (fun ls hl => ?_)
      refine lv_goto (tgt := 9) hx hb dX6_endAttempt_54 (by decide) ?_
      exact ih w (lv_sub hl [1, 2, 0] rfl) hf kk
set_option maxHeartbeats 4000000 in
set_option maxRecDepth 100000 in
theorem c_X6_endAttempt (ok : Wok EM idM a) {V : Sto} {V' : Sto} {x1 : Int32} (hf : fX6_endAttempt V x1 = some V') : MtV l cy D EM idM a yX6_endAttempt cX6_endAttempt 3 rm_X6_endAttempt [.ref (a (0, 0, 0)), .int x1] V V' := by
  refine ofM (by decide +kernel) ok (Nat.le_of_ble_eq_true rfl) (fun p e s m args below meth c C hr hlk w ls hl => ?_)
  have hx := C.1.1
  have hb := C.1.2.1
  rw [fX6_endAttempt] at hf
  skip
  refine lv_aload_n hx hb dX6_endAttempt_0 rfl (lv_at hl 0 rfl) ?_
  refine r_get C w iM0 eM0 vc6 inlX6 12 (by decide) w_fl_RX6_43_AtomicThreadsModel_attempt_Z rfl dX6_endAttempt_1 ?_
  refine lv_iload_n hx hb dX6_endAttempt_4 rfl (lv_at hl 1 rfl) ?_
  refine lv_iconst (v := 0) hx hb dX6_endAttempt_5 (by decide) ?_
  obtain ⟨g1, hf⟩ := gd_some hf
  refine r_zast C w iM13 aM13 g1 dX6_endAttempt_6 (fun H locs w => ?_)
  obtain ⟨V2, e3, hf⟩ := bnd_some hf
  rw [← e3] at w
  refine lv_iconst (v := 0) hx hb dX6_endAttempt_7 (by decide) ?_
  refine lv_istore_n hx hb dX6_endAttempt_8 rfl hl (by decide) rfl (fun ls hl => ?_)
  obtain ⟨V15, hc14, hf⟩ := ob_some hf
  refine jX6_endAttempt_L9 C hr hlk 40 w (lv_sub hl [1, 2, 0] rfl) hc14 (fun H locs ls w hl => ?_)
  cases hf
  exact r_vret C hr hlk w dX6_endAttempt_57
set_option maxHeartbeats 4000000 in
set_option maxRecDepth 100000 in
theorem c_X6_go (ok : Wok EM idM a) {V : Sto} {V' : Sto} {x1 : Int32} {x2 : Int32} (hf : fX6_go V x1 x2 = some V') : MtV l cy D EM idM a yX6_go cX6_go 3 rm_X6_go [.ref (a (0, 0, 0)), .int x1, .int x2] V V' := by
  refine ofM (by decide +kernel) ok (Nat.le_of_ble_eq_true rfl) (fun p e s m args below meth c C hr hlk w ls hl => ?_)
  have hx := C.1.1
  have hb := C.1.2.1
  rw [fX6_go] at hf
  skip
  refine lv_aload_n hx hb dX6_go_0 rfl (lv_at hl 0 rfl) ?_
  refine r_get C w iM0 eM0 vc6 inlX6 5 (by decide) w_fl_RX6_25_AtomicThreadsModel_place_I rfl dX6_go_1 ?_
  refine lv_iload_n hx hb dX6_go_4 rfl (lv_at hl 1 rfl) ?_
  refine lv_iload_n hx hb dX6_go_5 rfl (lv_at hl 2 rfl) ?_
  obtain ⟨g1, hf⟩ := gd_some hf
  refine r_iast C w iM6 aM6 g1 dX6_go_6 (fun H locs w => ?_)
  obtain ⟨V2, e3, hf⟩ := bnd_some hf
  rw [← e3] at w
  refine lv_iload_n hx hb dX6_go_7 rfl (lv_at hl 2 rfl) ?_
  refine lv_aload_n hx hb dX6_go_8 rfl (lv_at hl 0 rfl) ?_
  refine r_get C w iM0 eM0 vc6 inlX6 3 (by decide) w_fl_RX6_19_AtomicThreadsModel_size_I rfl dX6_go_9 ?_
  refine lv_iload_n hx hb dX6_go_12 rfl (lv_at hl 1 rfl) ?_
  obtain ⟨g4, hf⟩ := gd_some hf
  refine r_iald C w iM4 aM4 g4 dX6_go_13 ?_
  refine lv_icmp_ne (tgt := 24) hx hb dX6_go_14 (by decide) (fun c5 => ?_) (fun c5 => ?_)
  · rw [if_neg c5] at hf
    cases hf
    exact r_vret C hr hlk w dX6_go_24
  · rw [if_pos c5] at hf
    refine lv_aload_n hx hb dX6_go_17 rfl (lv_at hl 0 rfl) ?_
    refine r_get C w iM0 eM0 vc6 inlX6 4 (by decide) w_fl_RX6_22_AtomicThreadsModel_state_I rfl dX6_go_18 ?_
    refine lv_iload_n hx hb dX6_go_21 rfl (lv_at hl 1 rfl) ?_
    refine lv_iconst (v := 3) hx hb dX6_go_22 (by decide) ?_
    obtain ⟨g6, hf⟩ := gd_some hf
    refine r_iast C w iM5 aM5 g6 dX6_go_23 (fun H locs w => ?_)
    obtain ⟨V7, e8, hf⟩ := bnd_some hf
    rw [← e8] at w
    cases hf
    exact r_vret C hr hlk w dX6_go_24
set_option maxHeartbeats 4000000 in
set_option maxRecDepth 100000 in
theorem jX6_start_L31 (C : Cx cy D EM idM a p s m args c RX6 cX6_start 3) (hr : meth.sig.returnType = some .boolean) (hlk : meth.locks = false) {Q : State → Prop} : ∀ (n : Nat) {V V' : Sto} {x1 : Int32} {x2 : Int32} {H : Heap} {locs : List Loc} {ls : Array Slot}, Wd cy D EM idM a V s H locs → lv_has ls 3 [(0, .ref (a (0, 0, 0))), (1, .int x1), (2, .int x2)] → fX6_start_L31 n V x1 x2 = some (V') → (∀ (H1 : Heap) (locs1 : List Loc) (ls1 : Array Slot), Wd cy D EM idM a V' s H1 locs1 → lv_has ls1 3 [(0, .ref (a (0, 0, 0))), (1, .int x1)] → W p l e rm_X6_start s m args below meth c H1 locs1 0 0 (Q) (F0 m 53 ls1 [])) → W p l e rm_X6_start s m args below meth c H locs 0 0 (Q) (F0 m 31 ls []) := by
  have hx := C.1.1
  have hb := C.1.2.1
  have ok := C.2.2.2
  intro n
  induction n with
  | zero => intro V V' x1 x2  H locs ls w hl hf kk; cases hf
  | succ n ih =>
    intro V V' x1 x2  H locs ls w hl hf kk
    rw [fX6_start_L31] at hf
    refine lv_iload_n hx hb dX6_start_31 rfl (lv_at hl 2 rfl) ?_
    refine lv_iconst (v := 4) hx hb dX6_start_32 (by decide) ?_
    refine lv_icmp_ge (tgt := 53) hx hb dX6_start_33 (by decide) (fun c13 => ?_) (fun c13 => ?_)
    · rw [if_pos c13] at hf
      cases hf
      exact kk _ _ _ w (lv_sub hl [0, 1] rfl)
    · rw [if_neg c13] at hf
      refine lv_aload_n hx hb dX6_start_36 rfl (lv_at hl 0 rfl) ?_
      refine r_get C w iM0 eM0 vc6 inlX6 7 (by decide) w_fl_RX6_31_AtomicThreadsModel_register_I rfl dX6_start_37 ?_
      refine lv_iconst (v := 4) hx hb dX6_start_40 (by decide) ?_
      refine lv_iload_n hx hb dX6_start_41 rfl (lv_at hl 1 rfl) ?_
      refine lv_imul hx hb dX6_start_42 ?_
      refine lv_iload_n hx hb dX6_start_43 rfl (lv_at hl 2 rfl) ?_
      refine lv_iadd hx hb dX6_start_44 ?_
      refine lv_iconst (v := 0) hx hb dX6_start_45 (by decide) ?_
      obtain ⟨g14, hf⟩ := gd_some hf
      refine r_iast C w iM8 aM8 g14 dX6_start_46 (fun H locs w => ?_)
      obtain ⟨V15, e16, hf⟩ := bnd_some hf
      rw [← e16] at w
      refine lv_iinc (v := (x2 + 1)) hx hb dX6_start_47 hl (k := 2) rfl (by rfl) (by decide) rfl (fun ls hl => ?_)
      refine lv_goto (tgt := 31) hx hb dX6_start_50 (by decide) ?_
      exact ih w (lv_sub hl [1, 2, 0] rfl) hf kk
set_option maxHeartbeats 4000000 in
set_option maxRecDepth 100000 in
theorem c_X6_start (ok : Wok EM idM a) {V : Sto} {r : Int32} {V' : Sto} {x1 : Int32} (hf : fX6_start V x1 = some (r, V')) : MtI l cy D EM idM a yX6_start cX6_start 3 .boolean rm_X6_start [.ref (a (0, 0, 0)), .int x1] V r V' := by
  refine ofM (by decide +kernel) ok (Nat.le_of_ble_eq_true rfl) (fun p e s m args below meth c C hr hlk w ls hl => ?_)
  have hx := C.1.1
  have hb := C.1.2.1
  rw [fX6_start] at hf
  skip
  refine lv_iload_n hx hb dX6_start_0 rfl (lv_at hl 1 rfl) ?_
  refine lv_iconst (v := 4) hx hb dX6_start_1 (by decide) ?_
  obtain ⟨r2, hc1, hf⟩ := ob_some hf
  refine k_I w (q_S C w (c_X6_out ok hc1) wy_X6_out w_sta_yX6_out w_ml_RX6_89_yX6_out rfl rfl ⟨Nat.le_of_ble_eq_true rfl, Nat.le_of_ble_eq_true rfl⟩ rfl hl.1 rfl (Nat.le_of_ble_eq_true rfl) dX6_start_2 ⟨Nat.le_refl _, Nat.le_refl _⟩) (fun H locs w => ?_)
  refine lv_if_eq (tgt := 10) hx hb dX6_start_5 (by decide) (fun c4 => ?_) (fun c4 => ?_)
  · rw [if_pos c4] at hf
    refine lv_aload_n hx hb dX6_start_10 rfl (lv_at hl 0 rfl) ?_
    refine lv_iload_n hx hb dX6_start_11 rfl (lv_at hl 1 rfl) ?_
    obtain ⟨r6, hc5, hf⟩ := ob_some hf
    refine k_I w (q_V C w (c_X6_busy ok hc5) wy_X6_busy wi_X6_busy w_ml_RX6_93_yX6_busy iM0 eM0 vc6 rfl rfl ⟨Nat.le_of_ble_eq_true rfl, Nat.le_of_ble_eq_true rfl⟩ rfl hl.1 rfl (Nat.le_of_ble_eq_true rfl) dX6_start_12 ⟨Nat.le_refl _, Nat.le_refl _⟩) (fun H locs w => ?_)
    refine lv_if_ne (tgt := 27) hx hb dX6_start_15 (by decide) (fun c8 => ?_) (fun c8 => ?_)
    · rw [if_neg c8] at hf
      refine lv_iconst (v := 0) hx hb dX6_start_27 (by decide) ?_
      cases hf
      exact r_zret C hr hlk w (by decide) dX6_start_28
    · rw [if_pos c8] at hf
      refine lv_aload_n hx hb dX6_start_18 rfl (lv_at hl 0 rfl) ?_
      refine lv_iload_n hx hb dX6_start_19 rfl (lv_at hl 1 rfl) ?_
      obtain ⟨r10, V11, hc9, hf⟩ := ob2_some hf
      refine k_I w (q_V C w (c_X6_check ok hc9) wy_X6_check wi_X6_check w_ml_RX6_111_yX6_check iM0 eM0 vc6 rfl rfl ⟨Nat.le_of_ble_eq_true rfl, Nat.le_of_ble_eq_true rfl⟩ rfl hl.1 rfl (Nat.le_of_ble_eq_true rfl) dX6_start_20 ⟨Nat.le_refl _, Nat.le_refl _⟩) (fun H locs w => ?_)
      refine lv_iconst (v := (-1)) hx hb dX6_start_23 (by decide) ?_
      refine lv_icmp_eq (tgt := 29) hx hb dX6_start_24 (by decide) (fun c12 => ?_) (fun c12 => ?_)
      · rw [if_pos c12] at hf
        refine lv_iconst (v := 0) hx hb dX6_start_29 (by decide) ?_
        refine lv_istore_n hx hb dX6_start_30 rfl hl (by decide) rfl (fun ls hl => ?_)
        obtain ⟨V18, hc17, hf⟩ := ob_some hf
        refine jX6_start_L31 C hr hlk 40 w (lv_sub hl [1, 2, 0] rfl) hc17 (fun H locs ls w hl => ?_)
        refine lv_aload_n hx hb dX6_start_53 rfl (lv_at hl 0 rfl) ?_
        refine r_get C w iM0 eM0 vc6 inlX6 6 (by decide) w_fl_RX6_28_AtomicThreadsModel_discarded_I rfl dX6_start_54 ?_
        refine lv_iload_n hx hb dX6_start_57 rfl (lv_at hl 1 rfl) ?_
        refine lv_iconst (v := 0) hx hb dX6_start_58 (by decide) ?_
        obtain ⟨g19, hf⟩ := gd_some hf
        refine r_iast C w iM7 aM7 g19 dX6_start_59 (fun H locs w => ?_)
        obtain ⟨V20, e21, hf⟩ := bnd_some hf
        rw [← e21] at w
        refine lv_aload_n hx hb dX6_start_60 rfl (lv_at hl 0 rfl) ?_
        refine r_get C w iM0 eM0 vc6 inlX6 19 (by decide) w_fl_RX6_65_AtomicThreadsModel_parts_I rfl dX6_start_61 ?_
        refine lv_iload_n hx hb dX6_start_64 rfl (lv_at hl 1 rfl) ?_
        refine lv_iconst (v := 0) hx hb dX6_start_65 (by decide) ?_
        obtain ⟨g22, hf⟩ := gd_some hf
        refine r_iast C w iM20 aM20 g22 dX6_start_66 (fun H locs w => ?_)
        obtain ⟨V23, e24, hf⟩ := bnd_some hf
        rw [← e24] at w
        refine lv_aload_n hx hb dX6_start_67 rfl (lv_at hl 0 rfl) ?_
        refine lv_iload_n hx hb dX6_start_68 rfl (lv_at hl 1 rfl) ?_
        obtain ⟨V27, hc25, hf⟩ := ob_some hf
        refine k_V w (q_V C w (c_X6_endAttempt ok hc25) wy_X6_endAttempt wi_X6_endAttempt w_ml_RX6_115_yX6_endAttempt iM0 eM0 vc6 rfl rfl ⟨Nat.le_of_ble_eq_true rfl, Nat.le_of_ble_eq_true rfl⟩ rfl hl.1 rfl (Nat.le_of_ble_eq_true rfl) dX6_start_69 ⟨Nat.le_refl _, Nat.le_refl _⟩) (fun H locs w => ?_)
        refine lv_aload_n hx hb dX6_start_72 rfl (lv_at hl 0 rfl) ?_
        refine r_get C w iM0 eM0 vc6 inlX6 4 (by decide) w_fl_RX6_22_AtomicThreadsModel_state_I rfl dX6_start_73 ?_
        refine lv_iload_n hx hb dX6_start_76 rfl (lv_at hl 1 rfl) ?_
        refine lv_iconst (v := 1) hx hb dX6_start_77 (by decide) ?_
        obtain ⟨g28, hf⟩ := gd_some hf
        refine r_iast C w iM5 aM5 g28 dX6_start_78 (fun H locs w => ?_)
        obtain ⟨V29, e30, hf⟩ := bnd_some hf
        rw [← e30] at w
        refine lv_aload_n hx hb dX6_start_79 rfl (lv_at hl 0 rfl) ?_
        refine lv_iload_n hx hb dX6_start_80 rfl (lv_at hl 1 rfl) ?_
        refine lv_iconst (v := 0) hx hb dX6_start_81 (by decide) ?_
        obtain ⟨V33, hc31, hf⟩ := ob_some hf
        refine k_V w (q_V C w (c_X6_go ok hc31) wy_X6_go wi_X6_go w_ml_RX6_119_yX6_go iM0 eM0 vc6 rfl rfl ⟨Nat.le_of_ble_eq_true rfl, Nat.le_of_ble_eq_true rfl⟩ rfl hl.1 rfl (Nat.le_of_ble_eq_true rfl) dX6_start_82 ⟨Nat.le_refl _, Nat.le_refl _⟩) (fun H locs w => ?_)
        refine lv_iconst (v := 1) hx hb dX6_start_85 (by decide) ?_
        cases hf
        exact r_zret C hr hlk w (by decide) dX6_start_86
      · rw [if_neg c12] at hf
        refine lv_iconst (v := 0) hx hb dX6_start_27 (by decide) ?_
        cases hf
        exact r_zret C hr hlk w (by decide) dX6_start_28
  · rw [if_neg c4] at hf
    refine lv_iconst (v := 0) hx hb dX6_start_8 (by decide) ?_
    cases hf
    exact r_zret C hr hlk w (by decide) dX6_start_9
end S32_metM01
