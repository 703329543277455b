def RelStep (Rel : Nat → Sto → Sto → Prop) : Prop := ∀ k, k < 512 → ∀ V U : Sto, Rel k V U → (∀ x1 x2 x3 x4 : Int32, ∃ (r : Int32) (V' : Sto) (U' : Sto), fX5_add V x1 x2 x3 x4 = some (r, V') ∧ fX6_add U x1 x2 x3 x4 = some (r, U') ∧ Rel (k + 1) V' U') ∧
  (∀ x1 x2 : Int32, ∃ (r : Int32) (V' : Sto) (U' : Sto), fX5_cut V x1 x2 = some (r, V') ∧ fX6_cut U x1 x2 = some (r, U') ∧ Rel (k + 1) V' U') ∧
  (∀ x1 : Int32, ∃ (r : Int32) (V' : Sto) (U' : Sto), fX5_check V x1 = some (r, V') ∧ fX6_check U x1 = some (r, U') ∧ Rel (k + 1) V' U') ∧
  (∀ x1 : Int32, ∃ (r : Int32) (V' : Sto) (U' : Sto), fX5_start V x1 = some (r, V') ∧ fX6_start U x1 = some (r, U') ∧ Rel (k + 1) V' U') ∧
  (∀ x1 : Int32, ∃ (r : Int32) (V' : Sto) (U' : Sto), fX5_stop V x1 = some (r, V') ∧ fX6_stop U x1 = some (r, U') ∧ Rel (k + 1) V' U') ∧
  (∀ x1 : Int32, ∃ (r : Int32) (V' : Sto) (U' : Sto), fX5_step V x1 = some (r, V') ∧ fX6_step U x1 = some (r, U') ∧ Rel (k + 1) V' U') ∧
  (∀ x1 x2 : Int32, ∃ (r : Int32) (V' : Sto) (U' : Sto), fX5_run V x1 x2 = some (r, V') ∧ fX6_run U x1 x2 = some (r, U') ∧ Rel (k + 1) V' U') ∧
  (∀ x1 x2 : Int32, ∃ (r : Int32) (V' : Sto) (U' : Sto), fX5_put V x1 x2 = some (r, V') ∧ fX6_put U x1 x2 = some (r, U') ∧ Rel (k + 1) V' U') ∧
  (∀ x1 : Int32, ∃ (r : Int32), fX5_value V x1 = some r ∧ fX6_value U x1 = some r ∧ Rel (k + 1) V U) ∧
  (∀ x1 : Int32, ∃ (r : Int32), fX5_version V x1 = some r ∧ fX6_version U x1 = some r ∧ Rel (k + 1) V U) ∧
  (∃ (r : Int32), fX5_commits V = some r ∧ fX6_commits U = some r ∧ Rel (k + 1) V U) ∧
  (∀ x1 : Int32, ∃ (r : Int32), fX5_state V x1 = some r ∧ fX6_state U x1 = some r ∧ Rel (k + 1) V U) ∧
  (∀ x1 : Int32, ∃ (r : Int32), fX5_place V x1 = some r ∧ fX6_place U x1 = some r ∧ Rel (k + 1) V U) ∧
  (∀ x1 x2 : Int32, ∃ (r : Int32), fX5_register V x1 x2 = some r ∧ fX6_register U x1 x2 = some r ∧ Rel (k + 1) V U) ∧
  (∀ x1 x2 : Int32, ∃ (r : Int32), fX5_sees V x1 x2 = some r ∧ fX6_sees U x1 x2 = some r ∧ Rel (k + 1) V U) ∧
  (∀ x1 : Int32, ∃ (r : Int32), fX5_log V x1 = some r ∧ fX6_log U x1 = some r ∧ Rel (k + 1) V U) ∧
  (∀ x1 : Int32, ∃ (r : Int32), fX5_waiting V x1 = some r ∧ fX6_waiting U x1 = some r ∧ Rel (k + 1) V U) ∧
  (∀ x1 : Int32, ∃ (r : Int32), fX5_discards V x1 = some r ∧ fX6_discards U x1 = some r ∧ Rel (k + 1) V U) ∧
  (∃ (r : Int32), fX5_outcome V = some r ∧ fX6_outcome U = some r ∧ Rel (k + 1) V U) ∧
  (∀ x1 : Int32, ∃ (r : Int32), fX5_printed V x1 = some r ∧ fX6_printed U x1 = some r ∧ Rel (k + 1) V U)
theorem law_lt {i L : Nat} (hi : i ≤ 2560) (hL : L ≤ 2560) (h : L < i) : nI L - 5 < nI i := by
  have h5 : (5 : Int32) = nI 5 := rfl
  rw [Int32.lt_iff_toInt_lt, h5, pk_sub_toInt (by omega) (by omega), nI_toInt (by omega)]
  omega
theorem law_le {i L : Nat} (hi : i ≤ 2560) (hL : L ≤ 2560) (h : ¬ nI L - 5 < nI i) : i + 5 ≤ L := by
  have h5 : (5 : Int32) = nI 5 := rfl
  rw [Int32.lt_iff_toInt_lt, h5, pk_sub_toInt (by omega) (by omega), nI_toInt (by omega)] at h
  omega
set_option maxHeartbeats 4000000 in
set_option maxRecDepth 100000 in
theorem law_loop {Rel : Nat → Sto → Sto → Prop} (hR : RelStep Rel) {p : Program} {l : Launch} {e : Env} {s : State} {m : MethodId} {below : List Frame} {meth : Method} {c : Code} {b L : Nat} {xs : Nat → Int32} {cy : Nat → ClassId} {D : va_G} {a am : Id3 → Nat} (hL : L ≤ 2560) (C : CI cy D p s m #[Value.ref b] c RL code 4) (okC : Wok EC idC a) (okM : Wok EM idM am) (hr : meth.sig.returnType = ret) (hlocks : meth.locks = false) (hX : va_X b L xs s s.heap) (hbl : b < s.heap.size) :
    ∀ (n k : Nat) {V U : Sto} {H : Heap} {locs : List Loc} {ls : Array Slot}, k ≤ 512 → L < 5 * k + n → Rel k V U → WI D (fun q => s.heap.size ≤ q) (cel EC idC cy a V ++ (cel EM idM cy am U ++ [])) s H locs → lv_has ls 4 [(0, .ref b), (1, .ref (a (0, 0, 0))), (2, .ref (am (0, 0, 0))), (3, .int (nI (5 * k)))] → W p l e room_1 s m #[Value.ref b] below meth c H locs 142 2384 (lw_Z below #[Value.ref b] s) (F0 m 18 ls []) := by
  have hx := C.1.1
  have hb := C.1.2.1
  have hbA : ¬ (fun q : Nat => s.heap.size ≤ q) b := Nat.not_le.mpr hbl
  intro n
  induction n with
  | zero =>
    intro k V U H locs ls hk hn hrel w hl
    refine lv_iload_n hx hb dL_law_18 rfl (lv_at hl 3 rfl) ?_
    refine lv_aload_n hx hb dL_law_19 rfl (lv_at hl 0 rfl) ?_
    refine va_slen hx hb hX hbl hbA w.2.2.1 dL_law_20 ?_
    refine lv_iconst (v := 5) hx hb dL_law_21 (by decide) ?_
    refine lv_isub hx hb dL_law_22 ?_
    refine lv_icmp_gt (tgt := 654) hx hb dL_law_23 (by decide) (fun _ => ?_) (fun q => absurd (law_lt (by omega) (by omega) (by omega)) q)
    refine lv_iconst (v := 1) hx hb dL_law_654 (by decide) ?_
    refine va_forget (fun q hq => w.2.2.1.2.2 q hq) ?_
    refine W.widen (k := 600000) (n := 7302250) (Nat.le_of_ble_eq_true rfl) (Nat.le_of_ble_eq_true rfl) ?_
    exact lw_ret hx hb hr hlocks dL_law_655
  | succ n ih =>
    intro k V U H locs ls hk hn hrel w hl
    refine lv_iload_n hx hb dL_law_18 rfl (lv_at hl 3 rfl) ?_
    refine lv_aload_n hx hb dL_law_19 rfl (lv_at hl 0 rfl) ?_
    refine va_slen hx hb hX hbl hbA w.2.2.1 dL_law_20 ?_
    refine lv_iconst (v := 5) hx hb dL_law_21 (by decide) ?_
    refine lv_isub hx hb dL_law_22 ?_
    refine lv_icmp_gt (tgt := 654) hx hb dL_law_23 (by decide) (fun _ => ?_) (fun q => ?_)
    · skip
      refine lv_iconst (v := 1) hx hb dL_law_654 (by decide) ?_
      refine va_forget (fun q hq => w.2.2.1.2.2 q hq) ?_
      refine W.widen (k := 600000) (n := 7302250) (Nat.le_of_ble_eq_true rfl) (Nat.le_of_ble_eq_true rfl) ?_
      exact lw_ret hx hb hr hlocks dL_law_655
    have hle : 5 * k + 5 ≤ L := law_le (by omega) (by omega) q
    have hi0 : vp_in (nI (5 * k)) L := by exact vp_in_nI (by omega) (by omega)
    have hi1 : vp_in (nI (5 * k) + 1) L := by rw [show (1 : Int32) = nI 1 from rfl, nI_add]; exact vp_in_nI (by omega) (by omega)
    have hi2 : vp_in (nI (5 * k) + 2) L := by rw [show (2 : Int32) = nI 2 from rfl, nI_add]; exact vp_in_nI (by omega) (by omega)
    have hi3 : vp_in (nI (5 * k) + 3) L := by rw [show (3 : Int32) = nI 3 from rfl, nI_add]; exact vp_in_nI (by omega) (by omega)
    have hi4 : vp_in (nI (5 * k) + 4) L := by rw [show (4 : Int32) = nI 4 from rfl, nI_add]; exact vp_in_nI (by omega) (by omega)
    have S := hR k (by omega) V U hrel
    have fin : ∀ {V1 U1 : Sto} {H : Heap} {locs : List Loc} {ls : Array Slot}, Rel (k + 1) V1 U1 → WI D (fun q => s.heap.size ≤ q) (cel EC idC cy a V1 ++ (cel EM idM cy am U1 ++ [])) s H locs → lv_has ls 4 [(0, .ref b), (1, .ref (a (0, 0, 0))), (2, .ref (am (0, 0, 0))), (3, .int (nI (5 * k)))] → W p l e room_1 s m #[Value.ref b] below meth c H locs 142 2384 (lw_Z below #[Value.ref b] s) (F0 m 648 ls []) := by
      intro V1 U1 H locs ls hrel w hl
      refine lv_iinc (v := nI (5 * (k + 1))) hx hb dL_law_648 hl (k := 3) rfl (by show nI (5 * k) + nI 5 = _; rw [nI_add]; rfl) (by decide) rfl (fun ls hl => ?_)
      refine lv_goto (tgt := 18) hx hb dL_law_651 (by decide) ?_
      exact ih (k + 1) (by omega) (by omega) hrel w (lv_sub hl [1, 2, 3, 0] rfl)
    refine lv_aload_n hx hb dL_law_26 rfl (lv_at hl 0 rfl) ?_
    refine lv_iload_n hx hb dL_law_27 rfl (lv_at hl 3 rfl) ?_
    refine va_sld hx hb hX hbl hbA w.2.2.1 hi0 dL_law_28 ?_
    refine lv_bipush (v := 31) hx hb dL_law_29 (by decide) ?_
    refine lv_iand hx hb dL_law_31 ?_
    generalize (xs (nI (5 * k)).toNatClampNeg &&& 31) = op
    by_cases c0 : op = 0
    · subst c0
      refine lv_tableIn (off := 96) (tgt := 128) hx hb dL_law_32 (by decide) (by decide) rfl (by decide) ?_
      obtain ⟨r, V1, U1, h1, h2, h3⟩ := S.1 (xs (nI (5 * k) + 1).toNatClampNeg) (xs (nI (5 * k) + 2).toNatClampNeg) (xs (nI (5 * k) + 3).toNatClampNeg) (xs (nI (5 * k) + 4).toNatClampNeg)
      refine lv_aload_n hx hb dL_law_128 rfl (lv_at hl 1 rfl) ?_
      refine lv_aload_n hx hb dL_law_129 rfl (lv_at hl 0 rfl) ?_
      refine lv_iload_n hx hb dL_law_130 rfl (lv_at hl 3 rfl) ?_
      refine lv_iconst (v := 1) hx hb dL_law_131 (by decide) ?_
      refine lv_iadd hx hb dL_law_132 ?_
      refine va_sld hx hb hX hbl hbA w.2.2.1 hi1 dL_law_133 ?_
      refine lv_aload_n hx hb dL_law_134 rfl (lv_at hl 0 rfl) ?_
      refine lv_iload_n hx hb dL_law_135 rfl (lv_at hl 3 rfl) ?_
      refine lv_iconst (v := 2) hx hb dL_law_136 (by decide) ?_
      refine lv_iadd hx hb dL_law_137 ?_
      refine va_sld hx hb hX hbl hbA w.2.2.1 hi2 dL_law_138 ?_
      refine lv_aload_n hx hb dL_law_139 rfl (lv_at hl 0 rfl) ?_
      refine lv_iload_n hx hb dL_law_140 rfl (lv_at hl 3 rfl) ?_
      refine lv_iconst (v := 3) hx hb dL_law_141 (by decide) ?_
      refine lv_iadd hx hb dL_law_142 ?_
      refine va_sld hx hb hX hbl hbA w.2.2.1 hi3 dL_law_143 ?_
      refine lv_aload_n hx hb dL_law_144 rfl (lv_at hl 0 rfl) ?_
      refine lv_iload_n hx hb dL_law_145 rfl (lv_at hl 3 rfl) ?_
      refine lv_iconst (v := 4) hx hb dL_law_146 (by decide) ?_
      refine lv_iadd hx hb dL_law_147 ?_
      refine va_sld hx hb hX hbl hbA w.2.2.1 hi4 dL_law_148 ?_
      refine L_call (w1 := []) C w (c_X5_add okC h1) wy_X5_add wi_X5_add w_ml_RL_13_yX5_add iC0 eC0 vc5 rfl rfl ⟨Nat.le_of_ble_eq_true rfl, Nat.le_of_ble_eq_true rfl⟩ rfl hl.1 rfl (Nat.le_of_ble_eq_true rfl) dL_law_149 ⟨Nat.le_of_ble_eq_true rfl, Nat.le_of_ble_eq_true rfl⟩ (fun H locs w => ?_)
      refine lv_aload_n hx hb dL_law_152 rfl (lv_at hl 2 rfl) ?_
      refine lv_aload_n hx hb dL_law_153 rfl (lv_at hl 0 rfl) ?_
      refine lv_iload_n hx hb dL_law_154 rfl (lv_at hl 3 rfl) ?_
      refine lv_iconst (v := 1) hx hb dL_law_155 (by decide) ?_
      refine lv_iadd hx hb dL_law_156 ?_
      refine va_sld hx hb hX hbl hbA w.2.2.1 hi1 dL_law_157 ?_
      refine lv_aload_n hx hb dL_law_158 rfl (lv_at hl 0 rfl) ?_
      refine lv_iload_n hx hb dL_law_159 rfl (lv_at hl 3 rfl) ?_
      refine lv_iconst (v := 2) hx hb dL_law_160 (by decide) ?_
      refine lv_iadd hx hb dL_law_161 ?_
      refine va_sld hx hb hX hbl hbA w.2.2.1 hi2 dL_law_162 ?_
      refine lv_aload_n hx hb dL_law_163 rfl (lv_at hl 0 rfl) ?_
      refine lv_iload_n hx hb dL_law_164 rfl (lv_at hl 3 rfl) ?_
      refine lv_iconst (v := 3) hx hb dL_law_165 (by decide) ?_
      refine lv_iadd hx hb dL_law_166 ?_
      refine va_sld hx hb hX hbl hbA w.2.2.1 hi3 dL_law_167 ?_
      refine lv_aload_n hx hb dL_law_168 rfl (lv_at hl 0 rfl) ?_
      refine lv_iload_n hx hb dL_law_169 rfl (lv_at hl 3 rfl) ?_
      refine lv_iconst (v := 4) hx hb dL_law_170 (by decide) ?_
      refine lv_iadd hx hb dL_law_171 ?_
      refine va_sld hx hb hX hbl hbA w.2.2.1 hi4 dL_law_172 ?_
      refine L_call (w1 := cel EC idC cy a V1) C w (c_X6_add okM h2) wy_X6_add wi_X6_add w_ml_RL_17_yX6_add iM0 eM0 vc6 rfl rfl ⟨Nat.le_of_ble_eq_true rfl, Nat.le_of_ble_eq_true rfl⟩ rfl hl.1 rfl (Nat.le_of_ble_eq_true rfl) dL_law_173 ⟨Nat.le_of_ble_eq_true rfl, Nat.le_of_ble_eq_true rfl⟩ (fun H locs w => ?_)
      refine lv_icmp_eq (tgt := 648) hx hb dL_law_176 (by decide) (fun _ => ?_) (fun q => absurd rfl q)
      exact fin h3 w hl
    by_cases c1 : op = 1
    · subst c1
      refine lv_tableIn (off := 149) (tgt := 181) hx hb dL_law_32 (by decide) (by decide) rfl (by decide) ?_
      obtain ⟨r, V1, U1, h1, h2, h3⟩ := S.2.1 (xs (nI (5 * k) + 1).toNatClampNeg) (xs (nI (5 * k) + 2).toNatClampNeg)
      refine lv_aload_n hx hb dL_law_181 rfl (lv_at hl 1 rfl) ?_
      refine lv_aload_n hx hb dL_law_182 rfl (lv_at hl 0 rfl) ?_
      refine lv_iload_n hx hb dL_law_183 rfl (lv_at hl 3 rfl) ?_
      refine lv_iconst (v := 1) hx hb dL_law_184 (by decide) ?_
      refine lv_iadd hx hb dL_law_185 ?_
      refine va_sld hx hb hX hbl hbA w.2.2.1 hi1 dL_law_186 ?_
      refine lv_aload_n hx hb dL_law_187 rfl (lv_at hl 0 rfl) ?_
      refine lv_iload_n hx hb dL_law_188 rfl (lv_at hl 3 rfl) ?_
      refine lv_iconst (v := 2) hx hb dL_law_189 (by decide) ?_
      refine lv_iadd hx hb dL_law_190 ?_
      refine va_sld hx hb hX hbl hbA w.2.2.1 hi2 dL_law_191 ?_
      refine L_call (w1 := []) C w (c_X5_cut okC h1) wy_X5_cut wi_X5_cut w_ml_RL_18_yX5_cut iC0 eC0 vc5 rfl rfl ⟨Nat.le_of_ble_eq_true rfl, Nat.le_of_ble_eq_true rfl⟩ rfl hl.1 rfl (Nat.le_of_ble_eq_true rfl) dL_law_192 ⟨Nat.le_of_ble_eq_true rfl, Nat.le_of_ble_eq_true rfl⟩ (fun H locs w => ?_)
      refine lv_aload_n hx hb dL_law_195 rfl (lv_at hl 2 rfl) ?_
      refine lv_aload_n hx hb dL_law_196 rfl (lv_at hl 0 rfl) ?_
      refine lv_iload_n hx hb dL_law_197 rfl (lv_at hl 3 rfl) ?_
      refine lv_iconst (v := 1) hx hb dL_law_198 (by decide) ?_
      refine lv_iadd hx hb dL_law_199 ?_
      refine va_sld hx hb hX hbl hbA w.2.2.1 hi1 dL_law_200 ?_
      refine lv_aload_n hx hb dL_law_201 rfl (lv_at hl 0 rfl) ?_
      refine lv_iload_n hx hb dL_law_202 rfl (lv_at hl 3 rfl) ?_
      refine lv_iconst (v := 2) hx hb dL_law_203 (by decide) ?_
      refine lv_iadd hx hb dL_law_204 ?_
      refine va_sld hx hb hX hbl hbA w.2.2.1 hi2 dL_law_205 ?_
      refine L_call (w1 := cel EC idC cy a V1) C w (c_X6_cut okM h2) wy_X6_cut wi_X6_cut w_ml_RL_22_yX6_cut iM0 eM0 vc6 rfl rfl ⟨Nat.le_of_ble_eq_true rfl, Nat.le_of_ble_eq_true rfl⟩ rfl hl.1 rfl (Nat.le_of_ble_eq_true rfl) dL_law_206 ⟨Nat.le_of_ble_eq_true rfl, Nat.le_of_ble_eq_true rfl⟩ (fun H locs w => ?_)
      refine lv_icmp_eq (tgt := 648) hx hb dL_law_209 (by decide) (fun _ => ?_) (fun q => absurd rfl q)
      exact fin h3 w hl
    by_cases c2 : op = 2
    · subst c2
      refine lv_tableIn (off := 182) (tgt := 214) hx hb dL_law_32 (by decide) (by decide) rfl (by decide) ?_
      obtain ⟨r, V1, U1, h1, h2, h3⟩ := S.2.2.1 (xs (nI (5 * k) + 1).toNatClampNeg)
      refine lv_aload_n hx hb dL_law_214 rfl (lv_at hl 1 rfl) ?_
      refine lv_aload_n hx hb dL_law_215 rfl (lv_at hl 0 rfl) ?_
      refine lv_iload_n hx hb dL_law_216 rfl (lv_at hl 3 rfl) ?_
      refine lv_iconst (v := 1) hx hb dL_law_217 (by decide) ?_
      refine lv_iadd hx hb dL_law_218 ?_
      refine va_sld hx hb hX hbl hbA w.2.2.1 hi1 dL_law_219 ?_
      refine L_call (w1 := []) C w (c_X5_check okC h1) wy_X5_check wi_X5_check w_ml_RL_23_yX5_check iC0 eC0 vc5 rfl rfl ⟨Nat.le_of_ble_eq_true rfl, Nat.le_of_ble_eq_true rfl⟩ rfl hl.1 rfl (Nat.le_of_ble_eq_true rfl) dL_law_220 ⟨Nat.le_of_ble_eq_true rfl, Nat.le_of_ble_eq_true rfl⟩ (fun H locs w => ?_)
      refine lv_aload_n hx hb dL_law_223 rfl (lv_at hl 2 rfl) ?_
      refine lv_aload_n hx hb dL_law_224 rfl (lv_at hl 0 rfl) ?_
      refine lv_iload_n hx hb dL_law_225 rfl (lv_at hl 3 rfl) ?_
      refine lv_iconst (v := 1) hx hb dL_law_226 (by decide) ?_
      refine lv_iadd hx hb dL_law_227 ?_
      refine va_sld hx hb hX hbl hbA w.2.2.1 hi1 dL_law_228 ?_
      refine L_call (w1 := cel EC idC cy a V1) C w (c_X6_check okM h2) wy_X6_check wi_X6_check w_ml_RL_27_yX6_check iM0 eM0 vc6 rfl rfl ⟨Nat.le_of_ble_eq_true rfl, Nat.le_of_ble_eq_true rfl⟩ rfl hl.1 rfl (Nat.le_of_ble_eq_true rfl) dL_law_229 ⟨Nat.le_of_ble_eq_true rfl, Nat.le_of_ble_eq_true rfl⟩ (fun H locs w => ?_)
      refine lv_icmp_eq (tgt := 648) hx hb dL_law_232 (by decide) (fun _ => ?_) (fun q => absurd rfl q)
      exact fin h3 w hl
    by_cases c3 : op = 3
    · subst c3
      refine lv_tableIn (off := 205) (tgt := 237) hx hb dL_law_32 (by decide) (by decide) rfl (by decide) ?_
      obtain ⟨r, V1, U1, h1, h2, h3⟩ := S.2.2.2.1 (xs (nI (5 * k) + 1).toNatClampNeg)
      refine lv_aload_n hx hb dL_law_237 rfl (lv_at hl 1 rfl) ?_
      refine lv_aload_n hx hb dL_law_238 rfl (lv_at hl 0 rfl) ?_
      refine lv_iload_n hx hb dL_law_239 rfl (lv_at hl 3 rfl) ?_
      refine lv_iconst (v := 1) hx hb dL_law_240 (by decide) ?_
      refine lv_iadd hx hb dL_law_241 ?_
      refine va_sld hx hb hX hbl hbA w.2.2.1 hi1 dL_law_242 ?_
      refine L_call (w1 := []) C w (c_X5_start okC h1) wy_X5_start wi_X5_start w_ml_RL_28_yX5_start iC0 eC0 vc5 rfl rfl ⟨Nat.le_of_ble_eq_true rfl, Nat.le_of_ble_eq_true rfl⟩ rfl hl.1 rfl (Nat.le_of_ble_eq_true rfl) dL_law_243 ⟨Nat.le_of_ble_eq_true rfl, Nat.le_of_ble_eq_true rfl⟩ (fun H locs w => ?_)
      refine lv_aload_n hx hb dL_law_246 rfl (lv_at hl 2 rfl) ?_
      refine lv_aload_n hx hb dL_law_247 rfl (lv_at hl 0 rfl) ?_
      refine lv_iload_n hx hb dL_law_248 rfl (lv_at hl 3 rfl) ?_
      refine lv_iconst (v := 1) hx hb dL_law_249 (by decide) ?_
      refine lv_iadd hx hb dL_law_250 ?_
      refine va_sld hx hb hX hbl hbA w.2.2.1 hi1 dL_law_251 ?_
      refine L_call (w1 := cel EC idC cy a V1) C w (c_X6_start okM h2) wy_X6_start wi_X6_start w_ml_RL_32_yX6_start iM0 eM0 vc6 rfl rfl ⟨Nat.le_of_ble_eq_true rfl, Nat.le_of_ble_eq_true rfl⟩ rfl hl.1 rfl (Nat.le_of_ble_eq_true rfl) dL_law_252 ⟨Nat.le_of_ble_eq_true rfl, Nat.le_of_ble_eq_true rfl⟩ (fun H locs w => ?_)
      refine lv_icmp_eq (tgt := 648) hx hb dL_law_255 (by decide) (fun _ => ?_) (fun q => absurd rfl q)
      exact fin h3 w hl
    by_cases c4 : op = 4
    · subst c4
      refine lv_tableIn (off := 228) (tgt := 260) hx hb dL_law_32 (by decide) (by decide) rfl (by decide) ?_
      obtain ⟨r, V1, U1, h1, h2, h3⟩ := S.2.2.2.2.1 (xs (nI (5 * k) + 1).toNatClampNeg)
      refine lv_aload_n hx hb dL_law_260 rfl (lv_at hl 1 rfl) ?_
      refine lv_aload_n hx hb dL_law_261 rfl (lv_at hl 0 rfl) ?_
      refine lv_iload_n hx hb dL_law_262 rfl (lv_at hl 3 rfl) ?_
      refine lv_iconst (v := 1) hx hb dL_law_263 (by decide) ?_
      refine lv_iadd hx hb dL_law_264 ?_
      refine va_sld hx hb hX hbl hbA w.2.2.1 hi1 dL_law_265 ?_
      refine L_call (w1 := []) C w (c_X5_stop okC h1) wy_X5_stop wi_X5_stop w_ml_RL_33_yX5_stop iC0 eC0 vc5 rfl rfl ⟨Nat.le_of_ble_eq_true rfl, Nat.le_of_ble_eq_true rfl⟩ rfl hl.1 rfl (Nat.le_of_ble_eq_true rfl) dL_law_266 ⟨Nat.le_of_ble_eq_true rfl, Nat.le_of_ble_eq_true rfl⟩ (fun H locs w => ?_)
      refine lv_aload_n hx hb dL_law_269 rfl (lv_at hl 2 rfl) ?_
      refine lv_aload_n hx hb dL_law_270 rfl (lv_at hl 0 rfl) ?_
      refine lv_iload_n hx hb dL_law_271 rfl (lv_at hl 3 rfl) ?_
      refine lv_iconst (v := 1) hx hb dL_law_272 (by decide) ?_
      refine lv_iadd hx hb dL_law_273 ?_
      refine va_sld hx hb hX hbl hbA w.2.2.1 hi1 dL_law_274 ?_
      refine L_call (w1 := cel EC idC cy a V1) C w (c_X6_stop okM h2) wy_X6_stop wi_X6_stop w_ml_RL_36_yX6_stop iM0 eM0 vc6 rfl rfl ⟨Nat.le_of_ble_eq_true rfl, Nat.le_of_ble_eq_true rfl⟩ rfl hl.1 rfl (Nat.le_of_ble_eq_true rfl) dL_law_275 ⟨Nat.le_of_ble_eq_true rfl, Nat.le_of_ble_eq_true rfl⟩ (fun H locs w => ?_)
      refine lv_icmp_eq (tgt := 648) hx hb dL_law_278 (by decide) (fun _ => ?_) (fun q => absurd rfl q)
      exact fin h3 w hl
    by_cases c5 : op = 5
    · subst c5
      refine lv_tableIn (off := 251) (tgt := 283) hx hb dL_law_32 (by decide) (by decide) rfl (by decide) ?_
      obtain ⟨r, V1, U1, h1, h2, h3⟩ := S.2.2.2.2.2.1 (xs (nI (5 * k) + 1).toNatClampNeg)
      refine lv_aload_n hx hb dL_law_283 rfl (lv_at hl 1 rfl) ?_
      refine lv_aload_n hx hb dL_law_284 rfl (lv_at hl 0 rfl) ?_
      refine lv_iload_n hx hb dL_law_285 rfl (lv_at hl 3 rfl) ?_
      refine lv_iconst (v := 1) hx hb dL_law_286 (by decide) ?_
      refine lv_iadd hx hb dL_law_287 ?_
      refine va_sld hx hb hX hbl hbA w.2.2.1 hi1 dL_law_288 ?_
      refine L_call (w1 := []) C w (c_X5_step okC h1) wy_X5_step wi_X5_step w_ml_RL_37_yX5_step iC0 eC0 vc5 rfl rfl ⟨Nat.le_of_ble_eq_true rfl, Nat.le_of_ble_eq_true rfl⟩ rfl hl.1 rfl (Nat.le_of_ble_eq_true rfl) dL_law_289 ⟨Nat.le_of_ble_eq_true rfl, Nat.le_of_ble_eq_true rfl⟩ (fun H locs w => ?_)
      refine lv_aload_n hx hb dL_law_292 rfl (lv_at hl 2 rfl) ?_
      refine lv_aload_n hx hb dL_law_293 rfl (lv_at hl 0 rfl) ?_
      refine lv_iload_n hx hb dL_law_294 rfl (lv_at hl 3 rfl) ?_
      refine lv_iconst (v := 1) hx hb dL_law_295 (by decide) ?_
      refine lv_iadd hx hb dL_law_296 ?_
      refine va_sld hx hb hX hbl hbA w.2.2.1 hi1 dL_law_297 ?_
      refine L_call (w1 := cel EC idC cy a V1) C w (c_X6_step okM h2) wy_X6_step wi_X6_step w_ml_RL_40_yX6_step iM0 eM0 vc6 rfl rfl ⟨Nat.le_of_ble_eq_true rfl, Nat.le_of_ble_eq_true rfl⟩ rfl hl.1 rfl (Nat.le_of_ble_eq_true rfl) dL_law_298 ⟨Nat.le_of_ble_eq_true rfl, Nat.le_of_ble_eq_true rfl⟩ (fun H locs w => ?_)
      refine lv_icmp_eq (tgt := 648) hx hb dL_law_301 (by decide) (fun _ => ?_) (fun q => absurd rfl q)
      exact fin h3 w hl
    by_cases c6 : op = 6
    · subst c6
      refine lv_tableIn (off := 274) (tgt := 306) hx hb dL_law_32 (by decide) (by decide) rfl (by decide) ?_
      obtain ⟨r, V1, U1, h1, h2, h3⟩ := S.2.2.2.2.2.2.1 (xs (nI (5 * k) + 1).toNatClampNeg) (xs (nI (5 * k) + 2).toNatClampNeg)
      refine lv_aload_n hx hb dL_law_306 rfl (lv_at hl 1 rfl) ?_
      refine lv_aload_n hx hb dL_law_307 rfl (lv_at hl 0 rfl) ?_
      refine lv_iload_n hx hb dL_law_308 rfl (lv_at hl 3 rfl) ?_
      refine lv_iconst (v := 1) hx hb dL_law_309 (by decide) ?_
      refine lv_iadd hx hb dL_law_310 ?_
      refine va_sld hx hb hX hbl hbA w.2.2.1 hi1 dL_law_311 ?_
      refine lv_aload_n hx hb dL_law_312 rfl (lv_at hl 0 rfl) ?_
      refine lv_iload_n hx hb dL_law_313 rfl (lv_at hl 3 rfl) ?_
      refine lv_iconst (v := 2) hx hb dL_law_314 (by decide) ?_
      refine lv_iadd hx hb dL_law_315 ?_
      refine va_sld hx hb hX hbl hbA w.2.2.1 hi2 dL_law_316 ?_
      refine L_call (w1 := []) C w (c_X5_run okC h1) wy_X5_run wi_X5_run w_ml_RL_41_yX5_run iC0 eC0 vc5 rfl rfl ⟨Nat.le_of_ble_eq_true rfl, Nat.le_of_ble_eq_true rfl⟩ rfl hl.1 rfl (Nat.le_of_ble_eq_true rfl) dL_law_317 ⟨Nat.le_of_ble_eq_true rfl, Nat.le_of_ble_eq_true rfl⟩ (fun H locs w => ?_)
      refine lv_aload_n hx hb dL_law_320 rfl (lv_at hl 2 rfl) ?_
      refine lv_aload_n hx hb dL_law_321 rfl (lv_at hl 0 rfl) ?_
      refine lv_iload_n hx hb dL_law_322 rfl (lv_at hl 3 rfl) ?_
      refine lv_iconst (v := 1) hx hb dL_law_323 (by decide) ?_
      refine lv_iadd hx hb dL_law_324 ?_
      refine va_sld hx hb hX hbl hbA w.2.2.1 hi1 dL_law_325 ?_
      refine lv_aload_n hx hb dL_law_326 rfl (lv_at hl 0 rfl) ?_
      refine lv_iload_n hx hb dL_law_327 rfl (lv_at hl 3 rfl) ?_
      refine lv_iconst (v := 2) hx hb dL_law_328 (by decide) ?_
      refine lv_iadd hx hb dL_law_329 ?_
      refine va_sld hx hb hX hbl hbA w.2.2.1 hi2 dL_law_330 ?_
      refine L_call (w1 := cel EC idC cy a V1) C w (c_X6_run okM h2) wy_X6_run wi_X6_run w_ml_RL_45_yX6_run iM0 eM0 vc6 rfl rfl ⟨Nat.le_of_ble_eq_true rfl, Nat.le_of_ble_eq_true rfl⟩ rfl hl.1 rfl (Nat.le_of_ble_eq_true rfl) dL_law_331 ⟨Nat.le_of_ble_eq_true rfl, Nat.le_of_ble_eq_true rfl⟩ (fun H locs w => ?_)
      refine lv_icmp_eq (tgt := 648) hx hb dL_law_334 (by decide) (fun _ => ?_) (fun q => absurd rfl q)
      exact fin h3 w hl
    by_cases c7 : op = 7
    · subst c7
      refine lv_tableIn (off := 307) (tgt := 339) hx hb dL_law_32 (by decide) (by decide) rfl (by decide) ?_
      obtain ⟨r, V1, U1, h1, h2, h3⟩ := S.2.2.2.2.2.2.2.1 (xs (nI (5 * k) + 1).toNatClampNeg) (xs (nI (5 * k) + 2).toNatClampNeg)
      refine lv_aload_n hx hb dL_law_339 rfl (lv_at hl 1 rfl) ?_
      refine lv_aload_n hx hb dL_law_340 rfl (lv_at hl 0 rfl) ?_
      refine lv_iload_n hx hb dL_law_341 rfl (lv_at hl 3 rfl) ?_
      refine lv_iconst (v := 1) hx hb dL_law_342 (by decide) ?_
      refine lv_iadd hx hb dL_law_343 ?_
      refine va_sld hx hb hX hbl hbA w.2.2.1 hi1 dL_law_344 ?_
      refine lv_aload_n hx hb dL_law_345 rfl (lv_at hl 0 rfl) ?_
      refine lv_iload_n hx hb dL_law_346 rfl (lv_at hl 3 rfl) ?_
      refine lv_iconst (v := 2) hx hb dL_law_347 (by decide) ?_
      refine lv_iadd hx hb dL_law_348 ?_
      refine va_sld hx hb hX hbl hbA w.2.2.1 hi2 dL_law_349 ?_
      refine L_call (w1 := []) C w (c_X5_put okC h1) wy_X5_put wi_X5_put w_ml_RL_46_yX5_put iC0 eC0 vc5 rfl rfl ⟨Nat.le_of_ble_eq_true rfl, Nat.le_of_ble_eq_true rfl⟩ rfl hl.1 rfl (Nat.le_of_ble_eq_true rfl) dL_law_350 ⟨Nat.le_of_ble_eq_true rfl, Nat.le_of_ble_eq_true rfl⟩ (fun H locs w => ?_)
      refine lv_aload_n hx hb dL_law_353 rfl (lv_at hl 2 rfl) ?_
      refine lv_aload_n hx hb dL_law_354 rfl (lv_at hl 0 rfl) ?_
      refine lv_iload_n hx hb dL_law_355 rfl (lv_at hl 3 rfl) ?_
      refine lv_iconst (v := 1) hx hb dL_law_356 (by decide) ?_
      refine lv_iadd hx hb dL_law_357 ?_
      refine va_sld hx hb hX hbl hbA w.2.2.1 hi1 dL_law_358 ?_
      refine lv_aload_n hx hb dL_law_359 rfl (lv_at hl 0 rfl) ?_
      refine lv_iload_n hx hb dL_law_360 rfl (lv_at hl 3 rfl) ?_
      refine lv_iconst (v := 2) hx hb dL_law_361 (by decide) ?_
      refine lv_iadd hx hb dL_law_362 ?_
      refine va_sld hx hb hX hbl hbA w.2.2.1 hi2 dL_law_363 ?_
      refine L_call (w1 := cel EC idC cy a V1) C w (c_X6_put okM h2) wy_X6_put wi_X6_put w_ml_RL_49_yX6_put iM0 eM0 vc6 rfl rfl ⟨Nat.le_of_ble_eq_true rfl, Nat.le_of_ble_eq_true rfl⟩ rfl hl.1 rfl (Nat.le_of_ble_eq_true rfl) dL_law_364 ⟨Nat.le_of_ble_eq_true rfl, Nat.le_of_ble_eq_true rfl⟩ (fun H locs w => ?_)
      refine lv_icmp_eq (tgt := 648) hx hb dL_law_367 (by decide) (fun _ => ?_) (fun q => absurd rfl q)
      exact fin h3 w hl
    by_cases c8 : op = 8
    · subst c8
      refine lv_tableIn (off := 340) (tgt := 372) hx hb dL_law_32 (by decide) (by decide) rfl (by decide) ?_
      obtain ⟨r, h1, h2, h3⟩ := S.2.2.2.2.2.2.2.2.1 (xs (nI (5 * k) + 1).toNatClampNeg)
      refine lv_aload_n hx hb dL_law_372 rfl (lv_at hl 1 rfl) ?_
      refine lv_aload_n hx hb dL_law_373 rfl (lv_at hl 0 rfl) ?_
      refine lv_iload_n hx hb dL_law_374 rfl (lv_at hl 3 rfl) ?_
      refine lv_iconst (v := 1) hx hb dL_law_375 (by decide) ?_
      refine lv_iadd hx hb dL_law_376 ?_
      refine va_sld hx hb hX hbl hbA w.2.2.1 hi1 dL_law_377 ?_
      refine L_call (w1 := []) C w (c_X5_value okC h1) wy_X5_value wi_X5_value w_ml_RL_50_yX5_value iC0 eC0 vc5 rfl rfl ⟨Nat.le_of_ble_eq_true rfl, Nat.le_of_ble_eq_true rfl⟩ rfl hl.1 rfl (Nat.le_of_ble_eq_true rfl) dL_law_378 ⟨Nat.le_of_ble_eq_true rfl, Nat.le_of_ble_eq_true rfl⟩ (fun H locs w => ?_)
      refine lv_aload_n hx hb dL_law_381 rfl (lv_at hl 2 rfl) ?_
      refine lv_aload_n hx hb dL_law_382 rfl (lv_at hl 0 rfl) ?_
      refine lv_iload_n hx hb dL_law_383 rfl (lv_at hl 3 rfl) ?_
      refine lv_iconst (v := 1) hx hb dL_law_384 (by decide) ?_
      refine lv_iadd hx hb dL_law_385 ?_
      refine va_sld hx hb hX hbl hbA w.2.2.1 hi1 dL_law_386 ?_
      refine L_call (w1 := cel EC idC cy a V) C w (c_X6_value okM h2) wy_X6_value wi_X6_value w_ml_RL_53_yX6_value iM0 eM0 vc6 rfl rfl ⟨Nat.le_of_ble_eq_true rfl, Nat.le_of_ble_eq_true rfl⟩ rfl hl.1 rfl (Nat.le_of_ble_eq_true rfl) dL_law_387 ⟨Nat.le_of_ble_eq_true rfl, Nat.le_of_ble_eq_true rfl⟩ (fun H locs w => ?_)
      refine lv_icmp_eq (tgt := 648) hx hb dL_law_390 (by decide) (fun _ => ?_) (fun q => absurd rfl q)
      exact fin h3 w hl
    by_cases c9 : op = 9
    · subst c9
      refine lv_tableIn (off := 363) (tgt := 395) hx hb dL_law_32 (by decide) (by decide) rfl (by decide) ?_
      obtain ⟨r, h1, h2, h3⟩ := S.2.2.2.2.2.2.2.2.2.1 (xs (nI (5 * k) + 1).toNatClampNeg)
      refine lv_aload_n hx hb dL_law_395 rfl (lv_at hl 1 rfl) ?_
      refine lv_aload_n hx hb dL_law_396 rfl (lv_at hl 0 rfl) ?_
      refine lv_iload_n hx hb dL_law_397 rfl (lv_at hl 3 rfl) ?_
      refine lv_iconst (v := 1) hx hb dL_law_398 (by decide) ?_
      refine lv_iadd hx hb dL_law_399 ?_
      refine va_sld hx hb hX hbl hbA w.2.2.1 hi1 dL_law_400 ?_
      refine L_call (w1 := []) C w (c_X5_version okC h1) wy_X5_version wi_X5_version w_ml_RL_54_yX5_version iC0 eC0 vc5 rfl rfl ⟨Nat.le_of_ble_eq_true rfl, Nat.le_of_ble_eq_true rfl⟩ rfl hl.1 rfl (Nat.le_of_ble_eq_true rfl) dL_law_401 ⟨Nat.le_of_ble_eq_true rfl, Nat.le_of_ble_eq_true rfl⟩ (fun H locs w => ?_)
      refine lv_aload_n hx hb dL_law_404 rfl (lv_at hl 2 rfl) ?_
      refine lv_aload_n hx hb dL_law_405 rfl (lv_at hl 0 rfl) ?_
      refine lv_iload_n hx hb dL_law_406 rfl (lv_at hl 3 rfl) ?_
      refine lv_iconst (v := 1) hx hb dL_law_407 (by decide) ?_
      refine lv_iadd hx hb dL_law_408 ?_
      refine va_sld hx hb hX hbl hbA w.2.2.1 hi1 dL_law_409 ?_
      refine L_call (w1 := cel EC idC cy a V) C w (c_X6_version okM h2) wy_X6_version wi_X6_version w_ml_RL_57_yX6_version iM0 eM0 vc6 rfl rfl ⟨Nat.le_of_ble_eq_true rfl, Nat.le_of_ble_eq_true rfl⟩ rfl hl.1 rfl (Nat.le_of_ble_eq_true rfl) dL_law_410 ⟨Nat.le_of_ble_eq_true rfl, Nat.le_of_ble_eq_true rfl⟩ (fun H locs w => ?_)
      refine lv_icmp_eq (tgt := 648) hx hb dL_law_413 (by decide) (fun _ => ?_) (fun q => absurd rfl q)
      exact fin h3 w hl
    by_cases c10 : op = 10
    · subst c10
      refine lv_tableIn (off := 386) (tgt := 418) hx hb dL_law_32 (by decide) (by decide) rfl (by decide) ?_
      obtain ⟨r, h1, h2, h3⟩ := S.2.2.2.2.2.2.2.2.2.2.1
      refine lv_aload_n hx hb dL_law_418 rfl (lv_at hl 1 rfl) ?_
      refine L_call (w1 := []) C w (c_X5_commits okC h1) wy_X5_commits wi_X5_commits w_ml_RL_58_yX5_commits iC0 eC0 vc5 rfl rfl ⟨Nat.le_of_ble_eq_true rfl, Nat.le_of_ble_eq_true rfl⟩ rfl hl.1 rfl (Nat.le_of_ble_eq_true rfl) dL_law_419 ⟨Nat.le_of_ble_eq_true rfl, Nat.le_of_ble_eq_true rfl⟩ (fun H locs w => ?_)
      refine lv_aload_n hx hb dL_law_422 rfl (lv_at hl 2 rfl) ?_
      refine L_call (w1 := cel EC idC cy a V) C w (c_X6_commits okM h2) wy_X6_commits wi_X6_commits w_ml_RL_62_yX6_commits iM0 eM0 vc6 rfl rfl ⟨Nat.le_of_ble_eq_true rfl, Nat.le_of_ble_eq_true rfl⟩ rfl hl.1 rfl (Nat.le_of_ble_eq_true rfl) dL_law_423 ⟨Nat.le_of_ble_eq_true rfl, Nat.le_of_ble_eq_true rfl⟩ (fun H locs w => ?_)
      refine lv_icmp_eq (tgt := 648) hx hb dL_law_426 (by decide) (fun _ => ?_) (fun q => absurd rfl q)
      exact fin h3 w hl
    by_cases c11 : op = 11
    · subst c11
      refine lv_tableIn (off := 399) (tgt := 431) hx hb dL_law_32 (by decide) (by decide) rfl (by decide) ?_
      obtain ⟨r, h1, h2, h3⟩ := S.2.2.2.2.2.2.2.2.2.2.2.1 (xs (nI (5 * k) + 1).toNatClampNeg)
      refine lv_aload_n hx hb dL_law_431 rfl (lv_at hl 1 rfl) ?_
      refine lv_aload_n hx hb dL_law_432 rfl (lv_at hl 0 rfl) ?_
      refine lv_iload_n hx hb dL_law_433 rfl (lv_at hl 3 rfl) ?_
      refine lv_iconst (v := 1) hx hb dL_law_434 (by decide) ?_
      refine lv_iadd hx hb dL_law_435 ?_
      refine va_sld hx hb hX hbl hbA w.2.2.1 hi1 dL_law_436 ?_
      refine L_call (w1 := []) C w (c_X5_state okC h1) wy_X5_state wi_X5_state w_ml_RL_63_yX5_state iC0 eC0 vc5 rfl rfl ⟨Nat.le_of_ble_eq_true rfl, Nat.le_of_ble_eq_true rfl⟩ rfl hl.1 rfl (Nat.le_of_ble_eq_true rfl) dL_law_437 ⟨Nat.le_of_ble_eq_true rfl, Nat.le_of_ble_eq_true rfl⟩ (fun H locs w => ?_)
      refine lv_aload_n hx hb dL_law_440 rfl (lv_at hl 2 rfl) ?_
      refine lv_aload_n hx hb dL_law_441 rfl (lv_at hl 0 rfl) ?_
      refine lv_iload_n hx hb dL_law_442 rfl (lv_at hl 3 rfl) ?_
      refine lv_iconst (v := 1) hx hb dL_law_443 (by decide) ?_
      refine lv_iadd hx hb dL_law_444 ?_
      refine va_sld hx hb hX hbl hbA w.2.2.1 hi1 dL_law_445 ?_
      refine L_call (w1 := cel EC idC cy a V) C w (c_X6_state okM h2) wy_X6_state wi_X6_state w_ml_RL_66_yX6_state iM0 eM0 vc6 rfl rfl ⟨Nat.le_of_ble_eq_true rfl, Nat.le_of_ble_eq_true rfl⟩ rfl hl.1 rfl (Nat.le_of_ble_eq_true rfl) dL_law_446 ⟨Nat.le_of_ble_eq_true rfl, Nat.le_of_ble_eq_true rfl⟩ (fun H locs w => ?_)
      refine lv_icmp_eq (tgt := 648) hx hb dL_law_449 (by decide) (fun _ => ?_) (fun q => absurd rfl q)
      exact fin h3 w hl
    by_cases c12 : op = 12
    · subst c12
      refine lv_tableIn (off := 422) (tgt := 454) hx hb dL_law_32 (by decide) (by decide) rfl (by decide) ?_
      obtain ⟨r, h1, h2, h3⟩ := S.2.2.2.2.2.2.2.2.2.2.2.2.1 (xs (nI (5 * k) + 1).toNatClampNeg)
      refine lv_aload_n hx hb dL_law_454 rfl (lv_at hl 1 rfl) ?_
      refine lv_aload_n hx hb dL_law_455 rfl (lv_at hl 0 rfl) ?_
      refine lv_iload_n hx hb dL_law_456 rfl (lv_at hl 3 rfl) ?_
      refine lv_iconst (v := 1) hx hb dL_law_457 (by decide) ?_
      refine lv_iadd hx hb dL_law_458 ?_
      refine va_sld hx hb hX hbl hbA w.2.2.1 hi1 dL_law_459 ?_
      refine L_call (w1 := []) C w (c_X5_place okC h1) wy_X5_place wi_X5_place w_ml_RL_67_yX5_place iC0 eC0 vc5 rfl rfl ⟨Nat.le_of_ble_eq_true rfl, Nat.le_of_ble_eq_true rfl⟩ rfl hl.1 rfl (Nat.le_of_ble_eq_true rfl) dL_law_460 ⟨Nat.le_of_ble_eq_true rfl, Nat.le_of_ble_eq_true rfl⟩ (fun H locs w => ?_)
      refine lv_aload_n hx hb dL_law_463 rfl (lv_at hl 2 rfl) ?_
      refine lv_aload_n hx hb dL_law_464 rfl (lv_at hl 0 rfl) ?_
      refine lv_iload_n hx hb dL_law_465 rfl (lv_at hl 3 rfl) ?_
      refine lv_iconst (v := 1) hx hb dL_law_466 (by decide) ?_
      refine lv_iadd hx hb dL_law_467 ?_
      refine va_sld hx hb hX hbl hbA w.2.2.1 hi1 dL_law_468 ?_
      refine L_call (w1 := cel EC idC cy a V) C w (c_X6_place okM h2) wy_X6_place wi_X6_place w_ml_RL_70_yX6_place iM0 eM0 vc6 rfl rfl ⟨Nat.le_of_ble_eq_true rfl, Nat.le_of_ble_eq_true rfl⟩ rfl hl.1 rfl (Nat.le_of_ble_eq_true rfl) dL_law_469 ⟨Nat.le_of_ble_eq_true rfl, Nat.le_of_ble_eq_true rfl⟩ (fun H locs w => ?_)
      refine lv_icmp_eq (tgt := 648) hx hb dL_law_472 (by decide) (fun _ => ?_) (fun q => absurd rfl q)
      exact fin h3 w hl
    by_cases c13 : op = 13
    · subst c13
      refine lv_tableIn (off := 445) (tgt := 477) hx hb dL_law_32 (by decide) (by decide) rfl (by decide) ?_
      obtain ⟨r, h1, h2, h3⟩ := S.2.2.2.2.2.2.2.2.2.2.2.2.2.1 (xs (nI (5 * k) + 1).toNatClampNeg) (xs (nI (5 * k) + 2).toNatClampNeg)
      refine lv_aload_n hx hb dL_law_477 rfl (lv_at hl 1 rfl) ?_
      refine lv_aload_n hx hb dL_law_478 rfl (lv_at hl 0 rfl) ?_
      refine lv_iload_n hx hb dL_law_479 rfl (lv_at hl 3 rfl) ?_
      refine lv_iconst (v := 1) hx hb dL_law_480 (by decide) ?_
      refine lv_iadd hx hb dL_law_481 ?_
      refine va_sld hx hb hX hbl hbA w.2.2.1 hi1 dL_law_482 ?_
      refine lv_aload_n hx hb dL_law_483 rfl (lv_at hl 0 rfl) ?_
      refine lv_iload_n hx hb dL_law_484 rfl (lv_at hl 3 rfl) ?_
      refine lv_iconst (v := 2) hx hb dL_law_485 (by decide) ?_
      refine lv_iadd hx hb dL_law_486 ?_
      refine va_sld hx hb hX hbl hbA w.2.2.1 hi2 dL_law_487 ?_
      refine L_call (w1 := []) C w (c_X5_register okC h1) wy_X5_register wi_X5_register w_ml_RL_71_yX5_register iC0 eC0 vc5 rfl rfl ⟨Nat.le_of_ble_eq_true rfl, Nat.le_of_ble_eq_true rfl⟩ rfl hl.1 rfl (Nat.le_of_ble_eq_true rfl) dL_law_488 ⟨Nat.le_of_ble_eq_true rfl, Nat.le_of_ble_eq_true rfl⟩ (fun H locs w => ?_)
      refine lv_aload_n hx hb dL_law_491 rfl (lv_at hl 2 rfl) ?_
      refine lv_aload_n hx hb dL_law_492 rfl (lv_at hl 0 rfl) ?_
      refine lv_iload_n hx hb dL_law_493 rfl (lv_at hl 3 rfl) ?_
      refine lv_iconst (v := 1) hx hb dL_law_494 (by decide) ?_
      refine lv_iadd hx hb dL_law_495 ?_
      refine va_sld hx hb hX hbl hbA w.2.2.1 hi1 dL_law_496 ?_
      refine lv_aload_n hx hb dL_law_497 rfl (lv_at hl 0 rfl) ?_
      refine lv_iload_n hx hb dL_law_498 rfl (lv_at hl 3 rfl) ?_
      refine lv_iconst (v := 2) hx hb dL_law_499 (by decide) ?_
      refine lv_iadd hx hb dL_law_500 ?_
      refine va_sld hx hb hX hbl hbA w.2.2.1 hi2 dL_law_501 ?_
      refine L_call (w1 := cel EC idC cy a V) C w (c_X6_register okM h2) wy_X6_register wi_X6_register w_ml_RL_74_yX6_register iM0 eM0 vc6 rfl rfl ⟨Nat.le_of_ble_eq_true rfl, Nat.le_of_ble_eq_true rfl⟩ rfl hl.1 rfl (Nat.le_of_ble_eq_true rfl) dL_law_502 ⟨Nat.le_of_ble_eq_true rfl, Nat.le_of_ble_eq_true rfl⟩ (fun H locs w => ?_)
      refine lv_icmp_eq (tgt := 648) hx hb dL_law_505 (by decide) (fun _ => ?_) (fun q => absurd rfl q)
      exact fin h3 w hl
    by_cases c14 : op = 14
    · subst c14
      refine lv_tableIn (off := 478) (tgt := 510) hx hb dL_law_32 (by decide) (by decide) rfl (by decide) ?_
      obtain ⟨r, h1, h2, h3⟩ := S.2.2.2.2.2.2.2.2.2.2.2.2.2.2.1 (xs (nI (5 * k) + 1).toNatClampNeg) (xs (nI (5 * k) + 2).toNatClampNeg)
      refine lv_aload_n hx hb dL_law_510 rfl (lv_at hl 1 rfl) ?_
      refine lv_aload_n hx hb dL_law_511 rfl (lv_at hl 0 rfl) ?_
      refine lv_iload_n hx hb dL_law_512 rfl (lv_at hl 3 rfl) ?_
      refine lv_iconst (v := 1) hx hb dL_law_513 (by decide) ?_
      refine lv_iadd hx hb dL_law_514 ?_
      refine va_sld hx hb hX hbl hbA w.2.2.1 hi1 dL_law_515 ?_
      refine lv_aload_n hx hb dL_law_516 rfl (lv_at hl 0 rfl) ?_
      refine lv_iload_n hx hb dL_law_517 rfl (lv_at hl 3 rfl) ?_
      refine lv_iconst (v := 2) hx hb dL_law_518 (by decide) ?_
      refine lv_iadd hx hb dL_law_519 ?_
      refine va_sld hx hb hX hbl hbA w.2.2.1 hi2 dL_law_520 ?_
      refine L_call (w1 := []) C w (c_X5_sees okC h1) wy_X5_sees wi_X5_sees w_ml_RL_75_yX5_sees iC0 eC0 vc5 rfl rfl ⟨Nat.le_of_ble_eq_true rfl, Nat.le_of_ble_eq_true rfl⟩ rfl hl.1 rfl (Nat.le_of_ble_eq_true rfl) dL_law_521 ⟨Nat.le_of_ble_eq_true rfl, Nat.le_of_ble_eq_true rfl⟩ (fun H locs w => ?_)
      refine lv_aload_n hx hb dL_law_524 rfl (lv_at hl 2 rfl) ?_
      refine lv_aload_n hx hb dL_law_525 rfl (lv_at hl 0 rfl) ?_
      refine lv_iload_n hx hb dL_law_526 rfl (lv_at hl 3 rfl) ?_
      refine lv_iconst (v := 1) hx hb dL_law_527 (by decide) ?_
      refine lv_iadd hx hb dL_law_528 ?_
      refine va_sld hx hb hX hbl hbA w.2.2.1 hi1 dL_law_529 ?_
      refine lv_aload_n hx hb dL_law_530 rfl (lv_at hl 0 rfl) ?_
      refine lv_iload_n hx hb dL_law_531 rfl (lv_at hl 3 rfl) ?_
      refine lv_iconst (v := 2) hx hb dL_law_532 (by decide) ?_
      refine lv_iadd hx hb dL_law_533 ?_
      refine va_sld hx hb hX hbl hbA w.2.2.1 hi2 dL_law_534 ?_
      refine L_call (w1 := cel EC idC cy a V) C w (c_X6_sees okM h2) wy_X6_sees wi_X6_sees w_ml_RL_78_yX6_sees iM0 eM0 vc6 rfl rfl ⟨Nat.le_of_ble_eq_true rfl, Nat.le_of_ble_eq_true rfl⟩ rfl hl.1 rfl (Nat.le_of_ble_eq_true rfl) dL_law_535 ⟨Nat.le_of_ble_eq_true rfl, Nat.le_of_ble_eq_true rfl⟩ (fun H locs w => ?_)
      refine lv_icmp_eq (tgt := 648) hx hb dL_law_538 (by decide) (fun _ => ?_) (fun q => absurd rfl q)
      exact fin h3 w hl
    by_cases c15 : op = 15
    · subst c15
      refine lv_tableIn (off := 511) (tgt := 543) hx hb dL_law_32 (by decide) (by decide) rfl (by decide) ?_
      obtain ⟨r, h1, h2, h3⟩ := S.2.2.2.2.2.2.2.2.2.2.2.2.2.2.2.1 (xs (nI (5 * k) + 1).toNatClampNeg)
      refine lv_aload_n hx hb dL_law_543 rfl (lv_at hl 1 rfl) ?_
      refine lv_aload_n hx hb dL_law_544 rfl (lv_at hl 0 rfl) ?_
      refine lv_iload_n hx hb dL_law_545 rfl (lv_at hl 3 rfl) ?_
      refine lv_iconst (v := 1) hx hb dL_law_546 (by decide) ?_
      refine lv_iadd hx hb dL_law_547 ?_
      refine va_sld hx hb hX hbl hbA w.2.2.1 hi1 dL_law_548 ?_
      refine L_call (w1 := []) C w (c_X5_log okC h1) wy_X5_log wi_X5_log w_ml_RL_79_yX5_log iC0 eC0 vc5 rfl rfl ⟨Nat.le_of_ble_eq_true rfl, Nat.le_of_ble_eq_true rfl⟩ rfl hl.1 rfl (Nat.le_of_ble_eq_true rfl) dL_law_549 ⟨Nat.le_of_ble_eq_true rfl, Nat.le_of_ble_eq_true rfl⟩ (fun H locs w => ?_)
      refine lv_aload_n hx hb dL_law_552 rfl (lv_at hl 2 rfl) ?_
      refine lv_aload_n hx hb dL_law_553 rfl (lv_at hl 0 rfl) ?_
      refine lv_iload_n hx hb dL_law_554 rfl (lv_at hl 3 rfl) ?_
      refine lv_iconst (v := 1) hx hb dL_law_555 (by decide) ?_
      refine lv_iadd hx hb dL_law_556 ?_
      refine va_sld hx hb hX hbl hbA w.2.2.1 hi1 dL_law_557 ?_
      refine L_call (w1 := cel EC idC cy a V) C w (c_X6_log okM h2) wy_X6_log wi_X6_log w_ml_RL_82_yX6_log iM0 eM0 vc6 rfl rfl ⟨Nat.le_of_ble_eq_true rfl, Nat.le_of_ble_eq_true rfl⟩ rfl hl.1 rfl (Nat.le_of_ble_eq_true rfl) dL_law_558 ⟨Nat.le_of_ble_eq_true rfl, Nat.le_of_ble_eq_true rfl⟩ (fun H locs w => ?_)
      refine lv_icmp_eq (tgt := 648) hx hb dL_law_561 (by decide) (fun _ => ?_) (fun q => absurd rfl q)
      exact fin h3 w hl
    by_cases c16 : op = 16
    · subst c16
      refine lv_tableIn (off := 534) (tgt := 566) hx hb dL_law_32 (by decide) (by decide) rfl (by decide) ?_
      obtain ⟨r, h1, h2, h3⟩ := S.2.2.2.2.2.2.2.2.2.2.2.2.2.2.2.2.1 (xs (nI (5 * k) + 1).toNatClampNeg)
      refine lv_aload_n hx hb dL_law_566 rfl (lv_at hl 1 rfl) ?_
      refine lv_aload_n hx hb dL_law_567 rfl (lv_at hl 0 rfl) ?_
      refine lv_iload_n hx hb dL_law_568 rfl (lv_at hl 3 rfl) ?_
      refine lv_iconst (v := 1) hx hb dL_law_569 (by decide) ?_
      refine lv_iadd hx hb dL_law_570 ?_
      refine va_sld hx hb hX hbl hbA w.2.2.1 hi1 dL_law_571 ?_
      refine L_call (w1 := []) C w (c_X5_waiting okC h1) wy_X5_waiting wi_X5_waiting w_ml_RL_83_yX5_waiting iC0 eC0 vc5 rfl rfl ⟨Nat.le_of_ble_eq_true rfl, Nat.le_of_ble_eq_true rfl⟩ rfl hl.1 rfl (Nat.le_of_ble_eq_true rfl) dL_law_572 ⟨Nat.le_of_ble_eq_true rfl, Nat.le_of_ble_eq_true rfl⟩ (fun H locs w => ?_)
      refine lv_aload_n hx hb dL_law_575 rfl (lv_at hl 2 rfl) ?_
      refine lv_aload_n hx hb dL_law_576 rfl (lv_at hl 0 rfl) ?_
      refine lv_iload_n hx hb dL_law_577 rfl (lv_at hl 3 rfl) ?_
      refine lv_iconst (v := 1) hx hb dL_law_578 (by decide) ?_
      refine lv_iadd hx hb dL_law_579 ?_
      refine va_sld hx hb hX hbl hbA w.2.2.1 hi1 dL_law_580 ?_
      refine L_call (w1 := cel EC idC cy a V) C w (c_X6_waiting okM h2) wy_X6_waiting wi_X6_waiting w_ml_RL_86_yX6_waiting iM0 eM0 vc6 rfl rfl ⟨Nat.le_of_ble_eq_true rfl, Nat.le_of_ble_eq_true rfl⟩ rfl hl.1 rfl (Nat.le_of_ble_eq_true rfl) dL_law_581 ⟨Nat.le_of_ble_eq_true rfl, Nat.le_of_ble_eq_true rfl⟩ (fun H locs w => ?_)
      refine lv_icmp_eq (tgt := 648) hx hb dL_law_584 (by decide) (fun _ => ?_) (fun q => absurd rfl q)
      exact fin h3 w hl
    by_cases c17 : op = 17
    · subst c17
      refine lv_tableIn (off := 557) (tgt := 589) hx hb dL_law_32 (by decide) (by decide) rfl (by decide) ?_
      obtain ⟨r, h1, h2, h3⟩ := S.2.2.2.2.2.2.2.2.2.2.2.2.2.2.2.2.2.1 (xs (nI (5 * k) + 1).toNatClampNeg)
      refine lv_aload_n hx hb dL_law_589 rfl (lv_at hl 1 rfl) ?_
      refine lv_aload_n hx hb dL_law_590 rfl (lv_at hl 0 rfl) ?_
      refine lv_iload_n hx hb dL_law_591 rfl (lv_at hl 3 rfl) ?_
      refine lv_iconst (v := 1) hx hb dL_law_592 (by decide) ?_
      refine lv_iadd hx hb dL_law_593 ?_
      refine va_sld hx hb hX hbl hbA w.2.2.1 hi1 dL_law_594 ?_
      refine L_call (w1 := []) C w (c_X5_discards okC h1) wy_X5_discards wi_X5_discards w_ml_RL_87_yX5_discards iC0 eC0 vc5 rfl rfl ⟨Nat.le_of_ble_eq_true rfl, Nat.le_of_ble_eq_true rfl⟩ rfl hl.1 rfl (Nat.le_of_ble_eq_true rfl) dL_law_595 ⟨Nat.le_of_ble_eq_true rfl, Nat.le_of_ble_eq_true rfl⟩ (fun H locs w => ?_)
      refine lv_aload_n hx hb dL_law_598 rfl (lv_at hl 2 rfl) ?_
      refine lv_aload_n hx hb dL_law_599 rfl (lv_at hl 0 rfl) ?_
      refine lv_iload_n hx hb dL_law_600 rfl (lv_at hl 3 rfl) ?_
      refine lv_iconst (v := 1) hx hb dL_law_601 (by decide) ?_
      refine lv_iadd hx hb dL_law_602 ?_
      refine va_sld hx hb hX hbl hbA w.2.2.1 hi1 dL_law_603 ?_
      refine L_call (w1 := cel EC idC cy a V) C w (c_X6_discards okM h2) wy_X6_discards wi_X6_discards w_ml_RL_90_yX6_discards iM0 eM0 vc6 rfl rfl ⟨Nat.le_of_ble_eq_true rfl, Nat.le_of_ble_eq_true rfl⟩ rfl hl.1 rfl (Nat.le_of_ble_eq_true rfl) dL_law_604 ⟨Nat.le_of_ble_eq_true rfl, Nat.le_of_ble_eq_true rfl⟩ (fun H locs w => ?_)
      refine lv_icmp_eq (tgt := 648) hx hb dL_law_607 (by decide) (fun _ => ?_) (fun q => absurd rfl q)
      exact fin h3 w hl
    by_cases c18 : op = 18
    · subst c18
      refine lv_tableIn (off := 580) (tgt := 612) hx hb dL_law_32 (by decide) (by decide) rfl (by decide) ?_
      obtain ⟨r, h1, h2, h3⟩ := S.2.2.2.2.2.2.2.2.2.2.2.2.2.2.2.2.2.2.1
      refine lv_aload_n hx hb dL_law_612 rfl (lv_at hl 1 rfl) ?_
      refine L_call (w1 := []) C w (c_X5_outcome okC h1) wy_X5_outcome wi_X5_outcome w_ml_RL_91_yX5_outcome iC0 eC0 vc5 rfl rfl ⟨Nat.le_of_ble_eq_true rfl, Nat.le_of_ble_eq_true rfl⟩ rfl hl.1 rfl (Nat.le_of_ble_eq_true rfl) dL_law_613 ⟨Nat.le_of_ble_eq_true rfl, Nat.le_of_ble_eq_true rfl⟩ (fun H locs w => ?_)
      refine lv_aload_n hx hb dL_law_616 rfl (lv_at hl 2 rfl) ?_
      refine L_call (w1 := cel EC idC cy a V) C w (c_X6_outcome okM h2) wy_X6_outcome wi_X6_outcome w_ml_RL_94_yX6_outcome iM0 eM0 vc6 rfl rfl ⟨Nat.le_of_ble_eq_true rfl, Nat.le_of_ble_eq_true rfl⟩ rfl hl.1 rfl (Nat.le_of_ble_eq_true rfl) dL_law_617 ⟨Nat.le_of_ble_eq_true rfl, Nat.le_of_ble_eq_true rfl⟩ (fun H locs w => ?_)
      refine lv_icmp_eq (tgt := 648) hx hb dL_law_620 (by decide) (fun _ => ?_) (fun q => absurd rfl q)
      exact fin h3 w hl
    by_cases c19 : op = 19
    · subst c19
      refine lv_tableIn (off := 593) (tgt := 625) hx hb dL_law_32 (by decide) (by decide) rfl (by decide) ?_
      obtain ⟨r, h1, h2, h3⟩ := S.2.2.2.2.2.2.2.2.2.2.2.2.2.2.2.2.2.2.2 (xs (nI (5 * k) + 1).toNatClampNeg)
      refine lv_aload_n hx hb dL_law_625 rfl (lv_at hl 1 rfl) ?_
      refine lv_aload_n hx hb dL_law_626 rfl (lv_at hl 0 rfl) ?_
      refine lv_iload_n hx hb dL_law_627 rfl (lv_at hl 3 rfl) ?_
      refine lv_iconst (v := 1) hx hb dL_law_628 (by decide) ?_
      refine lv_iadd hx hb dL_law_629 ?_
      refine va_sld hx hb hX hbl hbA w.2.2.1 hi1 dL_law_630 ?_
      refine L_call (w1 := []) C w (c_X5_printed okC h1) wy_X5_printed wi_X5_printed w_ml_RL_95_yX5_printed iC0 eC0 vc5 rfl rfl ⟨Nat.le_of_ble_eq_true rfl, Nat.le_of_ble_eq_true rfl⟩ rfl hl.1 rfl (Nat.le_of_ble_eq_true rfl) dL_law_631 ⟨Nat.le_of_ble_eq_true rfl, Nat.le_of_ble_eq_true rfl⟩ (fun H locs w => ?_)
      refine lv_aload_n hx hb dL_law_634 rfl (lv_at hl 2 rfl) ?_
      refine lv_aload_n hx hb dL_law_635 rfl (lv_at hl 0 rfl) ?_
      refine lv_iload_n hx hb dL_law_636 rfl (lv_at hl 3 rfl) ?_
      refine lv_iconst (v := 1) hx hb dL_law_637 (by decide) ?_
      refine lv_iadd hx hb dL_law_638 ?_
      refine va_sld hx hb hX hbl hbA w.2.2.1 hi1 dL_law_639 ?_
      refine L_call (w1 := cel EC idC cy a V) C w (c_X6_printed okM h2) wy_X6_printed wi_X6_printed w_ml_RL_98_yX6_printed iM0 eM0 vc6 rfl rfl ⟨Nat.le_of_ble_eq_true rfl, Nat.le_of_ble_eq_true rfl⟩ rfl hl.1 rfl (Nat.le_of_ble_eq_true rfl) dL_law_640 ⟨Nat.le_of_ble_eq_true rfl, Nat.le_of_ble_eq_true rfl⟩ (fun H locs w => ?_)
      refine lv_icmp_eq (tgt := 648) hx hb dL_law_643 (by decide) (fun _ => ?_) (fun q => absurd rfl q)
      exact fin h3 w hl
    refine lv_tableOut (tgt := 648) hx hb dL_law_32 (by have nc0 := lv_neT c0 (a := 0) (by decide); have nc1 := lv_neT c1 (a := 1) (by decide); have nc2 := lv_neT c2 (a := 2) (by decide); have nc3 := lv_neT c3 (a := 3) (by decide); have nc4 := lv_neT c4 (a := 4) (by decide); have nc5 := lv_neT c5 (a := 5) (by decide); have nc6 := lv_neT c6 (a := 6) (by decide); have nc7 := lv_neT c7 (a := 7) (by decide); have nc8 := lv_neT c8 (a := 8) (by decide); have nc9 := lv_neT c9 (a := 9) (by decide); have nc10 := lv_neT c10 (a := 10) (by decide); have nc11 := lv_neT c11 (a := 11) (by decide); have nc12 := lv_neT c12 (a := 12) (by decide); have nc13 := lv_neT c13 (a := 13) (by decide); have nc14 := lv_neT c14 (a := 14) (by decide); have nc15 := lv_neT c15 (a := 15) (by decide); have nc16 := lv_neT c16 (a := 16) (by decide); have nc17 := lv_neT c17 (a := 17) (by decide); have nc18 := lv_neT c18 (a := 18) (by decide); have nc19 := lv_neT c19 (a := 19) (by decide); omega) (by decide) ?_
    obtain ⟨r, h1, h2, h3⟩ := S.2.2.2.2.2.2.2.2.2.2.1
    exact fin h3 w hl
set_option maxHeartbeats 4000000 in
set_option maxRecDepth 100000 in
theorem whole_open {Rel : Nat → Sto → Sto → Prop} (hR : RelStep Rel) (hR0 : Rel 0 V0 U0) {p : Program} {e : Env} {s : State} {m : MethodId} {below : List Frame} {meth : Method} {c : Code} (l : Launch) {b L : Nat} {xs : Nat → Int32} (hL : L ≤ 2560) (C0 : lw_At p s m meth c b L xs) : W p l e room_1 s m #[Value.ref b] below meth c s.heap [] 0 0 (lw_Z below #[Value.ref b] s) (entryFrame m ([Value.ref b] : List Value).toArray 4) := by
  obtain ⟨hx, hb, hr, hml, hown, hts, hX, hbl, hlocks, hgv⟩ := id C0
  have hA : ∀ q : Nat, s.heap.size ≤ q → (fun q : Nat => s.heap.size ≤ q) q := fun _ h => h
  obtain ⟨c0, iS0, hKn0⟩ := u_known (C := RX0) (T := TX0) (N := 4) (n := 4) hts inX0 (hts (.instantiable RX0 4) (wsL_law_in _ w_inst_RX0_4))
  obtain ⟨c1, iS1, hKn1⟩ := u_known (C := RX1) (T := TX1) (N := 3) (n := 3) hts inX1 (hts (.instantiable RX1 3) (wsL_law_in _ w_inst_RX1_3))
  obtain ⟨c2, iS2, hKn2⟩ := u_known (C := RX2) (T := TX2) (N := 2) (n := 2) hts inX2 (hts (.instantiable RX2 2) (wsL_law_in _ w_inst_RX2_2))
  obtain ⟨c3, iS3, hKn3⟩ := u_known (C := RX3) (T := TX3) (N := 9) (n := 9) hts inX3 (hts (.instantiable RX3 9) (wsL_law_in _ w_inst_RX3_9))
  obtain ⟨c4, iS4, hKn4⟩ := u_known (C := RX4) (T := TX4) (N := 12) (n := 12) hts inX4 (hts (.instantiable RX4 12) (wsL_law_in _ w_inst_RX4_12))
  obtain ⟨c5, iS5, hKn5⟩ := u_known (C := RX5) (T := TX5) (N := 3) (n := 3) hts inX5 (hts (.instantiable RX5 3) (wsL_law_in _ w_inst_RX5_3))
  obtain ⟨c6, iS6, hKn6⟩ := u_known (C := RX6) (T := TX6) (N := 28) (n := 28) hts inX6 (hts (.instantiable RX6 28) (wsL_law_in _ w_inst_RX6_28))
  obtain ⟨dC, dI, hKc⟩ : ∃ (dC : Nat → ClassId) (dI : Nat → Nat → Nat), ∀ (k : Nat) (q : vw_C), vwCl[k]? = some q → u_Kn s q.1 q.2.1 q.2.2 (dC k) (dI k) := by
    refine ⟨fun k => match k with | 0 => c0 | 1 => c1 | 2 => c2 | 3 => c3 | 4 => c4 | 5 => c5 | _ => c6, fun k => match k with | 0 => iS0 | 1 => iS1 | 2 => iS2 | 3 => iS3 | 4 => iS4 | 5 => iS5 | _ => iS6, ?_⟩
    intro k q hq
    match k, hq with
    | 0, hq => cases hq; exact hKn0
    | 1, hq => cases hq; exact hKn1
    | 2, hq => cases hq; exact hKn2
    | 3, hq => cases hq; exact hKn3
    | 4, hq => cases hq; exact hKn4
    | 5, hq => cases hq; exact hKn5
    | 6, hq => cases hq; exact hKn6
    | k + 7, hq => simp [vwCl] at hq
  have ho0 : (Cond.arrayOver (.object RX0)).before #[Value.ref b] s = true := hts _ (tb_1 (List.mem_of_getElem? (i := 96) rfl))
  have ho4 : (Cond.arrayOver (.object RX4)).before #[Value.ref b] s = true := hts _ (tb_1 (List.mem_of_getElem? (i := 53) rfl))
  obtain ⟨cy, hcy⟩ := cy_ex (hts _ (wsL_law_in _ w_ac_int)) (hts _ (wsL_law_in _ w_ac_boolean)) ho0 ho4
  have C : CI cy (dC, dI) p s m #[Value.ref b] c RL code 4 := ⟨⟨hx, hb, hml, hown, fun w h => hts w (wsL_law_in w h)⟩, fun w h => va_Nw.of (nest_tab (nws_nest w h)) (hts w (nws_in w h)), ⟨hKc, hcy⟩, va_AO.of ho0, va_AO.of ho4⟩
  have w : WI (dC, dI) (fun q : Nat => s.heap.size ≤ q) [] s s.heap [] := ⟨fun k q h => by simp at h, ⟨fun i j p q h => by simp at h, fun k q h => by simp at h⟩, va_S.rf, hA⟩
  have hl := lv_entry ([.ref b]) (n := 4) (Nat.le_of_ble_eq_true rfl)
  rw [lg_entry_eq]
  generalize (lg_sl ([.ref b]) ++ List.replicate (4 - (lg_sl ([.ref b])).length) Slot.unset).toArray = ls at hl ⊢
  have hl : lv_has ls 4 [(0, .ref b)] := hl
  refine n_new C w inlX5 tyX5 tyX5_ok w_cl_RL_7_RX5 w_inst_RX5_3 w_ini_RX5 vc5 (fs := [.null, .null, .null]) (fun j hj => by rcases (show j = 0 ∨ j = 1 ∨ j = 2 by omega) with rfl | rfl | rfl <;> rfl) (Nat.le_of_ble_eq_true rfl) (Nat.le_of_ble_eq_true rfl) dL_law_0 (fun qX5 H w => ?_)
  refine lv_dup hx hb dL_law_3 rfl ?_
  refine n_callI (wr := []) C w c_X5_init wn_X5 rfl w_im_yX5_init w_ml_RL_9_yX5_init rfl rfl ⟨Nat.le_of_ble_eq_true rfl, Nat.le_of_ble_eq_true rfl⟩ hl.1 (Nat.le_of_ble_eq_true rfl) dL_law_4 ⟨Nat.le_of_ble_eq_true rfl, Nat.le_of_ble_eq_true rfl⟩ (fun a H locs ha w1 => ?_)
  clear w
  subst ha
  refine lv_astore_n hx hb dL_law_7 rfl hl (by decide) rfl (fun ls hl => ?_)
  refine n_new C w1 inlX6 tyX6 tyX6_ok w_cl_RL_10_RX6 w_inst_RX6_28 w_ini_RX6 vc6 (fs := [.null, .null, .null, .null, .null, .null, .null, .null, .null, .null, .null, .int 0, .null, .null, .null, .null, .null, .null, .null, .null, .null, .null, .null, .null, .int 0, .null, .null, .null]) (fun j hj => by rcases (show j = 0 ∨ j = 1 ∨ j = 2 ∨ j = 3 ∨ j = 4 ∨ j = 5 ∨ j = 6 ∨ j = 7 ∨ j = 8 ∨ j = 9 ∨ j = 10 ∨ j = 11 ∨ j = 12 ∨ j = 13 ∨ j = 14 ∨ j = 15 ∨ j = 16 ∨ j = 17 ∨ j = 18 ∨ j = 19 ∨ j = 20 ∨ j = 21 ∨ j = 22 ∨ j = 23 ∨ j = 24 ∨ j = 25 ∨ j = 26 ∨ j = 27 by omega) with rfl | rfl | rfl | rfl | rfl | rfl | rfl | rfl | rfl | rfl | rfl | rfl | rfl | rfl | rfl | rfl | rfl | rfl | rfl | rfl | rfl | rfl | rfl | rfl | rfl | rfl | rfl | rfl <;> rfl) (Nat.le_of_ble_eq_true rfl) (Nat.le_of_ble_eq_true rfl) dL_law_8 (fun qX6 H w => ?_)
  clear w1
  refine lv_dup hx hb dL_law_11 rfl ?_
  refine n_callI C w c_X6_init wn_X6 rfl w_im_yX6_init w_ml_RL_12_yX6_init rfl rfl ⟨Nat.le_of_ble_eq_true rfl, Nat.le_of_ble_eq_true rfl⟩ hl.1 (Nat.le_of_ble_eq_true rfl) dL_law_12 ⟨Nat.le_of_ble_eq_true rfl, Nat.le_of_ble_eq_true rfl⟩ (fun am H locs ha w1 => ?_)
  clear w
  subst ha
  have w1 : WI (dC, dI) (fun q : Nat => s.heap.size ≤ q) (cel EC idC cy a V0 ++ cel EM idM cy am U0) s H locs := w1
  have w : WI (dC, dI) (fun q : Nat => s.heap.size ≤ q) (cel EC idC cy a V0 ++ (cel EM idM cy am U0 ++ [])) s H locs := by rw [List.append_nil]; exact w1
  refine lv_astore_n hx hb dL_law_15 rfl hl (by decide) rfl (fun ls hl => ?_)
  refine lv_iconst (v := 0) hx hb dL_law_16 (by decide) ?_
  refine lv_istore_n hx hb dL_law_17 rfl hl (by decide) rfl (fun ls hl => ?_)
  have okC : Wok EC idC a := Wok_of_D (V := V0) (cy := cy) (A := fun q => s.heap.size ≤ q) EC_l idC_n ⟨fun i j x z hx hz e9 => w.2.1.1 i j x z (by rw [List.getElem?_append_left (List.getElem?_eq_some_iff.mp hx).1]; exact hx) (by rw [List.getElem?_append_left (List.getElem?_eq_some_iff.mp hz).1]; exact hz) e9, fun k x hx => w.2.1.2 k x (by rw [List.getElem?_append_left (List.getElem?_eq_some_iff.mp hx).1]; exact hx)⟩
  have okM : Wok EM idM am := Wok_of_D (V := U0) (cy := cy) (A := fun q => s.heap.size ≤ q) EM_l idM_n ⟨fun i j x z hx hz e9 => by
    have h := w1.2.1.1 ((cel EC idC cy a V0).length + i) ((cel EC idC cy a V0).length + j) x z (by rw [List.getElem?_append_right (Nat.le_add_right _ _), Nat.add_sub_cancel_left]; exact hx) (by rw [List.getElem?_append_right (Nat.le_add_right _ _), Nat.add_sub_cancel_left]; exact hz) e9
    omega, fun k x hx => w1.2.1.2 ((cel EC idC cy a V0).length + k) x (by rw [List.getElem?_append_right (Nat.le_add_right _ _), Nat.add_sub_cancel_left]; exact hx)⟩
  exact law_loop hR hL C okC okM hr hlocks hX hbl (L + 1) 0 (by omega) (by omega) hR0 w (lv_sub hl [3, 2, 1, 0] rfl)
