/-! stale reads, undoing an attempt, READ and WRITE -/
def stl (X g : Nat) (ver : Nat → Nat) : Nat → Nat → Bool
  | 0, _ => false
  | m + 1, i => (X.testBit i && decide (g < ver i)) || stl X g ver m (i + 1)
theorem stl_iff {X g : Nat} {ver : Nat → Nat} : ∀ (m i : Nat), stl X g ver m i = true ↔ ∃ u, i ≤ u ∧ u < i + m ∧ X.testBit u = true ∧ g < ver u := by
  intro m
  induction m with
  | zero => intro i; simp [stl]; intro u; omega
  | succ m ih =>
    intro i
    simp only [stl, Bool.or_eq_true, Bool.and_eq_true, decide_eq_true_eq, ih]
    constructor
    · rintro (⟨a, b⟩ | ⟨u, a, b, c, d⟩)
      · exact ⟨i, by omega, by omega, a, b⟩
      · exact ⟨u, by omega, by omega, c, d⟩
    · rintro ⟨u, a, b, c, d⟩
      by_cases q : u = i
      · subst q; exact Or.inl ⟨c, d⟩
      · exact Or.inr ⟨u, by omega, by omega, c, d⟩
theorem stl_one {g v : Nat} {ver : Nat → Nat} (hv : v < 8) : stl (2 ^ v) g ver 8 0 = decide (g < ver v) := by
  rw [Bool.eq_iff_iff, stl_iff, decide_eq_true_eq]
  constructor
  · rintro ⟨u, a, b, c, d⟩
    rw [Nat.testBit_two_pow] at c
    have : v = u := by simpa using c
    rw [this]; exact d
  · intro h
    exact ⟨v, by omega, by omega, Nat.testBit_two_pow_self, h⟩
section RW
variable {K : Nat → Nat} {V U V' U' : Sto} {B c n t L p : Nat} {ver : Nat → Nat}
theorem C_chg_L {X g : Nat} (hX : X < 256) (hg : g < 2 ^ 31) (hv : ∀ v, v < 8 → V 3 0 0 v = nI (ver v) ∧ ver v < 2 ^ 31) : ∀ (N m i : Nat), i + m = 8 → m < N → fX1_hasChanged_L2 N V (nI X) (nI g) (nI i) = some (bI (stl X g ver m i)) := by
  intro N
  induction N with
  | zero => intro m i a b; omega
  | succ N ih =>
    intro m i h1 h2
    rw [fX1_hasChanged_L2]
    cases m with
    | zero =>
      have : i = 8 := by omega
      subst this
      rw [if_pos (by decide)]; rfl
    | succ m =>
      have hi : i < 8 := by omega
      obtain ⟨e1, e2⟩ := hv i hi
      rw [if_neg (show ¬ (8 : Int32) ≤ nI i from nI_ge (b := 8) hi (by decide)), gd_of (inb_nI hi (by decide)), nI_clamp (by omega), nI_1, ih m (i + 1) (by omega) (by omega), e1]
      simp only [stl]
      cases hb : X.testBit i with
      | false => rw [if_pos ((bit0 hX hi).mpr hb)]; rfl
      | true =>
        rw [if_neg (fun q => by rw [(bit0 hX hi).mp q] at hb; cases hb)]
        by_cases q : g < ver i
        · rw [if_neg (nI_ge q e2)]; simp [q]; rfl
        · rw [if_pos (nI_le (by omega) hg)]; simp [q]
theorem C_chg {X g : Nat} (hX : X < 256) (hg : g < 2 ^ 31) (hv : ∀ v, v < 8 → V 3 0 0 v = nI (ver v) ∧ ver v < 2 ^ 31) : fX1_hasChanged V (nI X) (nI g) = some (bI (stl X g ver 8 0)) := by
  unfold fX1_hasChanged
  exact C_chg_L hX hg hv 40 8 0 (by omega) (by omega)
theorem M_ood_L {R g : Nat} (ht : t < 4) (h17 : ∀ v, v < 8 → U 17 0 0 (8 * t + v) = bI (R.testBit v)) (h16 : ∀ v, v < 8 → U 16 0 0 (8 * t + v) = bI (decide (g < ver v))) : ∀ (N m i : Nat) (a : Bool), i + m = 8 → m < N → fX6_outOfDate_L4 N U (nI t) (bI a) (nI i) = some (bI (a || stl R g ver m i)) := by
  intro N
  induction N with
  | zero => intro m i a h1 h2; omega
  | succ N ih =>
    intro m i a h1 h2
    rw [fX6_outOfDate_L4]
    cases m with
    | zero =>
      have : i = 8 := by omega
      subst this
      rw [if_pos (by decide)]; simp [stl]
    | succ m =>
      have hi : i < 8 := by omega
      rw [if_neg (show ¬ (8 : Int32) ≤ nI i from nI_ge (b := 8) hi (by decide)), ix_8, gd_of (inb_nI (show 8 * t + i < 32 by omega) (by decide)), gd_of (inb_nI (show 8 * t + i < 32 by omega) (by decide)), nI_clamp (by omega), nI_1, h17 i hi, h16 i hi]
      have i0 := ih m (i + 1) false (by omega) (by omega)
      have i1 := ih m (i + 1) true (by omega) (by omega)
      rw [bI_f] at i0
      rw [bI_t] at i1
      rw [i0, i1]
      simp only [stl]
      cases a with
      | true => rw [if_neg (by decide)]; simp
      | false =>
        rw [if_pos (by decide)]
        cases hb : R.testBit i with
        | false => rw [if_pos (by decide)]; simp
        | true =>
          rw [if_neg (by decide)]
          cases hd : decide (g < ver i) with
          | false => rw [if_pos (by decide)]; simp
          | true => rw [if_neg (by decide)]; simp
theorem M_ood {R g : Nat} (ht : t < 4) (h17 : ∀ v, v < 8 → U 17 0 0 (8 * t + v) = bI (R.testBit v)) (h16 : ∀ v, v < 8 → U 16 0 0 (8 * t + v) = bI (decide (g < ver v))) : fX6_outOfDate U (nI t) = some (bI (stl R g ver 8 0)) := by
  unfold fX6_outOfDate
  have h : fX6_outOfDate_L4 40 U (nI t) 0 0 = some (bI (false || stl R g ver 8 0)) := M_ood_L ht h17 h16 40 8 0 false (by omega) (by omega)
  rw [h, ob_e, gd_of (isB_bI _), Bool.false_or]
/-- both sides' look at the reads -/
theorem Ctx.stale (C : Ctx B c n ver t V U K L p) {R W A : Nat} (hS : TS t V U R W) (hA : Att t V U A c ver) : ∃ b : Bool, fX5_hasStaleReads V t = some (bI b) ∧ fX6_outOfDate U (nI t) = some (bI b) := by
  obtain ⟨⟨hc, hn, hB⟩, hG, -⟩ := id C
  obtain ⟨g, b7, b8, b9⟩ := hA.2.2.2.2.1
  refine ⟨stl R g ver 8 0, ?_, M_ood C.t4 (fun v hv => (hS.2.2.2.2 v hv).1) b9⟩
  unfold fX5_hasStaleReads
  rw [hS.2.2.1, b8, C_chg hS.1 (by omega) (fun v hv => ⟨(hG.2.2.2.2.1 v hv).1, by have := (hG.2.2.2.2.1 v hv).2.2.1; omega⟩), ob_e, gd_of (isB_bI _)]
/-- the attempt that is under way -/
theorem Ctx.att (C : Ctx B c n ver t V U K L p) (hin : ∃ j, j < dep K p ∧ K (opnr K p j) = 6) : ∃ j R W, j < dep K p ∧ K (opnr K p j) = 6 ∧ TS t V U R W ∧ Att t V U (cm K p j) c ver := by
  obtain ⟨-, -, -, -, R, W, h5, h7⟩ := C.sd
  rcases h7 with ⟨b1, -⟩ | ⟨j, b1, b2, b3⟩
  · obtain ⟨j, q1, q2⟩ := hin
    exact absurd q2 (b1 j q1)
  · exact ⟨j, R, W, b1, b2, h5, b3⟩
/-! going back to a mark -/
def bkV (V : Sto) (t i : Nat) : Sto := st (cpS (cpS (st (st V 10 t 0 10 (V 22 t i 3)) 10 t 0 8 (V 22 t i 2)) 23 t i 19 t 0 4) 24 t i 20 t 0 8) 10 t 0 4 (nI i)
theorem X4_back {i : Nat} (hi : i < 5) : fX4_goBackTo V t (nI i) = some (bkV V t i) := by
  unfold fX4_goBackTo bkV
  rw [if_neg (nI_pos (by omega)), if_neg (show ¬ (5 : Int32) ≤ nI i from nI_ge (b := 5) hi (by decide)), gd_of (inb_nI hi (by decide)), nI_clamp (by omega)]
  simp only [bnd_e]
  rw [st_nc (show 22 ≠ 10 by decide)]
theorem bkV_o {i : Nat} : onlyV t V (bkV V t i) := ((((onlyV.st (by omega)).tr (onlyV.st (by omega))).tr (onlyV.cp (by omega))).tr (onlyV.cp (by omega))).tr (onlyV.st (by omega))
theorem bkV_n {i c' i' j : Nat} (h : ¬ (c' = 19 ∨ c' = 20 ∨ (c' = 10 ∧ (j = 4 ∨ j = 8 ∨ j = 10)))) : bkV V t i c' t i' j = V c' t i' j := by
  unfold bkV
  rw [st_get, if_neg (by omega), cpS_get, if_neg (by omega), cpS_get, if_neg (by omega), st_get, if_neg (by omega), st_get, if_neg (by omega)]
theorem bkV_4 {i : Nat} : bkV V t i 10 t 0 4 = nI i := by unfold bkV; rw [st_eq]
theorem bkV_8 {i : Nat} : bkV V t i 10 t 0 8 = V 22 t i 2 := by
  unfold bkV
  rw [st_nj (by decide), cpS_get, if_neg (by omega), cpS_get, if_neg (by omega), st_eq]
theorem bkV_10 {i : Nat} : bkV V t i 10 t 0 10 = V 22 t i 3 := by
  unfold bkV
  rw [st_nj (by decide), cpS_get, if_neg (by omega), cpS_get, if_neg (by omega), st_nj (by decide), st_eq]
theorem bkV_19 {i r : Nat} (hr : r < 4) : bkV V t i 19 t 0 r = V 23 t i r := by
  unfold bkV
  rw [st_nc (by decide), cpS_get, if_neg (by omega), cpS_get, if_pos ⟨rfl, rfl, rfl, hr⟩, st_nc (by decide), st_nc (by decide)]
theorem bkV_20 {i v : Nat} (hv : v < 8) : bkV V t i 20 t 0 v = V 24 t i v := by
  unfold bkV
  rw [st_nc (by decide), cpS_get, if_pos ⟨rfl, rfl, rfl, hv⟩, cpS_get, if_neg (by omega), st_nc (by decide), st_nc (by decide)]
def unV (V : Sto) (t i : Nat) : Sto := lvV (bkV V t i) t
theorem X4_undo {i : Nat} (hi : i < 5) (h5 : V 10 t 0 5 = nI i) : fX4_undoAttempt V t = some (unV V t i) := by
  unfold fX4_undoAttempt unV
  rw [h5, X4_back hi, ob_e, X4_leave, ob_e]
theorem unV_o {i : Nat} : onlyV t V (unV V t i) := bkV_o.tr lvV_o
theorem unV_n {i c' i' j : Nat} (h : ¬ (c' = 19 ∨ c' = 20 ∨ (c' = 10 ∧ (j = 4 ∨ j = 5 ∨ j = 7 ∨ j = 8 ∨ j = 10)))) : unV V t i c' t i' j = V c' t i' j := by
  unfold unV
  rw [lvV_n (by omega), bkV_n (by omega)]
theorem unV_4 {i : Nat} (hi : i < 5) (h5 : V 10 t 0 5 = nI i) : unV V t i 10 t 0 4 = nI i := by
  unfold unV
  rw [lvV_4, bkV_n (by omega), h5, if_neg (nI_nm1 (by omega))]
theorem unV_10 {i : Nat} : unV V t i 10 t 0 10 = V 22 t i 3 := by unfold unV; rw [lvV_n (by omega), bkV_10]
theorem unV_19 {i r : Nat} (hr : r < 4) : unV V t i 19 t 0 r = V 23 t i r := by unfold unV; rw [lvV_n (by omega), bkV_19 hr]
theorem unU_n {x idx : Nat} (h : x ≠ 6 ∧ x ≠ 8 ∧ x ≠ 13 ∧ x ≠ 20) : undU U t x 0 0 idx = U x 0 0 idx := by
  unfold undU
  rw [st_nc (by omega), blk_nc (by omega), st_nc (by omega), st_nc (by omega)]
theorem unU_6 : undU U t 6 0 0 t = U 14 0 0 t := by
  unfold undU
  rw [st_nc (by omega), blk_nc (by omega), st_nc (by omega), st_eq]
theorem unU_20 : undU U t 20 0 0 t = U 15 0 0 t := by
  unfold undU
  rw [st_nc (by omega), blk_nc (by omega), st_eq]
theorem unU_13 : undU U t 13 0 0 t = 0 := by
  unfold undU
  rw [st_eq]
theorem unU_8 {r : Nat} (hr : r < 4) : undU U t 8 0 0 (4 * t + r) = U 9 0 0 (4 * t + r) := by
  unfold undU
  rw [st_nc (by omega), blk_in (by omega) hr]
theorem unU_o : onlyU t U (undU U t) := (((onlyU.st ⟨by decide, by decide, by decide, by decide, by simp [sz]⟩).tr (onlyU.st ⟨by decide, by decide, by decide, by decide, by simp [sz]⟩)).tr (onlyU.blk (fun idx h1 h2 => ⟨by decide, by decide, by decide, by decide, by show idx / 4 = t; omega⟩))).tr (onlyU.st ⟨by decide, by decide, by decide, by decide, by simp [sz]⟩)
theorem SD.undo {j : Nat} (S : SD c ver t V U K L p (dep K p)) (hp : p ≤ L) (hj : j < dep K p) (h6 : K (opnr K p j) = 6) (hA : Att t V U (cm K p j) c ver) : SD c ver t (unV V t (cm K p j)) (eaU (undU U t) t) K L (opnr K p j) (dep K (opnr K p j)) ∧ V 22 t (cm K p j) 3 = nI (opnr K p j) ∧ U 14 0 0 t = nI (opnr K p j) := by
  have hone := at_one S.2.1.1 hp hj h6
  have hno : ∀ i, i < j → K (opnr K p i) ≠ 6 := fun i hi => hone i (by omega) (by omega)
  obtain ⟨h1, h2, h3, h4, -⟩ := id S
  obtain ⟨b3, b4, b5, b6, -, b10, b11, b12⟩ := id hA
  have h22 := h4.2.2.1 j hj (isM_6 h6)
  refine ⟨?_, h22, by rw [b10]; exact h22⟩
  have gU : ∀ x idx, ¬ (x = 6 ∨ x = 8 ∨ x = 13 ∨ x = 16 ∨ x = 17 ∨ x = 18 ∨ x = 20) → eaU (undU U t) t x 0 0 idx = U x 0 0 idx := fun x idx q => by rw [eaU_x (by omega), unU_n (by omega)]
  have hTM : TMd t (unV V t (cm K p j)) (eaU (undU U t) t) K p j := by
    have g4 := unV_4 (V := V) (t := t) b3 b4
    have g20 : eaU (undU U t) t 20 0 0 t = nI (cq K p j) := by rw [eaU_x (by omega), unU_20, b6, cm_cq hno]
    exact TMd.cut h4 (by omega) (fun i hi => (S.q6 hp (by omega)).1) g4 g20 (fun i c k _ hc => unV_n (by omega)) (fun x d idx _ hx => gU x idx (by have := hx.x; omega))
  rw [lvl_dep hj]
  have hagr := agr_lvl hj
  refine ⟨h1.fr (fun c k q => unV_n (by omega)) (fun x idx q _ => gU x idx (by omega)), h2.fr (fun k => unV_n (by omega)) (fun k => unV_n (by omega)) (fun k => unV_n (by omega)), ⟨by rw [unV_n (by omega)]; exact h3.1, by rw [gU 5 _ (by omega)]; exact h3.2.1, by rw [unV_n (by omega), gU 7 _ (by omega)]; exact h3.2.2.1, fun r hr => by rw [unV_19 hr, eaU_x (by omega), unU_8 hr, b11 r hr]⟩, hTM.agr hagr, 0, 0, ⟨by omega, by omega, ?_, ?_, fun v hv => ⟨by rw [eaU_b (by omega) hv, Nat.zero_testBit]; rfl, by rw [eaU_b (by omega) hv, Nat.zero_testBit]; rfl, fun q => by rw [Nat.zero_testBit] at q; cases q⟩⟩, Or.inl ⟨fun i hi => by rw [← (hagr i hi).1]; exact hno i hi, ⟨?_, eaU_13⟩, rfl, rfl⟩⟩
  · exact lvV_7
  · exact lvV_8
  · exact lvV_5
theorem i2 : ¬ (2 : Int32) < 0 := by decide
theorem Ctx.disc (C : Ctx B c n ver t V U K L p) (hin : ∃ j, j < dep K p ∧ K (opnr K p j) = 6) (hc : fX5_doWord V t = fX4_discard V t) (hu : fX6_step U (nI t) = fX6_discard U (nI t)) : StepOK B t V U := by
  obtain ⟨j, R, W, hj, h6, hS, hA⟩ := C.att hin
  have hpL := C.pL
  obtain ⟨S, e3, e14⟩ := C.sd.undo (by omega) hj h6 hA
  have eC : fX4_discard V t = some (2, st (unV V t (cm K p j)) 10 t 0 11 (V 10 t 0 11 + 1)) := by
    unfold fX4_discard
    rw [X4_undo hA.1 hA.2.1, ob_e, bnd_e, unV_n (by omega)]
  refine ⟨2, _, _, hc.trans eC, hu.trans (X6_discard C.t4), i2, ?_⟩
  unfold disU
  have hol := lvl_lt hj
  refine C.fin (unV_o.tr (onlyV.st (by omega))) ((unU_o.tr onlyU.ea).tr (onlyU.st ⟨by decide, by decide, by decide, by decide, by simp [sz]⟩)) ?_
  have S2 : SD c ver t (st (unV V t (cm K p j)) 10 t 0 11 (V 10 t 0 11 + 1)) (st (eaU (undU U t) t) 7 0 0 t (U 7 0 0 t + 1)) K L (opnr K p j) (dep K (opnr K p j)) := by
    refine S.fr (by omega) (Nat.le_refl _) (fun c i k _ q => st_get _ _ _ _ _ _ _ _ _ _ |>.trans (if_neg (by omega))) (fun x idx _ _ q => st_nc (by omega)) ?_ (fun R W hS => ⟨R, W, ?_, fun _ q1 q2 => ⟨q1, q2⟩⟩)
    · obtain ⟨a1, a2, a3, a4⟩ := S.2.2.1
      exact ⟨by rw [st_nj (by decide)]; exact a1, by rw [st_nc (by decide)]; exact a2, by rw [st_eq, st_eq, C.sd.2.2.1.2.2.1], fun r hr => by rw [st_nc (by decide), st_nc (by decide)]; exact a4 r hr⟩
    · obtain ⟨a1, a2, a3, a4, a5⟩ := hS
      exact ⟨a1, a2, by rw [st_nj (by decide)]; exact a3, by rw [st_nj (by decide)]; exact a4, fun v hv => by rw [st_nc (by decide), st_nc (by decide), st_nc (by decide), st_nc (by decide)]; exact a5 v hv⟩
  exact S2.stay (by omega) (by rw [st_nj (by decide), unV_10]; exact e3) (by rw [st_nc (by decide), eaU_x (by omega), unU_6]; exact e14)
theorem W_3 (C : Ctx B c n ver t V U K L p) (hk : K p = 3) : StepOK B t V U := by
  obtain ⟨e1, e2, w⟩ := C.ab
  rw [hk] at w
  obtain ⟨r, hr, ea⟩ := w.2.1 (by omega)
  obtain ⟨v, hv, eb⟩ := w.2.2.2.1 rfl
  have ht := C.t4
  have hpL := C.pL
  have hin := wrg_in (Or.inl hk) C.wr
  obtain ⟨j, R, W, hj, h6, hS, hA⟩ := C.att hin
  obtain ⟨⟨hc, hn, hB⟩, hG, -⟩ := id C
  obtain ⟨g, b7, b8, b9⟩ := hA.2.2.2.2.1
  obtain ⟨s1, s2, s3⟩ := hS.2.2.2.2 v hv
  have hcc := dW_3 C.p30 C.cp (C.ck hk)
  have hmm := mS_3 C.t4 C.p30 C.mr C.mp (C.mk hk)
  rw [ea, eb] at hcc
  rw [← e1, ← e2, ea, eb] at hmm
  unfold fX5_doRead at hcc
  rw [vI hv, ob_e, if_neg i01, hwr hv hS, ob_e, one_shl v hv, b8, C_chg (p8 v hv).1 (by omega) (fun v hv => ⟨(hG.2.2.2.2.1 v hv).1, by have := (hG.2.2.2.2.1 v hv).2.2.1; omega⟩), ob_e, stl_one hv, gd_of (inb_nI hv (by decide)), nI_clamp (by omega)] at hcc
  unfold fX6_access at hmm
  rw [if_pos (show nI 3 = 3 from rfl)] at hmm
  unfold fX6_access_J21 at hmm
  rw [if_pos (show nI 3 = 3 from rfl)] at hmm
  unfold fX6_access_J42 at hmm
  rw [if_neg (show ¬ nI 3 = 4 by decide), ix_8, ix_4] at hmm
  simp only [gd_of (inb_nI ht (show 4 < 2 ^ 31 by decide)), gd_of (inb_nI hv (show 8 < 2 ^ 31 by decide)), gd_of (inb_nI (show 8 * t + v < 32 by omega) (show 32 < 2 ^ 31 by decide)), gd_of (inb_nI (show 4 * t + r < 16 by omega) (show 16 < 2 ^ 31 by decide)), nI_clamp (show 8 * t + v < 2 ^ 31 by omega), nI_clamp (show 4 * t + r < 2 ^ 31 by omega), nI_clamp (show t < 2 ^ 31 by omega), nI_clamp (show v < 2 ^ 31 by omega), bnd_e, ob2_id] at hmm
  rw [s2, b9 v hv] at hmm
  have ho : opn (K p) = false := by rw [hk]; rfl
  have hm : midk (K p) = false := by rw [hk]; rfl
  cases hw : W.testBit v with
  | true =>
    rw [hw, if_neg (show ¬ bI true = 0 by decide)] at hcc hmm
    rw [ob2_id] at hcc
    rw [st_nc (show 6 ≠ 8 by decide), C.mp, nI_1, X6_go ht, ob_e, ← s3 hw] at hmm
    exact C.asg hr ho hm (by omega) hcc hmm
  | false =>
    rw [hw, if_pos (show bI false = 0 by decide)] at hcc hmm
    by_cases hg : g < ver v
    · rw [decide_eq_true hg, if_neg (show ¬ bI true = 0 by decide)] at hcc hmm
      rw [ob2_id] at hcc
      exact C.disc hin hcc hmm
    · rw [decide_eq_false hg, if_pos (show bI false = 0 by decide)] at hcc hmm
      rw [bnd_e, hS.2.2.1, nI_or, gd_of (inb_nI hv (by decide)), st_nc (show 2 ≠ 10 by decide), asg1 (p := p) hr (by rw [st_nj (by decide)]; exact C.cp), ob2_e] at hcc
      rw [nb_1, st_nc (show 6 ≠ 17 by decide), st_nc (show 6 ≠ 8 by decide), C.mp, nI_1, X6_go ht, ob_e, ← (hG.2.2.2.2.1 v hv).2.2.2] at hmm
      refine ⟨0, _, _, hcc, hmm, i0, C.fin (((onlyV.st (by omega)).tr (onlyV.st (by omega))).tr goV_o) (((oU8 hr).tr (onlyU.st ⟨by decide, by decide, by decide, by decide, by show (8 * t + v) / 8 = t; omega⟩)).tr goU_o) ?_⟩
      have S : SD c ver t (st (st V 10 t 0 7 (nI (R ||| 2 ^ v))) 19 t 0 r (V 2 0 0 v)) (st (st U 8 0 0 (4 * t + r) (V 2 0 0 v)) 17 0 0 (8 * t + v) 1) K L p (dep K p) := by
        refine C.sd.fr (by omega) (Nat.le_refl _) (fun c i k _ q => by rw [st_nc (by omega), st_get, if_neg (by omega)]) (fun x idx _ _ q => by rw [st_nc (by omega), st_nc (by omega)]) ?_ (fun R' W' hS' => ⟨R ||| 2 ^ v, W, ?_, fun q => absurd h6 (q j hj)⟩)
        · obtain ⟨a1, a2, a3, a4⟩ := C.sd.2.2.1
          refine ⟨by rw [st_nc (by decide), st_nj (by decide)]; exact a1, by rw [st_nc (by decide), st_nc (by decide)]; exact a2, by rw [st_nc (by decide), st_nj (by decide), st_nc (by decide), st_nc (by decide)]; exact a3, fun r' hr' => ?_⟩
          rw [st_nc (show 8 ≠ 17 by decide)]
          by_cases q : r' = r
          · subst q; rw [st_eq, st_eq]
          · rw [st_nj q, st_nc (show 19 ≠ 10 by decide), st_nj (by omega)]; exact a4 r' hr'
        · obtain ⟨a1, a2, a3, a4, a5⟩ := hS
          refine ⟨or8 a1 hv, a2, by rw [st_nc (by decide), st_eq], by rw [st_nc (by decide), st_nj (by decide)]; exact a4, fun u hu => ?_⟩
          rw [st_nc (show 18 ≠ 17 by decide), st_nc (show 18 ≠ 8 by decide), st_nc (show 19 ≠ 17 by decide), st_nc (show 19 ≠ 8 by decide), st_nc (show 20 ≠ 19 by decide), st_nc (show 20 ≠ 10 by decide)]
          refine ⟨?_, (a5 u hu).2⟩
          rw [or_bit]
          by_cases q : u = v
          · subst q; rw [st_eq]; simp [bI]
          · rw [st_nj (by omega), st_nc (by decide), (a5 u hu).1]
            have q2 : ¬ v = u := fun z => q z.symm
            simp [q2]
      exact (S.next ho hm (by omega)).go (by omega)
theorem W_4 (C : Ctx B c n ver t V U K L p) (hk : K p = 4) : StepOK B t V U := by
  obtain ⟨e1, e2, w⟩ := C.ab
  rw [hk] at w
  obtain ⟨r, hr, eb⟩ := w.2.2.1 (by omega)
  obtain ⟨v, hv, ea⟩ := w.2.2.2.2 rfl
  have ht := C.t4
  have hpL := C.pL
  have hin := wrg_in (Or.inr (Or.inl hk)) C.wr
  obtain ⟨j, R, W, hj, h6, hS, hA⟩ := C.att hin
  have hcc := dW_4 C.p30 C.cp (C.ck hk)
  have hmm := mS_4 C.t4 C.p30 C.mr C.mp (C.mk hk)
  rw [ea, eb, rvI hr, ob_e] at hcc
  rw [← e1, ← e2, ea, eb] at hmm
  unfold fX4_write at hcc
  rw [vI hv, ob_e, if_neg i01, gd_of (inb_nI hv (by decide)), bnd_e, bnd_e, nI_clamp (by omega), st_nc (show 10 ≠ 20 by decide), hS.2.2.2.1, set1 hv, st_nj (show 10 ≠ 8 by decide), st_nc (show 10 ≠ 20 by decide), C.cp, nI_1, X4_go, ob2_e] at hcc
  unfold fX6_access at hmm
  rw [if_neg (show ¬ nI 4 = 3 by decide)] at hmm
  unfold fX6_access_J21 at hmm
  rw [if_neg (show ¬ nI 4 = 3 by decide)] at hmm
  unfold fX6_access_J42 at hmm
  rw [if_pos (show nI 4 = 4 from rfl), ix_8, ix_4] at hmm
  simp only [gd_of (inb_nI ht (show 4 < 2 ^ 31 by decide)), gd_of (inb_nI (show 8 * t + v < 32 by omega) (show 32 < 2 ^ 31 by decide)), gd_of (inb_nI (show 4 * t + r < 16 by omega) (show 16 < 2 ^ 31 by decide)), nI_clamp (show 8 * t + v < 2 ^ 31 by omega), nI_clamp (show 4 * t + r < 2 ^ 31 by omega), nI_clamp (show t < 2 ^ 31 by omega), bnd_e] at hmm
  rw [nb_1, st_nc (show 8 ≠ 18 by decide), st_nc (show 6 ≠ 19 by decide), st_nc (show 6 ≠ 18 by decide), C.mp, nI_1, X6_go ht, ob_e, C.rg hr] at hmm
  refine ⟨0, _, _, hcc, hmm, i0, C.fin (((onlyV.st (by omega)).tr (onlyV.st (by omega))).tr goV_o) (((onlyU.st ⟨by decide, by decide, by decide, by decide, by show (8 * t + v) / 8 = t; omega⟩).tr (onlyU.st ⟨by decide, by decide, by decide, by decide, by show (8 * t + v) / 8 = t; omega⟩)).tr goU_o) ?_⟩
  have S : SD c ver t (st (st V 20 t 0 v (V 19 t 0 r)) 10 t 0 8 (nI (W ||| 2 ^ v))) (st (st U 18 0 0 (8 * t + v) 1) 19 0 0 (8 * t + v) (V 19 t 0 r)) K L p (dep K p) := by
    refine C.sd.fr (by omega) (Nat.le_refl _) (fun c i k _ q => by rw [st_get, if_neg (by omega), st_nc (by omega)]) (fun x idx _ _ q => by rw [st_nc (by omega), st_nc (by omega)]) ?_ (fun R' W' hS' => ⟨R, W ||| 2 ^ v, ?_, fun q => absurd h6 (q j hj)⟩)
    · obtain ⟨a1, a2, a3, a4⟩ := C.sd.2.2.1
      exact ⟨by rw [st_nj (by decide), st_nc (by decide)]; exact a1, by rw [st_nc (by decide), st_nc (by decide)]; exact a2, by rw [st_nj (by decide), st_nc (by decide), st_nc (by decide), st_nc (by decide)]; exact a3, fun r' hr' => by rw [st_nc (by decide), st_nc (by decide), st_nc (by decide), st_nc (by decide)]; exact a4 r' hr'⟩
    · obtain ⟨a1, a2, a3, a4, a5⟩ := hS
      refine ⟨a1, or8 a2 hv, by rw [st_nj (by decide), st_nc (by decide)]; exact a3, by rw [st_eq], fun u hu => ?_⟩
      rw [st_nc (show 17 ≠ 19 by decide), st_nc (show 17 ≠ 18 by decide), st_nc (show 18 ≠ 19 by decide), st_nc (show 20 ≠ 10 by decide)]
      obtain ⟨z1, z2, z3⟩ := a5 u hu
      refine ⟨z1, ?_, ?_⟩
      · rw [or_bit]
        by_cases q : u = v
        · subst q; rw [st_eq]; simp [bI]
        · have q2 : ¬ v = u := fun z => q z.symm
          rw [st_nj (by omega), z2]; simp [q2]
      · rw [or_bit]
        by_cases q : u = v
        · subst q; rw [st_eq, st_eq]; intro _; rfl
        · have q2 : ¬ v = u := fun z => q z.symm
          rw [st_nj q, st_nj (by omega), st_nc (by decide)]
          intro z
          exact z3 (by simpa [q2] using z)
  exact (S.next (by rw [hk]; rfl) (by rw [hk]; rfl) (by omega)).go (by omega)
end RW
