/-! END of an ATOMIC -/
def cmV (V : Sto) (t W i : Nat) : Sto := fun c t' i' j => if c = 2 ∧ t' = 0 ∧ i' = 0 ∧ i ≤ j ∧ j < 8 ∧ W.testBit j = true then V 20 t 0 j else if c = 3 ∧ t' = 0 ∧ i' = 0 ∧ i ≤ j ∧ j < 8 ∧ W.testBit j = true then V 1 0 0 2 else V c t' i' j
theorem mod_up0 {W i : Nat} (h : W.testBit i = false) : W % 2 ^ (i + 1) = W % 2 ^ i := by
  apply Nat.eq_of_testBit_eq
  intro u
  rw [Nat.testBit_mod_two_pow, Nat.testBit_mod_two_pow]
  by_cases q : u = i
  · subst q; rw [h]; simp
  · have : (decide (u < i + 1)) = decide (u < i) := by
      rw [Bool.eq_iff_iff, decide_eq_true_eq, decide_eq_true_eq]; omega
    rw [this]
theorem mod_up1 {W i : Nat} (h : W.testBit i = true) : W % 2 ^ (i + 1) = W % 2 ^ i ||| 2 ^ i := by
  apply Nat.eq_of_testBit_eq
  intro u
  rw [or_bit, Nat.testBit_mod_two_pow, Nat.testBit_mod_two_pow]
  by_cases q : u = i
  · subst q; rw [h]; simp
  · have : (decide (u < i + 1)) = decide (u < i) := by
      rw [Bool.eq_iff_iff, decide_eq_true_eq, decide_eq_true_eq]; omega
    rw [this]
    have q2 : ¬ i = u := fun z => q z.symm
    simp [q2]
section CM
variable {K : Nat → Nat} {V U V' U' : Sto} {B c n t L p : Nat} {ver : Nat → Nat}
theorem hwr2 {v W : Nat} (hv : v < 8) (hW : W < 256) (h : V 10 t 0 8 = nI W) : fX4_hasWritten V t (nI v) = some (bI (W.testBit v)) := by
  unfold fX4_hasWritten
  rw [h]
  cases hb : W.testBit v with
  | true => rw [if_neg (fun q => by rw [(bit0 hW hv).mp q] at hb; cases hb)]; rfl
  | false => rw [if_pos ((bit0 hW hv).mpr hb)]; rfl
theorem C_com_L {W : Nat} {x2 : Int32} (hW : W < 256) : ∀ (N i : Nat) (V : Sto), i ≤ 8 → 8 < i + N → V 10 t 0 8 = nI W → fX5_commit_L18 N V t x2 (nI i) = some (cmV V t W i) := by
  intro N
  induction N with
  | zero => intro i V a b; omega
  | succ N ih =>
    intro i V h1 h2 h8
    rw [fX5_commit_L18]
    by_cases h : 8 ≤ i
    · have : i = 8 := by omega
      subst this
      rw [if_pos (by decide)]
      congr 1
      funext c t' i' j
      unfold cmV
      rw [if_neg (by omega), if_neg (by omega)]
    · have hi : i < 8 := by omega
      rw [if_neg (show ¬ (8 : Int32) ≤ nI i from nI_ge (b := 8) hi (by decide)), hwr2 hi hW h8, ob_e]
      cases hb : W.testBit i with
      | false =>
        rw [if_pos (by decide), nI_1, ih (i + 1) V (by omega) (by omega) h8]
        congr 1
        funext c t' i' j
        unfold cmV
        by_cases q : j = i
        · subst q
          rw [hb]
          simp
        · have e : (i + 1 ≤ j) = (i ≤ j) := propext ⟨fun _ => by omega, fun _ => by omega⟩
          simp only [e]
      | true =>
        have ec : fX1_change V (nI i) (V 20 t 0 i) = some (st (st V 2 0 0 i (V 20 t 0 i)) 3 0 0 i (V 1 0 0 2)) := by
          unfold fX1_change
          rw [vI hi, ob_e, if_neg i01, gd_of (inb_nI hi (by decide)), bnd_e, gd_of (inb_nI hi (by decide)), bnd_e, nI_clamp (by omega), st_nc (show 1 ≠ 2 by decide)]
        rw [if_neg (by decide), gd_of (inb_nI hi (by decide)), nI_clamp (by omega), ec, ob_e, nI_1, ih (i + 1) _ (by omega) (by omega) (by rw [st_nc (by decide), st_nc (by decide)]; exact h8)]
        congr 1
        funext c t' i' j
        unfold cmV
        rw [st_nc (show 20 ≠ 3 by decide), st_nc (show 20 ≠ 2 by decide), st_nc (show 1 ≠ 3 by decide), st_nc (show 1 ≠ 2 by decide)]
        by_cases q2 : c = 2 ∧ t' = 0 ∧ i' = 0 ∧ i ≤ j ∧ j < 8 ∧ W.testBit j = true
        · rw [if_pos q2]
          by_cases qj : j = i
          · obtain ⟨rfl, rfl, rfl, -⟩ := q2
            subst qj
            rw [if_neg (by omega), if_neg (by omega), st_nc (by decide), st_eq]
          · rw [if_pos ⟨q2.1, q2.2.1, q2.2.2.1, by omega, q2.2.2.2.2⟩]
        · rw [if_neg q2, if_neg (fun z => q2 ⟨z.1, z.2.1, z.2.2.1, by omega, z.2.2.2.2⟩)]
          by_cases q3 : c = 3 ∧ t' = 0 ∧ i' = 0 ∧ i ≤ j ∧ j < 8 ∧ W.testBit j = true
          · rw [if_pos q3]
            by_cases qj : j = i
            · obtain ⟨rfl, rfl, rfl, -⟩ := q3
              subst qj
              rw [if_neg (by omega), st_eq]
            · rw [if_pos ⟨q3.1, q3.2.1, q3.2.2.1, by omega, q3.2.2.2.2⟩]
          · rw [if_neg q3, if_neg (fun z => q3 ⟨z.1, z.2.1, z.2.2.1, by omega, z.2.2.2.2⟩), st_get, if_neg (fun z => q3 ⟨z.1, z.2.1, z.2.2.1, by omega, by omega, by rw [z.2.2.2]; exact hb⟩), st_get, if_neg (fun z => q2 ⟨z.1, z.2.1, z.2.2.1, by omega, by omega, by rw [z.2.2.2]; exact hb⟩)]
theorem M_any_L {W : Nat} (ht : t < 4) (h18 : ∀ v, v < 8 → U 18 0 0 (8 * t + v) = bI (W.testBit v)) : ∀ (N m i : Nat) (a : Bool), i + m = 8 → m < N → fX6_commit_L18 N U (nI t) (bI a) (nI i) = some (bI (a || stl W 0 (fun _ => 1) m i)) := by
  intro N
  induction N with
  | zero => intro m i a h1 h2; omega
  | succ N ih =>
    intro m i a h1 h2
    rw [fX6_commit_L18]
    cases m with
    | zero =>
      have : i = 8 := by omega
      subst this
      rw [if_pos (by decide)]; simp [stl]
    | succ m =>
      have hi : i < 8 := by omega
      rw [if_neg (show ¬ (8 : Int32) ≤ nI i from nI_ge (b := 8) hi (by decide)), ix_8, gd_of (inb_nI (show 8 * t + i < 32 by omega) (by decide)), nI_clamp (by omega), nI_1, h18 i hi]
      have i0 := ih m (i + 1) false (by omega) (by omega)
      have i1 := ih m (i + 1) true (by omega) (by omega)
      rw [bI_f] at i0
      rw [bI_t] at i1
      rw [i0, i1]
      simp only [stl]
      cases a with
      | true => rw [if_neg (by decide)]; simp
      | false =>
        rw [if_pos (by decide)]
        cases hb : W.testBit i with
        | false => rw [if_pos (by decide)]; simp
        | true => rw [if_neg (by decide)]; simp
theorem any_W {W : Nat} (hW : W < 256) : stl W 0 (fun _ => 1) 8 0 = !(W == 0) := by
  rw [Bool.eq_iff_iff, stl_iff]
  simp only [Bool.not_eq_true', beq_eq_false_iff_ne]
  constructor
  · rintro ⟨u, -, -, h, -⟩ q
    rw [q, Nat.zero_testBit] at h
    cases h
  · intro h
    apply Classical.byContradiction
    intro q
    apply h
    apply bits_eq0 hW
    intro v hv
    cases hb : W.testBit v with
    | false => rfl
    | true => exact absurd ⟨v, by omega, by omega, hb, by omega⟩ q
def CInv (t W i c' : Nat) (sf Rf : Nat → Nat) (U U1 Ua : Sto) : Prop := (∀ t', t' < 4 → MS t' (sf t') (Rf t') (W % 2 ^ i) U1 Ua) ∧ (∀ x a b idx, (x = 0 ∨ 25 ≤ x) → Ua x a b idx = U1 x a b idx) ∧ ∀ v, v < 8 → Ua 10 0 0 v = (if v < i ∧ W.testBit v = true then U 19 0 0 (8 * t + v) else U 10 0 0 v) ∧ Ua 11 0 0 v = (if v < i ∧ W.testBit v = true then nI c' else U 11 0 0 v)
theorem M_com_L {W c' : Nat} {sf Rf : Nat → Nat} {bf : Nat → Bool} {U1 : Sto} (ht : t < 4) (hst : sf t = 1) (h18 : ∀ v, v < 8 → U1 18 0 0 (8 * t + v) = bI (W.testBit v)) (h19 : ∀ v, v < 8 → U1 19 0 0 (8 * t + v) = U 19 0 0 (8 * t + v)) (hc : U1 0 0 0 11 = nI c') (hR : ∀ t, t < 4 → Rf t < 256 ∧ sf t ≤ 4 ∧ U1 5 0 0 t = nI (sf t) ∧ U1 13 0 0 t = bI (bf t) ∧ ∀ u, u < 8 → U1 17 0 0 (8 * t + u) = bI ((Rf t).testBit u)) : ∀ (N i : Nat) (Ua : Sto), i ≤ 8 → 8 < i + N → CInv t W i c' sf Rf U U1 Ua → ∃ U2, fX6_commit_L84 N Ua (nI t) (nI i) = some U2 ∧ CInv t W 8 c' sf Rf U U1 U2 := by
  intro N
  induction N with
  | zero => intro i Ua a b; omega
  | succ N ih =>
    intro i Ua h1 h2 hI
    rw [fX6_commit_L84]
    by_cases h : 8 ≤ i
    · have : i = 8 := by omega
      subst this
      rw [if_pos (by decide)]
      exact ⟨Ua, rfl, hI⟩
    · have hi : i < 8 := by omega
      obtain ⟨j1, j2, j3⟩ := hI
      have hw : wk (sf t) (Rf t) (W % 2 ^ i) = false := by unfold wk; rw [hst]; rfl
      obtain ⟨m1, m2, m3, m4⟩ := j1 t ht
      have e18 : Ua 18 0 0 (8 * t + i) = bI (W.testBit i) := by
        have := (m3 i hi).2.2
        rw [hw] at this
        exact this.trans (h18 i hi)
      have e19 : Ua 19 0 0 (8 * t + i) = U 19 0 0 (8 * t + i) := (m4 19 _ (by omega) (by omega) (by omega) (by omega) (by omega) (by omega) (by omega) (by omega) (by omega) (by show (8 * t + i) / 8 = t; omega)).trans (h19 i hi)
      rw [if_neg (show ¬ (8 : Int32) ≤ nI i from nI_ge (b := 8) hi (by decide)), ix_8, gd_of (inb_nI (show 8 * t + i < 32 by omega) (by decide)), gd_of (inb_nI (show 8 * t + i < 32 by omega) (by decide)), nI_clamp (by omega), nI_1, e18, e19]
      cases hb : W.testBit i with
      | false =>
        rw [if_pos (by decide)]
        refine ih (i + 1) Ua (by omega) (by omega) ⟨fun t' ht' => by rw [mod_up0 hb]; exact j1 t' ht', j2, fun v hv => ?_⟩
        have e : (v < i + 1 ∧ W.testBit v = true) = (v < i ∧ W.testBit v = true) := by
          apply propext
          constructor
          · intro z
            refine ⟨?_, z.2⟩
            rcases Nat.lt_or_ge v i with q | q
            · exact q
            · have hvi : v = i := by omega
              have z2 := z.2
              rw [hvi, hb] at z2
              cases z2
          · intro z
            exact ⟨by omega, z.2⟩
        simp only [e]
        exact j3 v hv
      | true =>
        rw [if_neg (by decide)]
        obtain ⟨U2, g1, g2, g3⟩ := M_changed (v := i) (y := U 19 0 0 (8 * t + i)) hi hR j1
        rw [g1, ob_e]
        refine ih (i + 1) U2 (by omega) (by omega) ⟨fun t' ht' => by rw [mod_up1 hb]; exact g2 t' ht', fun x a b idx q => by rw [g3 x a b idx (by omega), st_nc (by omega), st_nc (by omega)]; exact j2 x a b idx q, fun v hv => ?_⟩
        rw [g3 10 0 0 v (by omega), g3 11 0 0 v (by omega), st_nc (show 10 ≠ 11 by decide), j2 0 0 0 11 (by omega), hc]
        by_cases q : v = i
        · subst q
          rw [st_eq, st_eq, if_pos ⟨by omega, hb⟩, if_pos ⟨by omega, hb⟩]
          exact ⟨rfl, rfl⟩
        · have e : (v < i + 1 ∧ W.testBit v = true) = (v < i ∧ W.testBit v = true) := propext ⟨fun z => ⟨by omega, z.2⟩, fun z => ⟨by omega, z.2⟩⟩
          simp only [e]
          rw [st_nj q, st_nj q, st_nc (show 11 ≠ 10 by decide)]
          exact j3 v hv
theorem CS.same {s R X : Nat} (h : CS t s R X V V') (hw : wk s R X = false) : sameV t V V' := by
  obtain ⟨c1, c2, c3⟩ := h
  rw [hw] at c1 c2
  intro c i j hc
  by_cases q : c = 10 ∧ i = 0 ∧ (j = 7 ∨ j = 9)
  · obtain ⟨rfl, rfl, rfl | rfl⟩ := q
    · exact c1
    · exact c2
  · exact c3 c i j hc q
theorem cP.div {x d idx : Nat} (h : cP t x d idx) (hd : d < 6) : idx / sz x = t := by
  rcases h with ⟨rfl, rfl⟩ | ⟨rfl, r, hr, rfl⟩ | ⟨rfl | rfl, v, hv, rfl⟩
  · show (6 * t + d) / 6 = t; omega
  · show (4 * (6 * t + d) + r) / 24 = t; omega
  · show (8 * (6 * t + d) + v) / 48 = t; omega
  · show (8 * (6 * t + d) + v) / 48 = t; omega
theorem i1 : ¬ (1 : Int32) < 0 := by decide
/-- the class's store after the variables are changed -/
theorem C_com {W : Nat} (hW : W < 256) (hG1 : V 1 0 0 2 = nI c) (hv3 : ∀ v, v < 8 → V 3 0 0 v = nI (ver v)) (h8 : V 10 t 0 8 = nI W) (h10 : V 10 t 0 10 = nI p) : ∃ V24 : Sto, fX5_commit V t = ob (fX5_wake (goV (lvV V24 t) t (nI (p + 1))) (nI W)) (fun V1 => some (1, V1)) ∧ V24 1 0 0 2 = nI (if W = 0 then c else c + 1) ∧ (∀ v, v < 8 → V24 3 0 0 v = nI (if W.testBit v = true then c + 1 else ver v) ∧ V24 2 0 0 v = if W.testBit v = true then V 20 t 0 v else V 2 0 0 v) ∧ (∀ c' t' i j, 4 ≤ c' → V24 c' t' i j = V c' t' i j) := by
  unfold fX5_commit
  rw [h8]
  by_cases q : W = 0
  · subst q
    refine ⟨V, ?_, by rw [if_pos rfl]; exact hG1, fun v hv => ?_, fun _ _ _ _ _ => rfl⟩
    · rw [if_pos (show nI 0 = 0 from rfl), X4_leave, ob_e, X4_go, ob2_e, lvV_n (by omega), h10, nI_1]
    · rw [Nat.zero_testBit, if_neg (by decide), if_neg (by decide)]
      exact ⟨hv3 v hv, rfl⟩
  · have e1 : fX1_countCommit V = some (st V 1 0 0 2 (nI (c + 1))) := by unfold fX1_countCommit; rw [bnd_e, hG1, nI_1]
    have e2 : fX5_commit_L18 40 (st V 1 0 0 2 (nI (c + 1))) t (nI W) 0 = some (cmV (st V 1 0 0 2 (nI (c + 1))) t W 0) := C_com_L hW 40 0 _ (by omega) (by omega) (by rw [st_nc (by decide)]; exact h8)
    have ek : ∀ c' t' i j, 4 ≤ c' → cmV (st V 1 0 0 2 (nI (c + 1))) t W 0 c' t' i j = V c' t' i j := fun c' t' i j hc => by
      unfold cmV
      rw [if_neg (by omega), if_neg (by omega), st_nc (by omega)]
    refine ⟨cmV (st V 1 0 0 2 (nI (c + 1))) t W 0, ?_, ?_, fun v hv => ⟨?_, ?_⟩, ek⟩
    · rw [if_neg (show ¬ nI W = 0 from nI_ne (b := 0) (by omega) (by decide) q), e1, ob_e, e2, ob_e, X4_leave, ob_e, X4_go, ob2_e, lvV_n (by omega), ek 10 t 0 10 (by omega), h10, nI_1]
    · unfold cmV
      rw [if_neg (by omega), if_neg (by omega), st_eq, if_neg q]
    · unfold cmV
      rw [if_neg (by omega)]
      cases hb : W.testBit v with
      | true => rw [if_pos ⟨rfl, rfl, rfl, by omega, hv, rfl⟩, st_eq, if_pos rfl]
      | false => rw [if_neg (fun z => by cases z.2.2.2.2.2), st_nc (by decide), if_neg (by decide)]; exact hv3 v hv
    · unfold cmV
      cases hb : W.testBit v with
      | true => rw [if_pos ⟨rfl, rfl, rfl, by omega, hv, rfl⟩, st_nc (by decide), if_pos rfl]
      | false => rw [if_neg (fun z => by cases z.2.2.2.2.2), if_neg (by omega), st_nc (by decide), if_neg (by decide)]
theorem W_7c (C : Ctx B c n ver t V U K L p) (hk : K p = 7) {o : Nat} (he : ENDr K o p) (h6 : K o = 6) : StepOK B t V U := by
  have ht := C.t4
  have hpL := C.pL
  have hL := C.L30
  obtain ⟨o', hop, he', hcc, hmm⟩ := W_7x C hk
  have eo := he'.uniq he
  subst eo
  rw [if_pos (show nI (K o') = 6 by rw [h6]; rfl)] at hcc hmm
  have hdp := he.2.2.2.1
  have hop2 := he.2.2.2.2
  have hj : dep K o' < dep K p := by omega
  have hin : ∃ j, j < dep K p ∧ K (opnr K p j) = 6 := ⟨dep K o', hj, by rw [hop2]; exact h6⟩
  obtain ⟨j, R, W, hj2, hj6, hS, hA⟩ := C.att hin
  have hone := at_one C.good (by omega) hj2 hj6
  have ej : j = dep K o' := by
    apply Classical.byContradiction
    intro q
    exact hone (dep K o') hj (fun z => q z.symm) (by rw [hop2]; exact h6)
  obtain ⟨b, s1, s2⟩ := C.stale hS hA
  rw [s1, ob_e] at hcc
  unfold fX6_commit at hmm
  rw [s2, ob_e] at hmm
  cases b with
  | true =>
    rw [if_neg (show ¬ bI true = 0 by decide)] at hcc hmm
    rw [ob2_id] at hmm
    exact C.disc hin hcc hmm
  | false =>
    rw [if_pos (show bI false = 0 by decide)] at hcc hmm
    subst ej
    obtain ⟨⟨hc, hn, hB⟩, ⟨g1, g2, g3, g4, g5, g6⟩, hT, -⟩ := id C
    obtain ⟨h1, h2, h3, h4, -⟩ := C.sd
    have hW := hS.2.1
    obtain ⟨V24, k1, k2, k3, k4⟩ := C_com (ver := ver) hW g1 (fun v hv => (g5 v hv).1) hS.2.2.2.1 C.cp
    rw [k1] at hcc
    have hno : ∀ i, i < dep K o' → K (opnr K p i) ≠ 6 := fun i hi => hone i (by omega) (by omega)
    -- the reference's loop
    have hany : fX6_commit_L18 40 U (nI t) 0 0 = some (bI (!(W == 0))) := by
      have := M_any_L ht (fun v hv => (hS.2.2.2.2 v hv).2.1) 40 8 0 false (by omega) (by omega)
      rw [any_W hW, Bool.false_or] at this
      exact this
    rw [hany, ob_e, g2, nI_1] at hmm
    have hmm2 : fX6_step U (nI t) = fX6_commit_J72 U (nI t) (nI (if W = 0 then c else c + 1)) := by
      rw [hmm]
      by_cases q : W = 0
      · rw [if_pos (by rw [q]; rfl), if_pos q]
      · rw [if_neg (by simp [q, bI]), if_neg q]
    unfold fX6_commit_J72 at hmm2
    rw [bnd_e, gd_of (inb_nI ht (by decide)), bnd_e, nI_clamp (by omega), nb_0] at hmm2
    generalize hU1 : st (st U 0 0 0 11 (nI (if W = 0 then c else c + 1))) 13 0 0 t 0 = U1 at hmm2
    have u1n : ∀ x idx, x ≠ 0 → x ≠ 13 → U1 x 0 0 idx = U x 0 0 idx := fun x idx q1 q2 => by rw [← hU1, st_nc q2, st_nc q1]
    have u113 : ∀ t', t' ≠ t → U1 13 0 0 t' = U 13 0 0 t' := fun t' q => by rw [← hU1, st_nj q, st_nc (by decide)]
    have u113t : U1 13 0 0 t = 0 := by rw [← hU1, st_eq]
    have hfn : ∀ t', t' < 4 → RF V t' < 256 ∧ sF V t' ≤ 4 ∧ U1 5 0 0 t' = nI (sF V t') ∧ U1 13 0 0 t' = bI (bF U1 t') ∧ ∀ u, u < 8 → U1 17 0 0 (8 * t' + u) = bI ((RF V t').testBit u) := fun t' ht' => by
      obtain ⟨f1, f2, f3, f4, f5, f6, f7⟩ := (hT t' ht').fn
      refine ⟨f1, f2, by rw [u1n 5 _ (by omega) (by omega)]; exact f5, ?_, fun u hu => by rw [u1n 17 _ (by omega) (by omega)]; exact f7 u hu⟩
      by_cases q : t' = t
      · subst q
        unfold bF
        rw [u113t]; rfl
      · have : bF U1 t' = bF U t' := by unfold bF; rw [u113 t' q]
        rw [this, u113 t' q]; exact f6
    have hst : sF V t = 1 := by unfold sF; rw [h3.1]; rfl
    obtain ⟨U2, m1, m2, m3, m4⟩ := M_com_L (U := U) (W := W) (c' := if W = 0 then c else c + 1) ht hst (fun v hv => by rw [u1n 18 _ (by omega) (by omega)]; exact (hS.2.2.2.2 v hv).2.1) (fun v hv => u1n 19 _ (by omega) (by omega)) (by rw [← hU1, st_nc (by decide), st_eq]) hfn 40 0 U1 (by omega) (by omega) ⟨fun t' _ => by rw [Nat.pow_zero, Nat.mod_one]; exact MS.rf, fun _ _ _ _ _ => rfl, fun v hv => by rw [if_neg (by omega), if_neg (by omega), u1n 10 _ (by omega) (by omega), u1n 11 _ (by omega) (by omega)]; exact ⟨rfl, rfl⟩⟩
    have m1' : fX6_commit_L84 40 U1 (nI t) 0 = some U2 := m1
    rw [m1', ob_e, X6_ea ht, ob_e, gd_of (inb_nI ht (by decide)), eaU_x (by omega)] at hmm2
    have hm256 : W % 2 ^ 8 = W := Nat.mod_eq_of_lt hW
    rw [hm256] at m2
    -- the thread's own cells
    have hwt : wk (sF V t) (RF V t) W = false := by unfold wk; rw [hst]; rfl
    obtain ⟨o1, o2, o3, o4⟩ := m2 t ht
    have ow : ∀ x idx, 1 ≤ x → x ≤ 24 → ¬ (x = 10 ∨ x = 11 ∨ x = 13 ∨ x = 16 ∨ x = 17 ∨ x = 18) → idx / sz x = t → eaU U2 t x 0 0 idx = U x 0 0 idx := fun x idx a1 a2 a3 a4 => by
      rw [eaU_x (by omega)]
      by_cases q : x = 5
      · subst q
        have : idx = t := by simp [sz] at a4; exact a4
        rw [this, o1, hwt]
        simp only [Bool.false_eq_true, if_false]
        exact u1n 5 _ (by omega) (by omega)
      · rw [o4 x idx a1 a2 (by omega) (by omega) q (by omega) (by omega) (by omega) (by omega) a4]
        exact u1n x idx (by omega) (by omega)
    have e6 : U2 6 0 0 t = nI p := by
      rw [o4 6 t (by omega) (by omega) (by omega) (by omega) (by omega) (by omega) (by omega) (by omega) (by omega) (by simp [sz]), u1n 6 _ (by omega) (by omega)]; exact C.mp
    rw [e6, nI_1, X6_go ht, ob_e] at hmm2
    have S : SD (if W = 0 then c else c + 1) (fun v => if W.testBit v = true then c + 1 else ver v) t (lvV V24 t) (eaU U2 t) K L p (dep K o') := by
      have gV : ∀ c' i k, 10 ≤ c' → ¬ (c' = 10 ∧ (k = 4 ∨ k = 5 ∨ k = 7 ∨ k = 8)) → lvV V24 t c' t i k = V c' t i k := fun c' i k a q => by rw [lvV_n q, k4 c' t i k (by omega)]
      refine ⟨h1.fr (fun c' k q => gV c' 0 k (by omega) (by omega)) (fun x idx q hi => ow x idx (by omega) (by omega) (by omega) hi), h2.fr (fun k => gV 15 0 k (by omega) (by omega)) (fun k => gV 16 0 k (by omega) (by omega)) (fun k => gV 17 0 k (by omega) (by omega)), ⟨by rw [gV 10 0 9 (by omega) (by omega)]; exact h3.1, by rw [ow 5 t (by omega) (by omega) (by omega) (by simp [sz])]; exact h3.2.1, by rw [gV 10 0 11 (by omega) (by omega), ow 7 t (by omega) (by omega) (by omega) (by simp [sz])]; exact h3.2.2.1, fun r hr => by rw [gV 19 0 r (by omega) (by omega), ow 8 _ (by omega) (by omega) (by omega) (by show (4 * t + r) / 4 = t; omega)]; exact h3.2.2.2 r hr⟩, ?_, 0, 0, ⟨by omega, by omega, lvV_7, lvV_8, fun v hv => ⟨by rw [eaU_b (by omega) hv, Nat.zero_testBit]; rfl, by rw [eaU_b (by omega) hv, Nat.zero_testBit]; rfl, fun q => by rw [Nat.zero_testBit] at q; cases q⟩⟩, Or.inl ⟨hno, ⟨lvV_5, eaU_13⟩, rfl, rfl⟩⟩
      have hq6 : ∀ i, i ≤ dep K o' → cq K p i < 6 := fun i hi => (C.sd.q6 (by omega) (by omega)).1
      have hnQ : isQ K p (dep K o') = false := by unfold isQ; rw [hop2, h6]; simp
      have hA5 := hA.1
      have g4' : lvV V24 t 10 t 0 4 = nI (cm K p (dep K o')) := by
        rw [lvV_4, k4 10 t 0 5 (by omega), hA.2.1, if_neg (nI_nm1 (by omega))]
      have g20 : eaU U2 t 20 0 0 t = nI (cq K p (dep K o')) := by
        rw [ow 20 t (by omega) (by omega) (by omega) (by simp [sz]), h4.2.1, hdp, cq_s0 hnQ]
      exact TMd.cut h4 (by omega) (fun i hi => hq6 i (by omega)) g4' g20 (fun i c' k _ hc => gV c' i k (by omega) (by omega)) (fun x d idx hd hx => by
        have hx2 := hx.x
        have := hq6 (dep K o') (Nat.le_refl _)
        exact ow x idx (by omega) (by omega) (by omega) (hx.div (by omega)))
    have S2 := S.out hj hop2 he
    have hTg := S2.go (by omega)
    have sVg : ∀ t', t' ≠ t → sameV t' V (goV (lvV V24 t) t (nI (p + 1))) := fun t' q c' i k hc' => by
      rw [(lvV_o.tr goV_o).same q c' i k hc', k4 c' t' i k (by omega)]
    have hfg : ∀ t', t' < 4 → RF (goV (lvV V24 t) t (nI (p + 1))) t' < 256 ∧ sF (goV (lvV V24 t) t (nI (p + 1))) t' ≤ 4 ∧ goV (lvV V24 t) t (nI (p + 1)) 10 t' 0 9 = nI (sF (goV (lvV V24 t) t (nI (p + 1))) t') ∧ goV (lvV V24 t) t (nI (p + 1)) 10 t' 0 7 = nI (RF (goV (lvV V24 t) t (nI (p + 1))) t') := fun t' ht' => by
      by_cases q : t' = t
      · subst q
        have := hTg.fn
        exact ⟨this.1, this.2.1, this.2.2.1, this.2.2.2.1⟩
      · have := ((hT t' ht').fr (sVg t' q) (fun _ _ _ _ _ _ _ => rfl)).fn
        exact ⟨this.1, this.2.1, this.2.2.1, this.2.2.2.1⟩
    obtain ⟨V2, w1, w2, w3⟩ := C_wake (X := W) hW hfg
    rw [w1, ob_e] at hcc
    have oU : onlyU t U2 (goU (eaU U2 t) t (nI (p + 1))) := onlyU.ea.tr goU_o
    have gVl : ∀ c' i k, c' < 10 → V2 c' 0 i k = V24 c' 0 i k := fun c' i k hc' => by
      rw [w3 c' 0 i k hc', (lvV_o.tr goV_o) c' 0 i k (by omega)]
    refine ⟨1, V2, _, hcc, hmm2, i1, (if W = 0 then c else c + 1), n, (fun v => if W.testBit v = true then c + 1 else ver v), by split <;> omega, by omega, ⟨?_, ?_, ?_, ?_, fun v hv => ?_, fun k hk => ?_⟩, fun t' ht' => ?_⟩
    · rw [gVl 1 0 2 (by omega)]; exact k2
    · rw [oU 0 0 0 11 (by omega), m3 0 0 0 11 (by omega), ← hU1, st_nc (by decide), st_eq]
    · rw [gVl 4 0 1 (by omega), k4 4 0 0 1 (by omega)]; exact g3
    · rw [oU 0 0 0 24 (by omega), m3 0 0 0 24 (by omega), ← hU1, st_nc (by decide), st_nj (by decide)]; exact g4
    · obtain ⟨z1, z2, z3, z4⟩ := g5 v hv
      obtain ⟨y1, y2⟩ := k3 v hv
      obtain ⟨x1, x2⟩ := m4 v hv
      rw [gVl 3 0 v (by omega), gVl 2 0 v (by omega), oU 11 0 0 v (by omega), oU 10 0 0 v (by omega), y1, y2, x1, x2]
      cases hb : W.testBit v with
      | true =>
        have hW0 : W ≠ 0 := fun q => by rw [q, Nat.zero_testBit] at hb; cases hb
        simp only [hb, hv, if_true, if_neg hW0, and_self]
        exact ⟨trivial, trivial, Nat.le_refl _, (hS.2.2.2.2 v hv).2.2 hb⟩
      | false =>
        simp only [hb, Bool.false_eq_true, if_false, and_false]
        exact ⟨trivial, z2, by split <;> omega, z4⟩
    · rw [gVl 5 0 k (by omega), k4 5 0 0 k (by omega), oU 26 0 0 k (by omega), m3 26 0 0 k (by omega), ← hU1, st_nc (by decide), st_nc (by decide)]
      exact g6 k hk
    · by_cases q : t' = t
      · subst q
        have hwk : wk (sF (goV (lvV V24 t') t' (nI (p + 1))) t') (RF (goV (lvV V24 t') t' (nI (p + 1))) t') W = false := by
          have hs9 := goV_s (V := lvV V24 t') (t := t') (p := p + 1) (L := L) (by omega) hL S2.1.2.1
          have e1 : lvV V24 t' 10 t' 0 9 = 1 := S2.2.2.1.1
          rw [e1] at hs9
          unfold wk sF
          rw [hs9]
          split <;> rfl
        exact hTg.fr ((w2 t' ht').same hwk) (fun _ _ _ _ _ _ _ => rfl)
      · have es : sF (goV (lvV V24 t) t (nI (p + 1))) t' = sF V t' := by unfold sF; rw [sVg t' q 10 0 9 (by omega)]
        have er : RF (goV (lvV V24 t) t (nI (p + 1))) t' = RF V t' := by unfold RF; rw [sVg t' q 10 0 7 (by omega)]
        have hC := (w2 t' ht').base (sVg t' q)
        rw [es, er] at hC
        have sU1 : sameU t' U U1 := fun x idx a1 a2 a3 a4 a5 => by
          by_cases q13 : x = 13
          · subst q13
            have : idx = t' := by simp [sz] at a5; exact a5
            rw [this]; exact u113 t' q
          · exact u1n x idx (by omega) q13
        have hM := ((m2 t' ht').base sU1).fr (oU.same q)
        refine TR_wake ht' (hT t' ht') hC hM (by split <;> omega) (fun v hv hb => ?_) (fun v hv hb => ?_)
        · have hW0 : W ≠ 0 := fun q => by rw [q, Nat.zero_testBit] at hb; cases hb
          rw [if_neg hW0]
          exact ⟨by omega, if_pos hb⟩
        · show (if W.testBit v = true then c + 1 else ver v) = ver v
          rw [hb, if_neg (by decide)]
end CM
