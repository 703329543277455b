/-! RETRY and THROW -/
section RT
variable {K : Nat → Nat} {V U V' U' : Sto} {B c n t L p : Nat} {ver : Nat → Nat}
theorem noAt_o {j : Nat} (hg : Good K L) (hp : p ≤ L) (hj : j < dep K p) (h6 : K (opnr K p j) = 6) : noAt K (opnr K p j) := by
  intro i hi
  rw [lvl_dep hj] at hi
  rw [lvl_low hj hi]
  exact at_one hg hp hj h6 i (by omega) (by omega)
theorem acm_n {j : Nat} (h : cm K p j < 6) : ¬ acm K p (some j) = -1 := nI_nm1 (a := cm K p j) (by omega)
theorem acq_n {j : Nat} (h : cq K p j < 6) : ¬ acq K p (some j) < 0 := nI_pos (n := cq K p j) (by omega)
theorem acq_p {j : Nat} (h : cq K p j < 6) : (0 : Int32) ≤ acq K p (some j) := nI_le (Nat.zero_le (cq K p j)) (by omega)
theorem acq_0 : ¬ (0 : Int32) ≤ acq K p none := by show ¬ (0 : Int32) ≤ -1; decide
theorem i3 : ¬ (3 : Int32) < 0 := by decide
theorem i4 : ¬ (4 : Int32) < 0 := by decide
theorem W_8 (C : Ctx B c n ver t V U K L p) (hk : K p = 8) : StepOK B t V U := by
  have ht := C.t4
  have hpL := C.pL
  have hL := C.L30
  have hin := wrg_in (Or.inr (Or.inr (Or.inl hk))) C.wr
  obtain ⟨j, R, W, hj, h6, hS, hA⟩ := C.att hin
  obtain ⟨f1, f2⟩ := C.sd.find_at (k := 9) ht (by omega) hj h6 hA (by decide)
  have hcc := dW_8 C.p30 C.cp (C.ck hk)
  have hmm := mS_8 C.t4 C.p30 C.mr C.mp (C.mk hk)
  unfold fX5_doRetry at hcc
  unfold fX6_retry at hmm
  have f1' : fX4_latestFirstPart V t 9 = some (acm K p (lst K p 9 (j + 1) (dep K p))) := f1
  have f2' : fX6_latest U (nI t) 9 (U 15 0 0 t) = some (acq K p (lst K p 9 (j + 1) (dep K p))) := f2
  rw [f1', ob_e] at hcc
  rw [gd_of (inb_nI ht (by decide)), nI_clamp (by omega), f2', ob_e] at hmm
  cases hl : lst K p 9 (j + 1) (dep K p) with
  | some J =>
    rw [hl] at hcc hmm
    obtain ⟨l1, l2, l3, l4⟩ := lst_some hl
    have hq6 := C.sd.q6 (q := p) (j := J) (by omega) (by omega)
    have hone := at_one C.good (by omega) hj h6
    obtain ⟨o, m, o1, m1, m2, m3, e1, e2, e3, e4, S⟩ := C.sd.back_all (J := J) ht (by omega) l2 l3 (fun i hi q => by
      by_cases z : i = j
      · omega
      · exact absurd q (hone i hi z))
    rw [if_neg (acm_n hq6.2)] at hcc
    rw [if_neg (acq_n hq6.1)] at hmm
    simp only [acm, acq] at hcc hmm
    unfold fX3_secondPart at hcc
    rw [e1, ob_e, e2, X3_at_ok (show o < 30 by omega) (by decide), ob_e, e3, ob_e, nI_1, X4_go, ob2_e] at hcc
    rw [e4, ob2_e, nI_1, X6_go ht, ob_e] at hmm
    exact ⟨0, _, _, hcc, hmm, i0, C.fin (bkV_o.tr goV_o) (bkU_o.tr goU_o) (S.go (by omega))⟩
  | none =>
    rw [hl] at hcc hmm
    obtain ⟨b, s1, s2⟩ := C.stale hS hA
    rw [if_pos (show acm K p none = -1 from rfl), s1, ob_e] at hcc
    rw [if_pos (show acq K p none < 0 from m1_lt0), s2, ob_e] at hmm
    cases b with
    | true =>
      rw [if_neg (show ¬ bI true = 0 by decide)] at hcc hmm
      rw [ob2_id] at hcc hmm
      exact C.disc hin hcc hmm
    | false =>
      rw [if_pos (show bI false = 0 by decide)] at hcc hmm
      unfold fX4_park at hcc
      rw [X4_undo hA.1 hA.2.1, ob_e, bnd_e, bnd_e, ob2_e, hS.2.2.1] at hcc
      have eL : fX6_retry_L56 40 (undU U t) (nI t) 0 = some (blkF (undU U t) 18 (8 * t) 0 8 (fun _ => 0)) := X6_rt_L ht 40 0 _ (by omega) (by omega)
      rw [X6_undo ht, ob_e, eL, ob_e, gd_of (inb_nI ht (by decide)), bnd_e] at hmm
      obtain ⟨S, e22, e14⟩ := C.sd.undo (by omega) hj h6 hA
      have hol := lvl_lt hj
      have hnA := noAt_o C.good (by omega) hj h6
      refine ⟨3, _, _, hcc, hmm, i3, C.fin ((unV_o.tr (onlyV.st (by omega))).tr (onlyV.st (by omega))) ((unU_o.tr (onlyU.blk (fun idx h1 h2 => ⟨by decide, by decide, by decide, by decide, by show idx / 8 = t; omega⟩))).tr (onlyU.st ⟨by decide, by decide, by decide, by decide, by simp [sz]⟩)) ?_⟩
      obtain ⟨h1, h2, h3, h4, -⟩ := id S
      have gV : ∀ c' i k, ¬ (c' = 10 ∧ (k = 7 ∨ k = 9)) → st (st (unV V t (cm K p j)) 10 t 0 7 (nI R)) 10 t 0 9 2 c' t i k = unV V t (cm K p j) c' t i k := fun c' i k q => by rw [st_get, if_neg (by omega), st_get, if_neg (by omega)]
      have gU : ∀ x idx, ¬ (x = 5 ∨ x = 16 ∨ x = 17 ∨ x = 18 ∨ x = 13) → st (blkF (undU U t) 18 (8 * t) 0 8 (fun _ => 0)) 5 0 0 t 2 x 0 0 idx = eaU (undU U t) t x 0 0 idx := fun x idx q => by rw [st_nc (by omega), blk_nc (by omega), eaU_x (by omega)]
      refine ⟨K, L, 2, R, 0, h1.fr (fun c' k q => gV c' 0 k (by omega)) (fun x idx q _ => gU x idx (by omega)), ⟨by omega, st_eq, st_eq, ?_, ?_, fun r hr => ?_⟩, ⟨hS.1, by omega, ?_, ?_, fun v hv => ⟨?_, ?_, fun q => by rw [Nat.zero_testBit] at q; cases q⟩⟩, Or.inr (Or.inl ⟨rfl, ⟨?_, ?_⟩, rfl, opnr K p j, ⟨by omega, ?_, h2.fr (fun k => gV 15 0 k (by omega)) (fun k => gV 16 0 k (by omega)) (fun k => gV 17 0 k (by omega)), ?_⟩, hnA⟩)⟩
      · rw [gV 10 0 10 (by omega), gU 6 _ (by omega), unV_10, eaU_x (by omega), unU_6, e22, e14]
      · rw [gV 10 0 11 (by omega), gU 7 _ (by omega)]; exact h3.2.2.1
      · rw [gV 19 0 r (by omega), gU 8 _ (by omega)]; exact h3.2.2.2 r hr
      · rw [st_nj (by decide), st_eq]
      · rw [gV 10 0 8 (by omega)]; exact lvV_8
      · rw [st_nc (by decide), blk_nc (by decide), unU_n (by omega)]; exact (hS.2.2.2.2 v hv).1
      · rw [st_nc (by decide), blk_in (by omega) hv, Nat.zero_testBit]; rfl
      · rw [gV 10 0 5 (by omega)]; exact lvV_5
      · rw [st_nc (by decide), blk_nc (by decide)]; exact unU_13
      · rw [gV 10 0 10 (by omega), unV_10]; exact e22
      · have g4 : st (st (unV V t (cm K p j)) 10 t 0 7 (nI R)) 10 t 0 9 2 10 t 0 4 = nI (cm K (opnr K p j) (dep K (opnr K p j))) := by rw [gV 10 0 4 (by omega)]; exact h4.1
        have g20 : st (blkF (undU U t) 18 (8 * t) 0 8 (fun _ => 0)) 5 0 0 t 2 20 0 0 t = nI (cq K (opnr K p j) (dep K (opnr K p j))) := by rw [gU 20 _ (by omega)]; exact h4.2.1
        exact TMd.cut h4 (Nat.le_refl _) (fun i hi => (S.q6 (by omega) (by omega)).1) g4 g20 (fun i c' k _ hc => gV c' i k (by omega)) (fun x d idx _ hx => gU x idx (by have := hx.x; omega))
theorem SD.toss {x : Int32} (S : SD c ver t V U K L p (dep K p)) (ht : t < 4) (hp : p ≤ L) (hpl : V 10 t 0 10 = U 6 0 0 t) (oj : Option Nat) (h : (oj = none ∧ NoA t V U ∧ noAt K p) ∨ ∃ J, oj = some J ∧ J < dep K p ∧ isQ K p J = true ∧ K (opnr K p J) = 15 ∧ ∀ j, j < dep K p → K (opnr K p j) = 6 → j < J) : ∃ V' U', (if acm K p oj = -1 then ob (fX4_fail V t x) (fun V1 => some ((4 : Int32), V1)) else ob (fX4_handle V t (acm K p oj) x) (fun V1 => some (4, V1))) = some (4, V') ∧ fX6_toss_J73 U (nI t) x (acq K p oj) = some (4, U') ∧ onlyV t V V' ∧ onlyU t U U' ∧ TR c ver t V' U' := by
  have hL := S.1.1
  rcases h with ⟨rfl, hN, hno⟩ | ⟨J, rfl, hJ, hQ, h15, hAJ⟩
  · have e0 : fX4_setRegister V t 0 x = some (st V 19 t 0 0 x) := srI (r := 0) (by decide)
    refine ⟨st (st V 19 t 0 0 x) 10 t 0 9 4, st (st U 8 0 0 (4 * t) x) 5 0 0 t 4, ?_, ?_, (onlyV.st (by omega)).tr (onlyV.st (by omega)), (oU8 (r := 0) (by omega)).tr (onlyU.st ⟨by decide, by decide, by decide, by decide, by simp [sz]⟩), ?_⟩
    · unfold fX4_fail
      rw [if_pos (show acm K p none = -1 from rfl), e0, ob_e, bnd_e, ob_e]
    · unfold fX6_toss_J73
      rw [if_neg acq_0, ix_40, gd_of (inb_nI (show 4 * t < 16 by omega) (by decide)), bnd_e, gd_of (inb_nI ht (by decide)), bnd_e, nI_clamp (by omega), nI_clamp (by omega)]
    · obtain ⟨h1, h2, h3, h4, R, W, h5, h7⟩ := S
      obtain ⟨-, hR, hW⟩ : NoA t V U ∧ R = 0 ∧ W = 0 := by
        rcases h7 with ⟨-, b⟩ | ⟨j, b1, b2, -⟩
        · exact b
        · exact absurd b2 (hno j b1)
      subst hR
      subst hW
      have gV : ∀ c' i k, ¬ (c' = 19 ∨ (c' = 10 ∧ k = 9)) → st (st V 19 t 0 0 x) 10 t 0 9 4 c' t i k = V c' t i k := fun c' i k q => by rw [st_get, if_neg (by omega), st_nc (by omega)]
      have gU : ∀ x' idx, ¬ (x' = 8 ∨ x' = 5) → st (st U 8 0 0 (4 * t) x) 5 0 0 t 4 x' 0 0 idx = U x' 0 0 idx := fun x' idx q => by rw [st_nc (by omega), st_nc (by omega)]
      refine TR_idle (K := K) (L := L) (s := 4) (h1.fr (fun c' k q => gV c' 0 k (by omega)) (fun x idx q _ => gU x idx (by omega))) ⟨by omega, st_eq, st_eq, ?_, ?_, fun r hr => ?_⟩ (by decide) (by decide) ?_ ?_ ?_ ?_ (fun v hv => ?_) (fun v hv => ?_)
      · rw [gV 10 0 10 (by omega), gU 6 _ (by omega)]; exact hpl
      · rw [gV 10 0 11 (by omega), gU 7 _ (by omega)]; exact h3.2.2.1
      · rw [st_nc (by decide), st_nc (show 8 ≠ 5 by decide)]
        by_cases q : r = 0
        · subst q
          rw [st_eq, Nat.add_zero, st_eq]
        · rw [st_nj q, st_nj (by omega)]; exact h3.2.2.2 r hr
      · rw [gV 10 0 5 (by omega)]; exact hN.1
      · rw [gV 10 0 7 (by omega)]; exact h5.2.2.1
      · rw [gV 10 0 8 (by omega)]; exact h5.2.2.2.1
      · rw [gU 13 _ (by omega)]; exact hN.2
      · rw [gU 17 _ (by omega), (h5.2.2.2.2 v hv).1, Nat.zero_testBit]; rfl
      · rw [gU 18 _ (by omega), (h5.2.2.2.2 v hv).2.1, Nat.zero_testBit]; rfl
  · have hq6 := S.q6 (q := p) (j := J) hp (by omega)
    obtain ⟨o, m, o1, m1, m2, m3, e1, e2, e3, e4, S2⟩ := S.back_all (J := J) ht hp hJ hQ hAJ
    have hko : K o = 15 := m3.trans h15
    have hkm : K m = 16 := by
      have := mid_kind S.2.1.1 m1 m2
      omega
    obtain ⟨-, -, q1, -, q3⟩ := S2.1.2.2.2 m (by omega)
    rw [hkm] at q3
    obtain ⟨r, hr, ea⟩ := q3.2.1 (by omega)
    refine ⟨goV (st (bkV V t (cm K p J)) 19 t 0 r x) t (nI (m + 1)), goU (st (bkU U t (cq K p J)) 8 0 0 (4 * t + r) x) t (nI (m + 1)), ?_, ?_, (bkV_o.tr (onlyV.st (by omega))).tr goV_o, (bkU_o.tr (oU8 hr)).tr goU_o, ?_⟩
    · rw [if_neg (acm_n hq6.2)]
      simp only [acm]
      unfold fX4_handle fX3_secondPart
      rw [e1, ob_e, e2, X3_middleOf_ok (show o < 30 by omega), ob_e, e3, X3_firstAt_ok (show m < 30 by omega), ob_e, ea, srI hr, ob_e, st_nc (show 10 ≠ 19 by decide), e2, X3_at_ok (show o < 30 by omega) (by decide), ob_e, st_nc (show 16 ≠ 19 by decide), e3, ob_e, nI_1, X4_go, ob2_e, ob_e]
    · unfold fX6_toss_J73
      have h0 : (0 : Int32) ≤ acq K p (some J) := acq_p hq6.1
      rw [if_pos h0]
      simp only [acq]
      rw [e4, ob2_e, ix_30, gd_of (inb_nI (show 30 * t + m < 120 by omega) (by decide)), nI_clamp (show 30 * t + m < 2 ^ 31 by omega), ← q1, ea, ix_4, gd_of (inb_nI (show 4 * t + r < 16 by omega) (by decide)), bnd_e, nI_clamp (by omega), nI_1, X6_go ht, ob_e]
    · exact (S2.reg (by omega) (Nat.le_refl _)).go (by omega)
theorem W_14 (C : Ctx B c n ver t V U K L p) (hk : K p = 14) : StepOK B t V U := by
  obtain ⟨e1, e2, w⟩ := C.ab
  rw [hk] at w
  obtain ⟨r, hr, ea⟩ := w.2.1 (by omega)
  have ht := C.t4
  have hpL := C.pL
  have hL := C.L30
  have hcc := dW_14 C.p30 C.cp (C.ck hk)
  have hmm := mS_14 C.t4 C.p30 C.mr C.mp (C.mk hk)
  rw [ea, rvI hr, ob_e] at hcc
  rw [← e1, ea, ix_4, gd_of (inb_nI (show 4 * t + r < 16 by omega) (by decide)), nI_clamp (by omega), C.rg hr] at hmm
  generalize V 19 t 0 r = x at hcc hmm
  unfold fX5_doThrow fX4_isInAttempt at hcc
  unfold fX6_toss at hmm
  rw [gd_of (inb_nI ht (by decide)), gd_of (inb_nI ht (by decide)), nI_clamp (by omega)] at hmm
  obtain ⟨h1, h2, h3, h4, R, W, hS, h7⟩ := C.sd
  rcases h7 with ⟨b1, b2, b3, b4⟩ | ⟨j, hj, h6, hA⟩
  · -- outside of an attempt
    obtain ⟨f1, f2⟩ := C.sd.find_no (k := 15) ht (by omega) b1 b2 (by decide)
    have f1' : fX4_latestFirstPart V t 15 = some (acm K p (lst K p 15 0 (dep K p))) := f1
    have f2' : fX6_latest U (nI t) 15 0 = some (acq K p (lst K p 15 0 (dep K p))) := f2
    obtain ⟨V', U', t1, t2, t3, t4, t5⟩ := C.sd.toss (x := x) ht (by omega) (by rw [C.cp, C.mp]) (lst K p 15 0 (dep K p)) (by
      cases hl : lst K p 15 0 (dep K p) with
      | none => exact Or.inl ⟨rfl, b2, b1⟩
      | some J =>
        obtain ⟨l1, l2, l3, l4⟩ := lst_some hl
        exact Or.inr ⟨J, rfl, l2, l3, l4, fun i hi q => absurd q (b1 i hi)⟩)
    rw [if_pos b2.1, ob_e, if_pos rfl, f1', ob_e, t1] at hcc
    rw [b2.2, if_pos rfl] at hmm
    unfold fX6_toss_J23 at hmm
    rw [f2', ob_e, gd_of (inb_nI ht (by decide)), nI_clamp (by omega), b2.2, if_pos rfl, t2] at hmm
    refine ⟨4, V', U', hcc, ?_, i4, C.fin t3 t4 t5⟩
    rw [hmm]
    split <;> rfl
  · -- in an attempt
    have hone := at_one C.good (by omega) hj h6
    obtain ⟨f1, f2⟩ := C.sd.find_at (k := 15) ht (by omega) hj h6 hA (by decide)
    have f1' : fX4_latestFirstPart V t 15 = some (acm K p (lst K p 15 (j + 1) (dep K p))) := f1
    have f2' : fX6_latest U (nI t) 15 (U 15 0 0 t) = some (acq K p (lst K p 15 (j + 1) (dep K p))) := f2
    have hA5 := hA.1
    rw [if_neg (by rw [hA.2.1]; exact nI_nm1 (by omega)), ob_e, if_neg i01, f1', ob_e] at hcc
    rw [hA.2.2.1, if_neg i01] at hmm
    unfold fX6_toss_J23 at hmm
    rw [f2', ob_e, gd_of (inb_nI ht (by decide)), nI_clamp (by omega), hA.2.2.1, if_neg i01] at hmm
    cases hl : lst K p 15 (j + 1) (dep K p) with
    | some J =>
      rw [hl] at hcc hmm
      obtain ⟨l1, l2, l3, l4⟩ := lst_some hl
      have hq6 := C.sd.q6 (q := p) (j := J) (by omega) (by omega)
      obtain ⟨V', U', t1, t2, t3, t4, t5⟩ := C.sd.toss (x := x) ht (by omega) (by rw [C.cp, C.mp]) (some J) (Or.inr ⟨J, rfl, l2, l3, l4, fun i hi q => by
        by_cases z : i = j
        · omega
        · exact absurd q (hone i hi z)⟩)
      rw [if_neg (acm_n hq6.2), ob_e, t1] at hcc
      have h0 : (0 : Int32) ≤ acq K p (some J) := acq_p hq6.1
      rw [if_pos h0, t2] at hmm
      exact ⟨4, V', U', hcc, hmm, i4, C.fin t3 t4 t5⟩
    | none =>
      rw [hl] at hcc hmm
      obtain ⟨b, s1, s2⟩ := C.stale hS hA
      rw [if_pos (show acm K p none = -1 from rfl), s1, ob_e] at hcc
      rw [if_neg acq_0, s2, ob_e] at hmm
      have hin : ∃ j, j < dep K p ∧ K (opnr K p j) = 6 := ⟨j, hj, h6⟩
      cases b with
      | true =>
        rw [if_neg (show ¬ bI true = 0 by decide)] at hcc hmm
        rw [ob2_id] at hcc hmm
        exact C.disc hin hcc hmm
      | false =>
        rw [if_pos (show bI false = 0 by decide)] at hcc hmm
        rw [X4_undo hA.1 hA.2.1, ob_e] at hcc
        rw [X6_undo ht, ob_e, X6_ea ht, ob_e] at hmm
        obtain ⟨S, e22, e14⟩ := C.sd.undo (by omega) hj h6 hA
        have hol := lvl_lt hj
        have hnA := noAt_o C.good (by omega) hj h6
        have hN : NoA t (unV V t (cm K p j)) (eaU (undU U t) t) := ⟨lvV_5, eaU_13⟩
        obtain ⟨f1, f2⟩ := S.find_no (k := 15) ht (by omega) hnA hN (by decide)
        have f1'' : fX4_latestFirstPart (unV V t (cm K p j)) t 15 = some (acm K (opnr K p j) (lst K (opnr K p j) 15 0 (dep K (opnr K p j)))) := f1
        have f2'' : fX6_latest (eaU (undU U t) t) (nI t) 15 0 = some (acq K (opnr K p j) (lst K (opnr K p j) 15 0 (dep K (opnr K p j)))) := f2
        obtain ⟨V', U', t1, t2, t3, t4, t5⟩ := S.toss (x := x) ht (by omega) (by rw [unV_10, eaU_x (by omega), unU_6, e22, e14]) (lst K (opnr K p j) 15 0 (dep K (opnr K p j))) (by
          cases hl2 : lst K (opnr K p j) 15 0 (dep K (opnr K p j)) with
          | none => exact Or.inl ⟨rfl, hN, hnA⟩
          | some J =>
            obtain ⟨l1, l2, l3, l4⟩ := lst_some hl2
            exact Or.inr ⟨J, rfl, l2, l3, l4, fun i hi q => absurd q (hnA i hi)⟩)
        rw [f1'', ob_e, t1] at hcc
        rw [f2'', ob_e, t2] at hmm
        exact ⟨4, V', U', hcc, hmm, i4, C.fin (unV_o.tr t3) ((unU_o.tr onlyU.ea).tr t4) t5⟩
end RT
