/-! words that set a mark or take one away -/
section MK
variable {K : Nat → Nat} {V U V' U' : Sto} {B c n t L p : Nat} {ver : Nat → Nat}
theorem TMd.add {q m : Nat} (h : TMd t V U K q m) (hM : isM K q m = true) (h4 : V' 10 t 0 4 = nI (cm K q m + 1)) (h20 : U' 20 0 0 t = nI (cq K q (m + 1))) (hV : ∀ i c j, i < cm K q m → (c = 22 ∨ c = 23 ∨ c = 24) → V' c t i j = V c t i j) (hU : ∀ x d idx, d < cq K q m → cP t x d idx → U' x 0 0 idx = U x 0 0 idx) (h3 : V' 22 t (cm K q m) 3 = nI (opnr K q m)) (hQ : isQ K q m = true → PRel t V' U' (cm K q m) (cq K q m) (opnr K q m) ∧ ((∀ i, i < m → K (opnr K q i) ≠ 6) → V' 22 t (cm K q m) 2 = 0)) : TMd t V' U' K q (m + 1) := by
  obtain ⟨h1, h2, h5, h6⟩ := h
  refine ⟨by rw [cm_s1 hM]; exact h4, h20, fun j hj hMj => ?_, fun j hj hQj => ?_⟩
  · by_cases e : j = m
    · subst e; exact h3
    · have hjm : j < m := by omega
      rw [hV _ 22 3 (cm_lt hjm hMj) (by omega)]; exact h5 j hjm hMj
  · by_cases e : j = m
    · subst e; exact hQ hQj
    · have hjm : j < m := by omega
      have hi := cm_lt hjm (isQ_M hQj)
      have hd := cq_lt hjm hQj
      obtain ⟨⟨a1, a2, w, a3, a4, a5⟩, a6⟩ := h6 j hjm hQj
      refine ⟨⟨by rw [hU 21 _ _ hd (Or.inl ⟨rfl, rfl⟩)]; exact a1, fun r hr => by rw [hV _ 23 r hi (by omega), hU 22 _ _ hd (Or.inr (Or.inl ⟨rfl, r, hr, rfl⟩))]; exact a2 r hr, w, a3, by rw [hV _ 22 2 hi (by omega)]; exact a4, fun v hv => ?_⟩, fun q => by rw [hV _ 22 2 hi (by omega)]; exact a6 q⟩
      rw [hU 23 _ _ hd (Or.inr (Or.inr ⟨Or.inl rfl, v, hv, rfl⟩)), hV _ 24 v hi (by omega), hU 24 _ _ hd (Or.inr (Or.inr ⟨Or.inr rfl, v, hv, rfl⟩))]
      exact a5 v hv
/-- a mark is set -/
def ntV (V : Sto) (t i : Nat) : Sto := st (cpS (cpS (st (st V 22 t i 3 (V 10 t 0 10)) 22 t i 2 (V 10 t 0 8)) 19 t 0 23 t i 4) 20 t 0 24 t i 8) 10 t 0 4 (nI (i + 1))
theorem X4_note {i : Nat} (hi : i < 5) (h4 : V 10 t 0 4 = nI i) (h10 : V 10 t 0 10 = nI p) : fX4_noteAndGoOn V t = some (0, goV (ntV V t i) t (nI (p + 1))) := by
  unfold fX4_noteAndGoOn ntV
  rw [h4, if_neg (show ¬ (5 : Int32) ≤ nI i from nI_ge (b := 5) hi (by decide)), gd_of (inb_nI hi (by decide)), nI_clamp (by omega)]
  simp only [bnd_e]
  rw [st_nc (show 10 ≠ 22 by decide), cpS_get, if_neg (by omega), cpS_get, if_neg (by omega), st_nc (show 10 ≠ 22 by decide), st_nc (show 10 ≠ 22 by decide), h4, nI_1]
  rw [X4_go, ob2_e, st_nj (show 10 ≠ 4 by decide), cpS_get, if_neg (by omega), cpS_get, if_neg (by omega), st_nc (show 10 ≠ 22 by decide), st_nc (show 10 ≠ 22 by decide), h10, nI_1]
theorem ntV_o {i : Nat} : onlyV t V (ntV V t i) := ((((onlyV.st (by omega)).tr (onlyV.st (by omega))).tr (onlyV.cp (by omega))).tr (onlyV.cp (by omega))).tr (onlyV.st (by omega))
theorem ntV_n {i c' i' j : Nat} (h : ¬ ((c' = 22 ∨ c' = 23 ∨ c' = 24) ∧ i' = i)) (h2 : ¬ (c' = 10 ∧ j = 4)) : ntV V t i c' t i' j = V c' t i' j := by
  unfold ntV
  rw [st_get, if_neg (by omega), cpS_get, if_neg (by omega), cpS_get, if_neg (by omega), st_get, if_neg (by omega), st_get, if_neg (by omega)]
theorem ntV_4 {i : Nat} : ntV V t i 10 t 0 4 = nI (i + 1) := by unfold ntV; rw [st_eq]
theorem ntV_3 {i : Nat} : ntV V t i 22 t i 3 = V 10 t 0 10 := by
  unfold ntV
  rw [st_nc (by decide), cpS_get, if_neg (by omega), cpS_get, if_neg (by omega), st_nj (by decide), st_eq]
theorem ntV_2 {i : Nat} : ntV V t i 22 t i 2 = V 10 t 0 8 := by
  unfold ntV
  rw [st_nc (by decide), cpS_get, if_neg (by omega), cpS_get, if_neg (by omega), st_eq]
theorem ntV_23 {i r : Nat} (hr : r < 4) : ntV V t i 23 t i r = V 19 t 0 r := by
  unfold ntV
  rw [st_nc (by decide), cpS_get, if_neg (by omega), cpS_get, if_pos ⟨rfl, rfl, rfl, hr⟩, st_nc (by decide), st_nc (by decide)]
theorem ntV_24 {i v : Nat} (hv : v < 8) : ntV V t i 24 t i v = V 20 t 0 v := by
  unfold ntV
  rw [st_nc (by decide), cpS_get, if_pos ⟨rfl, rfl, rfl, hv⟩, cpS_get, if_neg (by omega), st_nc (by decide), st_nc (by decide)]
theorem begU_n {x idx : Nat} (h : ¬ (x = 9 ∨ x = 13 ∨ x = 14 ∨ x = 15 ∨ x = 16 ∨ x = 17 ∨ x = 18)) : begU U t x 0 0 idx = U x 0 0 idx := by
  unfold begU
  rw [blk_nc (by omega), st_nc (by omega), st_nc (by omega), st_nc (by omega), eaU_x (by omega)]
theorem begU_b {x v : Nat} (hx : x = 16 ∨ x = 17 ∨ x = 18) (hv : v < 8) : begU U t x 0 0 (8 * t + v) = 0 := by
  unfold begU
  rw [blk_nc (by omega), st_nc (by omega), st_nc (by omega), st_nc (by omega), eaU_b hx hv]
theorem begU_13 : begU U t 13 0 0 t = 1 := by
  unfold begU
  rw [blk_nc (by omega), st_nc (by omega), st_nc (by omega), st_eq]
theorem begU_14 : begU U t 14 0 0 t = U 6 0 0 t := by
  unfold begU
  rw [blk_nc (by omega), st_nc (by omega), st_eq]
theorem begU_15 : begU U t 15 0 0 t = U 20 0 0 t := by
  unfold begU
  rw [blk_nc (by omega), st_eq]
theorem begU_9 {r : Nat} (hr : r < 4) : begU U t 9 0 0 (4 * t + r) = U 8 0 0 (4 * t + r) := by
  unfold begU
  rw [blk_in (by omega) hr]
theorem begU_o : onlyU t U (begU U t) := (((onlyU.ea.tr (onlyU.st ⟨by decide, by decide, by decide, by decide, by simp [sz]⟩)).tr (onlyU.st ⟨by decide, by decide, by decide, by decide, by simp [sz]⟩)).tr (onlyU.st ⟨by decide, by decide, by decide, by decide, by simp [sz]⟩)).tr (onlyU.blk (fun idx h1 h2 => ⟨by decide, by decide, by decide, by decide, by show idx / 4 = t; omega⟩))
theorem W_6 (C : Ctx B c n ver t V U K L p) (hk : K p = 6) : StepOK B t V U := by
  have ht := C.t4
  have hpL := C.pL
  have ho : opn (K p) = true := by rw [hk]; rfl
  have hd := wrg_dep (by rw [hk]; decide) C.wr ho
  have hno := wrg_out (Or.inl hk) C.wr
  obtain ⟨h1, h2, h3, h4, R, W, h5, h7⟩ := C.sd
  obtain ⟨⟨hc, hn, hB⟩, hG, -⟩ := id C
  have hcm := cm_cq hno
  have hA5 : cm K p (dep K p) < 5 := by have := @cm_le K p (dep K p); omega
  obtain ⟨hNo, hR, hW⟩ : NoA t V U ∧ R = 0 ∧ W = 0 := by
    rcases h7 with ⟨-, b⟩ | ⟨j, b1, b2, -⟩
    · exact b
    · exact absurd b2 (hno j b1)
  subst hR
  subst hW
  have gV : ∀ c' i j, ¬ ((c' = 22 ∨ c' = 23 ∨ c' = 24) ∧ i = cm K p (dep K p)) → ¬ (c' = 10 ∧ (j = 4 ∨ j = 5 ∨ j = 6)) → ntV (st (st V 10 t 0 5 (V 10 t 0 4)) 10 t 0 6 (V 1 0 0 2)) t (cm K p (dep K p)) c' t i j = V c' t i j := fun c' i j q1 q2 => by
    rw [ntV_n q1 (by omega), st_get, if_neg (by omega), st_get, if_neg (by omega)]
  have eC : fX5_doWord V t = some (0, goV (ntV (st (st V 10 t 0 5 (V 10 t 0 4)) 10 t 0 6 (V 1 0 0 2)) t (cm K p (dep K p))) t (nI (p + 1))) := by
    rw [dW_6 C.p30 C.cp (C.ck hk)]
    unfold fX4_beginAttempt
    rw [bnd_e, bnd_e, X4_note (p := p) hA5 (by rw [st_nj (by decide), st_nj (by decide)]; exact h4.1) (by rw [st_nj (by decide), st_nj (by decide)]; exact C.cp), ob2_e]
  have eU : fX6_step U (nI t) = some (0, goU (begU U t) t (nI (p + 1))) := by
    rw [mS_6 C.t4 C.p30 C.mr C.mp (C.mk hk), X6_begin ht, ob_e]
    unfold fX6_plain
    rw [if_neg (by decide), if_neg (by decide), if_neg (by decide), if_neg (by decide), gd_of (inb_nI ht (by decide)), nI_clamp (by omega), begU_n (by omega), C.mp, nI_1, X6_go ht, ob_e, ob_e]
  refine ⟨0, _, _, eC, eU, i0, C.fin ((((onlyV.st (by omega)).tr (onlyV.st (by omega))).tr ntV_o).tr goV_o) (begU_o.tr goU_o) (SD.go (K := K) (L := L) ?_ (by omega))⟩
  have hag := agr_o ho
  have htop := top_o ho
  have hM : isM K (p + 1) (dep K p) = true := isM_6 (by rw [htop.1]; exact hk)
  have hnQ : isQ K (p + 1) (dep K p) = false := by unfold isQ; rw [htop.1, hk]; simp
  have ecm : cm K (p + 1) (dep K p) = cm K p (dep K p) := (cm_agr hag).symm
  have ecq : cq K (p + 1) (dep K p) = cq K p (dep K p) := (cq_agr hag).symm
  rw [dep_o ho]
  refine ⟨h1.fr (fun c' j q => gV c' 0 j (by omega) (by omega)) (fun x idx q _ => begU_n (by omega)), h2.fr (fun j => gV 15 0 j (by omega) (by omega)) (fun j => gV 16 0 j (by omega) (by omega)) (fun j => gV 17 0 j (by omega) (by omega)), ⟨by rw [gV 10 0 9 (by omega) (by omega)]; exact h3.1, by rw [begU_n (by omega)]; exact h3.2.1, by rw [gV 10 0 11 (by omega) (by omega), begU_n (by omega)]; exact h3.2.2.1, fun r hr => by rw [gV 19 0 r (by omega) (by omega), begU_n (by omega)]; exact h3.2.2.2 r hr⟩, ?_, 0, 0, ⟨by omega, by omega, by rw [gV 10 0 7 (by omega) (by omega)]; exact h5.2.2.1, by rw [gV 10 0 8 (by omega) (by omega)]; exact h5.2.2.2.1, fun v hv => ⟨by rw [begU_b (by omega) hv, Nat.zero_testBit]; rfl, by rw [begU_b (by omega) hv, Nat.zero_testBit]; rfl, fun q => by rw [Nat.zero_testBit] at q; cases q⟩⟩, Or.inr ⟨dep K p, by omega, by rw [htop.1]; exact hk, ?_⟩⟩
  · have g4 : ntV (st (st V 10 t 0 5 (V 10 t 0 4)) 10 t 0 6 (V 1 0 0 2)) t (cm K p (dep K p)) 10 t 0 4 = nI (cm K (p + 1) (dep K p) + 1) := by rw [ntV_4, ecm]
    have g20 : begU U t 20 0 0 t = nI (cq K (p + 1) (dep K p + 1)) := by rw [begU_n (by omega), cq_s0 hnQ, ecq]; exact h4.2.1
    refine TMd.add (h4.agr hag) hM g4 g20 (fun i c' j hi hc => gV c' i j (by omega) (by omega)) (fun x d idx _ hx => begU_n (by have := hx.x; omega)) ?_ (fun q => by rw [hnQ] at q; cases q)
    rw [ecm, ntV_3, st_nj (by decide), st_nj (by decide), htop.1]
    exact C.cp
  · rw [ecm]
    refine ⟨hA5, ?_, begU_13, by rw [begU_15, h4.2.1, hcm], ⟨c, Nat.le_refl _, ?_, fun v hv => ?_⟩, ?_, fun r hr => ?_, ?_⟩
    · rw [ntV_n (by omega) (by omega), st_nj (by decide), st_eq]; exact h4.1
    · rw [ntV_n (by omega) (by omega), st_eq]; exact hG.1
    · rw [begU_b (by omega) hv, decide_eq_false (by have := (hG.2.2.2.2.1 v hv).2.2.1; omega)]; rfl
    · rw [begU_14, ntV_3, st_nj (by decide), st_nj (by decide), C.mp, C.cp]
    · rw [begU_9 hr, ntV_23 hr, st_nc (by decide), st_nc (by decide)]; exact (h3.2.2.2 r hr).symm
    · rw [ntV_2, st_nj (by decide), st_nj (by decide)]; exact h5.2.2.2.1
/-- a part begins -/
def bpU (U : Sto) (t q : Nat) : Sto := st (blkF (blkF (blkF (st U 21 0 0 (6 * t + q) (U 6 0 0 t)) 22 (4 * (6 * t + q)) 0 4 (fun j => U 8 0 0 (4 * t + j))) 23 (8 * (6 * t + q)) 0 8 (fun j => U 18 0 0 (8 * t + j))) 24 (8 * (6 * t + q)) 0 8 (fun j => U 19 0 0 (8 * t + j))) 20 0 0 t (nI (q + 1))
theorem X6_bp {q : Nat} (ht : t < 4) (hq : q < 6) (h20 : U 20 0 0 t = nI q) (h6 : U 6 0 0 t = nI p) (h18 : ∀ j, j < 8 → nb (U 18 0 0 (8 * t + j)) = U 18 0 0 (8 * t + j)) : fX6_beginPart U (nI t) = some (goU (bpU U t q) t (nI (p + 1))) := by
  unfold fX6_beginPart
  simp only [gd_of (inb_nI ht (show 4 < 2 ^ 31 by decide)), nI_clamp (show t < 2 ^ 31 by omega), h20, ix_6, gd_of (inb_nI (show 6 * t + q < 24 by omega) (show 24 < 2 ^ 31 by decide)), nI_clamp (show 6 * t + q < 2 ^ 31 by omega), bnd_e]
  have e1 : fX6_beginPart_L26 40 (st U 21 0 0 (6 * t + q) (U 6 0 0 t)) (nI t) (nI (6 * t + q)) 0 = some (blkF (st U 21 0 0 (6 * t + q) (U 6 0 0 t)) 22 (4 * (6 * t + q)) 0 4 (fun j => U 8 0 0 (4 * t + j))) := X6_bp_L26 ht (by omega) (fun j => U 8 0 0 (4 * t + j)) 40 0 _ (by omega) (by omega) (fun j hj => st_nc (by decide))
  have e2 : fX6_beginPart_L59 40 (blkF (st U 21 0 0 (6 * t + q) (U 6 0 0 t)) 22 (4 * (6 * t + q)) 0 4 (fun j => U 8 0 0 (4 * t + j))) (nI t) (nI (6 * t + q)) 0 = some (blkF (blkF (blkF (st U 21 0 0 (6 * t + q) (U 6 0 0 t)) 22 (4 * (6 * t + q)) 0 4 (fun j => U 8 0 0 (4 * t + j))) 23 (8 * (6 * t + q)) 0 8 (fun j => U 18 0 0 (8 * t + j))) 24 (8 * (6 * t + q)) 0 8 (fun j => U 19 0 0 (8 * t + j))) := X6_bp_L59 ht (by omega) (fun j => U 18 0 0 (8 * t + j)) (fun j => U 19 0 0 (8 * t + j)) h18 40 0 _ (by omega) (by omega) (fun j hj => by rw [blk_nc (by decide), st_nc (by decide)]) (fun j hj => by rw [blk_nc (by decide), st_nc (by decide)])
  rw [e1, ob_e, e2, ob_e]
  rw [blk_nc (show 20 ≠ 24 by decide), blk_nc (show 20 ≠ 23 by decide), blk_nc (show 20 ≠ 22 by decide), st_nc (show 20 ≠ 21 by decide), h20, nI_1, st_nc (show 6 ≠ 20 by decide), blk_nc (show 6 ≠ 24 by decide), blk_nc (show 6 ≠ 23 by decide), blk_nc (show 6 ≠ 22 by decide), st_nc (show 6 ≠ 21 by decide), X6_go ht, ob_e]
  unfold bpU
  rw [h6, nI_1]
theorem bpU_n {q x idx : Nat} (h : ¬ (x = 20 ∨ x = 21 ∨ x = 22 ∨ x = 23 ∨ x = 24)) : bpU U t q x 0 0 idx = U x 0 0 idx := by
  unfold bpU
  rw [st_nc (by omega), blk_nc (by omega), blk_nc (by omega), blk_nc (by omega), st_nc (by omega)]
theorem bpU_20 {q : Nat} : bpU U t q 20 0 0 t = nI (q + 1) := by unfold bpU; rw [st_eq]
theorem bpU_21 {q : Nat} : bpU U t q 21 0 0 (6 * t + q) = U 6 0 0 t := by
  unfold bpU
  rw [st_nc (by omega), blk_nc (by omega), blk_nc (by omega), blk_nc (by omega), st_eq]
theorem bpU_22 {q r : Nat} (hr : r < 4) : bpU U t q 22 0 0 (4 * (6 * t + q) + r) = U 8 0 0 (4 * t + r) := by
  unfold bpU
  rw [st_nc (by omega), blk_nc (by omega), blk_nc (by omega), blk_in (by omega) hr]
theorem bpU_23 {q v : Nat} (hv : v < 8) : bpU U t q 23 0 0 (8 * (6 * t + q) + v) = U 18 0 0 (8 * t + v) := by
  unfold bpU
  rw [st_nc (by omega), blk_nc (by omega), blk_in (by omega) hv]
theorem bpU_24 {q v : Nat} (hv : v < 8) : bpU U t q 24 0 0 (8 * (6 * t + q) + v) = U 19 0 0 (8 * t + v) := by
  unfold bpU
  rw [st_nc (by omega), blk_in (by omega) hv]
theorem bpU_lo {q d x idx : Nat} (hd : d < q) (hx : cP t x d idx) : bpU U t q x 0 0 idx = U x 0 0 idx := by
  unfold bpU
  rcases hx with ⟨rfl, rfl⟩ | ⟨rfl, r, hr, rfl⟩ | ⟨rfl | rfl, v, hv, rfl⟩
  · rw [st_nc (by omega), blk_nc (by omega), blk_nc (by omega), blk_nc (by omega), st_nj (by omega)]
  · rw [st_nc (by omega), blk_nc (by omega), blk_nc (by omega), blk_out (by omega), st_nc (by omega)]
  · rw [st_nc (by omega), blk_nc (by omega), blk_out (by omega), blk_nc (by omega), st_nc (by omega)]
  · rw [st_nc (by omega), blk_out (by omega), blk_nc (by omega), blk_nc (by omega), st_nc (by omega)]
theorem bpU_o {q : Nat} (hq : q < 6) : onlyU t U (bpU U t q) := ((((onlyU.st ⟨by decide, by decide, by decide, by decide, by show (6 * t + q) / 6 = t; omega⟩).tr (onlyU.blk (fun idx h1 h2 => ⟨by decide, by decide, by decide, by decide, by show idx / 24 = t; omega⟩))).tr (onlyU.blk (fun idx h1 h2 => ⟨by decide, by decide, by decide, by decide, by show idx / 48 = t; omega⟩))).tr (onlyU.blk (fun idx h1 h2 => ⟨by decide, by decide, by decide, by decide, by show idx / 48 = t; omega⟩))).tr (onlyU.st ⟨by decide, by decide, by decide, by decide, by simp [sz]⟩)
theorem W_9x (C : Ctx B c n ver t V U K L p) (hk : K p = 9 ∨ K p = 15) (eC : fX5_doWord V t = fX4_noteAndGoOn V t) (eU : fX6_step U (nI t) = ob (fX6_beginPart U (nI t)) (fun V1 => some (0, V1))) : StepOK B t V U := by
  have ht := C.t4
  have hpL := C.pL
  have ho : opn (K p) = true := by rcases hk with z | z <;> rw [z] <;> rfl
  have hd := wrg_dep (by omega) C.wr ho
  obtain ⟨h1, h2, h3, h4, R, W, h5, h7⟩ := C.sd
  have hA5 : cm K p (dep K p) < 5 := by have := @cm_le K p (dep K p); omega
  have hq6 : cq K p (dep K p) < 6 := (C.sd.q6 (by omega) (Nat.le_refl _)).1
  rw [X4_note hA5 h4.1 C.cp] at eC
  rw [X6_bp ht hq6 h4.2.1 C.mp (fun j hj => by rw [(h5.2.2.2.2 j hj).2.1, nb_bI]), ob_e] at eU
  refine ⟨0, _, _, eC, eU, i0, C.fin (ntV_o.tr goV_o) ((bpU_o hq6).tr goU_o) (SD.go (K := K) (L := L) ?_ (by omega))⟩
  have hag := agr_o ho
  have htop := top_o ho
  have hM : isM K (p + 1) (dep K p) = true := isM_k (by rw [htop.1]; exact hk) htop.2
  have h6n : K (opnr K (p + 1) (dep K p)) ≠ 6 := by rw [htop.1]; omega
  have hQ := isQ_of hM h6n
  have ecm : cm K (p + 1) (dep K p) = cm K p (dep K p) := (cm_agr hag).symm
  have ecq : cq K (p + 1) (dep K p) = cq K p (dep K p) := (cq_agr hag).symm
  rw [dep_o ho]
  have gV : ∀ c' i j, ¬ ((c' = 22 ∨ c' = 23 ∨ c' = 24) ∧ i = cm K p (dep K p)) → ¬ (c' = 10 ∧ j = 4) → ntV V t (cm K p (dep K p)) c' t i j = V c' t i j := fun c' i j q1 q2 => ntV_n q1 q2
  refine ⟨h1.fr (fun c' j q => gV c' 0 j (by omega) (by omega)) (fun x idx q _ => bpU_n (by omega)), h2.fr (fun j => gV 15 0 j (by omega) (by omega)) (fun j => gV 16 0 j (by omega) (by omega)) (fun j => gV 17 0 j (by omega) (by omega)), ⟨by rw [gV 10 0 9 (by omega) (by omega)]; exact h3.1, by rw [bpU_n (by omega)]; exact h3.2.1, by rw [gV 10 0 11 (by omega) (by omega), bpU_n (by omega)]; exact h3.2.2.1, fun r hr => by rw [gV 19 0 r (by omega) (by omega), bpU_n (by omega)]; exact h3.2.2.2 r hr⟩, ?_, R, W, ⟨h5.1, h5.2.1, by rw [gV 10 0 7 (by omega) (by omega)]; exact h5.2.2.1, by rw [gV 10 0 8 (by omega) (by omega)]; exact h5.2.2.2.1, fun v hv => by rw [bpU_n (by omega), bpU_n (by omega), bpU_n (by omega), gV 20 0 v (by omega) (by omega)]; exact h5.2.2.2.2 v hv⟩, ?_⟩
  · have g4 : ntV V t (cm K p (dep K p)) 10 t 0 4 = nI (cm K (p + 1) (dep K p) + 1) := by rw [ntV_4, ecm]
    have g20 : bpU U t (cq K p (dep K p)) 20 0 0 t = nI (cq K (p + 1) (dep K p + 1)) := by rw [bpU_20, cq_s1 hQ, ecq]
    refine TMd.add (h4.agr hag) hM g4 g20 (fun i c' j hi hc => gV c' i j (by omega) (by omega)) (fun x d idx hd hx => bpU_lo (by omega) hx) ?_ (fun _ => ⟨⟨?_, fun r hr => ?_, W, h5.2.1, ?_, fun v hv => ?_⟩, fun q => ?_⟩)
    · rw [ecm, ntV_3, htop.1]; exact C.cp
    · rw [ecq, bpU_21, htop.1]; exact C.mp
    · rw [ecm, ecq, ntV_23 hr, bpU_22 hr]; exact h3.2.2.2 r hr
    · rw [ecm, ntV_2]; exact h5.2.2.2.1
    · rw [ecm, ecq, bpU_23 hv, bpU_24 hv, ntV_24 hv]; exact (h5.2.2.2.2 v hv).2
    · rw [ecm, ntV_2, h5.2.2.2.1]
      rcases h7 with ⟨-, -, -, b⟩ | ⟨j, b1, b2, -⟩
      · rw [b]; rfl
      · exact absurd b2 (by rw [(hag j b1).1]; exact q j b1)
  · have h8 : ATd c ver t (ntV V t (cm K p (dep K p))) (bpU U t (cq K p (dep K p))) K p (dep K p) R W := by
      rcases h7 with ⟨b1, b2, b3, b4⟩ | ⟨j, b1, b2, b3⟩
      · exact Or.inl ⟨b1, ⟨by rw [gV 10 0 5 (by omega) (by omega)]; exact b2.1, by rw [bpU_n (by omega)]; exact b2.2⟩, b3, b4⟩
      · have := cm_lt b1 (isM_6 b2)
        exact Or.inr ⟨j, b1, b2, b3.fr (fun j _ => gV 10 0 j (by omega) (by omega)) (fun c' j _ => gV c' _ j (by omega) (by omega)) (fun x idx _ => bpU_n (by omega))⟩
    exact (h8.agr hag).up h6n
theorem W_9 (C : Ctx B c n ver t V U K L p) (hk : K p = 9) : StepOK B t V U := W_9x C (Or.inl hk) (dW_9 C.p30 C.cp (C.ck hk)) (mS_9 C.t4 C.p30 C.mr C.mp (C.mk hk))
theorem W_15 (C : Ctx B c n ver t V U K L p) (hk : K p = 15) : StepOK B t V U := W_9x C (Or.inr hk) (dW_15 C.p30 C.cp (C.ck hk)) (mS_15 C.t4 C.p30 C.mr C.mp (C.mk hk))
theorem W_10x (C : Ctx B c n ver t V U K L p) (hk : K p = 10 ∨ K p = 16) {k x : Int32} (hk1 : k ≠ 11) (hk3 : k ≠ 13) (eC : fX5_doWord V t = fX4_endFirstPart V t) (eU : fX6_step U (nI t) = ob (fX6_branch (st U 20 0 0 t (U 20 0 0 t - 1)) (nI t) k x) (fun V1 => some (0, V1))) : StepOK B t V U := by
  have ht := C.t4
  have hpL := C.pL
  have hL := C.L30
  have hmd : midk (K p) = true := by rcases hk with z | z <;> rw [z] <;> rfl
  obtain ⟨o, e, a1, a2, a3, a4, a5, a6, a7⟩ := C.sd.2.1.two hpL hmd
  have hko : K o = 9 ∨ K o = 15 := by
    have := mid_kind C.good hpL a6
    omega
  obtain ⟨h1, h2, h3, h4, R, W, h5, h7⟩ := C.sd
  have hdp := a6.2.2.2.1
  have hM : isM K p (dep K o) = true := isM_k (by rw [a6.2.2.2.2.1]; exact hko) a6.2.2.2.2.2
  have h6n : K (opnr K p (dep K o)) ≠ 6 := by rw [a6.2.2.2.2.1]; omega
  have hQ := isQ_of hM h6n
  rw [hdp] at h4 h7
  have v4 : V 10 t 0 4 = nI (cm K p (dep K o) + 1) := by rw [← cm_s1 hM]; exact h4.1
  have u20 : U 20 0 0 t = nI (cq K p (dep K o) + 1) := by rw [← cq_s1 hQ]; exact h4.2.1
  have hc6 : ∀ j, j ≤ dep K o → cq K p j < 6 ∧ cm K p j < 6 := fun j hj => C.sd.q6 (by omega) (by omega)
  have hcm6 := hc6 (dep K o) (Nat.le_refl _)
  unfold fX4_endFirstPart fX3_behindEnd at eC
  rw [v4, if_neg (show ¬ nI (cm K p (dep K o) + 1) ≤ 0 from nI_nle (by omega) (by omega)), nI_s1 (by omega), Nat.add_sub_cancel, bnd_e, st_nj (show 10 ≠ 4 by decide), C.cp, X3_at_ok C.p30 (by decide), ob_e, st_nc (show 15 ≠ 10 by decide), a4, X3_at_ok (show o < 30 by omega) (by decide), ob_e, st_nc (show 17 ≠ 10 by decide), a5, ob_e, nI_1, X4_go, ob2_e] at eC
  have S : SD c ver t (st V 10 t 0 4 (nI (cm K p (dep K o)))) (st U 20 0 0 t (nI (cq K p (dep K o)))) K L p (dep K o) := by
    have gV : ∀ c' i j, ¬ (c' = 10 ∧ j = 4) → st V 10 t 0 4 (nI (cm K p (dep K o))) c' t i j = V c' t i j := fun c' i j q => by rw [st_get, if_neg (by omega)]
    have gU : ∀ x idx, x ≠ 20 → st U 20 0 0 t (nI (cq K p (dep K o))) x 0 0 idx = U x 0 0 idx := fun x idx q => st_nc q
    refine ⟨h1.fr (fun c' j q => gV c' 0 j (by omega)) (fun x idx q _ => gU x idx (by omega)), h2.fr (fun j => gV 15 0 j (by omega)) (fun j => gV 16 0 j (by omega)) (fun j => gV 17 0 j (by omega)), ⟨by rw [gV 10 0 9 (by omega)]; exact h3.1, by rw [gU 5 _ (by omega)]; exact h3.2.1, by rw [gV 10 0 11 (by omega), gU 7 _ (by omega)]; exact h3.2.2.1, fun r hr => by rw [gV 19 0 r (by omega), gU 8 _ (by omega)]; exact h3.2.2.2 r hr⟩, ?_, R, W, ⟨h5.1, h5.2.1, by rw [gV 10 0 7 (by omega)]; exact h5.2.2.1, by rw [gV 10 0 8 (by omega)]; exact h5.2.2.2.1, fun v hv => by rw [gU 17 _ (by omega), gU 18 _ (by omega), gU 19 _ (by omega), gV 20 0 v (by omega)]; exact h5.2.2.2.2 v hv⟩, ?_⟩
    · exact TMd.cut h4 (by omega) (fun j hj => (hc6 j (by omega)).1) st_eq st_eq (fun i c' j _ hc => gV c' i j (by omega)) (fun x d idx _ hx => gU x idx (by have := hx.x; omega))
    · have h8 := h7.dn h6n
      rcases h8 with ⟨b1, b2, b3, b4⟩ | ⟨j, b1, b2, b3⟩
      · exact Or.inl ⟨b1, ⟨by rw [gV 10 0 5 (by omega)]; exact b2.1, by rw [gU 13 _ (by omega)]; exact b2.2⟩, b3, b4⟩
      · exact Or.inr ⟨j, b1, b2, b3.fr (fun j _ => gV 10 0 j (by omega)) (fun c' j _ => gV c' _ j (by omega)) (fun x idx _ => gU x idx (by omega))⟩
  rw [u20, nI_s1 (by omega), Nat.add_sub_cancel, br_45 (p := p) (q := e) ht (by rw [st_nc (by decide)]; exact C.mp) hk1 hk3 (X6_pt_mid ht hL S.1.mok S.1.2.2.1 a3 a7 a6 a2), ob_e] at eU
  exact ⟨0, _, _, eC, eU, i0, C.fin ((onlyV.st (by omega)).tr goV_o) ((onlyU.st ⟨by decide, by decide, by decide, by decide, by simp [sz]⟩).tr goU_o) ((S.out (by omega) a6.2.2.2.2.1 a7).go (by omega))⟩
theorem W_10 (C : Ctx B c n ver t V U K L p) (hk : K p = 10) : StepOK B t V U := W_10x C (Or.inl hk) (k := nI 10) (by decide) (by decide) (dW_10 C.p30 C.cp (C.ck hk)) (mS_10 C.t4 C.p30 C.mr C.mp (C.mk hk))
theorem W_16 (C : Ctx B c n ver t V U K L p) (hk : K p = 16) : StepOK B t V U := W_10x C (Or.inr hk) (k := nI 16) (by decide) (by decide) (dW_16 C.p30 C.cp (C.ck hk)) (mS_16 C.t4 C.p30 C.mr C.mp (C.mk hk))
end MK
