/-! the latest part that has begun, and going back to it -/
def lst (K : Nat → Nat) (p k lo : Nat) : Nat → Option Nat
  | 0 => none
  | n + 1 => if lo ≤ n ∧ isQ K p n = true ∧ K (opnr K p n) = k then some n else lst K p k lo n
def acm (K : Nat → Nat) (p : Nat) : Option Nat → Int32
  | none => -1
  | some j => nI (cm K p j)
def acq (K : Nat → Nat) (p : Nat) : Option Nat → Int32
  | none => -1
  | some j => nI (cq K p j)
section BK
variable {K : Nat → Nat} {V U V' U' : Sto} {B c n t L p : Nat} {ver : Nat → Nat}
theorem lst_some {k lo m j : Nat} (h : lst K p k lo m = some j) : lo ≤ j ∧ j < m ∧ isQ K p j = true ∧ K (opnr K p j) = k := by
  induction m with
  | zero => cases h
  | succ m ih =>
    simp only [lst] at h
    by_cases q : lo ≤ m ∧ isQ K p m = true ∧ K (opnr K p m) = k
    · rw [if_pos q] at h
      cases h
      exact ⟨q.1, by omega, q.2.1, q.2.2⟩
    · rw [if_neg q] at h
      obtain ⟨a, b, d⟩ := ih h
      exact ⟨a, by omega, d⟩
theorem lst_lo {k lo m : Nat} (h : m ≤ lo) : lst K p k lo m = none := by
  induction m with
  | zero => rfl
  | succ m ih => simp only [lst]; rw [if_neg (fun q => by omega), ih (by omega)]
theorem C_lst {k lo D : Nat} (h16 : k ≤ 16) (hp : p ≤ 30) (hkk : kok V t K) (hD : D ≤ dep K p) (hd5 : dep K p ≤ 5) (hM : ∀ j, j < D → isM K p j = true → V 22 t (cm K p j) 3 = nI (opnr K p j)) (hlo : nI (cm K p lo) - 1 ≤ V 10 t 0 5) (hup : ∀ m, lo ≤ m → m < D → isM K p m = true → isQ K p m = true ∧ ¬ nI (cm K p m) ≤ V 10 t 0 5) : ∀ (m N : Nat), lo ≤ m → m ≤ D → m < N → fX4_latestFirstPart_L7 N V t (nI k) (nI (cm K p m) - 1) = some (acm K p (lst K p k lo m)) := by
  intro m
  induction m with
  | zero =>
    intro N h1 h2 h3
    obtain ⟨N, rfl⟩ : ∃ N', N = N' + 1 := ⟨N - 1, by omega⟩
    have : lo = 0 := by omega
    subst this
    rw [fX4_latestFirstPart_L7, if_pos hlo]; rfl
  | succ m ih =>
    intro N h1 h2 h3
    obtain ⟨N, rfl⟩ : ∃ N', N = N' + 1 := ⟨N - 1, by omega⟩
    by_cases hl : lo = m + 1
    · subst hl
      rw [fX4_latestFirstPart_L7, if_pos hlo, lst_lo (Nat.le_refl _)]; rfl
    · have hm : lo ≤ m := by omega
      cases hmm : isM K p m with
      | false =>
        have e : lst K p k lo (m + 1) = lst K p k lo m := by simp only [lst]; rw [if_neg (fun q => by rw [isQ_f hmm] at q; cases q.2.1)]
        rw [cm_s0 hmm, e]
        exact ih (N + 1) hm (by omega) (by omega)
      | true =>
        obtain ⟨u1, u2⟩ := hup m hm (by omega) hmm
        have hcm := @cm_le K p m
        have hol := lvl_lt (show m < dep K p by omega)
        obtain ⟨k1, k2⟩ := hkk (opnr K p m) (by omega)
        rw [cm_s1 hmm, nI_s1 (by omega), Nat.add_sub_cancel, fX4_latestFirstPart_L7, if_neg u2, if_neg (show ¬ (5 : Int32) ≤ nI (cm K p m) from nI_ge (b := 5) (by omega) (by decide)), gd_of (inb_nI (show cm K p m < 5 by omega) (by decide)), nI_clamp (by omega), hM m (by omega) hmm, X3_kindAt_ok (by omega), ob_e, k1]
        simp only [lst]
        by_cases q : K (opnr K p m) = k
        · rw [if_pos (by rw [q]), if_pos ⟨hm, u1, q⟩]; rfl
        · rw [if_neg (nI_ne (by omega) (by omega) q), if_neg (fun z => q z.2.2)]
          have := ih N hm (by omega) (by omega)
          rw [Int32.sub_eq_add_neg] at this
          exact this
theorem M_lst {k lo D : Nat} (ht : t < 4) (h16 : k ≤ 16) (hp : p ≤ 30) (hkk : mok U t K) (hD : D ≤ dep K p) (hd5 : dep K p ≤ 5) (h20 : U 20 0 0 t = nI (cq K p D)) (hQ : ∀ j, j < D → isQ K p j = true → U 21 0 0 (6 * t + cq K p j) = nI (opnr K p j)) : ∀ (r m N : Nat), m + r = D → lo ≤ m → r < N → fX6_latest_L6 N U (nI t) (nI k) (acq K p (lst K p k lo m)) (nI (cq K p m)) = some (acq K p (lst K p k lo D)) := by
  have c6 : ∀ j, j ≤ D → cq K p j < 6 := fun j hj => by
    have := @cq_lt6 K p j
    have := @cm_le K p j
    omega
  intro r
  induction r with
  | zero =>
    intro m N h1 h2 h3
    obtain ⟨N, rfl⟩ : ∃ N', N = N' + 1 := ⟨N - 1, by omega⟩
    have : m = D := by omega
    subst this
    rw [fX6_latest_L6, gd_of (inb_nI ht (by decide)), nI_clamp (by omega), h20, if_pos (nI_le (Nat.le_refl _) (by have := c6 m (Nat.le_refl _); omega))]
  | succ r ih =>
    intro m N h1 h2 h3
    have c6m := c6 m (by omega)
    have c6D := c6 D (by omega)
    cases hq : isQ K p m with
    | false =>
      have e : lst K p k lo (m + 1) = lst K p k lo m := by simp only [lst]; rw [if_neg (fun q => by rw [hq] at q; cases q.2.1)]
      have := ih (m + 1) N (by omega) (by omega) (by omega)
      rw [e, cq_s0 hq] at this
      exact this
    | true =>
      obtain ⟨N, rfl⟩ : ∃ N', N = N' + 1 := ⟨N - 1, by omega⟩
      have hlt := cq_lt (show m < D by omega) hq
      have hol := lvl_lt (show m < dep K p by omega)
      obtain ⟨k1, k2⟩ := hkk (opnr K p m) (by omega)
      have ihh := ih (m + 1) N (by omega) (by omega) (by omega)
      rw [cq_s1 hq] at ihh
      rw [fX6_latest_L6, gd_of (inb_nI ht (by decide)), nI_clamp (by omega), h20, if_neg (nI_ge hlt (by omega)), ix_6, gd_of (inb_nI (show 6 * t + cq K p m < 24 by omega) (by decide)), nI_clamp (show 6 * t + cq K p m < 2 ^ 31 by omega), hQ m (by omega) hq, ix_30, gd_of (inb_nI (show 30 * t + opnr K p m < 120 by omega) (by decide)), nI_clamp (show 30 * t + opnr K p m < 2 ^ 31 by omega), k1, nI_1]
      simp only [lst] at ihh
      by_cases q : K (opnr K p m) = k
      · rw [if_pos ⟨h2, hq, q⟩] at ihh
        rw [if_pos (by rw [q])]
        exact ihh
      · rw [if_neg (fun z => q z.2.2)] at ihh
        rw [if_neg (nI_ne (by omega) (by omega) q)]
        exact ihh
theorem SD.find_at {k j : Nat} (S : SD c ver t V U K L p (dep K p)) (ht : t < 4) (hp : p ≤ L) (hj : j < dep K p) (h6 : K (opnr K p j) = 6) (hA : Att t V U (cm K p j) c ver) (h16 : k ≤ 16) : fX4_latestFirstPart V t (nI k) = some (acm K p (lst K p k (j + 1) (dep K p))) ∧ fX6_latest U (nI t) (nI k) (U 15 0 0 t) = some (acq K p (lst K p k (j + 1) (dep K p))) := by
  obtain ⟨h1, h2, h3, h4, -⟩ := id S
  have hone := at_one S.2.1.1 hp hj h6
  have hno : ∀ i, i < j → K (opnr K p i) ≠ 6 := fun i hi => hone i (by omega) (by omega)
  have hd5 := S.d5 hp
  have hL := h1.1
  have hMj := isM_6 (p := p) h6
  have hnQ : isQ K p j = false := by unfold isQ; rw [h6]; simp
  have hc5 := @cm_le K p j
  obtain ⟨b3, b4, b5, b6, -⟩ := hA
  constructor
  · unfold fX4_latestFirstPart
    rw [h4.1]
    refine C_lst (D := dep K p) h16 (by omega) h1.kok (Nat.le_refl _) hd5 h4.2.2.1 ?_ (fun m hm hmd hM => ?_) (dep K p) 40 (by omega) (Nat.le_refl _) (by omega)
    · rw [cm_s1 hMj, nI_s1 (by omega), Nat.add_sub_cancel, b4]
      exact nI_le (Nat.le_refl _) (by omega)
    · refine ⟨isQ_of hM (hone m hmd (by omega)), ?_⟩
      rw [b4]
      have hm5 := @cm_le K p m
      exact nI_ge (cm_lt (show j < m by omega) hMj) (by omega)
  · unfold fX6_latest
    have e : (-1 : Int32) = acq K p (lst K p k (j + 1) (j + 1)) := by rw [lst_lo (Nat.le_refl _)]; rfl
    have e2 : U 15 0 0 t = nI (cq K p (j + 1)) := by rw [b6, cq_s0 hnQ, cm_cq hno]
    rw [e2, e, M_lst (D := dep K p) ht h16 (by omega) h1.mok (Nat.le_refl _) hd5 h4.2.1 (fun i hi hQ => (h4.2.2.2 i hi hQ).1.1) (dep K p - (j + 1)) (j + 1) 40 (by omega) (Nat.le_refl _) (by omega), ob_e]
theorem SD.find_no {k : Nat} (S : SD c ver t V U K L p (dep K p)) (ht : t < 4) (hp : p ≤ L) (hno : noAt K p) (hN : NoA t V U) (h16 : k ≤ 16) : fX4_latestFirstPart V t (nI k) = some (acm K p (lst K p k 0 (dep K p))) ∧ fX6_latest U (nI t) (nI k) 0 = some (acq K p (lst K p k 0 (dep K p))) := by
  obtain ⟨h1, h2, h3, h4, -⟩ := id S
  have hd5 := S.d5 hp
  have hL := h1.1
  constructor
  · unfold fX4_latestFirstPart
    rw [h4.1]
    refine C_lst (D := dep K p) h16 (by omega) h1.kok (Nat.le_refl _) hd5 h4.2.2.1 ?_ (fun m hm hmd hM => ?_) (dep K p) 40 (by omega) (Nat.le_refl _) (by omega)
    · rw [hN.1]
      show nI 0 - 1 ≤ -1
      decide
    · refine ⟨isQ_of hM (hno m hmd), ?_⟩
      rw [hN.1]
      have hm5 := @cm_le K p m
      intro q
      have h0 : ¬ nI (cm K p m) < 0 := nI_pos (by omega)
      rw [Int32.le_iff_toInt_le] at q
      rw [Int32.lt_iff_toInt_lt] at h0
      have z1 : (-1 : Int32).toInt = -1 := by decide
      have z0 : (0 : Int32).toInt = 0 := by decide
      omega
  · unfold fX6_latest
    have h := M_lst (lo := 0) (D := dep K p) ht h16 (by omega) h1.mok (Nat.le_refl _) hd5 h4.2.1 (fun i hi hQ => (h4.2.2.2 i hi hQ).1.1) (dep K p) 0 40 (by omega) (Nat.le_refl _) (by omega)
    have h' : fX6_latest_L6 40 U (nI t) (nI k) (-1) 0 = some (acq K p (lst K p k 0 (dep K p))) := h
    rw [h', ob_e]
/-- going back, the reference -/
def bkU (U : Sto) (t d : Nat) : Sto := st (blkF (blkF (blkF U 8 (4 * t) 0 4 (fun j => U 22 0 0 (4 * (6 * t + d) + j))) 18 (8 * t) 0 8 (fun j => U 23 0 0 (8 * (6 * t + d) + j))) 19 (8 * t) 0 8 (fun j => U 24 0 0 (8 * (6 * t + d) + j))) 20 0 0 t (nI d)
theorem bkU_n {d x idx : Nat} (h : ¬ (x = 8 ∨ x = 18 ∨ x = 19 ∨ x = 20)) : bkU U t d x 0 0 idx = U x 0 0 idx := by
  unfold bkU
  rw [st_nc (by omega), blk_nc (by omega), blk_nc (by omega), blk_nc (by omega)]
theorem bkU_20 {d : Nat} : bkU U t d 20 0 0 t = nI d := by unfold bkU; rw [st_eq]
theorem bkU_8 {d r : Nat} (hr : r < 4) : bkU U t d 8 0 0 (4 * t + r) = U 22 0 0 (4 * (6 * t + d) + r) := by
  unfold bkU
  rw [st_nc (by omega), blk_nc (by omega), blk_nc (by omega), blk_in (by omega) hr]
theorem bkU_18 {d v : Nat} (hv : v < 8) : bkU U t d 18 0 0 (8 * t + v) = U 23 0 0 (8 * (6 * t + d) + v) := by
  unfold bkU
  rw [st_nc (by omega), blk_nc (by omega), blk_in (by omega) hv]
theorem bkU_19 {d v : Nat} (hv : v < 8) : bkU U t d 19 0 0 (8 * t + v) = U 24 0 0 (8 * (6 * t + d) + v) := by
  unfold bkU
  rw [st_nc (by omega), blk_in (by omega) hv]
theorem bkU_o {d : Nat} : onlyU t U (bkU U t d) := (((onlyU.blk (fun idx h1 h2 => ⟨by decide, by decide, by decide, by decide, by show idx / 4 = t; omega⟩)).tr (onlyU.blk (fun idx h1 h2 => ⟨by decide, by decide, by decide, by decide, by show idx / 8 = t; omega⟩))).tr (onlyU.blk (fun idx h1 h2 => ⟨by decide, by decide, by decide, by decide, by show idx / 8 = t; omega⟩))).tr (onlyU.st ⟨by decide, by decide, by decide, by decide, by simp [sz]⟩)
theorem X6_back {d o m : Nat} (ht : t < 4) (hd : d < 6) (h23 : ∀ j, j < 8 → nb (U 23 0 0 (8 * (6 * t + d) + j)) = U 23 0 0 (8 * (6 * t + d) + j)) (h21 : U 21 0 0 (6 * t + d) = nI o) (hpt : fX6_partner (bkU U t d) (nI t) (nI o) 1 = some (nI m)) : fX6_back U (nI t) (nI d) = some (nI m, bkU U t d) := by
  unfold fX6_back
  rw [ix_6]
  have e1 : fX6_back_L10 40 U (nI t) (nI d) (nI (6 * t + d)) 0 = some (blkF U 8 (4 * t) 0 4 (fun j => U 22 0 0 (4 * (6 * t + d) + j))) := X6_bk_L10 ht (by omega) (fun j => U 22 0 0 (4 * (6 * t + d) + j)) 40 0 _ (by omega) (by omega) (fun j hj => rfl)
  have e2 : fX6_back_L47 40 (blkF U 8 (4 * t) 0 4 (fun j => U 22 0 0 (4 * (6 * t + d) + j))) (nI t) (nI d) (nI (6 * t + d)) 0 = some (blkF (blkF (blkF U 8 (4 * t) 0 4 (fun j => U 22 0 0 (4 * (6 * t + d) + j))) 18 (8 * t) 0 8 (fun j => U 23 0 0 (8 * (6 * t + d) + j))) 19 (8 * t) 0 8 (fun j => U 24 0 0 (8 * (6 * t + d) + j))) := X6_bk_L47 ht (by omega) (fun j => U 23 0 0 (8 * (6 * t + d) + j)) (fun j => U 24 0 0 (8 * (6 * t + d) + j)) h23 40 0 _ (by omega) (by omega) (fun j hj => blk_nc (by decide)) (fun j hj => blk_nc (by decide))
  rw [e1, ob_e, e2, ob_e, gd_of (inb_nI ht (by decide)), bnd_e, gd_of (inb_nI (show 6 * t + d < 24 by omega) (by decide)), nI_clamp (show t < 2 ^ 31 by omega), nI_clamp (show 6 * t + d < 2 ^ 31 by omega)]
  have h3 : (st (blkF (blkF (blkF U 8 (4 * t) 0 4 (fun j => U 22 0 0 (4 * (6 * t + d) + j))) 18 (8 * t) 0 8 (fun j => U 23 0 0 (8 * (6 * t + d) + j))) 19 (8 * t) 0 8 (fun j => U 24 0 0 (8 * (6 * t + d) + j))) 20 0 0 t (nI d)) 21 0 0 (6 * t + d) = nI o := (bkU_n (by omega)).trans h21
  rw [h3]
  have hpt' : fX6_partner (st (blkF (blkF (blkF U 8 (4 * t) 0 4 (fun j => U 22 0 0 (4 * (6 * t + d) + j))) 18 (8 * t) 0 8 (fun j => U 23 0 0 (8 * (6 * t + d) + j))) 19 (8 * t) 0 8 (fun j => U 24 0 0 (8 * (6 * t + d) + j))) 20 0 0 t (nI d)) (nI t) (nI o) 1 = some (nI m) := hpt
  rw [hpt', ob_e]
  rfl
theorem SD.back {J : Nat} (S : SD c ver t V U K L p (dep K p)) (hp : p ≤ L) (hJ : J < dep K p) (hQ : isQ K p J = true) (hA : ∀ j, j < dep K p → K (opnr K p j) = 6 → j < J) : SD c ver t (bkV V t (cm K p J)) (bkU U t (cq K p J)) K L p J := by
  obtain ⟨h1, h2, h3, h4, R, W, h5, h7⟩ := id S
  obtain ⟨⟨a1, a2, w, a3, a4, a5⟩, a6⟩ := h4.2.2.2 J hJ hQ
  refine ⟨h1.fr (fun c' k q => bkV_n (by omega)) (fun x idx q _ => bkU_n (by omega)), h2.fr (fun k => bkV_n (by omega)) (fun k => bkV_n (by omega)) (fun k => bkV_n (by omega)), ⟨by rw [bkV_n (by omega)]; exact h3.1, by rw [bkU_n (by omega)]; exact h3.2.1, by rw [bkV_n (by omega), bkU_n (by omega)]; exact h3.2.2.1, fun r hr => by rw [bkV_19 hr, bkU_8 hr]; exact a2 r hr⟩, ?_, R, w, ⟨h5.1, a3, by rw [bkV_n (by omega)]; exact h5.2.2.1, by rw [bkV_8]; exact a4, fun v hv => ?_⟩, ?_⟩
  · exact TMd.cut h4 (by omega) (fun i hi => (S.q6 hp (by omega)).1) bkV_4 bkU_20 (fun i c' k _ hc => bkV_n (by omega)) (fun x d idx _ hx => bkU_n (by have := hx.x; omega))
  · rw [bkU_n (by omega), bkU_18 hv, bkU_19 hv, bkV_20 hv]
    exact ⟨(h5.2.2.2.2 v hv).1, a5 v hv⟩
  · rcases h7 with ⟨b1, b2, b3, b4⟩ | ⟨j, b1, b2, b3⟩
    · refine Or.inl ⟨fun j hj => b1 j (by omega), ⟨by rw [bkV_n (by omega)]; exact b2.1, by rw [bkU_n (by omega)]; exact b2.2⟩, b3, ?_⟩
      have := a6 (fun i hi => b1 i (by omega))
      rw [a4] at this
      exact nI_inj (b := 0) (by omega) (by decide) this
    · exact Or.inr ⟨j, hA j b1 b2, b2, b3.fr (fun k _ => bkV_n (by omega)) (fun c' k _ => bkV_n (by omega)) (fun x idx _ => bkU_n (by omega))⟩
/-- what going back to a part needs and gives -/
theorem SD.back_all {J : Nat} (S : SD c ver t V U K L p (dep K p)) (ht : t < 4) (hp : p ≤ L) (hJ : J < dep K p) (hQ : isQ K p J = true) (hA : ∀ j, j < dep K p → K (opnr K p j) = 6 → j < J) : ∃ o m, o < L ∧ m < L ∧ MIDr K o m ∧ K o = K (opnr K p J) ∧ fX4_goBackTo V t (nI (cm K p J)) = some (bkV V t (cm K p J)) ∧ bkV V t (cm K p J) 10 t 0 10 = nI o ∧ bkV V t (cm K p J) 16 t 0 o = nI m ∧ fX6_back U (nI t) (nI (cq K p J)) = some (nI m, bkU U t (cq K p J)) ∧ SD c ver t (bkV V t (cm K p J)) (bkU U t (cq K p J)) K L (m + 1) (dep K (m + 1)) := by
  have S2 := S.back hp hJ hQ hA
  obtain ⟨h1, h2, h3, h4, -⟩ := id S
  obtain ⟨⟨a1, a2, w, a3, a4, a5⟩, -⟩ := h4.2.2.2 J hJ hQ
  have hkind := (isQ_kind hQ).1
  have hol := lvl_lt hJ
  obtain ⟨m, e, m1, m2, m3, m4, m5, m6⟩ := h2.mid (o := opnr K p J) (by omega) hkind
  have hq6 := S.q6 hp (Nat.le_of_lt hJ)
  have hd5 := S.d5 hp
  have hc5 := @cm_le K p J
  have hL := h1.1
  refine ⟨opnr K p J, m, by omega, by omega, m5, rfl, X4_back (by omega), by rw [bkV_10]; exact h4.2.2.1 J hJ (isQ_M hQ), by rw [bkV_n (by omega)]; exact m3, X6_back ht hq6.1 (fun j hj => by rw [(a5 j hj).1, nb_bI]) a1 (X6_pt_half ht hL S2.1.mok S2.1.2.2.1 m2 m6 m5 m1), ?_⟩
  have S3 := S2.agr (agr_lvl hJ)
  have hdd := lvl_dep hJ
  rw [show J = dep K (opnr K p J) from hdd.symm, hdd] at S3
  have S4 : SD c ver t (bkV V t (cm K p J)) (bkU U t (cq K p J)) K L (opnr K p J) (dep K (opnr K p J)) := by rw [hdd]; exact S3
  exact S4.half m5 (by omega)
end BK
