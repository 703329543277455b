/-! a READY thread's stores, read at a place up to a level -/
section SD
variable {K : Nat → Nat} {V U V' U' : Sto} {t L : Nat}
theorem isQ_M {p j : Nat} (h : isQ K p j = true) : isM K p j = true := by
  unfold isQ at h; simp only [Bool.and_eq_true] at h; exact h.1
theorem isQ_6 {p j : Nat} (h : isQ K p j = true) : K (opnr K p j) ≠ 6 := by
  unfold isQ at h
  simp only [Bool.and_eq_true, Bool.not_eq_true', beq_eq_false_iff_ne] at h
  exact h.2
theorem isQ_of {p j : Nat} (h : isM K p j = true) (h6 : K (opnr K p j) ≠ 6) : isQ K p j = true := by
  unfold isQ; rw [h]; simp [h6]
theorem isM_6 {p j : Nat} (h : K (opnr K p j) = 6) : isM K p j = true := by unfold isM; simp [h]
theorem isM_k {p j : Nat} (h : K (opnr K p j) = 9 ∨ K (opnr K p j) = 15) (hf : flg K p j = false) : isM K p j = true := by unfold isM; rcases h with h | h <;> simp [h, hf]
theorem isM_f {p j : Nat} (h : K (opnr K p j) = 11 ∨ K (opnr K p j) = 13) : isM K p j = false := by unfold isM; rcases h with h | h <;> simp [h]
theorem isM_g {p j : Nat} (h : K (opnr K p j) ≠ 6) (hf : flg K p j = true) : isM K p j = false := by unfold isM; simp [h, hf]
theorem isQ_f {p j : Nat} (h : isM K p j = false) : isQ K p j = false := by unfold isQ; rw [h]; rfl
theorem isQ_kind {p j : Nat} (h : isQ K p j = true) : (K (opnr K p j) = 9 ∨ K (opnr K p j) = 15) ∧ flg K p j = false := by
  have h6 := isQ_6 h
  have := isQ_M h
  unfold isM at this
  simp only [Bool.or_eq_true, beq_iff_eq, Bool.and_eq_true, Bool.not_eq_true'] at this
  rcases this with z | ⟨z, z2⟩
  · exact absurd z h6
  · exact ⟨z, z2⟩
theorem isQ_agr {p q n j : Nat} (h : agr K p q n) (hj : j < n) : isQ K p j = isQ K q j := by
  unfold isQ
  rw [isM_agr h hj, (h j hj).1]
theorem cq_agr {p q n : Nat} (h : agr K p q n) : cq K p n = cq K q n := by
  induction n with
  | zero => rfl
  | succ n ih => simp only [cq]; rw [ih (h.le (by omega)), isQ_agr h (by omega)]
theorem cq_mono {p m n : Nat} (h : m ≤ n) : cq K p m ≤ cq K p n := by
  induction n with
  | zero => have : m = 0 := by omega
            subst this; exact Nat.le_refl _
  | succ n ih =>
    rcases Nat.lt_or_ge n m with h1 | h1
    · have : m = n + 1 := by omega
      subst this; exact Nat.le_refl _
    · simp only [cq]; have := ih h1; omega
theorem cq_lt {p j n : Nat} (hj : j < n) (hM : isQ K p j = true) : cq K p j < cq K p n := by
  have h1 : cq K p (j + 1) ≤ cq K p n := cq_mono hj
  simp only [cq, hM, if_true] at h1
  omega
theorem cm_s1 {p n : Nat} (h : isM K p n = true) : cm K p (n + 1) = cm K p n + 1 := by simp only [cm, h, if_true]
theorem cm_s0 {p n : Nat} (h : isM K p n = false) : cm K p (n + 1) = cm K p n := by simp [cm, h]
theorem cq_s1 {p n : Nat} (h : isQ K p n = true) : cq K p (n + 1) = cq K p n + 1 := by simp only [cq, h, if_true]
theorem cq_s0 {p n : Nat} (h : isQ K p n = false) : cq K p (n + 1) = cq K p n := by simp [cq, h]
/-- without an ATOMIC marks and parts are the same -/
theorem cm_cq {p n : Nat} (h : ∀ j, j < n → K (opnr K p j) ≠ 6) : cm K p n = cq K p n := by
  induction n with
  | zero => rfl
  | succ n ih =>
    simp only [cm, cq]
    rw [ih (fun j hj => h j (by omega))]
    unfold isQ
    have := h n (by omega)
    simp [this]
theorem ins_ex {p n : Nat} : ins K p n = true ↔ ∃ j, j < n ∧ K (opnr K p j) = 6 := by
  induction n with
  | zero => simp [ins]
  | succ n ih =>
    simp only [ins, Bool.or_eq_true, ih, beq_iff_eq]
    constructor
    · rintro (⟨j, a, b⟩ | h)
      · exact ⟨j, by omega, b⟩
      · exact ⟨n, by omega, h⟩
    · rintro ⟨j, a, b⟩
      by_cases q : j = n
      · subst q; exact Or.inr b
      · exact Or.inl ⟨j, by omega, b⟩
theorem wrg_in {p : Nat} (hk : K p = 3 ∨ K p = 4 ∨ K p = 8 ∨ K p = 9) (h : wrg K p = false) : ∃ j, j < dep K p ∧ K (opnr K p j) = 6 := by
  rw [← ins_ex]
  unfold wrg wrF at h
  rcases hk with z | z | z | z <;> rw [z] at h <;> simp at h
  · exact h
  · exact h
  · exact h
  · exact h.1
theorem wrg_out {p : Nat} (hk : K p = 6 ∨ K p = 5) (h : wrg K p = false) : ∀ j, j < dep K p → K (opnr K p j) ≠ 6 := by
  have h2 : ins K p (dep K p) = false := by
    unfold wrg wrF at h
    rcases hk with z | z <;> rw [z] at h <;> simp at h
    · exact h.1
    · exact h
  intro j hj q
  have := ins_ex.mpr ⟨j, hj, q⟩
  rw [h2] at this
  cases this
/-- one ATOMIC at most -/
theorem at_one {p j : Nat} (hg : Good K L) (hp : p ≤ L) (hj : j < dep K p) (h6 : K (opnr K p j) = 6) : ∀ i, i < dep K p → i ≠ j → K (opnr K p i) ≠ 6 := by
  have key : ∀ i j, j < dep K p → i < j → K (opnr K p j) = 6 → K (opnr K p i) ≠ 6 := by
    intro i j hj hi h6
    have hlt := lvl_lt hj
    have h2 := wrg_out (Or.inl h6) (hg.1 (opnr K p j) (by omega)) i (by rw [lvl_dep hj]; exact hi)
    rw [lvl_low hj hi] at h2
    exact h2
  intro i hi hne q
  rcases Nat.lt_or_ge i j with h | h
  · exact key i j hj h h6 q
  · exact key j i hi (by omega) q h6
theorem TMd.agr {p q n : Nat} (h : TMd t V U K p n) (ha : agr K p q n) : TMd t V U K q n := by
  obtain ⟨h1, h2, h3, h4⟩ := h
  refine ⟨by rw [← cm_agr ha]; exact h1, by rw [← cq_agr ha]; exact h2, fun j hj hM => ?_, fun j hj hQ => ?_⟩
  · rw [← cm_agr (ha.le (show j ≤ n by omega)), ← (ha j hj).1]
    exact h3 j hj (by rw [isM_agr ha hj]; exact hM)
  · rw [← cm_agr (ha.le (show j ≤ n by omega)), ← cq_agr (ha.le (show j ≤ n by omega)), ← (ha j hj).1]
    have := h4 j hj (by rw [isQ_agr ha hj]; exact hQ)
    exact ⟨this.1, fun q => this.2 (fun i hi => by rw [(ha i (by omega)).1]; exact q i hi)⟩
theorem TMd.up {p n : Nat} (h : TMd t V U K p n) (hM : isM K p n = false) : TMd t V U K p (n + 1) := by
  obtain ⟨h1, h2, h3, h4⟩ := h
  refine ⟨by rw [cm_s0 hM]; exact h1, by rw [cq_s0 (isQ_f hM)]; exact h2, fun j hj hj2 => ?_, fun j hj hQ => ?_⟩
  · by_cases q : j = n
    · subst q; rw [hM] at hj2; cases hj2
    · exact h3 j (by omega) hj2
  · by_cases q : j = n
    · subst q; have := isQ_M hQ; rw [hM] at this; cases this
    · exact h4 j (by omega) hQ
theorem TMd.dn {p n : Nat} (h : TMd t V U K p (n + 1)) (hM : isM K p n = false) : TMd t V U K p n := by
  obtain ⟨h1, h2, h3, h4⟩ := h
  exact ⟨by rw [← cm_s0 hM]; exact h1, by rw [← cq_s0 (isQ_f hM)]; exact h2, fun j hj => h3 j (by omega), fun j hj => h4 j (by omega)⟩
/-- the cells of a part -/
def cP (t x d idx : Nat) : Prop := (x = 21 ∧ idx = 6 * t + d) ∨ (x = 22 ∧ ∃ r, r < 4 ∧ idx = 4 * (6 * t + d) + r) ∨ ((x = 23 ∨ x = 24) ∧ ∃ v, v < 8 ∧ idx = 8 * (6 * t + d) + v)
theorem cP.x {x d idx : Nat} (h : cP t x d idx) : x = 21 ∨ x = 22 ∨ x = 23 ∨ x = 24 := by
  rcases h with ⟨h, -⟩ | ⟨h, -⟩ | ⟨h, -⟩
  · exact Or.inl h
  · exact Or.inr (Or.inl h)
  · exact Or.inr (Or.inr h)
/-- marks of lower levels, over other stores -/
theorem TMd.cut {p m n : Nat} (h : TMd t V U K p n) (hm : m ≤ n) (hc : ∀ j, j < m → cq K p j < 6) (h4 : V' 10 t 0 4 = nI (cm K p m)) (h20 : U' 20 0 0 t = nI (cq K p m)) (hV : ∀ i c j, i < cm K p m → (c = 22 ∨ c = 23 ∨ c = 24) → V' c t i j = V c t i j) (hU : ∀ x d idx, d < cq K p m → cP t x d idx → U' x 0 0 idx = U x 0 0 idx) : TMd t V' U' K p m := by
  obtain ⟨h1, h2, h3, h5⟩ := h
  refine ⟨h4, h20, fun j hj hM => ?_, fun j hj hQ => ?_⟩
  · rw [hV _ 22 3 (cm_lt hj hM) (by omega)]; exact h3 j (by omega) hM
  · have hi := cm_lt hj (isQ_M hQ)
    have hd := cq_lt hj hQ
    obtain ⟨⟨a1, a2, w, a3, a4, a5⟩, a6⟩ := h5 j (by omega) hQ
    refine ⟨⟨by rw [hU 21 _ _ hd (Or.inl ⟨rfl, rfl⟩)]; exact a1, fun r hr => by rw [hV _ 23 r hi (by omega), hU 22 _ _ hd (Or.inr (Or.inl ⟨rfl, r, hr, rfl⟩))]; exact a2 r hr, w, a3, by rw [hV _ 22 2 hi (by omega)]; exact a4, fun v hv => ?_⟩, fun q => by rw [hV _ 22 2 hi (by omega)]; exact a6 q⟩
    rw [hU 23 _ _ hd (Or.inr (Or.inr ⟨Or.inl rfl, v, hv, rfl⟩)), hV _ 24 v hi (by omega), hU 24 _ _ hd (Or.inr (Or.inr ⟨Or.inr rfl, v, hv, rfl⟩))]
    exact a5 v hv
/-- the attempt, if there is one among the lower levels -/
def ATd (c : Nat) (ver : Nat → Nat) (t : Nat) (V U : Sto) (K : Nat → Nat) (p n R W : Nat) : Prop := ((∀ j, j < n → K (opnr K p j) ≠ 6) ∧ NoA t V U ∧ R = 0 ∧ W = 0) ∨ ∃ j, j < n ∧ K (opnr K p j) = 6 ∧ Att t V U (cm K p j) c ver
theorem ATd.agr {c p q n R W : Nat} {ver : Nat → Nat} (h : ATd c ver t V U K p n R W) (ha : agr K p q n) : ATd c ver t V U K q n R W := by
  rcases h with ⟨h1, h2⟩ | ⟨j, h1, h2, h3⟩
  · exact Or.inl ⟨fun j hj => by rw [← (ha j hj).1]; exact h1 j hj, h2⟩
  · exact Or.inr ⟨j, h1, by rw [← (ha j h1).1]; exact h2, by rw [← cm_agr (ha.le (show j ≤ n by omega))]; exact h3⟩
theorem ATd.up {c p n R W : Nat} {ver : Nat → Nat} (h : ATd c ver t V U K p n R W) (h6 : K (opnr K p n) ≠ 6) : ATd c ver t V U K p (n + 1) R W := by
  rcases h with ⟨h1, h2⟩ | ⟨j, h1, h2, h3⟩
  · refine Or.inl ⟨fun j hj => ?_, h2⟩
    by_cases q : j = n
    · subst q; exact h6
    · exact h1 j (by omega)
  · exact Or.inr ⟨j, by omega, h2, h3⟩
theorem ATd.dn {c p n R W : Nat} {ver : Nat → Nat} (h : ATd c ver t V U K p (n + 1) R W) (h6 : K (opnr K p n) ≠ 6) : ATd c ver t V U K p n R W := by
  rcases h with ⟨h1, h2⟩ | ⟨j, h1, h2, h3⟩
  · exact Or.inl ⟨fun j hj => h1 j (by omega), h2⟩
  · refine Or.inr ⟨j, ?_, h2, h3⟩
    rcases Nat.lt_or_ge j n with q | q
    · exact q
    · have : j = n := by omega
      subst this; exact absurd h2 h6
/-- the attempt over other stores -/
theorem Att.fr {A c : Nat} {ver : Nat → Nat} (h : Att t V U A c ver) (hV : ∀ j, j = 5 ∨ j = 6 → V' 10 t 0 j = V 10 t 0 j) (hm : ∀ c j, c = 22 ∨ c = 23 → V' c t A j = V c t A j) (hU : ∀ x idx, x = 13 ∨ x = 14 ∨ x = 15 ∨ x = 9 ∨ x = 16 → U' x 0 0 idx = U x 0 0 idx) : Att t V' U' A c ver := by
  obtain ⟨b3, b4, b5, b6, ⟨g, b7, b8, b9⟩, b10, b11, b12⟩ := h
  exact ⟨b3, by rw [hV 5 (by omega)]; exact b4, by rw [hU 13 _ (by omega)]; exact b5, by rw [hU 15 _ (by omega)]; exact b6, ⟨g, b7, by rw [hV 6 (by omega)]; exact b8, fun v hv => by rw [hU 16 _ (by omega)]; exact b9 v hv⟩, by rw [hU 14 _ (by omega), hm 22 3 (by omega)]; exact b10, fun r hr => by rw [hU 9 _ (by omega), hm 23 r (by omega)]; exact b11 r hr, by rw [hm 22 2 (by omega)]; exact b12⟩
def TBx (t : Nat) (V U : Sto) : Prop := V 10 t 0 9 = 1 ∧ U 5 0 0 t = 1 ∧ V 10 t 0 11 = U 7 0 0 t ∧ ∀ r, r < 4 → V 19 t 0 r = U 8 0 0 (4 * t + r)
def SD (c : Nat) (ver : Nat → Nat) (t : Nat) (V U : Sto) (K : Nat → Nat) (L p n : Nat) : Prop := TL t V U K L ∧ Conn V t K L ∧ TBx t V U ∧ TMd t V U K p n ∧ ∃ R W, TS t V U R W ∧ ATd c ver t V U K p n R W
theorem SD.agr {c p q n : Nat} {ver : Nat → Nat} (h : SD c ver t V U K L p n) (ha : agr K p q n) : SD c ver t V U K L q n := by
  obtain ⟨h1, h2, h3, h4, R, W, h5, h6⟩ := h
  exact ⟨h1, h2, h3, h4.agr ha, R, W, h5, h6.agr ha⟩
theorem SD.up {c p n : Nat} {ver : Nat → Nat} (h : SD c ver t V U K L p n) (hM : isM K p n = false) : SD c ver t V U K L p (n + 1) := by
  obtain ⟨h1, h2, h3, h4, R, W, h5, h6⟩ := h
  exact ⟨h1, h2, h3, h4.up hM, R, W, h5, h6.up (fun q => by rw [isM_6 q] at hM; cases hM)⟩
theorem SD.dn {c p n : Nat} {ver : Nat → Nat} (h : SD c ver t V U K L p (n + 1)) (hM : isM K p n = false) : SD c ver t V U K L p n := by
  obtain ⟨h1, h2, h3, h4, R, W, h5, h6⟩ := h
  exact ⟨h1, h2, h3, h4.dn hM, R, W, h5, h6.dn (fun q => by rw [isM_6 q] at hM; cases hM)⟩
theorem SD.ready {c : Nat} {ver : Nat → Nat} (h : TR c ver t V U) (h9 : V 10 t 0 9 = 1) : ∃ K L p, p < L ∧ V 10 t 0 10 = nI p ∧ U 6 0 0 t = nI p ∧ SD c ver t V U K L p (dep K p) := by
  obtain ⟨K, L, s, R, W, h1, h2, h3, h4⟩ := h
  have hs : s = 1 := by
    have : nI s = nI 1 := by rw [← h2.2.1, h9]; rfl
    exact nI_inj (by have := h2.1; omega) (by decide) this
  rcases h4 with ⟨a1, -⟩ | ⟨a1, -⟩ | ⟨-, p, ⟨a2, a3, a4, a5⟩, a6⟩
  · exact absurd hs a1
  · omega
  · exact ⟨K, L, p, a2, a3, by rw [← h2.2.2.2.1]; exact a3, h1, a4, ⟨h9, by rw [h2.2.2.1, hs]; rfl, h2.2.2.2.2.1, h2.2.2.2.2.2⟩, a5, R, W, h3, a6⟩
/-- the thread stays READY at p -/
theorem SD.stay {c p : Nat} {ver : Nat → Nat} (h : SD c ver t V U K L p (dep K p)) (hp : p < L) (h10 : V 10 t 0 10 = nI p) (h6 : U 6 0 0 t = nI p) : TR c ver t V U := by
  obtain ⟨h1, h2, h3, h4, R, W, h5, h7⟩ := h
  exact ⟨K, L, 1, R, W, h1, ⟨by omega, h3.1, h3.2.1, by rw [h10, h6], h3.2.2.1, h3.2.2.2⟩, h5, Or.inr (Or.inr ⟨rfl, p, ⟨hp, h10, h2, h4⟩, h7⟩)⟩
/-- going on to p -/
theorem SD.go {c p : Nat} {ver : Nat → Nat} (h : SD c ver t V U K L p (dep K p)) (hp : p ≤ L) : TR c ver t (goV V t (nI p)) (goU U t (nI p)) := by
  obtain ⟨h1, h2, h3, h4, R, W, h5, h7⟩ := h
  have s9 := goV_s (V := V) (t := t) hp h1.1 h1.2.1
  have s5 := goU_s (U := U) (t := t) hp h1.1 h1.2.2.1
  have hL : TL t (goV V t (nI p)) (goU U t (nI p)) K L := h1.fr (fun c j q => goV_n (by omega)) (fun x idx q _ => goU_n (by omega))
  have hS : TS t (goV V t (nI p)) (goU U t (nI p)) R W := by
    obtain ⟨a1, a2, a3, a4, a5⟩ := h5
    refine ⟨a1, a2, by rw [goV_n (by omega)]; exact a3, by rw [goV_n (by omega)]; exact a4, fun v hv => ?_⟩
    rw [goU_n (by omega), goU_n (by omega), goU_n (by omega), goV_n (by omega)]
    exact a5 v hv
  have hno : NoA t V U → NoA t (goV V t (nI p)) (goU U t (nI p)) := fun q => ⟨by rw [goV_n (by omega)]; exact q.1, by rw [goU_n (by omega)]; exact q.2⟩
  have hB : ∀ s, s ≤ 4 → goV V t (nI p) 10 t 0 9 = nI s → goU U t (nI p) 5 0 0 t = nI s → TB t (goV V t (nI p)) (goU U t (nI p)) s := fun s hs q1 q2 =>
    ⟨hs, q1, q2, by rw [goV_p, goU_p], by rw [goV_n (by omega), goU_n (by omega)]; exact h3.2.2.1, fun r hr => by rw [goV_n (by omega), goU_n (by omega)]; exact h3.2.2.2 r hr⟩
  by_cases q : p < L
  · rw [if_pos q] at s9 s5
    have hd5 : ∀ j, j < dep K p → cq K p j < 6 := fun j hj => by
      have := dep5 (K := K) (L := L) (fun j hj => (h1.mok j (by have := h1.1; omega)).2) h2.1 (p := p) (by omega)
      have := @cq_lt6 K p j
      have := @cm_le K p j
      omega
    refine ⟨K, L, 1, R, W, hL, hB 1 (by omega) (s9.trans h3.1) (s5.trans h3.2.1), hS, Or.inr (Or.inr ⟨rfl, p, ⟨q, goV_p, h2.fr (fun j => goV_n (by omega)) (fun j => goV_n (by omega)) (fun j => goV_n (by omega)), ?_⟩, ?_⟩)⟩
    · have g4 : goV V t (nI p) 10 t 0 4 = nI (cm K p (dep K p)) := by rw [goV_n (by omega)]; exact h4.1
      have g20 : goU U t (nI p) 20 0 0 t = nI (cq K p (dep K p)) := by rw [goU_n (by omega)]; exact h4.2.1
      exact TMd.cut h4 (Nat.le_refl _) hd5 g4 g20 (fun i c j _ hc => goV_n (by omega)) (fun x d idx _ hx => goU_n (by have := hx.x; omega))
    · rcases h7 with ⟨b1, b2, b3, b4⟩ | ⟨j, b1, b2, b3⟩
      · exact Or.inl ⟨b1, hno b2, b3, b4⟩
      · exact Or.inr ⟨j, b1, b2, b3.fr (fun j _ => goV_n (by omega)) (fun c j _ => goV_n (by omega)) (fun x idx _ => goU_n (by omega))⟩
  · rw [if_neg q] at s9 s5
    have hpl : p = L := by omega
    have hd : dep K p = 0 := by rw [hpl]; exact h2.1.2
    rcases h7 with ⟨b1, b2, b3, b4⟩ | ⟨j, b1, -⟩
    · exact ⟨K, L, 3, R, W, hL, hB 3 (by omega) s9 s5, hS, Or.inl ⟨by decide, by decide, hno b2, b3, b4⟩⟩
    · omega
/-- the bounds of a READY thread -/
theorem SD.d5 {c p n : Nat} {ver : Nat → Nat} (h : SD c ver t V U K L p n) {q : Nat} (hq : q ≤ L) : dep K q ≤ 5 := dep5 (K := K) (L := L) (fun j hj => (h.1.mok j (by have := h.1.1; omega)).2) h.2.1.1 hq
theorem SD.q6 {c p n : Nat} {ver : Nat → Nat} (h : SD c ver t V U K L p n) {q j : Nat} (hq : q ≤ L) (hj : j ≤ dep K q) : cq K q j < 6 ∧ cm K q j < 6 := by
  have := h.d5 hq
  have := @cq_lt6 K q j
  have := @cm_le K q j
  omega
end SD
