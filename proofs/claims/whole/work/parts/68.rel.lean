/-! sets of variables as numbers -/
theorem nI_and (a b : Nat) : nI a &&& nI b = nI (a &&& b) := by
  apply Int32.toBitVec_inj.1
  show BitVec.ofNat 32 a &&& BitVec.ofNat 32 b = BitVec.ofNat 32 (a &&& b)
  apply BitVec.eq_of_getLsbD_eq
  intro i hi
  simp [hi]
theorem nI_or (a b : Nat) : nI a ||| nI b = nI (a ||| b) := by
  apply Int32.toBitVec_inj.1
  show BitVec.ofNat 32 a ||| BitVec.ofNat 32 b = BitVec.ofNat 32 (a ||| b)
  apply BitVec.eq_of_getLsbD_eq
  intro i hi
  simp [hi]
theorem one_shl : ∀ v, v < 8 → (1 : Int32) <<< (nI v &&& 31) = nI (2 ^ v) := by decide
theorem big_shl : ∀ v, v < 8 → (256 : Int32) <<< (nI v &&& 31) = nI (256 * 2 ^ v) := by decide
theorem p8 : ∀ v, v < 8 → 2 ^ v < 256 ∧ 0 < 2 ^ v := by decide
theorem bit0 {W v : Nat} (hW : W < 256) (hv : v < 8) : nI W &&& (1 : Int32) <<< (nI v &&& 31) = 0 ↔ W.testBit v = false := by
  rw [one_shl v hv, nI_and]
  have hle : W &&& 2 ^ v ≤ W := Nat.and_le_left
  constructor
  · intro q
    have e : W &&& 2 ^ v = 0 := nI_inj (b := 0) (by omega) (by decide) q
    have h := congrArg (fun z => z.testBit v) e
    simp only [Nat.testBit_and, Nat.testBit_two_pow_self, Bool.and_true, Nat.zero_testBit] at h
    exact h
  · intro q
    have e : W &&& 2 ^ v = 0 := by
      apply Nat.eq_of_testBit_eq
      intro i
      rw [Nat.testBit_and, Nat.testBit_two_pow, Nat.zero_testBit]
      by_cases h : v = i
      · subst h; rw [q]; rfl
      · simp [h]
    rw [e]
    rfl
theorem set1 {W v : Nat} (hv : v < 8) : nI W ||| (1 : Int32) <<< (nI v &&& 31) = nI (W ||| 2 ^ v) := by rw [one_shl v hv, nI_or]
theorem or8 {W v : Nat} (hW : W < 256) (hv : v < 8) : W ||| 2 ^ v < 256 := Nat.or_lt_two_pow (n := 8) hW (p8 v hv).1
theorem or_bit (W v u : Nat) : (W ||| 2 ^ v).testBit u = (W.testBit u || decide (v = u)) := by rw [Nat.testBit_or, Nat.testBit_two_pow]
theorem bits_eq0 {W : Nat} (hW : W < 256) (h : ∀ v, v < 8 → W.testBit v = false) : W = 0 := by
  apply Nat.eq_of_testBit_eq
  intro i
  rw [Nat.zero_testBit]
  by_cases hi : i < 8
  · exact h i hi
  · exact Nat.testBit_lt_two_pow (Nat.lt_of_lt_of_le hW (show 2 ^ 8 ≤ 2 ^ i from Nat.pow_le_pow_right (by decide) (by omega)))
/-! words, lists, threads -/
def wOK (k : Nat) (a b : Int32) : Prop := k ≤ 16 ∧ ((k ≤ 3 ∨ k = 5 ∨ k = 11 ∨ k = 13 ∨ k = 14 ∨ k = 16) → ∃ r, r < 4 ∧ a = nI r) ∧ ((k = 1 ∨ k = 2 ∨ k = 4) → ∃ r, r < 4 ∧ b = nI r) ∧ (k = 3 → ∃ v, v < 8 ∧ b = nI v) ∧ (k = 4 → ∃ v, v < 8 ∧ a = nI v)
def TL (t : Nat) (V U : Sto) (K : Nat → Nat) (L : Nat) : Prop := L ≤ 30 ∧ V 11 t 0 8 = nI L ∧ U 4 0 0 t = nI L ∧ ∀ j, j < 30 → V 12 t 0 j = nI (K j) ∧ U 1 0 0 (30 * t + j) = nI (K j) ∧ V 13 t 0 j = U 2 0 0 (30 * t + j) ∧ V 14 t 0 j = U 3 0 0 (30 * t + j) ∧ wOK (K j) (V 13 t 0 j) (V 14 t 0 j)
theorem TL.kok {t : Nat} {V U : Sto} {K : Nat → Nat} {L : Nat} (h : TL t V U K L) : kok V t K := fun j hj => ⟨(h.2.2.2 j hj).1, (h.2.2.2 j hj).2.2.2.2.1⟩
theorem TL.mok {t : Nat} {V U : Sto} {K : Nat → Nat} {L : Nat} (h : TL t V U K L) : mok U t K := fun j hj => ⟨(h.2.2.2 j hj).2.1, (h.2.2.2 j hj).2.2.2.2.1⟩
def TB (t : Nat) (V U : Sto) (s : Nat) : Prop := s ≤ 4 ∧ V 10 t 0 9 = nI s ∧ U 5 0 0 t = nI s ∧ V 10 t 0 10 = U 6 0 0 t ∧ V 10 t 0 11 = U 7 0 0 t ∧ ∀ r, r < 4 → V 19 t 0 r = U 8 0 0 (4 * t + r)
def TS (t : Nat) (V U : Sto) (R W : Nat) : Prop := R < 256 ∧ W < 256 ∧ V 10 t 0 7 = nI R ∧ V 10 t 0 8 = nI W ∧ ∀ v, v < 8 → U 17 0 0 (8 * t + v) = bI (R.testBit v) ∧ U 18 0 0 (8 * t + v) = bI (W.testBit v) ∧ (W.testBit v = true → V 20 t 0 v = U 19 0 0 (8 * t + v))
def NoA (t : Nat) (V U : Sto) : Prop := V 10 t 0 5 = -1 ∧ U 13 0 0 t = 0
def Att (t : Nat) (V U : Sto) (A c : Nat) (ver : Nat → Nat) : Prop := A < 5 ∧ V 10 t 0 5 = nI A ∧ U 13 0 0 t = 1 ∧ U 15 0 0 t = nI A ∧ (∃ g, g ≤ c ∧ V 10 t 0 6 = nI g ∧ ∀ v, v < 8 → U 16 0 0 (8 * t + v) = bI (decide (g < ver v))) ∧ U 14 0 0 t = V 22 t A 3 ∧ (∀ r, r < 4 → U 9 0 0 (4 * t + r) = V 23 t A r) ∧ V 22 t A 2 = 0
/-- marks that are parts -/
def isQ (K : Nat → Nat) (p j : Nat) : Bool := isM K p j && !(K (opnr K p j) == 6)
def cq (K : Nat → Nat) (p : Nat) : Nat → Nat
  | 0 => 0
  | n + 1 => cq K p n + (if isQ K p n = true then 1 else 0)
def PRel (t : Nat) (V U : Sto) (i d o : Nat) : Prop := U 21 0 0 (6 * t + d) = nI o ∧ (∀ r, r < 4 → V 23 t i r = U 22 0 0 (4 * (6 * t + d) + r)) ∧ ∃ w, w < 256 ∧ V 22 t i 2 = nI w ∧ ∀ v, v < 8 → U 23 0 0 (8 * (6 * t + d) + v) = bI (w.testBit v) ∧ (w.testBit v = true → V 24 t i v = U 24 0 0 (8 * (6 * t + d) + v))
def TMd (t : Nat) (V U : Sto) (K : Nat → Nat) (p n : Nat) : Prop := V 10 t 0 4 = nI (cm K p n) ∧ U 20 0 0 t = nI (cq K p n) ∧ (∀ j, j < n → isM K p j = true → V 22 t (cm K p j) 3 = nI (opnr K p j)) ∧ ∀ j, j < n → isQ K p j = true → PRel t V U (cm K p j) (cq K p j) (opnr K p j) ∧ ((∀ i, i < j → K (opnr K p i) ≠ 6) → V 22 t (cm K p j) 2 = 0)
def TM (t : Nat) (V U : Sto) (K : Nat → Nat) (p : Nat) : Prop := TMd t V U K p (dep K p)
def Run (t : Nat) (V U : Sto) (K : Nat → Nat) (L p : Nat) : Prop := p < L ∧ V 10 t 0 10 = nI p ∧ Conn V t K L ∧ TM t V U K p
def noAt (K : Nat → Nat) (p : Nat) : Prop := ∀ j, j < dep K p → K (opnr K p j) ≠ 6
def TR (c : Nat) (ver : Nat → Nat) (t : Nat) (V U : Sto) : Prop := ∃ (K : Nat → Nat) (L s R W : Nat), TL t V U K L ∧ TB t V U s ∧ TS t V U R W ∧
  ((s ≠ 1 ∧ s ≠ 2 ∧ NoA t V U ∧ R = 0 ∧ W = 0) ∨ (s = 2 ∧ NoA t V U ∧ W = 0 ∧ ∃ p, Run t V U K L p ∧ noAt K p) ∨ (s = 1 ∧ ∃ p, Run t V U K L p ∧ ((noAt K p ∧ NoA t V U ∧ R = 0 ∧ W = 0) ∨ ∃ j, j < dep K p ∧ K (opnr K p j) = 6 ∧ Att t V U (cm K p j) c ver)))
def GR (V U : Sto) (c n : Nat) (ver : Nat → Nat) : Prop := V 1 0 0 2 = nI c ∧ U 0 0 0 11 = nI c ∧ V 4 0 0 1 = nI n ∧ U 0 0 0 24 = nI n ∧ (∀ v, v < 8 → V 3 0 0 v = nI (ver v) ∧ U 11 0 0 v = nI (ver v) ∧ ver v ≤ c ∧ V 2 0 0 v = U 10 0 0 v) ∧ ∀ j, j < 16 → V 5 0 0 j = U 26 0 0 j
def RelB (B : Nat) (V U : Sto) : Prop := ∃ (c n : Nat) (ver : Nat → Nat), c ≤ B ∧ n ≤ B ∧ GR V U c n ver ∧ ∀ t, t < 4 → TR c ver t V U
def Rel (k : Nat) (V U : Sto) : Prop := RelB (16 * k) V U
/-! frames -/
def sz (x : Nat) : Nat := if x = 1 ∨ x = 2 ∨ x = 3 then 30 else if x = 8 ∨ x = 9 then 4 else if x = 16 ∨ x = 17 ∨ x = 18 ∨ x = 19 then 8 else if x = 21 then 6 else if x = 22 then 24 else if x = 23 ∨ x = 24 then 48 else 1
def sameV (t : Nat) (V V' : Sto) : Prop := ∀ c i j, 10 ≤ c → V' c t i j = V c t i j
def sameU (t : Nat) (U U' : Sto) : Prop := ∀ x idx, 1 ≤ x → x ≤ 24 → x ≠ 10 → x ≠ 11 → idx / sz x = t → U' x 0 0 idx = U x 0 0 idx
def onlyV (t : Nat) (V V' : Sto) : Prop := ∀ c t' i j, ¬ (t' = t ∧ 10 ≤ c) → V' c t' i j = V c t' i j
def onlyU (t : Nat) (U U' : Sto) : Prop := ∀ x a b idx, ¬ (1 ≤ x ∧ x ≤ 24 ∧ x ≠ 10 ∧ x ≠ 11 ∧ idx / sz x = t) → U' x a b idx = U x a b idx
theorem onlyV.rf {t : Nat} {V : Sto} : onlyV t V V := fun _ _ _ _ _ => rfl
theorem onlyU.rf {t : Nat} {U : Sto} : onlyU t U U := fun _ _ _ _ _ => rfl
theorem onlyV.tr {t : Nat} {V V1 V2 : Sto} (h : onlyV t V V1) (h2 : onlyV t V1 V2) : onlyV t V V2 := fun c t' i j q => (h2 c t' i j q).trans (h c t' i j q)
theorem onlyU.tr {t : Nat} {U U1 U2 : Sto} (h : onlyU t U U1) (h2 : onlyU t U1 U2) : onlyU t U U2 := fun x a b i q => (h2 x a b i q).trans (h x a b i q)
theorem onlyV.st {t : Nat} {V : Sto} {c i j : Nat} {x : Int32} (h : 10 ≤ c) : onlyV t V (st V c t i j x) := fun c' t' i' j' q => by
  rw [st_get, if_neg]
  rintro ⟨rfl, rfl, rfl, rfl⟩
  exact q ⟨rfl, h⟩
theorem onlyV.cp {t : Nat} {V : Sto} {c i c1 i1 n : Nat} (h : 10 ≤ c1) : onlyV t V (cpS V c t i c1 t i1 n) := fun c' t' i' j' q => by
  rw [cpS_get, if_neg]
  rintro ⟨rfl, rfl, rfl, _⟩
  exact q ⟨rfl, h⟩
theorem onlyU.st {t : Nat} {U : Sto} {x idx : Nat} {v : Int32} (h : 1 ≤ x ∧ x ≤ 24 ∧ x ≠ 10 ∧ x ≠ 11 ∧ idx / sz x = t) : onlyU t U (st U x 0 0 idx v) := fun x' a b i' q => by
  rw [st_get, if_neg]
  rintro ⟨rfl, rfl, rfl, rfl⟩
  exact q h
theorem onlyU.blk {t : Nat} {U : Sto} {x lo i N : Nat} {f : Nat → Int32} (h : ∀ idx, lo + i ≤ idx → idx < lo + N → 1 ≤ x ∧ x ≤ 24 ∧ x ≠ 10 ∧ x ≠ 11 ∧ idx / sz x = t) : onlyU t U (blkF U x lo i N f) := fun x' a b i' q => by
  unfold blkF
  rw [if_neg]
  rintro ⟨rfl, rfl, rfl, h1, h2⟩
  exact q (h i' h1 h2)
theorem onlyV.same {t t' : Nat} {V V' : Sto} (h : onlyV t V V') (hn : t' ≠ t) : sameV t' V V' := fun c i j _ => h c t' i j (fun q => hn q.1)
theorem onlyU.same {t t' : Nat} {U U' : Sto} (h : onlyU t U U') (hn : t' ≠ t) : sameU t' U U' := fun x idx _ _ _ _ q => h x 0 0 idx (fun z => hn (q.symm.trans z.2.2.2.2))
theorem onlyU.ea {t : Nat} {U : Sto} : onlyU t U (eaU U t) := fun x a b idx q => by
  rw [eaU_get, if_neg]
  rintro ⟨-, -, ⟨rfl, rfl⟩ | ⟨h, h1, h2⟩⟩
  · exact q ⟨by decide, by decide, by decide, by decide, by simp [sz]⟩
  · refine q ⟨by omega, by omega, by omega, by omega, ?_⟩
    have e : sz x = 8 := by rcases h with rfl | rfl | rfl <;> rfl
    rw [e]
    omega
theorem GR.fr {V U V' U' : Sto} {c n t : Nat} {ver : Nat → Nat} (h : GR V U c n ver) (hV : onlyV t V V') (hU : onlyU t U U') : GR V' U' c n ver := by
  obtain ⟨h1, h2, h3, h4, h5, h6⟩ := h
  refine ⟨by rw [hV 1 0 0 2 (by omega)]; exact h1, by rw [hU 0 0 0 11 (by omega)]; exact h2, by rw [hV 4 0 0 1 (by omega)]; exact h3, by rw [hU 0 0 0 24 (by omega)]; exact h4, fun v hv => ?_, fun j hj => by rw [hV 5 0 0 j (by omega), hU 26 0 0 j (by omega)]; exact h6 j hj⟩
  rw [hV 3 0 0 v (by omega), hU 11 0 0 v (by omega), hV 2 0 0 v (by omega), hU 10 0 0 v (by omega)]
  exact h5 v hv
theorem sU {t : Nat} {U U' : Sto} (h : sameU t U U') (x idx : Nat) (hx : 1 ≤ x ∧ x ≤ 24 ∧ x ≠ 10 ∧ x ≠ 11) (k : Nat) (hk : sz x = k) (hi : idx / k = t) : U' x 0 0 idx = U x 0 0 idx := h x idx hx.1 hx.2.1 hx.2.2.1 hx.2.2.2 (by rw [hk]; exact hi)
theorem cq_lt6 {K : Nat → Nat} {p n : Nat} : cq K p n ≤ cm K p n := by
  induction n with
  | zero => exact Nat.le_refl _
  | succ n ih =>
    simp only [cq, cm]
    by_cases h : isQ K p n = true
    · have : isM K p n = true := by unfold isQ at h; simp only [Bool.and_eq_true] at h; exact h.1
      rw [if_pos h, if_pos this]; omega
    · rw [if_neg h]; split <;> omega
theorem TL.fr {t : Nat} {V U V' U' : Sto} {K : Nat → Nat} {L : Nat} (h : TL t V U K L) (hV : ∀ c j, (c = 12 ∨ c = 13 ∨ c = 14 ∨ (c = 11 ∧ j = 8)) → V' c t 0 j = V c t 0 j) (hU : ∀ x idx, (x = 1 ∨ x = 2 ∨ x = 3 ∨ x = 4) → idx / sz x = t → U' x 0 0 idx = U x 0 0 idx) : TL t V' U' K L := by
  obtain ⟨h1, h2, h3, h4⟩ := h
  refine ⟨h1, by rw [hV 11 8 (by omega)]; exact h2, by rw [hU 4 t (by omega) (by simp [sz])]; exact h3, fun j hj => ?_⟩
  have e : ∀ x, (x = 1 ∨ x = 2 ∨ x = 3) → (30 * t + j) / sz x = t := fun x hx => by
    have : sz x = 30 := by rcases hx with rfl | rfl | rfl <;> rfl
    rw [this]; omega
  rw [hV 12 j (by omega), hV 13 j (by omega), hV 14 j (by omega), hU 1 _ (by omega) (e 1 (by omega)), hU 2 _ (by omega) (e 2 (by omega)), hU 3 _ (by omega) (e 3 (by omega))]
  exact h4 j hj
theorem PRel.fr {t : Nat} {V U V' U' : Sto} {i d o : Nat} (hd : d < 6) (h : PRel t V U i d o) (hV : ∀ c j, (c = 22 ∧ j = 2) ∨ c = 23 ∨ c = 24 → V' c t i j = V c t i j) (hU : ∀ x idx, (x = 21 ∨ x = 22 ∨ x = 23 ∨ x = 24) → idx / sz x = t → U' x 0 0 idx = U x 0 0 idx) : PRel t V' U' i d o := by
  obtain ⟨h1, h2, w, h3, h4, h5⟩ := h
  refine ⟨by rw [hU 21 _ (by omega) (by show (6 * t + d) / 6 = t; omega)]; exact h1, fun r hr => by rw [hV 23 r (by omega), hU 22 _ (by omega) (by show (4 * (6 * t + d) + r) / 24 = t; omega)]; exact h2 r hr, w, h3, by rw [hV 22 2 (by omega)]; exact h4, fun v hv => ?_⟩
  rw [hU 23 _ (by omega) (by show (8 * (6 * t + d) + v) / 48 = t; omega), hV 24 v (by omega), hU 24 _ (by omega) (by show (8 * (6 * t + d) + v) / 48 = t; omega)]
  exact h5 v hv
theorem dep5 {K : Nat → Nat} {L p : Nat} (hK : ∀ j, j < L → K j ≤ 16) (hg : Good K L) : p ≤ L → dep K p ≤ 5 := by
  induction p with
  | zero => intro _; simp [dep]
  | succ p ih =>
    intro h
    have h1 := ih (by omega)
    cases ho : opn (K p) with
    | true => rw [dep_o ho]; have := wrg_dep (hK p (by omega)) (hg.1 p (by omega)) ho; omega
    | false =>
      by_cases h7 : K p = 7
      · rw [dep_e h7]; omega
      · rw [dep_n ho h7]; exact h1
theorem TR.fr {c t : Nat} {ver : Nat → Nat} {V U V' U' : Sto} (h : TR c ver t V U) (hV : sameV t V V') (hU : sameU t U U') : TR c ver t V' U' := by
  obtain ⟨K, L, s, R, W, h1, h2, h3, h4⟩ := h
  have s1 : ∀ x, (x = 5 ∨ x = 6 ∨ x = 7 ∨ x = 13 ∨ x = 14 ∨ x = 15 ∨ x = 20) → U' x 0 0 t = U x 0 0 t := fun x hx => hU x t (by omega) (by omega) (by omega) (by omega) (by
    have : sz x = 1 := by rcases hx with rfl | rfl | rfl | rfl | rfl | rfl | rfl <;> rfl
    rw [this]; omega)
  have s4 : ∀ x r, (x = 8 ∨ x = 9) → r < 4 → U' x 0 0 (4 * t + r) = U x 0 0 (4 * t + r) := fun x r hx hr => hU x _ (by omega) (by omega) (by omega) (by omega) (by
    have : sz x = 4 := by rcases hx with rfl | rfl <;> rfl
    rw [this]; omega)
  have s8 : ∀ x v, (x = 16 ∨ x = 17 ∨ x = 18 ∨ x = 19) → v < 8 → U' x 0 0 (8 * t + v) = U x 0 0 (8 * t + v) := fun x v hx hv => hU x _ (by omega) (by omega) (by omega) (by omega) (by
    have : sz x = 8 := by rcases hx with rfl | rfl | rfl | rfl <;> rfl
    rw [this]; omega)
  have hno : NoA t V U → NoA t V' U' := fun ⟨a, b⟩ => ⟨by rw [hV 10 0 5 (by omega)]; exact a, by rw [s1 13 (by omega)]; exact b⟩
  have hrun : ∀ p, Run t V U K L p → Run t V' U' K L p := fun p ⟨a1, a2, a3, a4, a5, a6, a7⟩ => by
    have hd5 : ∀ j, j < dep K p → cq K p j < 6 := fun j hj => by
      have := dep5 (K := K) (L := L) (fun j hj => (h1.mok j (by have := h1.1; omega)).2) a3.1 (p := p) (by omega)
      have := @cq_lt6 K p j
      have := @cm_le K p j
      omega
    exact ⟨a1, by rw [hV 10 0 10 (by omega)]; exact a2, a3.fr (fun j => hV 15 0 j (by omega)) (fun j => hV 16 0 j (by omega)) (fun j => hV 17 0 j (by omega)), by rw [hV 10 0 4 (by omega)]; exact a4, by rw [s1 20 (by omega)]; exact a5, fun j hj hM => by rw [hV 22 _ 3 (by omega)]; exact a6 j hj hM, fun j hj hQ => ⟨(a7 j hj hQ).1.fr (hd5 j hj) (fun c j _ => hV c _ j (by omega)) (fun x idx hx hi => hU x idx (by omega) (by omega) (by omega) (by omega) hi), fun q => by rw [hV 22 _ 2 (by omega)]; exact (a7 j hj hQ).2 q⟩⟩
  refine ⟨K, L, s, R, W, h1.fr (fun c j hc => hV c 0 j (by omega)) (fun x idx hx hi => hU x idx (by omega) (by omega) (by omega) (by omega) hi), ?_, ?_, ?_⟩
  · obtain ⟨a1, a2, a3, a4, a5, a6⟩ := h2
    exact ⟨a1, by rw [hV 10 0 9 (by omega)]; exact a2, by rw [s1 5 (by omega)]; exact a3, by rw [hV 10 0 10 (by omega), s1 6 (by omega)]; exact a4, by rw [hV 10 0 11 (by omega), s1 7 (by omega)]; exact a5, fun r hr => by rw [hV 19 0 r (by omega), s4 8 r (by omega) hr]; exact a6 r hr⟩
  · obtain ⟨a1, a2, a3, a4, a5⟩ := h3
    refine ⟨a1, a2, by rw [hV 10 0 7 (by omega)]; exact a3, by rw [hV 10 0 8 (by omega)]; exact a4, fun v hv => ?_⟩
    rw [s8 17 v (by omega) hv, s8 18 v (by omega) hv, hV 20 0 v (by omega), s8 19 v (by omega) hv]
    exact a5 v hv
  · rcases h4 with ⟨a1, a2, a3, a4, a5⟩ | ⟨a1, a2, a3, p, a4, a5⟩ | ⟨a1, p, a2, a3⟩
    · exact Or.inl ⟨a1, a2, hno a3, a4, a5⟩
    · exact Or.inr (Or.inl ⟨a1, hno a2, a3, p, hrun p a4, a5⟩)
    · refine Or.inr (Or.inr ⟨a1, p, hrun p a2, ?_⟩)
      rcases a3 with ⟨b1, b2, b3, b4⟩ | ⟨j, b1, b2, b3, b4, b5, b6, ⟨g, b7, b8, b9⟩, b10, b11, b12⟩
      · exact Or.inl ⟨b1, hno b2, b3, b4⟩
      · exact Or.inr ⟨j, b1, b2, b3, by rw [hV 10 0 5 (by omega)]; exact b4, by rw [s1 13 (by omega)]; exact b5, by rw [s1 15 (by omega)]; exact b6, ⟨g, b7, by rw [hV 10 0 6 (by omega)]; exact b8, fun v hv => by rw [s8 16 v (by omega) hv]; exact b9 v hv⟩, by rw [s1 14 (by omega), hV 22 _ 3 (by omega)]; exact b10, fun r hr => by rw [s4 9 r (by omega) hr, hV 23 _ r (by omega)]; exact b11 r hr, by rw [hV 22 _ 2 (by omega)]; exact b12⟩
/-- one thread's step: the others stay -/
theorem RelB.one {B B' : Nat} {V U V' U' : Sto} {c n t : Nat} {ver : Nat → Nat} (hB : c ≤ B' ∧ n ≤ B') (hG : GR V' U' c n ver) (h : ∀ t', t' < 4 → t' ≠ t → TR c ver t' V U) (hV : ∀ t', t' < 4 → t' ≠ t → sameV t' V V') (hU : ∀ t', t' < 4 → t' ≠ t → sameU t' U U') (ht : TR c ver t V' U') : RelB B' V' U' :=
  ⟨c, n, ver, hB.1, hB.2, hG, fun t' h1 => by
    by_cases q : t' = t
    · subst q; exact ht
    · exact (h t' h1 q).fr (hV t' h1 q) (hU t' h1 q)⟩
theorem wOK_0 : wOK 0 0 0 := ⟨by decide, fun _ => ⟨0, by decide, rfl⟩, fun q => absurd q (by decide), fun q => absurd q (by decide), fun q => absurd q (by decide)⟩
theorem Rel_0 : Rel 0 V0 U0 := by
  refine ⟨0, 0, fun _ => 0, by omega, by omega, ⟨rfl, rfl, rfl, rfl, fun v hv => ⟨rfl, rfl, Nat.le_refl _, rfl⟩, fun j hj => rfl⟩, fun t ht => ⟨fun _ => 0, 0, 0, 0, 0, ⟨by omega, rfl, rfl, fun j hj => ⟨rfl, rfl, rfl, rfl, wOK_0⟩⟩, ⟨by omega, rfl, rfl, rfl, rfl, fun r hr => rfl⟩, ⟨by omega, by omega, rfl, rfl, fun v hv => ⟨by rw [Nat.zero_testBit]; rfl, by rw [Nat.zero_testBit]; rfl, fun q => by rw [Nat.zero_testBit] at q; cases q⟩⟩, Or.inl ⟨by decide, by decide, ⟨rfl, rfl⟩, rfl, rfl⟩⟩⟩
