/-! a change of variables, and who wakes up -/
def wk (s R X : Nat) : Bool := decide (s = 2) && !(R &&& X == 0)
theorem and_bit0 {R X : Nat} (hR : R < 256) : R &&& X = 0 ↔ ∀ v, v < 8 → ¬ (R.testBit v = true ∧ X.testBit v = true) := by
  constructor
  · intro h v hv q
    have e := congrArg (fun z => z.testBit v) h
    simp only [Nat.testBit_and, q.1, q.2, Nat.zero_testBit] at e
    cases e
  · intro h
    apply Nat.eq_of_testBit_eq
    intro i
    rw [Nat.testBit_and, Nat.zero_testBit]
    by_cases hi : i < 8
    · cases h1 : R.testBit i with
      | false => rfl
      | true =>
        cases h2 : X.testBit i with
        | false => rfl
        | true => exact absurd ⟨h1, h2⟩ (h i hi)
    · rw [Nat.testBit_lt_two_pow (Nat.lt_of_lt_of_le hR (show 2 ^ 8 ≤ 2 ^ i from Nat.pow_le_pow_right (by decide) (by omega)))]
      rfl
theorem and_or {R X v : Nat} (hR : R < 256) (hv : v < 8) : R &&& (X ||| 2 ^ v) = 0 ↔ R &&& X = 0 ∧ R.testBit v = false := by
  rw [and_bit0 hR, and_bit0 hR]
  constructor
  · intro h
    refine ⟨fun u hu q => h u hu ⟨q.1, by rw [or_bit, q.2]; rfl⟩, ?_⟩
    cases hb : R.testBit v with
    | false => rfl
    | true => exact absurd ⟨hb, by rw [or_bit]; simp⟩ (h v hv)
  · intro h u hu q
    rw [or_bit] at q
    by_cases e : v = u
    · subst e; rw [h.2] at q; cases q.1
    · exact h.1 u hu ⟨q.1, by have := q.2; simpa [e] using this⟩
def MS (t s R X : Nat) (U U' : Sto) : Prop :=
  U' 5 0 0 t = (if wk s R X = true then 1 else U 5 0 0 t) ∧ U' 13 0 0 t = (if wk s R X = true then 0 else U 13 0 0 t) ∧
  (∀ v, v < 8 → U' 16 0 0 (8 * t + v) = (if wk s R X = true then 0 else if X.testBit v = true then U 13 0 0 t else U 16 0 0 (8 * t + v)) ∧ U' 17 0 0 (8 * t + v) = (if wk s R X = true then 0 else U 17 0 0 (8 * t + v)) ∧ U' 18 0 0 (8 * t + v) = (if wk s R X = true then 0 else U 18 0 0 (8 * t + v))) ∧
  ∀ x idx, 1 ≤ x → x ≤ 24 → x ≠ 10 → x ≠ 11 → x ≠ 5 → x ≠ 13 → x ≠ 16 → x ≠ 17 → x ≠ 18 → idx / sz x = t → U' x 0 0 idx = U x 0 0 idx
theorem MS.fr {t s R X : Nat} {U U1 U2 : Sto} (h : MS t s R X U U1) (hs : sameU t U1 U2) : MS t s R X U U2 := by
  obtain ⟨h1, h2, h3, h4⟩ := h
  refine ⟨by rw [hs 5 t (by omega) (by omega) (by omega) (by omega) (by simp [sz])]; exact h1, by rw [hs 13 t (by omega) (by omega) (by omega) (by omega) (by simp [sz])]; exact h2, fun v hv => ?_, fun x idx a1 a2 a3 a4 a5 a6 a7 a8 a9 a10 => by rw [hs x idx a1 a2 a3 a4 a10]; exact h4 x idx a1 a2 a3 a4 a5 a6 a7 a8 a9 a10⟩
  rw [hs 16 _ (by omega) (by omega) (by omega) (by omega) (by show (8 * t + v) / 8 = t; omega), hs 17 _ (by omega) (by omega) (by omega) (by omega) (by show (8 * t + v) / 8 = t; omega), hs 18 _ (by omega) (by omega) (by omega) (by omega) (by show (8 * t + v) / 8 = t; omega)]
  exact h3 v hv
theorem MS.rf {t s R : Nat} {U : Sto} : MS t s R 0 U U := by
  have e : wk s R 0 = false := by simp [wk]
  refine ⟨by rw [e]; rfl, by rw [e]; rfl, fun v hv => ⟨by rw [e, Nat.zero_testBit]; rfl, by rw [e]; rfl, by rw [e]; rfl⟩, fun x idx _ _ _ _ _ _ _ _ _ _ => rfl⟩
/-- what isn't a thread's -/
def glo (U U' : Sto) : Prop := ∀ x a b idx, (x = 0 ∨ x = 10 ∨ x = 11 ∨ 25 ≤ x) → U' x a b idx = U x a b idx
theorem glo.rf {U : Sto} : glo U U := fun _ _ _ _ _ => rfl
theorem glo.tr {U U1 U2 : Sto} (h : glo U U1) (h2 : glo U1 U2) : glo U U2 := fun x a b i q => (h2 x a b i q).trans (h x a b i q)
theorem onlyU.glo {t : Nat} {U U' : Sto} (h : onlyU t U U') : glo U U' := fun x a b i q => h x a b i (by omega)
/-- one thread, one variable -/
def chT (U : Sto) (t v : Nat) : Sto := if U 5 0 0 t = 2 ∧ ¬ U 17 0 0 (8 * t + v) = 0 then eaU (st (st U 16 0 0 (8 * t + v) (U 13 0 0 t)) 5 0 0 t 1) t else st U 16 0 0 (8 * t + v) (U 13 0 0 t)
theorem chT_o {U : Sto} {t v : Nat} (hv : v < 8) : onlyU t U (chT U t v) := by
  unfold chT
  have h1 : onlyU t U (st U 16 0 0 (8 * t + v) (U 13 0 0 t)) := onlyU.st ⟨by decide, by decide, by decide, by decide, by show (8 * t + v) / 8 = t; omega⟩
  split
  · exact (h1.tr (onlyU.st ⟨by decide, by decide, by decide, by decide, by simp [sz]⟩)).tr onlyU.ea
  · exact h1
theorem MS_ch {t s R X v : Nat} {b : Bool} {U U1 : Sto} (hR : R < 256) (hs : s ≤ 4) (hv : v < 8) (h5 : U 5 0 0 t = nI s) (h13 : U 13 0 0 t = bI b) (h17 : ∀ v, v < 8 → U 17 0 0 (8 * t + v) = bI (R.testBit v)) (h : MS t s R X U U1) : MS t s R (X ||| 2 ^ v) U (chT U1 t v) := by
  obtain ⟨a1, a2, a3, a4⟩ := h
  have k1 : ∀ x idx, x ≠ 5 ∧ x ≠ 13 ∧ x ≠ 16 ∧ x ≠ 17 ∧ x ≠ 18 → chT U1 t v x 0 0 idx = U1 x 0 0 idx := fun x idx q => by
    unfold chT
    split
    · rw [eaU_x (by omega), st_nc (by omega), st_nc (by omega)]
    · rw [st_nc (by omega)]
  have rest : ∀ x idx, 1 ≤ x → x ≤ 24 → x ≠ 10 → x ≠ 11 → x ≠ 5 → x ≠ 13 → x ≠ 16 → x ≠ 17 → x ≠ 18 → idx / sz x = t → chT U1 t v x 0 0 idx = U x 0 0 idx := fun x idx b1 b2 b3 b4 b5 b6 b7 b8 b9 b10 => by rw [k1 x idx (by omega)]; exact a4 x idx b1 b2 b3 b4 b5 b6 b7 b8 b9 b10
  cases hw : wk s R X with
  | true =>
    -- woken before
    have hw2 : wk s R (X ||| 2 ^ v) = true := by
      unfold wk at hw ⊢
      simp only [Bool.and_eq_true, decide_eq_true_eq, Bool.not_eq_true', beq_eq_false_iff_ne] at hw ⊢
      exact ⟨hw.1, fun q => hw.2 ((and_or hR hv).mp q).1⟩
    rw [hw] at a1 a2 a3
    have e5 : U1 5 0 0 t = 1 := a1
    have e13 : U1 13 0 0 t = 0 := a2
    have ec : chT U1 t v = st U1 16 0 0 (8 * t + v) 0 := by
      unfold chT
      rw [if_neg (fun q => by rw [e5] at q; exact absurd q.1 (by decide)), e13]
    refine ⟨?_, ?_, fun u hu => ?_, rest⟩
    · rw [hw2, ec, st_nc (by decide)]; exact e5
    · rw [hw2, ec, st_nc (by decide)]; exact e13
    · rw [hw2, ec, st_nc (show 17 ≠ 16 by decide), st_nc (show 18 ≠ 16 by decide)]
      refine ⟨?_, (a3 u hu).2.1, (a3 u hu).2.2⟩
      by_cases e : u = v
      · rw [e, st_eq]; rfl
      · rw [st_nj (by omega)]; exact (a3 u hu).1
  | false =>
    rw [hw] at a1 a2 a3
    have e5 : U1 5 0 0 t = nI s := a1.trans h5
    have e13 : U1 13 0 0 t = U 13 0 0 t := a2
    have e17 : U1 17 0 0 (8 * t + v) = bI (R.testBit v) := (a3 v hv).2.1.trans (h17 v hv)
    by_cases q : s = 2 ∧ R.testBit v = true
    · have hw2 : wk s R (X ||| 2 ^ v) = true := by
        unfold wk
        simp only [Bool.and_eq_true, decide_eq_true_eq, Bool.not_eq_true', beq_eq_false_iff_ne]
        exact ⟨q.1, fun z => by rw [((and_or hR hv).mp z).2] at q; cases q.2⟩
      have ec : chT U1 t v = eaU (st (st U1 16 0 0 (8 * t + v) (U1 13 0 0 t)) 5 0 0 t 1) t := by
        unfold chT
        rw [if_pos ⟨by rw [e5, q.1]; rfl, by rw [e17, q.2]; decide⟩]
      refine ⟨?_, ?_, fun u hu => ?_, rest⟩
      · rw [hw2, ec, eaU_x (by omega), st_eq]; rfl
      · rw [hw2, ec, eaU_13]; rfl
      · rw [hw2, ec]
        exact ⟨eaU_b (by omega) hu, eaU_b (by omega) hu, eaU_b (by omega) hu⟩
    · have hw2 : wk s R (X ||| 2 ^ v) = false := by
        unfold wk at hw ⊢
        simp only [Bool.and_eq_false_iff, decide_eq_false_iff_not, Bool.not_eq_false', beq_iff_eq] at hw ⊢
        rcases hw with z | z
        · exact Or.inl z
        · by_cases z2 : s = 2
          · right
            refine (and_or hR hv).mpr ⟨z, ?_⟩
            cases hb : R.testBit v with
            | false => rfl
            | true => exact absurd ⟨z2, hb⟩ q
          · exact Or.inl z2
      have ec : chT U1 t v = st U1 16 0 0 (8 * t + v) (U 13 0 0 t) := by
        unfold chT
        rw [if_neg (fun z => ?_), e13]
        rw [e5, st2 hs] at z
        exact q ⟨z.1, by
          cases hb : R.testBit v with
          | true => rfl
          | false => rw [e17, hb] at z; exact absurd rfl z.2⟩
      refine ⟨?_, ?_, fun u hu => ?_, rest⟩
      · rw [hw2, ec, st_nc (by decide)]; exact a1
      · rw [hw2, ec, st_nc (by decide)]; exact a2
      · rw [hw2, ec, st_nc (show 17 ≠ 16 by decide), st_nc (show 18 ≠ 16 by decide)]
        refine ⟨?_, (a3 u hu).2.1, (a3 u hu).2.2⟩
        rw [or_bit]
        by_cases e : u = v
        · rw [e, st_eq]; simp
        · rw [st_nj (by omega), (a3 u hu).1]
          have e2 : ¬ v = u := fun z => e z.symm
          simp [e2]
/-- the loop over the threads -/
theorem M_ch_L {v : Nat} (hv : v < 8) {sf Rf : Nat → Nat} {bf : Nat → Bool} {U : Sto} (hR : ∀ t, t < 4 → Rf t < 256 ∧ sf t ≤ 4 ∧ U 5 0 0 t = nI (sf t) ∧ U 13 0 0 t = bI (bf t) ∧ ∀ u, u < 8 → U 17 0 0 (8 * t + u) = bI ((Rf t).testBit u)) {X : Nat} : ∀ (n i : Nat) (U1 : Sto), i ≤ 4 → 4 < i + n → (∀ t, t < 4 → MS t (sf t) (Rf t) (if t < i then X ||| 2 ^ v else X) U U1) → ∃ U2, fX6_changed_L19 n U1 (nI v) (nI i) = some U2 ∧ (∀ t, t < 4 → MS t (sf t) (Rf t) (X ||| 2 ^ v) U U2) ∧ glo U1 U2 := by
  intro n
  induction n with
  | zero => intro i U1 a b; omega
  | succ n ih =>
    intro i U1 h1 h2 hM
    rw [fX6_changed_L19]
    by_cases h : 4 ≤ i
    · have : i = 4 := by omega
      subst this
      rw [if_pos (by decide)]
      exact ⟨U1, rfl, fun t ht => by have := hM t ht; rw [if_pos ht] at this; exact this, glo.rf⟩
    · have hi : i < 4 := by omega
      obtain ⟨r1, r2, r3, r4, r5⟩ := hR i hi
      have hMi := hM i hi
      rw [if_neg (Nat.lt_irrefl i)] at hMi
      have n13 : nb (U1 13 0 0 i) = U1 13 0 0 i := by
        rw [hMi.2.1, r4]
        split
        · exact nb_0
        · exact nb_bI _
      have hgo : ∃ U2, fX6_changed_L19 n (chT U1 i v) (nI v) (nI (i + 1)) = some U2 ∧ (∀ t, t < 4 → MS t (sf t) (Rf t) (X ||| 2 ^ v) U U2) ∧ glo (chT U1 i v) U2 := by
        refine ih (i + 1) (chT U1 i v) (by omega) (by omega) (fun t ht => ?_)
        by_cases q : t = i
        · subst q
          rw [if_pos (by omega)]
          exact MS_ch r1 r2 hv r3 r4 r5 hMi
        · have := (hM t ht).fr ((chT_o (U := U1) (t := i) hv).same q)
          by_cases q2 : t < i
          · rw [if_pos q2] at this; rw [if_pos (by omega)]; exact this
          · rw [if_neg q2] at this; rw [if_neg (by omega)]; exact this
      obtain ⟨U2, g1, g2, g3⟩ := hgo
      refine ⟨U2, ?_, g2, (chT_o hv).glo.tr g3⟩
      rw [if_neg (show ¬ (4 : Int32) ≤ nI i from nI_ge (b := 4) hi (by decide)), ix_8]
      simp only [gd_of (inb_nI hi (show 4 < 2 ^ 31 by decide)), gd_of (inb_nI (show 8 * i + v < 32 by omega) (show 32 < 2 ^ 31 by decide)), bnd_e, nI_clamp (show i < 2 ^ 31 by omega), nI_clamp (show 8 * i + v < 2 ^ 31 by omega), nI_1, n13]
      rw [st_nc (show 5 ≠ 16 by decide), st_nc (show 17 ≠ 16 by decide)]
      unfold chT at g1
      by_cases q1 : U1 5 0 0 i = 2
      · by_cases q2 : U1 17 0 0 (8 * i + v) = 0
        · rw [if_pos q1, if_pos q2]
          rw [if_neg (fun z => z.2 q2)] at g1
          exact g1
        · rw [if_pos q1, if_neg q2, X6_ea hi, ob_e]
          rw [if_pos ⟨q1, q2⟩] at g1
          exact g1
      · rw [if_neg q1]
        rw [if_neg (fun z => q1 z.1)] at g1
        exact g1
theorem M_changed {v : Nat} {y : Int32} (hv : v < 8) {sf Rf : Nat → Nat} {bf : Nat → Bool} {U : Sto} (hR : ∀ t, t < 4 → Rf t < 256 ∧ sf t ≤ 4 ∧ U 5 0 0 t = nI (sf t) ∧ U 13 0 0 t = bI (bf t) ∧ ∀ u, u < 8 → U 17 0 0 (8 * t + u) = bI ((Rf t).testBit u)) {X : Nat} {U1 : Sto} (hM : ∀ t, t < 4 → MS t (sf t) (Rf t) X U U1) : ∃ U2, fX6_changed U1 (nI v) y = some U2 ∧ (∀ t, t < 4 → MS t (sf t) (Rf t) (X ||| 2 ^ v) U U2) ∧ (∀ x a b idx, (x = 0 ∨ x = 10 ∨ x = 11 ∨ 25 ≤ x) → U2 x a b idx = st (st U1 10 0 0 v y) 11 0 0 v (U1 0 0 0 11) x a b idx) := by
  have hs : ∀ t, sameU t U1 (st (st U1 10 0 0 v y) 11 0 0 v (U1 0 0 0 11)) := fun t x idx h1 h2 h3 h4 _ => by rw [st_nc h4, st_nc h3]
  obtain ⟨U2, a1, a2, a3⟩ := M_ch_L hv hR (X := X) 40 0 (st (st U1 10 0 0 v y) 11 0 0 v (U1 0 0 0 11)) (by omega) (by omega) (fun t ht => by rw [if_neg (by omega)]; exact (hM t ht).fr (hs t))
  refine ⟨U2, ?_, a2, a3⟩
  unfold fX6_changed
  rw [gd_of (inb_nI hv (by decide)), bnd_e, gd_of (inb_nI hv (by decide)), bnd_e, nI_clamp (by omega), st_nc (show 0 ≠ 10 by decide)]
  have a1' : fX6_changed_L19 40 (st (st U1 10 0 0 v y) 11 0 0 v (U1 0 0 0 11)) (nI v) 0 = some U2 := a1
  rw [a1', ob_e]
/-! the class's side -/
def CS (t s R X : Nat) (V V' : Sto) : Prop := V' 10 t 0 7 = (if wk s R X = true then 0 else V 10 t 0 7) ∧ V' 10 t 0 9 = (if wk s R X = true then 1 else V 10 t 0 9) ∧ ∀ c i j, 10 ≤ c → ¬ (c = 10 ∧ i = 0 ∧ (j = 7 ∨ j = 9)) → V' c t i j = V c t i j
theorem C_wake_L {X : Nat} (hX : X < 256) {sf Rf : Nat → Nat} {V : Sto} (hR : ∀ t, t < 4 → Rf t < 256 ∧ sf t ≤ 4 ∧ V 10 t 0 9 = nI (sf t) ∧ V 10 t 0 7 = nI (Rf t)) : ∀ (n i : Nat) (V1 : Sto), i ≤ 4 → 4 < i + n → (∀ t, t < i → CS t (sf t) (Rf t) X V V1) → (∀ t, i ≤ t → sameV t V V1) → ∃ V2, fX5_wake_L2 n V1 (nI X) (nI i) = some V2 ∧ (∀ t, t < 4 → CS t (sf t) (Rf t) X V V2) ∧ ∀ c t i j, c < 10 → V2 c t i j = V1 c t i j := by
  intro n
  induction n with
  | zero => intro i V1 a b; omega
  | succ n ih =>
    intro i V1 h1 h2 hC hsm
    rw [fX5_wake_L2]
    by_cases h : 4 ≤ i
    · have : i = 4 := by omega
      subst this
      rw [if_pos (by decide)]
      exact ⟨V1, rfl, hC, fun _ _ _ _ _ => rfl⟩
    · have hi : i < 4 := by omega
      obtain ⟨r1, r2, r3, r4⟩ := hR i hi
      have e9 : V1 10 i 0 9 = nI (sf i) := by rw [hsm i (Nat.le_refl i) 10 0 9 (by omega)]; exact r3
      have e7 : V1 10 i 0 7 = nI (Rf i) := by rw [hsm i (Nat.le_refl i) 10 0 7 (by omega)]; exact r4
      have hle : Rf i &&& X ≤ Rf i := Nat.and_le_left
      have ew : fX4_waitsFor V1 i (nI X) = some (bI (wk (sf i) (Rf i) X)) := by
        unfold fX4_waitsFor
        rw [e9, e7, nI_and]
        simp only [st2 r2, nI_eq0 (d := Rf i &&& X) (by omega)]
        by_cases q : sf i = 2
        · rw [if_pos q]
          by_cases q2 : Rf i &&& X = 0
          · rw [if_pos q2]; simp [wk, q2, bI]
          · rw [if_neg q2]; simp [wk, q, q2, bI]
        · rw [if_neg q]; simp [wk, q, bI]
      rw [if_neg (show ¬ (4 : Int32) ≤ nI i from nI_ge (b := 4) hi (by decide)), gd_of (inb_nI hi (by decide)), nI_clamp (by omega), ew, ob_e, nI_1, gd_of (inb_nI hi (by decide))]
      cases hw : wk (sf i) (Rf i) X with
      | false =>
        rw [if_pos (by decide)]
        refine ih (i + 1) V1 (by omega) (by omega) (fun t ht => ?_) (fun t ht => hsm t (by omega))
        by_cases q : t = i
        · subst q
          refine ⟨by rw [hw]; exact hsm t (Nat.le_refl t) 10 0 7 (by omega), by rw [hw]; exact hsm t (Nat.le_refl t) 10 0 9 (by omega), fun c i j h3 _ => hsm t (Nat.le_refl t) c i j h3⟩
        · exact hC t (by omega)
      | true =>
        have eu : fX4_wakeUp V1 i = some (st (st V1 10 i 0 7 0) 10 i 0 9 1) := rfl
        rw [if_neg (by decide), eu, ob_e]
        obtain ⟨V2, g1, g2, g3⟩ := ih (i + 1) (st (st V1 10 i 0 7 0) 10 i 0 9 1) (by omega) (by omega) (fun t ht => by
          by_cases q : t = i
          · subst q
            refine ⟨by rw [hw, st_nj (by decide), st_eq]; rfl, by rw [hw, st_eq]; rfl, fun c i j h3 h4 => ?_⟩
            rw [st_get, if_neg (by omega), st_get, if_neg (by omega)]
            exact hsm t (Nat.le_refl t) c i j h3
          · obtain ⟨c1, c2, c3⟩ := hC t (by omega)
            exact ⟨by rw [st_nt q, st_nt q]; exact c1, by rw [st_nt q, st_nt q]; exact c2, fun c i j h3 h4 => by rw [st_nt q, st_nt q]; exact c3 c i j h3 h4⟩) (fun t ht c i j h3 => by rw [st_nt (by omega), st_nt (by omega)]; exact hsm t (by omega) c i j h3)
        exact ⟨V2, g1, g2, fun c t i j q => by rw [g3 c t i j q, st_nc (by omega), st_nc (by omega)]⟩
theorem C_wake {X : Nat} (hX : X < 256) {sf Rf : Nat → Nat} {V : Sto} (hR : ∀ t, t < 4 → Rf t < 256 ∧ sf t ≤ 4 ∧ V 10 t 0 9 = nI (sf t) ∧ V 10 t 0 7 = nI (Rf t)) : ∃ V2, fX5_wake V (nI X) = some V2 ∧ (∀ t, t < 4 → CS t (sf t) (Rf t) X V V2) ∧ ∀ c t i j, c < 10 → V2 c t i j = V c t i j := by
  obtain ⟨V2, a, b, c⟩ := C_wake_L hX hR 40 0 V (by omega) (by omega) (fun t ht => by omega) (fun t _ c i j _ => rfl)
  refine ⟨V2, ?_, b, c⟩
  unfold fX5_wake
  have a' : fX5_wake_L2 40 V (nI X) 0 = some V2 := a
  rw [a', ob_e]
