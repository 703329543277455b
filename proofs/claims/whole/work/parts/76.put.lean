/-! a change, as the threads see it -/
theorem TR.fr16 {c c' t : Nat} {ver ver' : Nat → Nat} {V U V' U' : Sto} (h : TR c ver t V U) (hc : c ≤ c') (hV : sameV t V V') (hU : ∀ x idx, 1 ≤ x → x ≤ 24 → x ≠ 10 → x ≠ 11 → x ≠ 16 → idx / sz x = t → U' x 0 0 idx = U x 0 0 idx) (h16 : U 13 0 0 t = 1 → ∀ g v, v < 8 → g ≤ c → U 16 0 0 (8 * t + v) = bI (decide (g < ver v)) → U' 16 0 0 (8 * t + v) = bI (decide (g < ver' v))) : TR c' ver' t V' U' := by
  obtain ⟨K, L, s, R, W, h1, h2, h3, h4⟩ := h
  have s1 : ∀ x, (x = 5 ∨ x = 6 ∨ x = 7 ∨ x = 13 ∨ x = 14 ∨ x = 15 ∨ x = 20) → U' x 0 0 t = U x 0 0 t := fun x hx => hU x t (by omega) (by omega) (by omega) (by omega) (by omega) (by
    have : sz x = 1 := by rcases hx with rfl | rfl | rfl | rfl | rfl | rfl | rfl <;> rfl
    rw [this]; omega)
  have s4 : ∀ x r, (x = 8 ∨ x = 9) → r < 4 → U' x 0 0 (4 * t + r) = U x 0 0 (4 * t + r) := fun x r hx hr => hU x _ (by omega) (by omega) (by omega) (by omega) (by omega) (by
    have : sz x = 4 := by rcases hx with rfl | rfl <;> rfl
    rw [this]; omega)
  have s8 : ∀ x v, (x = 17 ∨ x = 18 ∨ x = 19) → v < 8 → U' x 0 0 (8 * t + v) = U x 0 0 (8 * t + v) := fun x v hx hv => hU x _ (by omega) (by omega) (by omega) (by omega) (by omega) (by
    have : sz x = 8 := by rcases hx with rfl | rfl | rfl <;> rfl
    rw [this]; omega)
  have hno : NoA t V U → NoA t V' U' := fun ⟨a, b⟩ => ⟨by rw [hV 10 0 5 (by omega)]; exact a, by rw [s1 13 (by omega)]; exact b⟩
  have hrun : ∀ p, Run t V U K L p → Run t V' U' K L p := fun p ⟨a1, a2, a3, a4, a5, a6, a7⟩ => by
    have hd5 : ∀ j, j < dep K p → cq K p j < 6 := fun j hj => by
      have := dep5 (K := K) (L := L) (fun j hj => (h1.mok j (by have := h1.1; omega)).2) a3.1 (p := p) (by omega)
      have := @cq_lt6 K p j
      have := @cm_le K p j
      omega
    exact ⟨a1, by rw [hV 10 0 10 (by omega)]; exact a2, a3.fr (fun j => hV 15 0 j (by omega)) (fun j => hV 16 0 j (by omega)) (fun j => hV 17 0 j (by omega)), by rw [hV 10 0 4 (by omega)]; exact a4, by rw [s1 20 (by omega)]; exact a5, fun j hj hM => by rw [hV 22 _ 3 (by omega)]; exact a6 j hj hM, fun j hj hQ => ⟨(a7 j hj hQ).1.fr (hd5 j hj) (fun c j _ => hV c _ j (by omega)) (fun x idx hx hi => hU x idx (by omega) (by omega) (by omega) (by omega) (by omega) hi), fun q => by rw [hV 22 _ 2 (by omega)]; exact (a7 j hj hQ).2 q⟩⟩
  refine ⟨K, L, s, R, W, h1.fr (fun c j hc => hV c 0 j (by omega)) (fun x idx hx hi => hU x idx (by omega) (by omega) (by omega) (by omega) (by omega) hi), ?_, ?_, ?_⟩
  · obtain ⟨a1, a2, a3, a4, a5, a6⟩ := h2
    exact ⟨a1, by rw [hV 10 0 9 (by omega)]; exact a2, by rw [s1 5 (by omega)]; exact a3, by rw [hV 10 0 10 (by omega), s1 6 (by omega)]; exact a4, by rw [hV 10 0 11 (by omega), s1 7 (by omega)]; exact a5, fun r hr => by rw [hV 19 0 r (by omega), s4 8 r (by omega) hr]; exact a6 r hr⟩
  · obtain ⟨a1, a2, a3, a4, a5⟩ := h3
    refine ⟨a1, a2, by rw [hV 10 0 7 (by omega)]; exact a3, by rw [hV 10 0 8 (by omega)]; exact a4, fun v hv => ?_⟩
    rw [s8 17 v (by omega) hv, s8 18 v (by omega) hv, hV 20 0 v (by omega), s8 19 v (by omega) hv]
    exact a5 v hv
  · rcases h4 with ⟨a1, a2, a3, a4, a5⟩ | ⟨a1, a2, a3, p, a4, a5⟩ | ⟨a1, p, a2, a3⟩
    · exact Or.inl ⟨a1, a2, hno a3, a4, a5⟩
    · exact Or.inr (Or.inl ⟨a1, hno a2, a3, p, hrun p a4, a5⟩)
    · refine Or.inr (Or.inr ⟨a1, p, hrun p a2, ?_⟩)
      rcases a3 with ⟨b1, b2, b3, b4⟩ | ⟨j, b1, b2, b3, b4, b5, b6, ⟨g, b7, b8, b9⟩, b10, b11, b12⟩
      · exact Or.inl ⟨b1, hno b2, b3, b4⟩
      · exact Or.inr ⟨j, b1, b2, b3, by rw [hV 10 0 5 (by omega)]; exact b4, by rw [s1 13 (by omega)]; exact b5, by rw [s1 15 (by omega)]; exact b6, ⟨g, by omega, by rw [hV 10 0 6 (by omega)]; exact b8, fun v hv => h16 b5 g v hv b7 (b9 v hv)⟩, by rw [s1 14 (by omega), hV 22 _ 3 (by omega)]; exact b10, fun r hr => by rw [s4 9 r (by omega) hr, hV 23 _ r (by omega)]; exact b11 r hr, by rw [hV 22 _ 2 (by omega)]; exact b12⟩

theorem MS.base {t s R X : Nat} {U U1 U2 : Sto} (hs : sameU t U U1) (h : MS t s R X U1 U2) : MS t s R X U U2 := by
  obtain ⟨h1, h2, h3, h4⟩ := h
  have e5 := hs 5 t (by omega) (by omega) (by omega) (by omega) (by simp [sz])
  have e13 := hs 13 t (by omega) (by omega) (by omega) (by omega) (by simp [sz])
  refine ⟨by rw [← e5]; exact h1, by rw [← e13]; exact h2, fun v hv => ?_, fun x idx a1 a2 a3 a4 a5 a6 a7 a8 a9 a10 => by rw [← hs x idx a1 a2 a3 a4 a10]; exact h4 x idx a1 a2 a3 a4 a5 a6 a7 a8 a9 a10⟩
  rw [← e13, ← hs 16 (8 * t + v) (by omega) (by omega) (by omega) (by omega) (by show (8 * t + v) / 8 = t; omega), ← hs 17 (8 * t + v) (by omega) (by omega) (by omega) (by omega) (by show (8 * t + v) / 8 = t; omega), ← hs 18 (8 * t + v) (by omega) (by omega) (by omega) (by omega) (by show (8 * t + v) / 8 = t; omega)]
  exact h3 v hv
theorem CS.base {t s R X : Nat} {V V1 V2 : Sto} (hs : sameV t V V1) (h : CS t s R X V1 V2) : CS t s R X V V2 := by
  obtain ⟨h1, h2, h3⟩ := h
  exact ⟨by rw [← hs 10 0 7 (by omega)]; exact h1, by rw [← hs 10 0 9 (by omega)]; exact h2, fun c i j a b => by rw [← hs c i j a]; exact h3 c i j a b⟩
def sF (V : Sto) (t : Nat) : Nat := (V 10 t 0 9).toNatClampNeg
def RF (V : Sto) (t : Nat) : Nat := (V 10 t 0 7).toNatClampNeg
def bF (U : Sto) (t : Nat) : Bool := !(U 13 0 0 t == 0)
section WK
variable {V U V' U' : Sto}
theorem TR.fn {c t : Nat} {ver : Nat → Nat} (h : TR c ver t V U) : RF V t < 256 ∧ sF V t ≤ 4 ∧ V 10 t 0 9 = nI (sF V t) ∧ V 10 t 0 7 = nI (RF V t) ∧ U 5 0 0 t = nI (sF V t) ∧ U 13 0 0 t = bI (bF U t) ∧ ∀ u, u < 8 → U 17 0 0 (8 * t + u) = bI ((RF V t).testBit u) := by
  obtain ⟨R, W, hS, b, hb, -⟩ := h.att
  obtain ⟨K, L, s, R', W', h1, h2, -, -⟩ := h
  have e9 : sF V t = s := by unfold sF; rw [h2.2.1, nI_clamp (by have := h2.1; omega)]
  have e7 : RF V t = R := by unfold RF; rw [hS.2.2.1, nI_clamp (by have := hS.1; omega)]
  have eb : bF U t = b := by unfold bF; rw [hb]; cases b <;> decide
  rw [e9, e7, eb]
  exact ⟨hS.1, h2.1, h2.2.1, hS.2.2.1, h2.2.2.1, hb, fun u hu => (hS.2.2.2.2 u hu).1⟩
theorem TR_wake {c c' t X : Nat} {ver ver' : Nat → Nat} (ht : t < 4) (h : TR c ver t V U) (hC : CS t (sF V t) (RF V t) X V V') (hM : MS t (sF V t) (RF V t) X U U') (hc : c ≤ c') (hX : ∀ v, v < 8 → X.testBit v = true → c < c' ∧ ver' v = c') (hX2 : ∀ v, v < 8 → X.testBit v = false → ver' v = ver v) : TR c' ver' t V' U' := by
  obtain ⟨f1, f2, f3, f4, f5, f6, f7⟩ := h.fn
  cases hw : wk (sF V t) (RF V t) X with
  | false =>
    obtain ⟨c1, c2, c3⟩ := hC
    obtain ⟨m1, m2, m3, m4⟩ := hM
    rw [hw] at c1 c2 m1 m2 m3
    refine h.fr16 hc (fun c i j hc10 => ?_) (fun x idx a1 a2 a3 a4 a5 a6 => ?_) (fun u13 g v hv hg q => ?_)
    · by_cases q : c = 10 ∧ i = 0 ∧ (j = 7 ∨ j = 9)
      · obtain ⟨rfl, rfl, rfl | rfl⟩ := q
        · exact c1
        · exact c2
      · exact c3 c i j hc10 q
    · by_cases q5 : x = 5
      · subst q5
        have : idx = t := by simp [sz] at a6; exact a6
        rw [this]; exact m1
      · by_cases q13 : x = 13
        · subst q13
          have : idx = t := by simp [sz] at a6; exact a6
          rw [this]; exact m2
        · by_cases q17 : x = 17
          · subst q17
            have a7 : idx / 8 = t := a6
            have : idx = 8 * t + idx % 8 := by omega
            rw [this]; exact (m3 (idx % 8) (by omega)).2.1
          · by_cases q18 : x = 18
            · subst q18
              have a7 : idx / 8 = t := a6
              have : idx = 8 * t + idx % 8 := by omega
              rw [this]; exact (m3 (idx % 8) (by omega)).2.2
            · exact m4 x idx a1 a2 a3 a4 q5 q13 a5 q17 q18 a6
    · have e := (m3 v hv).1
      cases hb : X.testBit v with
      | true =>
        obtain ⟨z1, z2⟩ := hX v hv hb
        rw [e, hb, z2]
        simp only [Bool.false_eq_true, if_false, if_true]
        rw [u13, decide_eq_true (by omega)]
        rfl
      | false =>
        rw [e, hb, hX2 v hv hb]
        simp only [Bool.false_eq_true, if_false]
        exact q
  | true =>
    have hs2 : sF V t = 2 := by
      unfold wk at hw
      simp only [Bool.and_eq_true, decide_eq_true_eq] at hw
      exact hw.1
    obtain ⟨c1, c2, c3⟩ := hC
    obtain ⟨m1, m2, m3, m4⟩ := hM
    rw [hw] at c1 c2 m1 m2 m3
    simp only [if_true] at c1 c2 m1 m2 m3
    obtain ⟨K, L, s, R, W, h1, h2, h3, h4⟩ := h
    have es : s = 2 := by
      have : nI s = nI 2 := by rw [← h2.2.1, f3, hs2]
      exact nI_inj (by have := h2.1; omega) (by decide) this
    rcases h4 with ⟨a1, a2, -⟩ | ⟨a1, a2, a3, p, ⟨b1, b2, b3, b4⟩, a5⟩ | ⟨a1, -⟩
    · exact absurd es a2
    · subst a3
      have u0 : ∀ x, (x = 6 ∨ x = 7 ∨ x = 20) → U' x 0 0 t = U x 0 0 t := fun x hx => m4 x t (by omega) (by omega) (by omega) (by omega) (by omega) (by omega) (by omega) (by omega) (by omega) (by
        have : sz x = 1 := by rcases hx with rfl | rfl | rfl <;> rfl
        rw [this]; omega)
      have hd5 : ∀ j, j < dep K p → cq K p j < 6 := fun j hj => by
        have := dep5 (K := K) (L := L) (fun j hj => (h1.mok j (by have := h1.1; omega)).2) b3.1 (p := p) (by omega)
        have := @cq_lt6 K p j
        have := @cm_le K p j
        omega
      refine ⟨K, L, 1, 0, 0, h1.fr (fun c j q => c3 c 0 j (by omega) (by omega)) (fun x idx q hi => m4 x idx (by omega) (by omega) (by omega) (by omega) (by omega) (by omega) (by omega) (by omega) (by omega) hi), ⟨by omega, c2, m1, ?_, ?_, fun r hr => ?_⟩, ⟨by omega, by omega, c1, ?_, fun v hv => ⟨?_, ?_, fun q => by rw [Nat.zero_testBit] at q; cases q⟩⟩, Or.inr (Or.inr ⟨rfl, p, ⟨b1, ?_, b3.fr (fun j => c3 15 0 j (by omega) (by omega)) (fun j => c3 16 0 j (by omega) (by omega)) (fun j => c3 17 0 j (by omega) (by omega)), ?_⟩, Or.inl ⟨a5, ⟨?_, m2⟩, rfl, rfl⟩⟩)⟩
      · rw [c3 10 0 10 (by omega) (by omega), u0 6 (by omega)]; exact h2.2.2.2.1
      · rw [c3 10 0 11 (by omega) (by omega), u0 7 (by omega)]; exact h2.2.2.2.2.1
      · rw [c3 19 0 r (by omega) (by omega), m4 8 _ (by omega) (by omega) (by omega) (by omega) (by omega) (by omega) (by omega) (by omega) (by omega) (by show (4 * t + r) / 4 = t; omega)]; exact h2.2.2.2.2.2 r hr
      · rw [c3 10 0 8 (by omega) (by omega)]; exact h3.2.2.2.1
      · rw [(m3 v hv).2.1, Nat.zero_testBit]; rfl
      · rw [(m3 v hv).2.2, Nat.zero_testBit]; rfl
      · rw [c3 10 0 10 (by omega) (by omega)]; exact b2
      · have g4 : V' 10 t 0 4 = nI (cm K p (dep K p)) := by rw [c3 10 0 4 (by omega) (by omega)]; exact b4.1
        have g20 : U' 20 0 0 t = nI (cq K p (dep K p)) := by rw [u0 20 (by omega)]; exact b4.2.1
        have hcq : ∀ d, d < cq K p (dep K p) → d < 6 := fun d hd => by
          have := dep5 (K := K) (L := L) (fun j hj => (h1.mok j (by have := h1.1; omega)).2) b3.1 (p := p) (by omega)
          have := @cq_lt6 K p (dep K p)
          have := @cm_le K p (dep K p)
          omega
        refine TMd.cut b4 (Nat.le_refl _) hd5 g4 g20 (fun i c j _ hc => c3 c i j (by omega) (by omega)) (fun x d idx hd hx => ?_)
        have hdd := hcq d hd
        refine m4 x idx ?_ ?_ ?_ ?_ ?_ ?_ ?_ ?_ ?_ ?_
        all_goals try (have := hx.x; omega)
        rcases hx with ⟨rfl, rfl⟩ | ⟨rfl, r, hr, rfl⟩ | ⟨rfl | rfl, v, hv, rfl⟩
        · show (6 * t + d) / 6 = t; omega
        · show (4 * (6 * t + d) + r) / 24 = t; omega
        · show (8 * (6 * t + d) + v) / 48 = t; omega
        · show (8 * (6 * t + d) + v) / 48 = t; omega
      · rw [c3 10 0 5 (by omega) (by omega)]; exact a2.1
    · omega
theorem R_put {k : Nat} (h : Rel k V U) (x1 x2 : Int32) : ∃ (r : Int32) (V' : Sto) (U' : Sto), fX5_put V x1 x2 = some (r, V') ∧ fX6_put U x1 x2 = some (r, U') ∧ Rel (k + 1) V' U' := by
  obtain ⟨c, n, ver, hc, hn, hG, hT⟩ := id h
  unfold fX5_put fX6_put
  rcases rng x1 (show 8 < 2 ^ 31 by decide) with q | ⟨v, hv, rfl⟩
  · exact ⟨0, V, U, by rw [vO q, ob_e, if_pos rfl], by rw [o8O q, ob_e, if_neg i01], h.up⟩
  · obtain ⟨g1, g2, g3, g4, g5, g6⟩ := hG
    have e1 : fX1_countCommit V = some (st V 1 0 0 2 (nI (c + 1))) := by unfold fX1_countCommit; rw [bnd_e, g1, nI_1]
    have e2 : fX1_change (st V 1 0 0 2 (nI (c + 1))) (nI v) x2 = some (st (st (st V 1 0 0 2 (nI (c + 1))) 2 0 0 v x2) 3 0 0 v (nI (c + 1))) := by
      unfold fX1_change
      rw [vI hv, ob_e, if_neg i01, gd_of (inb_nI hv (by decide)), bnd_e, gd_of (inb_nI hv (by decide)), bnd_e, nI_clamp (by omega), st_nc (show 1 ≠ 2 by decide), st_eq]
    have sV : ∀ t, sameV t V (st (st (st V 1 0 0 2 (nI (c + 1))) 2 0 0 v x2) 3 0 0 v (nI (c + 1))) := fun t c i j hc => by rw [st_nc (by omega), st_nc (by omega), st_nc (by omega)]
    have sU1 : ∀ t, sameU t U (st U 0 0 0 11 (nI (c + 1))) := fun t x idx a1 a2 a3 a4 a5 => st_nc (by omega)
    obtain ⟨V2, w1, w2, w3⟩ := C_wake (X := 2 ^ v) (p8 v hv).1 (sf := sF V) (Rf := RF V) (V := st (st (st V 1 0 0 2 (nI (c + 1))) 2 0 0 v x2) 3 0 0 v (nI (c + 1))) (fun t ht => by
      have := (hT t ht).fn
      exact ⟨this.1, this.2.1, by rw [sV t 10 0 9 (by omega)]; exact this.2.2.1, by rw [sV t 10 0 7 (by omega)]; exact this.2.2.2.1⟩)
    obtain ⟨U2, m1, m2, m3⟩ := M_changed (v := v) (y := x2) hv (sf := sF V) (Rf := RF V) (bf := bF U) (U := U) (fun t ht => by
      have := (hT t ht).fn
      exact ⟨this.1, this.2.1, this.2.2.2.2⟩) (X := 0) (U1 := st U 0 0 0 11 (nI (c + 1))) (fun t ht => MS.rf.fr (sU1 t))
    refine ⟨1, V2, U2, ?_, ?_, c + 1, n, fun u => if u = v then c + 1 else ver u, by omega, by omega, ⟨?_, ?_, ?_, ?_, fun u hu => ?_, fun j hj => ?_⟩, fun t ht => ?_⟩
    · rw [vI hv, ob_e, if_neg i01, e1, ob_e, e2, ob_e, one_shl v hv, w1, ob_e]
    · rw [o8I hv, ob_e, if_pos rfl, bnd_e, g2, nI_1, m1, ob_e]
    · rw [w3 1 0 0 2 (by omega), st_nc (by decide), st_nc (by decide), st_eq]
    · rw [m3 0 0 0 11 (by omega), st_nc (by decide), st_nc (by decide), st_eq]
    · rw [w3 4 0 0 1 (by omega), st_nc (by decide), st_nc (by decide), st_nc (by decide)]; exact g3
    · rw [m3 0 0 0 24 (by omega), st_nc (by decide), st_nc (by decide), st_nj (by decide)]; exact g4
    · obtain ⟨a1, a2, a3, a4⟩ := g5 u hu
      rw [w3 3 0 0 u (by omega), w3 2 0 0 u (by omega), m3 11 0 0 u (by omega), m3 10 0 0 u (by omega), st_nc (show 2 ≠ 3 by decide), st_nc (show 10 ≠ 11 by decide)]
      by_cases q : u = v
      · subst q
        simp only [if_true]
        rw [st_eq, st_eq, st_eq, st_eq, st_eq]
        exact ⟨rfl, rfl, Nat.le_refl _, rfl⟩
      · simp only [if_neg q]
        rw [st_nj q, st_nj q, st_nj q, st_nj q, st_nc (show 3 ≠ 1 by decide), st_nc (show 11 ≠ 0 by decide), st_nj q, st_nj q, st_nc (show 2 ≠ 1 by decide), st_nc (show 10 ≠ 0 by decide)]
        exact ⟨a1, a2, by omega, a4⟩
    · rw [w3 5 0 0 j (by omega), st_nc (by decide), st_nc (by decide), st_nc (by decide), m3 26 0 0 j (by omega), st_nc (by decide), st_nc (by decide), st_nc (by decide)]; exact g6 j hj
    · have hM := m2 t ht
      rw [Nat.zero_or] at hM
      refine TR_wake ht (hT t ht) ((w2 t ht).base (sV t)) hM (by omega) (fun u hu q => ?_) (fun u hu q => ?_)
      · rw [Nat.testBit_two_pow] at q
        have : v = u := by simpa using q
        exact ⟨by omega, if_pos this.symm⟩
      · rw [Nat.testBit_two_pow] at q
        have : ¬ v = u := by simpa using q
        exact if_neg (fun z => this z.symm)
end WK
