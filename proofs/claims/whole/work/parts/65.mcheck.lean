theorem nI_is5 {d : Nat} (h : d < 2 ^ 31) : (nI d = 5) = (d = 5) := propext (nI_eq (b := 5) h (by decide))
theorem X6_wrong_ok {U : Sto} {p k : Nat} {K : Nat → Nat} (hK : ∀ j, j < p → K j ≤ 16) (h : mop U K p) (h16 : k ≤ 16) : fX6_wrong U (nI k) (nI (dep K p)) (bI (ins K p (dep K p))) = some (bI (wrF k (dep K p) (ins K p (dep K p)) (hw K p 9) (hw K p 11) (hw K p 15))) := by
  have H9 : fX6_halfway U (nI (dep K p)) 9 = some (bI (hw K p 9)) := X6_half (k := 9) hK h (by decide)
  have H11 : fX6_halfway U (nI (dep K p)) 11 = some (bI (hw K p 11)) := X6_half (k := 11) hK h (by decide)
  have H15 : fX6_halfway U (nI (dep K p)) 15 = some (bI (hw K p 15)) := X6_half (k := 15) hK h (by decide)
  have O := X6_opens_ok (U := U) h16
  unfold fX6_wrong
  rw [H9, H11, H15, O]
  have hd5 := h.1
  generalize ins K p (dep K p) = a
  generalize hw K p 9 = h9
  generalize hw K p 11 = h11
  generalize hw K p 15 = h15
  generalize dep K p = d at hd5 ⊢
  have e5 := nI_is5 (d := d) (by omega)
  have e0 := nI_eq0 (d := d) (by omega)
  simp only [e5, e0, ob_e]
  rcases k16 h16 with rfl | rfl | rfl | rfl | rfl | rfl | rfl | rfl | rfl | rfl | rfl | rfl | rfl | rfl | rfl | rfl | rfl
  · rfl
  · rfl
  · rfl
  · rw [if_pos (by decide)]; cases a <;> rfl
  · rw [if_neg (by decide), if_pos (by decide)]; cases a <;> rfl
  · rw [if_neg (by decide), if_neg (by decide), if_pos (by decide)]; cases a <;> rfl
  · rw [if_neg (by decide), if_neg (by decide), if_neg (by decide), if_pos (by decide)]
    cases a <;> by_cases q : d = 5 <;> simp [wrF, bI, q] <;> omega
  · rw [if_neg (by decide), if_neg (by decide), if_neg (by decide), if_neg (by decide), if_pos (by decide)]
    cases h9 <;> cases h15 <;> by_cases q : d = 0 <;> simp [wrF, bI, q]
  · rw [if_neg (by decide), if_neg (by decide), if_neg (by decide), if_neg (by decide), if_neg (by decide), if_pos (by decide)]; cases a <;> rfl
  · rw [if_neg (by decide), if_neg (by decide), if_neg (by decide), if_neg (by decide), if_neg (by decide), if_neg (by decide), if_pos (by decide)]
    cases a <;> by_cases q : d = 5 <;> simp [wrF, bI, q] <;> omega
  · rw [if_neg (by decide), if_neg (by decide), if_neg (by decide), if_neg (by decide), if_neg (by decide), if_neg (by decide), if_neg (by decide), if_pos (by decide)]; cases h9 <;> rfl
  · rw [if_neg (by decide), if_neg (by decide), if_neg (by decide), if_neg (by decide), if_neg (by decide), if_neg (by decide), if_neg (by decide), if_neg (by decide), if_pos (by decide)]
    by_cases q : d = 5 <;> simp [wrF, bI, q, opn] <;> omega
  · rw [if_neg (by decide), if_neg (by decide), if_neg (by decide), if_neg (by decide), if_neg (by decide), if_neg (by decide), if_neg (by decide), if_neg (by decide), if_neg (by decide), if_pos (by decide)]; cases h11 <;> rfl
  · rw [if_neg (by decide), if_neg (by decide), if_neg (by decide), if_neg (by decide), if_neg (by decide), if_neg (by decide), if_neg (by decide), if_neg (by decide), if_neg (by decide), if_neg (by decide), if_pos (by decide)]
    by_cases q : d = 5 <;> simp [wrF, bI, q, opn] <;> omega
  · rfl
  · rw [if_neg (by decide), if_neg (by decide), if_neg (by decide), if_neg (by decide), if_neg (by decide), if_neg (by decide), if_neg (by decide), if_neg (by decide), if_neg (by decide), if_neg (by decide), if_neg (by decide), if_neg (by decide), if_pos (by decide)]
    by_cases q : d = 5 <;> simp [wrF, bI, q, opn] <;> omega
  · rw [if_neg (by decide), if_neg (by decide), if_neg (by decide), if_neg (by decide), if_neg (by decide), if_neg (by decide), if_neg (by decide), if_neg (by decide), if_neg (by decide), if_neg (by decide), if_neg (by decide), if_neg (by decide), if_neg (by decide), if_pos (by decide)]; cases h15 <;> rfl
theorem X6_ins_L {U : Sto} {p : Nat} {K : Nat → Nat} (hK : ∀ j, j < p → K j ≤ 16) (h : mop U K p) (x1 x3 x4 : Int32) : ∀ (n i : Nat), i ≤ dep K p → dep K p < i + n → fX6_check_L44 n U x1 (nI (dep K p)) x3 x4 (bI (ins K p i)) (nI i) = some (bI (ins K p (dep K p))) := by
  intro n
  induction n with
  | zero => intro i h1 h2; omega
  | succ n ih =>
    intro i h1 h2
    have h5 := h.1
    rw [fX6_check_L44]
    by_cases hd : dep K p ≤ i
    · have : i = dep K p := by omega
      rw [if_pos (nI_le hd (by omega)), this]
    · have hl : i < dep K p := by omega
      have h6 := hK _ (lvl_lt hl)
      rw [if_neg (nI_ge hl (by omega)), nI_1, gd_of (inb_nI (show i < 6 by omega) (by decide)), nI_clamp (by omega), (h.2 i hl).1]
      have e : ins K p (i + 1) = (ins K p i || K (opnr K p i) == 6) := rfl
      have ihh := ih (i + 1) (by omega) (by omega)
      cases hi : ins K p i with
      | true =>
        rw [if_neg (by decide)]
        rw [e, hi, Bool.true_or] at ihh
        exact ihh
      | false =>
        rw [if_pos (by decide)]
        rw [e, hi, Bool.false_or] at ihh
        by_cases hq : K (opnr K p i) = 6
        · rw [if_pos (by rw [hq]; rfl)]
          rw [hq] at ihh
          exact ihh
        · rw [if_neg (show ¬ nI (K (opnr K p i)) = 6 from nI_ne (b := 6) (by omega) (by decide) hq)]
          have hb : (K (opnr K p i) == 6) = false := by simpa using hq
          rw [hb] at ihh
          exact ihh
theorem mop_step {U : Sto} {p : Nat} {K : Nat → Nat} (h : mop U K p) (ho : opn (K p) = false) (hm : midk (K p) = false) : mop U K (p + 1) := by
  have hoo : opnr K (p + 1) = opnr K p := opnr_n ho
  have hff : flg K (p + 1) = flg K p := flg_n ho hm
  have hd : dep K (p + 1) ≤ dep K p := by
    by_cases h7 : K p = 7
    · rw [dep_e h7]; omega
    · rw [dep_n ho h7]; exact Nat.le_refl _
  exact ⟨by have := h.1; omega, fun i hi => by rw [hoo, hff]; exact h.2 i (by omega)⟩
theorem mop_open {U : Sto} {p : Nat} {K : Nat → Nat} (h : mop U K p) (ho : opn (K p) = true) (hd : dep K p < 5) : mop (st (st U 27 0 0 (dep K p) (nI (K p))) 28 0 0 (dep K p) 0) K (p + 1) := by
  refine ⟨by rw [dep_o ho]; omega, fun i hi => ?_⟩
  rw [dep_o ho] at hi
  rw [opnr_o ho, flg_o ho]
  by_cases q : i = dep K p
  · rw [q, upN_s, upN_s, st_nc (by decide), st_eq, st_eq]; exact ⟨rfl, rfl⟩
  · rw [upN_n q, upN_n q, st_nc (by decide), st_nj q, st_nj q, st_nc (by decide)]; exact h.2 i (by omega)
theorem mop_mid {U : Sto} {p : Nat} {K : Nat → Nat} (h : mop U K p) (hm : midk (K p) = true) : mop (st U 28 0 0 (dep K p - 1) 1) K (p + 1) := by
  have hn := mid_no hm
  refine ⟨by rw [dep_n hn.1 hn.2]; exact h.1, fun i hi => ?_⟩
  rw [dep_n hn.1 hn.2] at hi
  rw [opnr_n hn.1, flg_m hn.1 hm, st_nc (by decide)]
  refine ⟨(h.2 i hi).1, ?_⟩
  by_cases q : i = dep K p - 1
  · rw [q, upN_s, st_eq]; rfl
  · rw [upN_n q, st_nj q]; exact (h.2 i hi).2
theorem X6_chk_L {t L : Nat} {K : Nat → Nat} (ht : t < 4) (hL : L ≤ 30) : ∀ (n p : Nat) (U : Sto), p ≤ L → L < p + n → mok U t K → U 4 0 0 t = nI L → mop U K p → (∀ q, q < p → wrg K q = false) → ∃ U', fX6_check_L15 n U (nI t) (nI (dep K p)) (nI p) = some (chk K (L - p) p, U') ∧ frH U U' := by
  intro n
  induction n with
  | zero => intro p U h1 h2; omega
  | succ n ih =>
    intro p U h1 h2 hk hl hj hg
    have hK : ∀ j, j < p → K j ≤ 16 := fun j q => (hk j (by omega)).2
    have h5 := hj.1
    rw [fX6_check_L15, gd_of (inb_nI ht (by decide)), nI_clamp (by omega), hl]
    by_cases hp : L ≤ p
    · have e : p = L := by omega
      subst e
      rw [if_pos (nI_le hp (by omega)), Nat.sub_self]
      refine ⟨U, ?_, frH.rf⟩
      simp only [chk]
      by_cases hd : dep K p = 0
      · rw [hd, if_pos (by decide), if_pos rfl]
      · rw [if_neg (show ¬ nI (dep K p) ≤ 0 from nI_nle (by omega) (by omega)), if_neg hd, gd_of (inb_nI ht (by decide))]
    · have hp2 : p < 30 := by omega
      obtain ⟨e1, e2⟩ := hk p hp2
      rw [if_neg (nI_ge (show p < L by omega) (by omega)), ix_30, gd_of (inb_nI (show 30 * t + p < 120 by omega) (by decide)), nI_clamp (by omega), e1]
      have I := X6_ins_L hK hj (nI t) (nI p) (nI (K p)) 40 0 (by omega) (by omega)
      have I2 : fX6_check_L44 40 U (nI t) (nI (dep K p)) (nI p) (nI (K p)) 0 0 = some (bI (ins K p (dep K p))) := I
      rw [I2, ob_e, X6_wrong_ok hK hj e2, ob_e, X6_opens_ok e2, ob_e]
      have hs : L - p = (L - (p + 1)) + 1 := by omega
      rw [hs]
      simp only [chk]
      show ∃ U', (if bI (wrg K p) = 0 then _ else _) = _ ∧ _
      cases hwr : wrg K p with
      | true =>
        rw [if_neg (by decide), if_pos rfl]
        exact ⟨U, rfl, frH.rf⟩
      | false =>
        rw [if_pos (show bI false = 0 by decide), if_neg (show ¬ (false = true) by decide), nI_1]
        have hg2 : ∀ q, q < p + 1 → wrg K q = false := fun q hq => by
          by_cases z : q = p
          · rw [z]; exact hwr
          · exact hg q (by omega)
        have go : ∀ U1, frH U U1 → mop U1 K (p + 1) → ∃ U', fX6_check_L15 n U1 (nI t) (nI (dep K (p + 1))) (nI (p + 1)) = some (chk K (L - (p + 1)) (p + 1), U') ∧ frH U U' := fun U1 f1 m1 => by
          obtain ⟨U', a, b⟩ := ih (p + 1) U1 (by omega) (by omega) (fun j hj => by rw [f1 1 0 0 _ (by decide) (by decide)]; exact hk j hj) (by rw [f1 4 0 0 t (by decide) (by decide)]; exact hl) m1 hg2
          exact ⟨U', a, f1.tr b⟩
        cases ho : opn (K p) with
        | true =>
          have hd := wrg_dep e2 hwr ho
          rw [if_neg (show ¬ bI true = 0 by decide), gd_of (inb_nI (show dep K p < 6 by omega) (by decide)), bnd_e, gd_of (inb_nI (show dep K p < 6 by omega) (by decide)), bnd_e, nb_0, nI_clamp (by omega), nI_1]
          have := go _ ((frH.st (Or.inl rfl)).tr (frH.st (Or.inr rfl))) (mop_open hj ho hd)
          rw [dep_o ho] at this
          exact this
        | false =>
          rw [if_pos (show bI false = 0 by decide)]
          by_cases h7 : K p = 7
          · have := go U frH.rf (mop_step hj ho (mid_7 h7))
            rw [dep_e h7] at this
            rw [if_pos (by rw [h7]; rfl), nI_m1 (wrg_end h7 hwr).1]
            exact this
          · rw [if_neg (show ¬ nI (K p) = 7 from nI_ne (b := 7) (by omega) (by decide) h7)]
            cases hm : midk (K p) with
            | true =>
              obtain ⟨o, c1, -⟩ := wrg_mid hm hwr
              have hd1 : 0 < dep K p := by have := c1.2.2.2.1; omega
              have := go _ (frH.st (c := 28) (Or.inr rfl)) (mop_mid hj hm)
              rw [dep_n ho h7] at this
              rw [nI_s1 hd1, gd_of (inb_nI (show dep K p - 1 < 6 by omega) (by decide)), bnd_e, nb_1, nI_clamp (by omega)]
              have hm2 := hm
              unfold midk at hm2
              simp only [Bool.or_eq_true, beq_iff_eq] at hm2
              rcases hm2 with (z | z) | z
              · rw [if_pos (by rw [z]; rfl)]; exact this
              · rw [if_neg (by rw [z]; decide), if_pos (by rw [z]; rfl)]; exact this
              · rw [if_neg (by rw [z]; decide), if_neg (by rw [z]; decide), if_pos (by rw [z]; rfl)]; exact this
            | false =>
              have := go U frH.rf (mop_step hj ho hm)
              rw [dep_n ho h7] at this
              have hm2 := hm
              unfold midk at hm2
              simp only [Bool.or_eq_false_iff, beq_eq_false_iff_ne] at hm2
              rw [if_neg (show ¬ nI (K p) = 10 from nI_ne (b := 10) (by omega) (by decide) hm2.1.1), if_neg (show ¬ nI (K p) = 12 from nI_ne (b := 12) (by omega) (by decide) hm2.1.2), if_neg (show ¬ nI (K p) = 16 from nI_ne (b := 16) (by omega) (by decide) hm2.2)]
              exact this
theorem X6_check_ok {U : Sto} {t L : Nat} {K : Nat → Nat} (ht : t < 4) (hL : L ≤ 30) (hk : mok U t K) (hl : U 4 0 0 t = nI L) : ∃ U', fX6_check U (nI t) = some (chk K L 0, U') ∧ frH U U' := by
  unfold fX6_check
  have h := X6_out_4 (U := U) (x := nI t) (n := 4) (by decide)
  rw [if_neg (fun q => q.elim (nI_pos (by omega)) (nI_ge ht (by decide)))] at h
  have h2 : fX6_out U (nI t) 4 = some 0 := h
  rw [h2, ob_e, if_pos rfl]
  exact X6_chk_L ht hL 40 0 U (by omega) (by omega) hk hl ⟨by simp [dep], fun i hi => by simp [dep] at hi⟩ (fun q hq => by omega)
