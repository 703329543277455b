/-! the reference's scans, and the class's rows -/
theorem X6_partner_L {U : Sto} {t L p e D : Nat} {K : Nat → Nat} {half : Bool} (ht : t < 4) (hL : L ≤ 30) (hk : mok U t K) (hl : U 4 0 0 t = nI L) (he : e < L)
    (h1 : ∀ q, p < q → q < e → D ≤ dep K q ∧ ¬ (dep K q = D ∧ (K q = 7 ∨ (half = true ∧ midk (K q) = true)))) (h2 : dep K e = D) (h3 : K e = 7 ∨ (half = true ∧ midk (K e) = true)) : ∀ (n q : Nat), p < q → q ≤ e → e < q + n → fX6_partner_L8 n U (nI t) (bI half) (nI (dep K q - D)) (nI q) = some (nI e) := by
  have d30 : ∀ q, dep K q ≤ q := by
    intro q
    induction q with
    | zero => exact Nat.le_refl _
    | succ q ih => simp only [dep]; split; · omega
                   · split <;> omega
  intro n
  induction n with
  | zero => intro q a b c; omega
  | succ n ih =>
    intro q hq1 hq2 hq3
    obtain ⟨e1, e2⟩ := hk q (by omega)
    have hdq := d30 q
    rw [fX6_partner_L8, gd_of (inb_nI ht (by decide)), nI_clamp (by omega), hl, if_neg (nI_ge (show q < L by omega) (by omega)), ix_30, gd_of (inb_nI (show 30 * t + q < 120 by omega) (by decide)), nI_clamp (by omega), e1, nI_1, X6_opens_ok e2, ob_e]
    by_cases hqe : q = e
    · subst hqe
      rw [h2, Nat.sub_self, if_pos (show nI 0 = 0 from rfl)]
      rcases h3 with h3 | ⟨h3, h4⟩
      · rw [h3, if_pos (by decide)]
      · have hn := mid_no h4
        rw [if_neg (show ¬ nI (K q) = 7 from nI_ne (b := 7) (by omega) (by decide) hn.2), h3, if_neg (by decide)]
        unfold midk at h4
        simp only [Bool.or_eq_true, beq_iff_eq] at h4
        rcases h4 with (z | z) | z
        · rw [z, if_pos (by decide)]
        · rw [z, if_neg (by decide), if_pos (by decide)]
        · rw [z, if_neg (by decide), if_neg (by decide), if_pos (by decide)]
    · obtain ⟨a1, a2⟩ := h1 q hq1 (by omega)
      have ihh := ih (q + 1) (by omega) (by omega) (by omega)
      have cont : (if bI (opn (K q)) = 0 then (if nI (K q) = 7 then fX6_partner_L8 n U (nI t) (bI half) (nI (dep K q - D) - 1) (nI (q + 1)) else fX6_partner_L8 n U (nI t) (bI half) (nI (dep K q - D)) (nI (q + 1))) else fX6_partner_L8 n U (nI t) (bI half) (nI (dep K q - D) + 1) (nI (q + 1))) = some (nI e) := by
        cases ho : opn (K q) with
        | true =>
          rw [if_neg (by decide), nI_1]
          rw [dep_o ho] at ihh
          rw [show dep K q - D + 1 = dep K q + 1 - D by omega]
          exact ihh
        | false =>
          rw [if_pos (by decide)]
          by_cases h7 : K q = 7
          · have hne : dep K q ≠ D := fun z => a2 ⟨z, Or.inl h7⟩
            rw [if_pos (show nI (K q) = 7 by rw [h7]; rfl), nI_s1 (show 0 < dep K q - D by omega)]
            rw [dep_e h7] at ihh
            rw [show dep K q - D - 1 = dep K q - 1 - D by omega]
            exact ihh
          · rw [if_neg (show ¬ nI (K q) = 7 from nI_ne (b := 7) (by omega) (by decide) h7)]
            rw [dep_n ho h7] at ihh
            exact ihh
      by_cases hd : dep K q = D
      · have h7 : K q ≠ 7 := fun z => a2 ⟨hd, Or.inl z⟩
        rw [if_pos (by rw [hd, Nat.sub_self]; rfl), if_neg (show ¬ nI (K q) = 7 from nI_ne (b := 7) (by omega) (by decide) h7)]
        rw [if_neg (show ¬ nI (K q) = 7 from nI_ne (b := 7) (by omega) (by decide) h7)] at cont ⊢
        cases hh : half with
        | false => rw [hh] at cont; rw [if_pos (by decide)]; exact cont
        | true =>
          rw [hh] at cont
          have hm : midk (K q) = false := by
            cases hm : midk (K q) with
            | false => rfl
            | true => exact absurd ⟨hd, Or.inr ⟨hh, hm⟩⟩ a2
          unfold midk at hm
          simp only [Bool.or_eq_false_iff, beq_eq_false_iff_ne] at hm
          rw [if_neg (by decide), if_neg (show ¬ nI (K q) = 10 from nI_ne (b := 10) (by omega) (by decide) hm.1.1), if_neg (show ¬ nI (K q) = 12 from nI_ne (b := 12) (by omega) (by decide) hm.1.2), if_neg (show ¬ nI (K q) = 16 from nI_ne (b := 16) (by omega) (by decide) hm.2)]
          exact cont
      · rw [if_neg (show ¬ nI (dep K q - D) = 0 from nI_ne (b := 0) (by omega) (by decide) (by omega))]
        exact cont
theorem X6_partner_ok {U : Sto} {t L p e D : Nat} {K : Nat → Nat} {half : Bool} (ht : t < 4) (hL : L ≤ 30) (hk : mok U t K) (hl : U 4 0 0 t = nI L) (he : e < L) (hp : p < e) (hD : dep K (p + 1) = D)
    (h1 : ∀ q, p < q → q < e → D ≤ dep K q ∧ ¬ (dep K q = D ∧ (K q = 7 ∨ (half = true ∧ midk (K q) = true)))) (h2 : dep K e = D) (h3 : K e = 7 ∨ (half = true ∧ midk (K e) = true)) : fX6_partner U (nI t) (nI p) (bI half) = some (nI e) := by
  unfold fX6_partner
  have h := X6_partner_L ht hL hk hl he h1 h2 h3 40 (p + 1) (by omega) (by omega) (by omega)
  rw [hD, Nat.sub_self] at h
  rw [nI_1]
  exact h
/-- from an opener to its END -/
theorem X6_pt_end {U : Sto} {t L o e : Nat} {K : Nat → Nat} (ht : t < 4) (hL : L ≤ 30) (hk : mok U t K) (hl : U 4 0 0 t = nI L) (he : e < L) (h : ENDr K o e) : fX6_partner U (nI t) (nI o) 0 = some (nI e) := by
  refine X6_partner_ok (half := false) (D := dep K o + 1) ht hL hk hl he h.2.2.1 (dep_o h.1) (fun q a b => ⟨?_, fun z => ?_⟩) h.2.2.2.1 (Or.inl h.2.1)
  · exact (h.inn a (by omega)).1
  · rcases z.2 with q7 | ⟨q7, -⟩
    · have := (h.inn (r := q + 1) (by omega) (by omega)).1
      rw [dep_e q7] at this
      omega
    · cases q7
/-- from a middle word to its END -/
theorem X6_pt_mid {U : Sto} {t L o m e : Nat} {K : Nat → Nat} (ht : t < 4) (hL : L ≤ 30) (hk : mok U t K) (hl : U 4 0 0 t = nI L) (he : e < L) (h : ENDr K o e) (hm : MIDr K o m) (hme : m < e) : fX6_partner U (nI t) (nI m) 0 = some (nI e) := by
  have hom := hm.2.2.1
  refine X6_partner_ok (half := false) (D := dep K o + 1) ht hL hk hl he hme hm.dep1 (fun q a b => ⟨?_, fun z => ?_⟩) h.2.2.2.1 (Or.inl h.2.1)
  · exact (h.inn (by omega) (by omega)).1
  · rcases z.2 with q7 | ⟨q7, -⟩
    · have := (h.inn (r := q + 1) (by omega) (by omega)).1
      rw [dep_e q7] at this
      omega
    · cases q7
/-- from an opener to its middle word -/
theorem X6_pt_half {U : Sto} {t L o m e : Nat} {K : Nat → Nat} (ht : t < 4) (hL : L ≤ 30) (hk : mok U t K) (hl : U 4 0 0 t = nI L) (he : e < L) (h : ENDr K o e) (hm : MIDr K o m) (hme : m < e) : fX6_partner U (nI t) (nI o) 1 = some (nI m) := by
  refine X6_partner_ok (half := true) (D := dep K o + 1) ht hL hk hl (by omega) hm.2.2.1 (dep_o h.1) (fun q a b => ⟨?_, fun z => ?_⟩) hm.2.2.2.1 (Or.inr ⟨rfl, hm.2.1⟩)
  · exact (h.inn a (by omega)).1
  · rcases z.2 with q7 | ⟨-, q7⟩
    · have := (h.inn (r := q + 1) (by omega) (by omega)).1
      rw [dep_e q7] at this
      omega
    · have hn := mid_no q7
      have hf : flg K (q + 1) (dep K o) = true := by rw [flg_m hn.1 q7, z.1]; exact upN_s
      have hlm : dep K o < dep K m := by rw [hm.2.2.2.1]; omega
      have := flg_up hlm (r := q + 1) (by rw [hm.2.2.2.2.1]; omega) (by omega) hf
      rw [hm.2.2.2.2.2] at this
      cases this
/-- an IF without an ELSE -/
theorem X6_pt_none {U : Sto} {t L o e : Nat} {K : Nat → Nat} (ht : t < 4) (hL : L ≤ 30) (hk : mok U t K) (hl : U 4 0 0 t = nI L) (he : e < L) (h : ENDr K o e) (hf : flg K e (dep K o) = false) : fX6_partner U (nI t) (nI o) 1 = some (nI e) := by
  refine X6_partner_ok (half := true) (D := dep K o + 1) ht hL hk hl he h.2.2.1 (dep_o h.1) (fun q a b => ⟨?_, fun z => ?_⟩) h.2.2.2.1 (Or.inl h.2.1)
  · exact (h.inn a (by omega)).1
  · rcases z.2 with q7 | ⟨-, q7⟩
    · have := (h.inn (r := q + 1) (by omega) (by omega)).1
      rw [dep_e q7] at this
      omega
    · have hn := mid_no q7
      have hf2 : flg K (q + 1) (dep K o) = true := by rw [flg_m hn.1 q7, z.1]; exact upN_s
      have hlm : dep K o < dep K e := by rw [h.2.2.2.1]; omega
      have := flg_up hlm (r := q + 1) (by rw [h.2.2.2.2]; omega) (by omega) hf2
      rw [hf] at this
      cases this
theorem X6_origin_L {U : Sto} {t : Nat} {K : Nat → Nat} (ht : t < 4) (hk : mok U t K) : ∀ (n r d : Nat), r < 30 → r < n → d < dep K (r + 1) → fX6_origin_L7 n U (nI t) (nI d) (nI r) = some (nI (opnr K (r + 1) (dep K (r + 1) - 1 - d))) := by
  have d30 : ∀ q, dep K q ≤ q := by
    intro q
    induction q with
    | zero => exact Nat.le_refl _
    | succ q ih => simp only [dep]; split; · omega
                   · split <;> omega
  intro n
  induction n with
  | zero => intro r d a b; omega
  | succ n ih =>
    intro r d hr hn hd
    have hdr := d30 (r + 1)
    rw [fX6_origin_L7]
    by_cases h0 : r = 0
    · subst h0
      rw [if_pos (by decide)]
      cases ho : opn (K 0) with
      | true =>
        rw [dep_o ho] at hd ⊢
        have : d = 0 := by simp only [dep] at hd; omega
        subst this
        simp only [dep]
        rw [opnr_o ho]
        simp [dep, upN_s]
        rfl
      | false =>
        exfalso
        by_cases h7 : K 0 = 7
        · rw [dep_e h7] at hd; simp [dep] at hd
        · rw [dep_n ho h7] at hd; simp [dep] at hd
    · obtain ⟨e1, e2⟩ := hk r hr
      rw [if_neg (show ¬ nI r ≤ 0 from nI_nle (by omega) (by omega)), ix_30, gd_of (inb_nI (show 30 * t + r < 120 by omega) (by decide)), nI_clamp (by omega), e1, X6_opens_ok e2, nI_m1 (by omega)]
      simp only [ob_e]
      have hdr2 := d30 r
      have ihh : ∀ d', d' < dep K r → fX6_origin_L7 n U (nI t) (nI d') (nI (r - 1)) = some (nI (opnr K r (dep K r - 1 - d'))) := fun d' h => by
        have := ih (r - 1) d' (by omega) (by omega) (by rw [show r - 1 + 1 = r by omega]; exact h)
        rw [show r - 1 + 1 = r by omega] at this
        exact this
      cases ho : opn (K r) with
      | true =>
        rw [dep_o ho] at hd ⊢
        by_cases hd0 : d = 0
        · subst hd0
          rw [if_pos (show nI 0 = 0 from rfl), if_neg (show ¬ bI true = 0 by decide), opnr_o ho]
          simp [upN_s]
        · rw [if_neg (show ¬ nI d = 0 from nI_ne (b := 0) (by omega) (by decide) hd0), if_neg (show ¬ bI true = 0 by decide), nI_s1 (by omega), ihh (d - 1) (by omega), opnr_o ho, upN_n (by omega), show dep K r - 1 - (d - 1) = dep K r + 1 - 1 - d by omega]
      | false =>
        simp only [if_pos (show bI false = 0 by decide)]
        rw [opnr_n ho]
        by_cases h7 : K r = 7
        · rw [dep_e h7] at hd ⊢
          simp only [if_pos (show nI (K r) = 7 by rw [h7]; rfl)]
          rw [nI_1, ihh (d + 1) (by omega), show dep K r - 1 - (d + 1) = dep K r - 1 - 1 - d by omega]
          split <;> rfl
        · rw [dep_n ho h7] at hd ⊢
          simp only [if_neg (show ¬ nI (K r) = 7 from nI_ne (b := 7) (by omega) (by decide) h7)]
          rw [ihh d hd]
          split <;> rfl
theorem X6_origin_ok {U : Sto} {t o e : Nat} {K : Nat → Nat} (ht : t < 4) (hk : mok U t K) (he : e < 30) (h : ENDr K o e) : fX6_origin U (nI t) (nI e) = some (nI o) := by
  unfold fX6_origin
  have h1 := h.2.2.1
  rw [nI_s1 (by omega)]
  have := X6_origin_L ht hk 40 (e - 1) 0 (by omega) (by omega) (by rw [show e - 1 + 1 = e by omega, h.2.2.2.1]; omega)
  rw [show e - 1 + 1 = e by omega, h.2.2.2.1, show dep K o + 1 - 1 - 0 = dep K o by omega, h.2.2.2.2] at this
  exact this
/-- a good list, with the class's rows filled -/
def Conn (V : Sto) (t : Nat) (K : Nat → Nat) (L : Nat) : Prop := Good K L ∧ (∀ o, o < L → opn (K o) = true → ∃ e, e < L ∧ clo V t K o e) ∧ jen V t K L
theorem Conn_of {V : Sto} {t L : Nat} {K : Nat → Nat} (hg : Good K L) (h : Jn V t K L) : Conn V t K L := by
  refine ⟨hg, fun o ho hoo => ?_, h.2.2.2⟩
  rcases h.2.2.1 o ho hoo with ⟨i, a, -⟩ | ⟨e, a, b⟩
  · rw [hg.2] at a; omega
  · exact ⟨e, a, b⟩
theorem Conn.fr {V V' : Sto} {t L : Nat} {K : Nat → Nat} (h : Conn V t K L) (h15 : ∀ j, V' 15 t 0 j = V 15 t 0 j) (h16 : ∀ j, V' 16 t 0 j = V 16 t 0 j) (h17 : ∀ j, V' 17 t 0 j = V 17 t 0 j) : Conn V' t K L := by
  refine ⟨h.1, fun o ho hoo => ?_, fun q hq => ?_⟩
  · obtain ⟨e, a, b⟩ := h.2.1 o ho hoo
    exact ⟨e, a, by unfold clo; rw [h16, h17]; exact b⟩
  · rw [h15]; exact h.2.2 q hq
theorem ENDr.uniq {K : Nat → Nat} {o o' e : Nat} (h : ENDr K o e) (h2 : ENDr K o' e) : o = o' := by
  have : dep K o = dep K o' := by have := h.2.2.2.1; have := h2.2.2.2.1; omega
  rw [← h.2.2.2.2, ← h2.2.2.2.2, this]
theorem MIDr.uniq {K : Nat → Nat} {o o' m : Nat} (h : MIDr K o m) (h2 : MIDr K o' m) : o = o' := by
  have : dep K o = dep K o' := by have := h.2.2.2.1; have := h2.2.2.2.1; omega
  rw [← h.2.2.2.2.1, ← h2.2.2.2.2.1, this]
theorem mid_kind {K : Nat → Nat} {L o m : Nat} (hg : Good K L) (hm : m < L) (h : MIDr K o m) : (K m = 10 ∧ K o = 9) ∨ (K m = 12 ∧ K o = 11) ∨ (K m = 16 ∧ K o = 15) := by
  obtain ⟨o', a, b⟩ := wrg_mid h.2.1 (hg.1 m hm)
  rw [h.uniq a]; exact b
theorem end_flag {K : Nat → Nat} {L o e : Nat} (hg : Good K L) (he : e < L) (h : ENDr K o e) (ho : K o = 9 ∨ K o = 15) : flg K e (dep K o) = true := by
  obtain ⟨a, b⟩ := wrg_endr h.2.1 (hg.1 e he)
  have e1 := h.uniq a
  have e2 : dep K e - 1 = dep K o := by have := h.2.2.2.1; omega
  rw [e2] at b
  rw [e2] at e1
  rw [← e1] at b
  exact b ho
theorem end_noflag {K : Nat → Nat} {L o e : Nat} {V : Sto} {t : Nat} (hg : Good K L) (he : e < L) (h : clo V t K o e) (ho : K o = 6 ∨ K o = 13) : V 16 t 0 o = -1 ∧ flg K e (dep K o) = false := by
  rcases h.2.2 with a | ⟨m, a1, a2, a3, a4⟩
  · exact a
  · have := mid_kind hg (by omega) a3
    omega
/-- the middle of an EITHER or a TRY -/
theorem Conn.mid {V : Sto} {t L o : Nat} {K : Nat → Nat} (h : Conn V t K L) (ho : o < L) (hk : K o = 9 ∨ K o = 15) : ∃ m e, m < e ∧ e < L ∧ V 16 t 0 o = nI m ∧ V 17 t 0 o = nI e ∧ MIDr K o m ∧ ENDr K o e := by
  have hop : opn (K o) = true := by rcases hk with z | z <;> rw [z] <;> rfl
  obtain ⟨e, a, b⟩ := h.2.1 o ho hop
  have hf := end_flag h.1 a b.2.1 hk
  rcases b.2.2 with z | ⟨m, a1, a2, a3, a4⟩
  · rw [hf] at z; cases z.2
  · exact ⟨m, e, a1, a, a2, b.1, a3, b.2.1⟩
