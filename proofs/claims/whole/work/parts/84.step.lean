/-! step, run, and all calls -/
section ST2
variable {K : Nat → Nat} {V U V' U' : Sto} {B c n t L p k : Nat} {ver : Nat → Nat}
theorem RelB.mono {B' : Nat} (h : RelB B V U) (hB : B ≤ B') : RelB B' V U := by
  obtain ⟨c, n, ver, h1, h2, h3⟩ := h
  exact ⟨c, n, ver, by omega, by omega, h3⟩
theorem step_ready (hB : B < 2 ^ 20) (h : RelB B V U) (ht : t < 4) (h9 : V 10 t 0 9 = 1) : StepOK B t V U := by
  obtain ⟨c, n, ver, hc, hn, hG, hT⟩ := h
  obtain ⟨K, L, p, hp, h10, h6, S⟩ := SD.ready (hT t ht) h9
  have C : Ctx B c n ver t V U K L p := ⟨⟨hc, hn, hB⟩, hG, hT, ht, hp, h10, h6, S⟩
  have h16 : K p ≤ 16 := (S.1.kok p C.p30).2
  rcases k16 h16 with q | q | q | q | q | q | q | q | q | q | q | q | q | q | q | q | q
  · exact W_0 C q
  · exact W_1 C q
  · exact W_2 C q
  · exact W_3 C q
  · exact W_4 C q
  · exact W_5 C q
  · exact W_6 C q
  · by_cases z : ∃ o, ENDr K o p ∧ K o = 6
    · obtain ⟨o, z1, z2⟩ := z
      exact W_7c C q z1 z2
    · exact W_7 C q (fun o z1 z2 => z ⟨o, z1, z2⟩)
  · exact W_8 C q
  · exact W_9 C q
  · exact W_10 C q
  · exact W_11 C q
  · exact W_12 C q
  · exact W_13 C q
  · exact W_14 C q
  · exact W_15 C q
  · exact W_16 C q
theorem not_ready (h : RelB B V U) (ht : t < 4) (h9 : ¬ V 10 t 0 9 = 1) : fX6_step U (nI t) = some (-1, U) := by
  obtain ⟨c, n, ver, hc, hn, hG, hT⟩ := h
  obtain ⟨K, L, s, R, W, -, hb, -⟩ := hT t ht
  unfold fX6_step
  rw [o4I ht, ob_e, if_pos rfl, gd_of (inb_nI ht (by decide)), nI_clamp (by omega), hb.2.2.1, if_neg (fun q => h9 (by rw [hb.2.1]; exact q))]
theorem R_step (hk : k < 512) (h : Rel k V U) (x1 : Int32) : ∃ (r : Int32) (V' : Sto) (U' : Sto), fX5_step V x1 = some (r, V') ∧ fX6_step U x1 = some (r, U') ∧ Rel (k + 1) V' U' := by
  rcases rng x1 (show 4 < 2 ^ 31 by decide) with q | ⟨t, ht, rfl⟩
  · exact ⟨-1, V, U, by unfold fX5_step; rw [om_none (sOf_none q)], by unfold fX6_step; rw [o4O q, ob_e, if_neg i01], h.up⟩
  · unfold fX5_step
    rw [om_some (sOf_nI ht)]
    by_cases h9 : V 10 t 0 9 = 1
    · obtain ⟨r, V', U', a1, a2, -, a4⟩ := step_ready (B := 16 * k) (by omega) h ht h9
      exact ⟨r, V', U', by rw [if_pos h9, a1, ob2_e], a2, RelB.mono a4 (by omega)⟩
    · exact ⟨-1, V, U, by rw [if_neg h9], not_ready h ht h9, h.up⟩
theorem run_L {m B0 : Nat} (x1 : Int32) (hm : m ≤ 16) (hB : B0 + 16 < 2 ^ 20) : ∀ (N i : Nat) (made : Int32) (V U : Sto), i ≤ m → m < i + N → RelB (B0 + i) V U → ∃ (r : Int32) (V' U' : Sto), fX5_run_L17 N V x1 (nI m) made (nI i) = some (V', r) ∧ fX6_run_L17 N U x1 (nI m) made (nI i) = some (U', r) ∧ RelB (B0 + m) V' U' := by
  intro N
  induction N with
  | zero => intro i made V U a b; omega
  | succ N ih =>
    intro i made V U h1 h2 h
    rw [fX5_run_L17, fX6_run_L17]
    by_cases q : m ≤ i
    · have : i = m := by omega
      subst this
      exact ⟨made, V, U, by rw [if_pos (nI_le q (by omega))], by rw [if_pos (nI_le q (by omega))], h⟩
    · rw [if_neg (nI_ge (by omega) (by omega)), if_neg (nI_ge (by omega) (by omega))]
      obtain ⟨t, ht, e⟩ := pk_andE (x1 >>> ((2 * nI i) &&& 31)) (m := 3) 2 (by decide)
      have ht4 : t < 4 := ht
      rw [e, om_some (sOf_nI ht4), nI_1]
      by_cases h9 : V 10 t 0 9 = 1
      · obtain ⟨r, V', U', a1, a2, a3, a4⟩ := step_ready (B := B0 + i) (by omega) h ht4 h9
        rw [if_pos h9, a1, ob2_e, a2, ob2_e, if_neg a3]
        exact ih (i + 1) (made + 1) V' U' (by omega) (by omega) (RelB.mono a4 (by omega))
      · rw [if_neg h9, not_ready h ht4 h9, ob2_e, if_pos m1_lt0]
        exact ih (i + 1) made V U (by omega) (by omega) (h.mono (by omega))
theorem R_run (hk : k < 512) (h : Rel k V U) (x1 x2 : Int32) : ∃ (r : Int32) (V' : Sto) (U' : Sto), fX5_run V x1 x2 = some (r, V') ∧ fX6_run U x1 x2 = some (r, U') ∧ Rel (k + 1) V' U' := by
  unfold fX5_run fX6_run
  rcases rng x2 (show 17 < 2 ^ 31 by decide) with q | ⟨m, hm, rfl⟩
  · by_cases q0 : x2 < 0
    · exact ⟨-1, V, U, by rw [if_pos q0], by rw [if_pos q0], h.up⟩
    · have q1 : ¬ x2 ≤ 16 := by
        have q2 := q.resolve_left q0
        intro z
        have z2 : nI 17 ≤ nI 16 := by
          rw [Int32.le_iff_toInt_le] at q2 z ⊢
          exact Int.le_trans q2 z
        exact absurd z2 (by decide)
      exact ⟨-1, V, U, by rw [if_neg q0, if_neg q1], by rw [if_neg q0, if_neg q1], h.up⟩
  · obtain ⟨r, V', U', a1, a2, a3⟩ := run_L (m := m) (B0 := 16 * k) x1 (by omega) (by omega) 40 0 0 V U (by omega) (by omega) h
    have a1' : fX5_run_L17 40 V x1 (nI m) 0 0 = some (V', r) := a1
    have a2' : fX6_run_L17 40 U x1 (nI m) 0 0 = some (U', r) := a2
    have e16 : nI m ≤ 16 := nI_le (show m ≤ 16 by omega) (by decide)
    exact ⟨r, V', U', by rw [if_neg (nI_pos (by omega)), if_pos e16, a1', ob2_e], by rw [if_neg (nI_pos (by omega)), if_pos e16, a2', ob2_e], RelB.mono a3 (by omega)⟩
end ST2
theorem Rel_step : RelStep Rel := fun k hk V U h =>
  ⟨fun x1 x2 x3 x4 => R_add h x1 x2 x3 x4, fun x1 x2 => R_cut h x1 x2, fun x1 => R_check h x1, fun x1 => R_start h x1, fun x1 => R_stop h x1, fun x1 => R_step hk h x1, fun x1 x2 => R_run hk h x1 x2, fun x1 x2 => R_put h x1 x2, fun x1 => R_value h x1, fun x1 => R_version h x1, R_commits h, fun x1 => R_state h x1, fun x1 => R_place h x1, fun x1 x2 => R_register h x1 x2, fun x1 x2 => R_sees h x1 x2, fun x1 => R_log h x1, fun x1 => R_waiting h x1, fun x1 => R_discards h x1, R_outcome h, fun x1 => R_printed (by omega) h x1⟩
