/-! calls that change nothing -/
theorem Rel.up {k : Nat} {V U : Sto} (h : Rel k V U) : Rel (k + 1) V U := by
  obtain ⟨c, n, ver, h1, h2, h3⟩ := h
  exact ⟨c, n, ver, by omega, by omega, h3⟩
theorem oO {U : Sto} {x : Int32} {n : Nat} (hn : n < 2 ^ 31) (h : x < 0 ∨ nI n ≤ x) : fX6_out U x (nI n) = some 1 := by rw [X6_out_4 hn, if_pos h]
theorem oI {U : Sto} {t n : Nat} (hn : n < 2 ^ 31) (h : t < n) : fX6_out U (nI t) (nI n) = some 0 := by rw [X6_out_4 hn, if_neg (fun q => q.elim (nI_pos (by omega)) (nI_ge h hn))]
theorem o4O {U : Sto} {x : Int32} (h : x < 0 ∨ nI 4 ≤ x) : fX6_out U x 4 = some 1 := oO (n := 4) (by decide) h
theorem o4I {U : Sto} {t : Nat} (h : t < 4) : fX6_out U (nI t) 4 = some 0 := oI (n := 4) (by decide) h
theorem o8O {U : Sto} {x : Int32} (h : x < 0 ∨ nI 8 ≤ x) : fX6_out U x 8 = some 1 := oO (n := 8) (by decide) h
theorem o8I {U : Sto} {t : Nat} (h : t < 8) : fX6_out U (nI t) 8 = some 0 := oI (n := 8) (by decide) h
theorem vO {V : Sto} {x : Int32} (h : x < 0 ∨ nI 8 ≤ x) : fX5_isVariable V x = some 0 := by
  unfold fX5_isVariable
  by_cases h0 : x < 0
  · rw [if_pos h0]
  · rw [if_neg h0, if_pos (show (8 : Int32) ≤ x from h.resolve_left h0)]
theorem vI {V : Sto} {v : Nat} (h : v < 8) : fX5_isVariable V (nI v) = some 1 := by
  unfold fX5_isVariable
  rw [if_neg (nI_pos (by omega)), if_neg (show ¬ (8 : Int32) ≤ nI v from nI_ge (b := 8) h (by decide))]
theorem rO {V : Sto} {x : Int32} (h : x < 0 ∨ nI 4 ≤ x) : fX5_isRegister V x = some 0 := by
  unfold fX5_isRegister
  by_cases h0 : x < 0
  · rw [if_pos h0]
  · rw [if_neg h0, if_pos (show (4 : Int32) ≤ x from h.resolve_left h0)]
theorem rI {V : Sto} {v : Nat} (h : v < 4) : fX5_isRegister V (nI v) = some 1 := by
  unfold fX5_isRegister
  rw [if_neg (nI_pos (by omega)), if_neg (show ¬ (4 : Int32) ≤ nI v from nI_ge (b := 4) h (by decide))]
theorem i01 : ¬ (1 : Int32) = 0 := by decide
theorem rvI {V : Sto} {t r : Nat} (h : r < 4) : fX4_registerValue V t (nI r) = some (V 19 t 0 r) := by
  unfold fX4_registerValue
  rw [rI h, ob_e, if_neg i01, gd_of (inb_nI h (by decide)), nI_clamp (by omega)]
theorem rvO {V : Sto} {t : Nat} {x : Int32} (h : x < 0 ∨ nI 4 ≤ x) : fX4_registerValue V t x = some 0 := by
  unfold fX4_registerValue
  rw [rO h, ob_e, if_pos rfl]
theorem srI {V : Sto} {t r : Nat} {x : Int32} (h : r < 4) : fX4_setRegister V t (nI r) x = some (st V 19 t 0 r x) := by
  unfold fX4_setRegister
  rw [rI h, ob_e, if_neg i01, gd_of (inb_nI h (by decide)), bnd_e, nI_clamp (by omega)]
def bsy (s : Nat) : Bool := decide (s = 1) || decide (s = 2)
theorem nI_c {s c : Nat} (hs : s ≤ 4) (hc : c ≤ 4) : (nI s = nI c) = (s = c) := propext (nI_eq (by omega) (by omega))
theorem uw {V : Sto} {t s : Nat} (hs : s ≤ 4) (h : V 10 t 0 9 = nI s) : fX4_isUnderWay V t = some (bI (bsy s)) := by
  unfold fX4_isUnderWay
  rw [h]
  have e1 : (nI s = 1) = (s = 1) := nI_c (c := 1) hs (by decide)
  have e2 : (nI s = 2) = (s = 2) := nI_c (c := 2) hs (by decide)
  simp only [e1, e2]
  by_cases h1 : s = 1
  · rw [if_pos h1]; simp [bsy, h1, bI]
  · by_cases h2 : s = 2
    · rw [if_neg h1, if_pos h2]; simp [bsy, h2, bI]
    · rw [if_neg h1, if_neg h2]; simp [bsy, h1, h2, bI]
theorem busyU {U : Sto} {t s : Nat} (ht : t < 4) (hs : s ≤ 4) (h : U 5 0 0 t = nI s) : fX6_busy U (nI t) = some (bI (bsy s)) := by
  unfold fX6_busy
  rw [gd_of (inb_nI ht (by decide)), gd_of (inb_nI ht (by decide)), nI_clamp (by omega), h]
  have e1 : (nI s = 1) = (s = 1) := nI_c (c := 1) hs (by decide)
  have e2 : (nI s = 2) = (s = 2) := nI_c (c := 2) hs (by decide)
  simp only [e1, e2]
  by_cases h1 : s = 1
  · rw [if_pos h1]; simp [bsy, h1, bI]
  · by_cases h2 : s = 2
    · rw [if_neg h1, if_pos h2]; simp [bsy, h2, bI]
    · rw [if_neg h1, if_neg h2]; simp [bsy, h1, h2, bI]
section RD
variable {k : Nat} {V U : Sto}
theorem R_value (h : Rel k V U) (x1 : Int32) : ∃ r : Int32, fX5_value V x1 = some r ∧ fX6_value U x1 = some r ∧ Rel (k + 1) V U := by
  obtain ⟨c, n, ver, -, -, hG, -⟩ := id h
  unfold fX5_value fX6_value
  rcases rng x1 (show 8 < 2 ^ 31 by decide) with q | ⟨v, hv, rfl⟩
  · exact ⟨0, by rw [vO q, ob_e, if_pos rfl], by rw [o8O q, ob_e, if_neg i01], h.up⟩
  · refine ⟨V 2 0 0 v, by rw [vI hv, ob_e, if_neg i01, gd_of (inb_nI hv (by decide)), nI_clamp (by omega)], ?_, h.up⟩
    rw [o8I hv, ob_e, if_pos rfl, gd_of (inb_nI hv (by decide)), nI_clamp (by omega), (hG.2.2.2.2.1 v hv).2.2.2]
theorem R_version (h : Rel k V U) (x1 : Int32) : ∃ r : Int32, fX5_version V x1 = some r ∧ fX6_version U x1 = some r ∧ Rel (k + 1) V U := by
  obtain ⟨c, n, ver, -, -, hG, -⟩ := id h
  unfold fX5_version fX6_version
  rcases rng x1 (show 8 < 2 ^ 31 by decide) with q | ⟨v, hv, rfl⟩
  · exact ⟨0, by rw [vO q, ob_e, if_pos rfl], by rw [o8O q, ob_e, if_neg i01], h.up⟩
  · obtain ⟨a1, a2, -⟩ := hG.2.2.2.2.1 v hv
    refine ⟨V 3 0 0 v, by rw [vI hv, ob_e, if_neg i01, gd_of (inb_nI hv (by decide)), nI_clamp (by omega)], ?_, h.up⟩
    rw [o8I hv, ob_e, if_pos rfl, gd_of (inb_nI hv (by decide)), nI_clamp (by omega), a1, a2]
theorem R_commits (h : Rel k V U) : ∃ r : Int32, fX5_commits V = some r ∧ fX6_commits U = some r ∧ Rel (k + 1) V U := by
  obtain ⟨c, n, ver, -, -, hG, -⟩ := id h
  exact ⟨V 1 0 0 2, rfl, by unfold fX6_commits; rw [hG.1, hG.2.1], h.up⟩
theorem R_state (h : Rel k V U) (x1 : Int32) : ∃ r : Int32, fX5_state V x1 = some r ∧ fX6_state U x1 = some r ∧ Rel (k + 1) V U := by
  obtain ⟨c, n, ver, -, -, -, hT⟩ := id h
  unfold fX5_state fX6_state
  rcases rng x1 (show 4 < 2 ^ 31 by decide) with q | ⟨t, ht, rfl⟩
  · exact ⟨-1, by rw [om_none (sOf_none q)], by rw [o4O q, ob_e, if_neg i01], h.up⟩
  · obtain ⟨K, L, s, R, W, -, hB, -⟩ := hT t ht
    exact ⟨nI s, by rw [om_some (sOf_nI ht), hB.2.1], by rw [o4I ht, ob_e, if_pos rfl, gd_of (inb_nI ht (by decide)), nI_clamp (by omega), hB.2.2.1], h.up⟩
theorem R_place (h : Rel k V U) (x1 : Int32) : ∃ r : Int32, fX5_place V x1 = some r ∧ fX6_place U x1 = some r ∧ Rel (k + 1) V U := by
  obtain ⟨c, n, ver, -, -, -, hT⟩ := id h
  unfold fX5_place fX6_place
  rcases rng x1 (show 4 < 2 ^ 31 by decide) with q | ⟨t, ht, rfl⟩
  · exact ⟨-1, by rw [om_none (sOf_none q)], by rw [o4O q, ob_e, if_neg i01], h.up⟩
  · obtain ⟨K, L, s, R, W, -, hB, -⟩ := hT t ht
    rw [om_some (sOf_nI ht), uw hB.1 hB.2.1, ob_e, o4I ht, ob_e, if_pos rfl, busyU ht hB.1 hB.2.2.1, ob_e, gd_of (inb_nI ht (by decide)), nI_clamp (by omega), hB.2.2.2.1]
    cases bsy s with
    | true => exact ⟨_, by rw [if_neg (by decide)], by rw [if_neg (by decide)], h.up⟩
    | false => exact ⟨_, by rw [if_pos (by decide)], by rw [if_pos (by decide)], h.up⟩
theorem R_register (h : Rel k V U) (x1 x2 : Int32) : ∃ r : Int32, fX5_register V x1 x2 = some r ∧ fX6_register U x1 x2 = some r ∧ Rel (k + 1) V U := by
  obtain ⟨c, n, ver, -, -, -, hT⟩ := id h
  unfold fX5_register fX6_register
  rcases rng x1 (show 4 < 2 ^ 31 by decide) with q | ⟨t, ht, rfl⟩
  · exact ⟨0, by rw [om_none (sOf_none q)], by rw [o4O q, ob_e, if_neg i01], h.up⟩
  · obtain ⟨K, L, s, R, W, -, hB, -⟩ := hT t ht
    rw [om_some (sOf_nI ht), o4I ht, ob_e, if_pos rfl]
    rcases rng x2 (show 4 < 2 ^ 31 by decide) with q | ⟨r, hr, rfl⟩
    · exact ⟨0, by rw [rvO q, ob_e], by rw [o4O q, ob_e, if_neg i01], h.up⟩
    · exact ⟨V 19 t 0 r, by rw [rvI hr, ob_e], by rw [o4I hr, ob_e, if_pos rfl, ix_4, gd_of (inb_nI (show 4 * t + r < 16 by omega) (by decide)), nI_clamp (by omega), hB.2.2.2.2.2 r hr], h.up⟩
theorem R_discards (h : Rel k V U) (x1 : Int32) : ∃ r : Int32, fX5_discards V x1 = some r ∧ fX6_discards U x1 = some r ∧ Rel (k + 1) V U := by
  obtain ⟨c, n, ver, -, -, -, hT⟩ := id h
  unfold fX5_discards fX6_discards
  rcases rng x1 (show 4 < 2 ^ 31 by decide) with q | ⟨t, ht, rfl⟩
  · exact ⟨0, by rw [om_none (sOf_none q)], by rw [o4O q, ob_e, if_neg i01], h.up⟩
  · obtain ⟨K, L, s, R, W, -, hB, -⟩ := hT t ht
    exact ⟨V 10 t 0 11, by rw [om_some (sOf_nI ht)], by rw [o4I ht, ob_e, if_pos rfl, gd_of (inb_nI ht (by decide)), nI_clamp (by omega), hB.2.2.2.2.1], h.up⟩
theorem hwr {t v R W : Nat} (hv : v < 8) (h : TS t V U R W) : fX4_hasWritten V t (nI v) = some (bI (W.testBit v)) := by
  unfold fX4_hasWritten
  rw [h.2.2.2.1]
  cases hb : W.testBit v with
  | true => rw [if_neg (fun q => by rw [(bit0 h.2.1 hv).mp q] at hb; cases hb)]; rfl
  | false => rw [if_pos ((bit0 h.2.1 hv).mpr hb)]; rfl
/-- without an attempt nothing is written -/
theorem TR.att {c t : Nat} {ver : Nat → Nat} (h : TR c ver t V U) : ∃ R W : Nat, TS t V U R W ∧ ∃ b : Bool, U 13 0 0 t = bI b ∧ (b = false → W = 0) := by
  obtain ⟨K, L, s, R, W, -, -, h3, h4⟩ := h
  refine ⟨R, W, h3, ?_⟩
  rcases h4 with ⟨a1, a2, a3, a4, a5⟩ | ⟨a1, a2, a3, p, a4, a5⟩ | ⟨a1, p, a2, ⟨b1, b2, b3, b4⟩ | ⟨j, b1, b2, b3⟩⟩
  · exact ⟨false, a3.2, fun _ => a5⟩
  · exact ⟨false, a2.2, fun _ => a3⟩
  · exact ⟨false, b2.2, fun _ => b4⟩
  · exact ⟨true, b3.2.2.1, fun q => by cases q⟩
theorem R_sees (h : Rel k V U) (x1 x2 : Int32) : ∃ r : Int32, fX5_sees V x1 x2 = some r ∧ fX6_sees U x1 x2 = some r ∧ Rel (k + 1) V U := by
  obtain ⟨c, n, ver, -, -, hG, hT⟩ := id h
  unfold fX5_sees fX6_sees
  rcases rng x1 (show 4 < 2 ^ 31 by decide) with q | ⟨t, ht, rfl⟩
  · exact ⟨0, by rw [om_none (sOf_none q)], by rw [o4O q, ob_e, if_neg i01], h.up⟩
  · obtain ⟨R, W, hS, b, hb, hb2⟩ := (hT t ht).att
    rw [om_some (sOf_nI ht), o4I ht, ob_e, if_pos rfl]
    rcases rng x2 (show 8 < 2 ^ 31 by decide) with q | ⟨v, hv, rfl⟩
    · exact ⟨0, by rw [vO q, ob_e, if_pos rfl], by rw [o8O q, ob_e, if_neg i01], h.up⟩
    · obtain ⟨s1, s2, s3⟩ := hS.2.2.2.2 v hv
      have hval := (hG.2.2.2.2.1 v hv).2.2.2
      rw [vI hv, ob_e, if_neg i01, hwr hv hS, ob_e, o8I hv, ob_e, if_pos rfl, ix_8]
      simp only [gd_of (inb_nI ht (show 4 < 2 ^ 31 by decide)), gd_of (inb_nI hv (show 8 < 2 ^ 31 by decide)), gd_of (inb_nI (show 8 * t + v < 32 by omega) (show 32 < 2 ^ 31 by decide)), nI_clamp (show t < 2 ^ 31 by omega), nI_clamp (show v < 2 ^ 31 by omega), nI_clamp (show 8 * t + v < 2 ^ 31 by omega), hb, s2]
      cases b with
      | false =>
        rw [hb2 rfl, Nat.zero_testBit]
        exact ⟨_, by rw [if_pos (by decide)], by rw [if_pos (by decide), hval], h.up⟩
      | true =>
        rw [if_neg (show ¬ bI true = 0 by decide)]
        cases hw : W.testBit v with
        | false => exact ⟨_, by rw [if_pos (by decide)], by rw [if_pos (by decide), hval], h.up⟩
        | true => exact ⟨_, by rw [if_neg (by decide)], by rw [if_neg (by decide), s3 hw], h.up⟩
theorem mod_s2 (R i : Nat) : R % 2 ^ (i + 1) = R % 2 ^ i + 2 ^ i * (R.testBit i).toNat := by
  rw [Nat.mod_pow_succ]
  have h : R / 2 ^ i % 2 = (R.testBit i).toNat := by
    rw [Nat.testBit_eq_decide_div_mod_eq]
    have h2 := Nat.mod_lt (R / 2 ^ i) (show 0 < 2 by decide)
    generalize R / 2 ^ i % 2 = z at h2 ⊢
    rcases (show z = 0 ∨ z = 1 by omega) with rfl | rfl <;> rfl
  rw [h]
theorem X6_log_L {t R W : Nat} (ht : t < 4) (hR : R < 256) (hW : W < 256) (b : Bool) (hb : U 13 0 0 t = bI b) (hb2 : b = false → W = 0) (hs : ∀ v, v < 8 → U 17 0 0 (8 * t + v) = bI (R.testBit v) ∧ U 18 0 0 (8 * t + v) = bI (W.testBit v)) : ∀ (n i : Nat), i ≤ 8 → 8 < i + n → fX6_log_L14 n U (nI t) (nI (R % 2 ^ i + 256 * (W % 2 ^ i))) (nI i) = some (nI (R + 256 * W)) := by
  intro n
  induction n with
  | zero => intro i a b; omega
  | succ n ih =>
    intro i h1 h2
    rw [fX6_log_L14]
    by_cases h : 8 ≤ i
    · have : i = 8 := by omega
      subst this
      rw [if_pos (by decide), Nat.mod_eq_of_lt (show R < 2 ^ 8 from hR), Nat.mod_eq_of_lt (show W < 2 ^ 8 from hW)]
    · have hi : i < 8 := by omega
      obtain ⟨s1, s2⟩ := hs i hi
      rw [if_neg (show ¬ (8 : Int32) ≤ nI i from nI_ge (b := 8) (by omega) (by decide)), ix_8]
      simp only [gd_of (inb_nI ht (show 4 < 2 ^ 31 by decide)), gd_of (inb_nI (show 8 * t + i < 32 by omega) (show 32 < 2 ^ 31 by decide)), nI_clamp (show t < 2 ^ 31 by omega), nI_clamp (show 8 * t + i < 2 ^ 31 by omega), hb, s1, s2, one_shl i hi, big_shl i hi, nI_add, nI_1]
      have ihh := ih (i + 1) (by omega) (by omega)
      rw [mod_s2, mod_s2] at ihh
      have hw0 : b = false → W.testBit i = false := fun q => by rw [hb2 q, Nat.zero_testBit]
      cases hr : R.testBit i with
      | false =>
        rw [hr] at ihh
        rw [if_pos (show bI false = 0 by decide)]
        cases hbb : b with
        | false =>
          rw [hw0 hbb] at ihh
          rw [if_pos (show bI false = 0 by decide)]
          simpa using ihh
        | true =>
          rw [if_neg (show ¬ bI true = 0 by decide)]
          cases hww : W.testBit i with
          | false => rw [hww] at ihh; rw [if_pos (show bI false = 0 by decide)]; simpa using ihh
          | true =>
            rw [hww] at ihh
            rw [if_neg (show ¬ bI true = 0 by decide)]
            rw [← ihh]
            congr 2
            simp
            omega
      | true =>
        rw [hr] at ihh
        rw [if_neg (show ¬ bI true = 0 by decide)]
        cases hbb : b with
        | false =>
          rw [hw0 hbb] at ihh
          rw [if_pos (show bI false = 0 by decide), ← ihh]
          congr 2
          simp
          omega
        | true =>
          rw [if_neg (show ¬ bI true = 0 by decide)]
          cases hww : W.testBit i with
          | false =>
            rw [hww] at ihh
            rw [if_pos (show bI false = 0 by decide), ← ihh]
            congr 2
            simp
            omega
          | true =>
            rw [hww] at ihh
            rw [if_neg (show ¬ bI true = 0 by decide), ← ihh]
            congr 2
            simp
            omega
theorem R_log (h : Rel k V U) (x1 : Int32) : ∃ r : Int32, fX5_log V x1 = some r ∧ fX6_log U x1 = some r ∧ Rel (k + 1) V U := by
  obtain ⟨c, n, ver, -, -, hG, hT⟩ := id h
  unfold fX5_log fX6_log
  rcases rng x1 (show 4 < 2 ^ 31 by decide) with q | ⟨t, ht, rfl⟩
  · exact ⟨0, by rw [om_none (sOf_none q)], by rw [o4O q, ob_e, if_neg i01], h.up⟩
  · obtain ⟨R, W, hS, b, hb, hb2⟩ := (hT t ht).att
    have hL := X6_log_L ht hS.1 hS.2.1 b hb hb2 (fun v hv => ⟨(hS.2.2.2.2 v hv).1, (hS.2.2.2.2 v hv).2.1⟩) 40 0 (by omega) (by omega)
    have hL2 : fX6_log_L14 40 U (nI t) 0 0 = some (nI (R + 256 * W)) := by
      rw [show R % 2 ^ 0 + 256 * (W % 2 ^ 0) = 0 by simp [Nat.mod_one]] at hL
      exact hL
    refine ⟨nI (R + 256 * W), ?_, by rw [o4I ht, ob_e, if_pos rfl, hL2, ob_e], h.up⟩
    rw [om_some (sOf_nI ht), hS.2.2.1, hS.2.2.2.1, pk_shlN (n := W) (8 &&& 31) 8 (by decide) (by have := hS.2.1; omega), nI_add, Nat.mul_comm W]
end RD
