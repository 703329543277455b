section RE
variable {k : Nat} {V U : Sto}
theorem isw_k {a b : Int32} {kn : Nat} (hk : kn ≤ 16) : ∃ w : Bool, fX5_isWord V (nI kn) a b = some (bI w) ∧ fX6_named U (nI kn) a b = some (bI w) ∧ (w = true → wOK kn a b) := by
  have RA : (∃ ra : Nat, ra < 4 ∧ a = nI ra ∧ fX5_isRegister V a = some 1 ∧ fX6_out U a 4 = some 0) ∨ (fX5_isRegister V a = some 0 ∧ fX6_out U a 4 = some 1) := by
    rcases rng a (show 4 < 2 ^ 31 by decide) with q | ⟨r, hr, rfl⟩
    · exact Or.inr ⟨rO q, o4O q⟩
    · exact Or.inl ⟨r, hr, rfl, rI hr, o4I hr⟩
  have RB : (∃ ra : Nat, ra < 4 ∧ b = nI ra ∧ fX5_isRegister V b = some 1 ∧ fX6_out U b 4 = some 0) ∨ (fX5_isRegister V b = some 0 ∧ fX6_out U b 4 = some 1) := by
    rcases rng b (show 4 < 2 ^ 31 by decide) with q | ⟨r, hr, rfl⟩
    · exact Or.inr ⟨rO q, o4O q⟩
    · exact Or.inl ⟨r, hr, rfl, rI hr, o4I hr⟩
  have VA : (∃ ra : Nat, ra < 8 ∧ a = nI ra ∧ fX5_isVariable V a = some 1 ∧ fX6_out U a 8 = some 0) ∨ (fX5_isVariable V a = some 0 ∧ fX6_out U a 8 = some 1) := by
    rcases rng a (show 8 < 2 ^ 31 by decide) with q | ⟨r, hr, rfl⟩
    · exact Or.inr ⟨vO q, o8O q⟩
    · exact Or.inl ⟨r, hr, rfl, vI hr, o8I hr⟩
  have VB : (∃ ra : Nat, ra < 8 ∧ b = nI ra ∧ fX5_isVariable V b = some 1 ∧ fX6_out U b 8 = some 0) ∨ (fX5_isVariable V b = some 0 ∧ fX6_out U b 8 = some 1) := by
    rcases rng b (show 8 < 2 ^ 31 by decide) with q | ⟨r, hr, rfl⟩
    · exact Or.inr ⟨vO q, o8O q⟩
    · exact Or.inl ⟨r, hr, rfl, vI hr, o8I hr⟩
  have fin : ∀ (w : Bool), (w = true → wOK kn a b) → fX5_isWord V (nI kn) a b = some (bI w) → fX6_named U (nI kn) a b = some (bI w) → ∃ w : Bool, fX5_isWord V (nI kn) a b = some (bI w) ∧ fX6_named U (nI kn) a b = some (bI w) ∧ (w = true → wOK kn a b) := fun w h1 h2 h3 => ⟨w, h2, h3, h1⟩
  rcases k16 hk with rfl | rfl | rfl | rfl | rfl | rfl | rfl | rfl | rfl | rfl | rfl | rfl | rfl | rfl | rfl | rfl | rfl
  · rcases RA with ⟨ra, hra, ea, h1, h2⟩ | ⟨h1, h2⟩
    · exact fin true (fun _ => ⟨by decide, fun _ => ⟨ra, hra, ea⟩, fun z => absurd z (by decide), fun z => absurd z (by decide), fun z => absurd z (by decide)⟩) (by show ob (fX5_isRegister V a) _ = _; rw [h1]; rfl) (by show ob (fX6_out U a 4) _ = _; rw [h2]; rfl)
    · exact fin false (fun z => by cases z) (by show ob (fX5_isRegister V a) _ = _; rw [h1]; rfl) (by show ob (fX6_out U a 4) _ = _; rw [h2]; rfl)
  · rcases RA with ⟨ra, hra, ea, h1, h2⟩ | ⟨h1, h2⟩
    · rcases RB with ⟨rb, hrb, eb, h3, h4⟩ | ⟨h3, h4⟩
      · exact fin true (fun _ => ⟨by decide, fun _ => ⟨ra, hra, ea⟩, fun _ => ⟨rb, hrb, eb⟩, fun z => absurd z (by decide), fun z => absurd z (by decide)⟩) (by show ob (fX5_isRegister V a) _ = _; rw [h1]; show ob (fX5_isRegister V b) _ = _; rw [h3]; rfl) (by show ob (fX6_out U a 4) _ = _; rw [h2]; show ob (fX6_out U b 4) _ = _; rw [h4]; rfl)
      · exact fin false (fun z => by cases z) (by show ob (fX5_isRegister V a) _ = _; rw [h1]; show ob (fX5_isRegister V b) _ = _; rw [h3]; rfl) (by show ob (fX6_out U a 4) _ = _; rw [h2]; show ob (fX6_out U b 4) _ = _; rw [h4]; rfl)
    · exact fin false (fun z => by cases z) (by show ob (fX5_isRegister V a) _ = _; rw [h1]; rfl) (by show ob (fX6_out U a 4) _ = _; rw [h2]; rfl)
  · rcases RA with ⟨ra, hra, ea, h1, h2⟩ | ⟨h1, h2⟩
    · rcases RB with ⟨rb, hrb, eb, h3, h4⟩ | ⟨h3, h4⟩
      · exact fin true (fun _ => ⟨by decide, fun _ => ⟨ra, hra, ea⟩, fun _ => ⟨rb, hrb, eb⟩, fun z => absurd z (by decide), fun z => absurd z (by decide)⟩) (by show ob (fX5_isRegister V a) _ = _; rw [h1]; show ob (fX5_isRegister V b) _ = _; rw [h3]; rfl) (by show ob (fX6_out U a 4) _ = _; rw [h2]; show ob (fX6_out U b 4) _ = _; rw [h4]; rfl)
      · exact fin false (fun z => by cases z) (by show ob (fX5_isRegister V a) _ = _; rw [h1]; show ob (fX5_isRegister V b) _ = _; rw [h3]; rfl) (by show ob (fX6_out U a 4) _ = _; rw [h2]; show ob (fX6_out U b 4) _ = _; rw [h4]; rfl)
    · exact fin false (fun z => by cases z) (by show ob (fX5_isRegister V a) _ = _; rw [h1]; rfl) (by show ob (fX6_out U a 4) _ = _; rw [h2]; rfl)
  · rcases RA with ⟨ra, hra, ea, h1, h2⟩ | ⟨h1, h2⟩
    · rcases VB with ⟨rb, hrb, eb, h3, h4⟩ | ⟨h3, h4⟩
      · exact fin true (fun _ => ⟨by decide, fun _ => ⟨ra, hra, ea⟩, fun z => absurd z (by decide), fun _ => ⟨rb, hrb, eb⟩, fun z => absurd z (by decide)⟩) (by show ob (fX5_isRegister V a) _ = _; rw [h1]; show ob (fX5_isVariable V b) _ = _; rw [h3]; rfl) (by show ob (fX6_out U a 4) _ = _; rw [h2]; show ob (fX6_out U b 8) _ = _; rw [h4]; rfl)
      · exact fin false (fun z => by cases z) (by show ob (fX5_isRegister V a) _ = _; rw [h1]; show ob (fX5_isVariable V b) _ = _; rw [h3]; rfl) (by show ob (fX6_out U a 4) _ = _; rw [h2]; show ob (fX6_out U b 8) _ = _; rw [h4]; rfl)
    · exact fin false (fun z => by cases z) (by show ob (fX5_isRegister V a) _ = _; rw [h1]; rfl) (by show ob (fX6_out U a 4) _ = _; rw [h2]; rfl)
  · rcases VA with ⟨ra, hra, ea, h1, h2⟩ | ⟨h1, h2⟩
    · rcases RB with ⟨rb, hrb, eb, h3, h4⟩ | ⟨h3, h4⟩
      · exact fin true (fun _ => ⟨by decide, fun z => absurd z (by decide), fun _ => ⟨rb, hrb, eb⟩, fun z => absurd z (by decide), fun _ => ⟨ra, hra, ea⟩⟩) (by show ob (fX5_isVariable V a) _ = _; rw [h1]; show ob (fX5_isRegister V b) _ = _; rw [h3]; rfl) (by show ob (fX6_out U a 8) _ = _; rw [h2]; show ob (fX6_out U b 4) _ = _; rw [h4]; rfl)
      · exact fin false (fun z => by cases z) (by show ob (fX5_isVariable V a) _ = _; rw [h1]; show ob (fX5_isRegister V b) _ = _; rw [h3]; rfl) (by show ob (fX6_out U a 8) _ = _; rw [h2]; show ob (fX6_out U b 4) _ = _; rw [h4]; rfl)
    · exact fin false (fun z => by cases z) (by show ob (fX5_isVariable V a) _ = _; rw [h1]; rfl) (by show ob (fX6_out U a 8) _ = _; rw [h2]; rfl)
  · rcases RA with ⟨ra, hra, ea, h1, h2⟩ | ⟨h1, h2⟩
    · exact fin true (fun _ => ⟨by decide, fun _ => ⟨ra, hra, ea⟩, fun z => absurd z (by decide), fun z => absurd z (by decide), fun z => absurd z (by decide)⟩) (by show ob (fX5_isRegister V a) _ = _; rw [h1]; rfl) (by show ob (fX6_out U a 4) _ = _; rw [h2]; rfl)
    · exact fin false (fun z => by cases z) (by show ob (fX5_isRegister V a) _ = _; rw [h1]; rfl) (by show ob (fX6_out U a 4) _ = _; rw [h2]; rfl)
  · exact fin true (fun _ => ⟨by decide, fun z => absurd z (by decide), fun z => absurd z (by decide), fun z => absurd z (by decide), fun z => absurd z (by decide)⟩) rfl rfl
  · exact fin true (fun _ => ⟨by decide, fun z => absurd z (by decide), fun z => absurd z (by decide), fun z => absurd z (by decide), fun z => absurd z (by decide)⟩) rfl rfl
  · exact fin true (fun _ => ⟨by decide, fun z => absurd z (by decide), fun z => absurd z (by decide), fun z => absurd z (by decide), fun z => absurd z (by decide)⟩) rfl rfl
  · exact fin true (fun _ => ⟨by decide, fun z => absurd z (by decide), fun z => absurd z (by decide), fun z => absurd z (by decide), fun z => absurd z (by decide)⟩) rfl rfl
  · exact fin true (fun _ => ⟨by decide, fun z => absurd z (by decide), fun z => absurd z (by decide), fun z => absurd z (by decide), fun z => absurd z (by decide)⟩) rfl rfl
  · rcases RA with ⟨ra, hra, ea, h1, h2⟩ | ⟨h1, h2⟩
    · exact fin true (fun _ => ⟨by decide, fun _ => ⟨ra, hra, ea⟩, fun z => absurd z (by decide), fun z => absurd z (by decide), fun z => absurd z (by decide)⟩) (by show ob (fX5_isRegister V a) _ = _; rw [h1]; rfl) (by show ob (fX6_out U a 4) _ = _; rw [h2]; rfl)
    · exact fin false (fun z => by cases z) (by show ob (fX5_isRegister V a) _ = _; rw [h1]; rfl) (by show ob (fX6_out U a 4) _ = _; rw [h2]; rfl)
  · exact fin true (fun _ => ⟨by decide, fun z => absurd z (by decide), fun z => absurd z (by decide), fun z => absurd z (by decide), fun z => absurd z (by decide)⟩) rfl rfl
  · rcases RA with ⟨ra, hra, ea, h1, h2⟩ | ⟨h1, h2⟩
    · exact fin true (fun _ => ⟨by decide, fun _ => ⟨ra, hra, ea⟩, fun z => absurd z (by decide), fun z => absurd z (by decide), fun z => absurd z (by decide)⟩) (by show ob (fX5_isRegister V a) _ = _; rw [h1]; rfl) (by show ob (fX6_out U a 4) _ = _; rw [h2]; rfl)
    · exact fin false (fun z => by cases z) (by show ob (fX5_isRegister V a) _ = _; rw [h1]; rfl) (by show ob (fX6_out U a 4) _ = _; rw [h2]; rfl)
  · rcases RA with ⟨ra, hra, ea, h1, h2⟩ | ⟨h1, h2⟩
    · exact fin true (fun _ => ⟨by decide, fun _ => ⟨ra, hra, ea⟩, fun z => absurd z (by decide), fun z => absurd z (by decide), fun z => absurd z (by decide)⟩) (by show ob (fX5_isRegister V a) _ = _; rw [h1]; rfl) (by show ob (fX6_out U a 4) _ = _; rw [h2]; rfl)
    · exact fin false (fun z => by cases z) (by show ob (fX5_isRegister V a) _ = _; rw [h1]; rfl) (by show ob (fX6_out U a 4) _ = _; rw [h2]; rfl)
  · exact fin true (fun _ => ⟨by decide, fun z => absurd z (by decide), fun z => absurd z (by decide), fun z => absurd z (by decide), fun z => absurd z (by decide)⟩) rfl rfl
  · rcases RA with ⟨ra, hra, ea, h1, h2⟩ | ⟨h1, h2⟩
    · exact fin true (fun _ => ⟨by decide, fun _ => ⟨ra, hra, ea⟩, fun z => absurd z (by decide), fun z => absurd z (by decide), fun z => absurd z (by decide)⟩) (by show ob (fX5_isRegister V a) _ = _; rw [h1]; rfl) (by show ob (fX6_out U a 4) _ = _; rw [h2]; rfl)
    · exact fin false (fun z => by cases z) (by show ob (fX5_isRegister V a) _ = _; rw [h1]; rfl) (by show ob (fX6_out U a 4) _ = _; rw [h2]; rfl)
theorem isw_out {x a b : Int32} (h : x < 0 ∨ nI 17 ≤ x) : fX5_isWord V x a b = some 0 := by
  have ne : ∀ c : Nat, c ≤ 16 → ¬ x = nI c := fun c hc q => by
    subst q
    rcases h with h | h
    · exact nI_pos (by omega) h
    · exact nI_ge (show c < 17 by omega) (by decide) h
  unfold fX5_isWord
  rw [if_neg (show ¬ x = 0 from ne 0 (by decide)), if_neg (show ¬ x = 1 from ne 1 (by decide)), if_neg (show ¬ x = 2 from ne 2 (by decide)), if_neg (show ¬ x = 3 from ne 3 (by decide)), if_neg (show ¬ x = 4 from ne 4 (by decide)), if_neg (show ¬ x = 5 from ne 5 (by decide)), if_neg (show ¬ x = 6 from ne 6 (by decide)), if_neg (show ¬ x = 7 from ne 7 (by decide)), if_neg (show ¬ x = 8 from ne 8 (by decide)), if_neg (show ¬ x = 9 from ne 9 (by decide)), if_neg (show ¬ x = 10 from ne 10 (by decide)), if_neg (show ¬ x = 11 from ne 11 (by decide)), if_neg (show ¬ x = 12 from ne 12 (by decide)), if_neg (show ¬ x = 13 from ne 13 (by decide)), if_neg (show ¬ x = 14 from ne 14 (by decide)), if_neg (show ¬ x = 15 from ne 15 (by decide)), if_neg (show ¬ x = 16 from ne 16 (by decide))]
  by_cases h0 : x < 0
  · rw [if_pos h0]
  · have h1 : nI 17 ≤ x := h.resolve_left h0
    have h2 : (16 : Int32) < x := by
      rw [Int32.le_iff_toInt_le] at h1
      rw [Int32.lt_iff_toInt_lt]
      have e1 : (nI 17).toInt = 17 := by decide
      have e2 : (16 : Int32).toInt = 16 := by decide
      omega
    rw [if_neg h0, if_pos h2]
/-- a thread that isn't under way, its list changed: IDLE -/
theorem TR_edit {c t L : Nat} {ver : Nat → Nat} {K : Nat → Nat} {V' U' : Sto} (h : TR c ver t V U) (hb : ∀ s, V 10 t 0 9 = nI s → s ≤ 4 → s ≠ 1 ∧ s ≠ 2) (hL : TL t V' U' K L) (hV : ∀ c i j, 10 ≤ c → ¬ (c = 11 ∨ c = 12 ∨ c = 13 ∨ c = 14 ∨ (c = 10 ∧ j = 9)) → V' c t i j = V c t i j) (hs : V' 10 t 0 9 = 0) (hU : ∀ x idx, 6 ≤ x → U' x 0 0 idx = U x 0 0 idx) (hu : U' 5 0 0 t = 0) : TR c ver t V' U' := by
  obtain ⟨K0, L0, s, R, W, h1, h2, h3, h4⟩ := h
  have hn := hb s h2.2.1 h2.1
  refine ⟨K, L, 0, R, W, hL, ⟨by omega, hs, hu, ?_, ?_, fun r hr => ?_⟩, ⟨h3.1, h3.2.1, ?_, ?_, fun v hv => ?_⟩, Or.inl ⟨by decide, by decide, ?_⟩⟩
  · rw [hV 10 0 10 (by omega) (by omega), hU 6 t (by omega)]; exact h2.2.2.2.1
  · rw [hV 10 0 11 (by omega) (by omega), hU 7 t (by omega)]; exact h2.2.2.2.2.1
  · rw [hV 19 0 r (by omega) (by omega), hU 8 _ (by omega)]; exact h2.2.2.2.2.2 r hr
  · rw [hV 10 0 7 (by omega) (by omega)]; exact h3.2.2.1
  · rw [hV 10 0 8 (by omega) (by omega)]; exact h3.2.2.2.1
  · rw [hV 20 0 v (by omega) (by omega), hU 17 _ (by omega), hU 18 _ (by omega), hU 19 _ (by omega)]; exact h3.2.2.2.2 v hv
  · rcases h4 with ⟨a1, a2, a3, a4, a5⟩ | ⟨a1, -⟩ | ⟨a1, -⟩
    · exact ⟨⟨by rw [hV 10 0 5 (by omega) (by omega)]; exact a3.1, by rw [hU 13 t (by omega)]; exact a3.2⟩, a4, a5⟩
    · exact absurd a1 hn.2
    · exact absurd a1 hn.1
theorem bsy_n {s : Nat} (h : bsy s = false) : s ≠ 1 ∧ s ≠ 2 := by
  unfold bsy at h
  simp only [Bool.or_eq_false_iff, decide_eq_false_iff_not] at h
  exact h
theorem nbusy {t s s' : Nat} (hs : s ≤ 4) (h : V 10 t 0 9 = nI s) (hb : bsy s = false) (h' : V 10 t 0 9 = nI s') (hs' : s' ≤ 4) : s' ≠ 1 ∧ s' ≠ 2 := by
  have : s' = s := nI_inj (by omega) (by omega) (h'.symm.trans h)
  subst this
  exact bsy_n hb
theorem R_cut (h : Rel k V U) (x1 x2 : Int32) : ∃ (r : Int32) (V' : Sto) (U' : Sto), fX5_cut V x1 x2 = some (r, V') ∧ fX6_cut U x1 x2 = some (r, U') ∧ Rel (k + 1) V' U' := by
  obtain ⟨c, n, ver, hc, hn, hG, hT⟩ := id h
  unfold fX5_cut fX6_cut
  rcases rng x1 (show 4 < 2 ^ 31 by decide) with q | ⟨t, ht, rfl⟩
  · exact ⟨0, V, U, by rw [om_none (sOf_none q)], by rw [o4O q, ob_e, if_neg i01], h.up⟩
  · obtain ⟨K, L, s, R, W, hL, hB, -, -⟩ := id (hT t ht)
    rw [om_some (sOf_nI ht), uw hB.1 hB.2.1, ob_e, o4I ht, ob_e, if_pos rfl, busyU ht hB.1 hB.2.2.1, ob_e]
    cases hb : bsy s with
    | true => exact ⟨0, V, U, by rw [if_neg (by decide)], by rw [if_neg (by decide)], h.up⟩
    | false =>
      rw [if_pos (show bI false = 0 by decide), if_pos (show bI false = 0 by decide)]
      by_cases q0 : x2 < 0
      · exact ⟨0, V, U, by rw [if_pos q0], by rw [if_pos q0], h.up⟩
      · simp only [gd_of (inb_nI ht (show 4 < 2 ^ 31 by decide)), nI_clamp (show t < 2 ^ 31 by omega), bnd_e]
        rw [if_neg q0, if_neg q0, hL.2.1, hL.2.2.1]
        by_cases q1 : x2 ≤ nI L
        · obtain ⟨m, hm, rfl⟩ : ∃ m, m ≤ L ∧ x2 = nI m := nI_of2 (nI_toInt (by have := hL.1; omega)) q0 q1
          rw [if_pos q1, if_pos q1]
          refine ⟨1, _, _, rfl, rfl, c, n, ver, by omega, by omega, hG.fr ((onlyV.st (t := t) (by omega)).tr (onlyV.st (by omega))) ((onlyU.st (t := t) ⟨by decide, by decide, by decide, by decide, by simp [sz]⟩).tr (onlyU.st ⟨by decide, by decide, by decide, by decide, by simp [sz]⟩)), fun t' ht' => ?_⟩
          by_cases qt : t' = t
          · subst qt
            refine TR_edit (K := K) (L := m) (hT t' ht') (fun s' a b => nbusy hB.1 hB.2.1 hb a b) ⟨by have := hL.1; omega, by rw [st_nc (by decide), st_eq], by rw [st_nc (by decide), st_eq], fun j hj => ?_⟩ (fun c i j h1 h2 => ?_) st_eq (fun x idx hx => ?_) st_eq
            · simp only [st_nc (show 12 ≠ 10 by decide), st_nc (show 12 ≠ 11 by decide), st_nc (show 13 ≠ 10 by decide), st_nc (show 13 ≠ 11 by decide), st_nc (show 14 ≠ 10 by decide), st_nc (show 14 ≠ 11 by decide), st_nc (show 1 ≠ 5 by decide), st_nc (show 1 ≠ 4 by decide), st_nc (show 2 ≠ 5 by decide), st_nc (show 2 ≠ 4 by decide), st_nc (show 3 ≠ 5 by decide), st_nc (show 3 ≠ 4 by decide)]
              exact hL.2.2.2 j hj
            · rw [st_get, if_neg (by omega), st_nc (by omega)]
            · rw [st_nc (by omega), st_nc (by omega)]
          · exact (hT t' ht').fr (((onlyV.st (t := t) (by omega)).tr (onlyV.st (by omega))).same qt) (((onlyU.st (t := t) ⟨by decide, by decide, by decide, by decide, by simp [sz]⟩).tr (onlyU.st ⟨by decide, by decide, by decide, by decide, by simp [sz]⟩)).same qt)
        · exact ⟨0, V, U, by rw [if_neg q1], by rw [if_neg q1], h.up⟩
theorem R_check (h : Rel k V U) (x1 : Int32) : ∃ (r : Int32) (V' : Sto) (U' : Sto), fX5_check V x1 = some (r, V') ∧ fX6_check U x1 = some (r, U') ∧ Rel (k + 1) V' U' := by
  obtain ⟨c, n, ver, hc, hn, hG, hT⟩ := id h
  rcases rng x1 (show 4 < 2 ^ 31 by decide) with q | ⟨t, ht, rfl⟩
  · exact ⟨-2, V, U, by unfold fX5_check; rw [om_none (sOf_none q)], by unfold fX6_check; rw [o4O q, ob_e, if_neg i01], h.up⟩
  · obtain ⟨K, L, s, R, W, hL, hB, hS, hst⟩ := id (hT t ht)
    obtain ⟨V', a1, a2, a3⟩ := X3_go hL.1 hL.kok hL.2.1
    obtain ⟨U', b1, b2⟩ := X6_check_ok ht hL.1 hL.mok hL.2.2.1
    refine ⟨_, V', U', by unfold fX5_check; rw [om_some (sOf_nI ht), a1, ob2_e], b1, ?_⟩
    have oV : onlyV t V V' := fun c t' i j q => a2 c t' i j (fun z => q ⟨z.1, by omega⟩)
    have hV : ∀ c i j, ¬ (c = 15 ∨ c = 16 ∨ c = 17 ∨ c = 18 ∨ (c = 11 ∧ j = 7)) → V' c t i j = V c t i j := fun c i j q => a2 c t i j (fun z => q z.2)
    have hU : ∀ x idx, x ≤ 26 → U' x 0 0 idx = U x 0 0 idx := fun x idx hx => b2 x 0 0 idx (by omega) (by omega)
    have oU : ∀ t', sameU t' U U' := fun t' x idx h1 h2 _ _ _ => hU x idx (by omega)
    refine ⟨c, n, ver, by omega, by omega, ?_, fun t' ht' => ?_⟩
    · obtain ⟨g1, g2, g3, g4, g5, g6⟩ := hG
      exact ⟨by rw [oV 1 0 0 2 (by omega)]; exact g1, by rw [hU 0 11 (by omega)]; exact g2, by rw [oV 4 0 0 1 (by omega)]; exact g3, by rw [hU 0 24 (by omega)]; exact g4, fun v hv => by rw [oV 3 0 0 v (by omega), hU 11 v (by omega), oV 2 0 0 v (by omega), hU 10 v (by omega)]; exact g5 v hv, fun j hj => by rw [oV 5 0 0 j (by omega), hU 26 j (by omega)]; exact g6 j hj⟩
    · by_cases qt : t' = t
      · subst qt
        have hrun : ∀ p, Run t' V U K L p → Run t' V' U' K L p := fun p ⟨r1, r2, r3, r4, r5, r6, r7⟩ => by
          have hd5 : ∀ j, j < dep K p → cq K p j < 6 := fun j hj => by
            have := dep5 (K := K) (L := L) (fun j hj => (hL.mok j (by have := hL.1; omega)).2) r3.1 (p := p) (by omega)
            have := @cq_lt6 K p j
            have := @cm_le K p j
            omega
          have hch : chk K L 0 = -1 := chk_of_good L 0 (fun q _ h2 => r3.1.1 q (by omega)) (by rw [Nat.zero_add]; exact r3.1.2)
          exact ⟨r1, by rw [hV 10 0 10 (by omega)]; exact r2, Conn_of r3.1 (a3 hch), by rw [hV 10 0 4 (by omega)]; exact r4, by rw [hU 20 _ (by omega)]; exact r5, fun j hj hM => by rw [hV 22 _ 3 (by omega)]; exact r6 j hj hM, fun j hj hQ => ⟨(r7 j hj hQ).1.fr (hd5 j hj) (fun c j _ => hV c _ j (by omega)) (fun x idx hx _ => hU x idx (by omega)), fun q => by rw [hV 22 _ 2 (by omega)]; exact (r7 j hj hQ).2 q⟩⟩
        have hno : NoA t' V U → NoA t' V' U' := fun ⟨a, b⟩ => ⟨by rw [hV 10 0 5 (by omega)]; exact a, by rw [hU 13 _ (by omega)]; exact b⟩
        refine ⟨K, L, s, R, W, hL.fr (fun c j hcj => hV c 0 j (by omega)) (fun x idx hx _ => hU x idx (by omega)), ?_, ?_, ?_⟩
        · obtain ⟨d1, d2, d3, d4, d5, d6⟩ := hB
          exact ⟨d1, by rw [hV 10 0 9 (by omega)]; exact d2, by rw [hU 5 _ (by omega)]; exact d3, by rw [hV 10 0 10 (by omega), hU 6 _ (by omega)]; exact d4, by rw [hV 10 0 11 (by omega), hU 7 _ (by omega)]; exact d5, fun r hr => by rw [hV 19 0 r (by omega), hU 8 _ (by omega)]; exact d6 r hr⟩
        · obtain ⟨d1, d2, d3, d4, d5⟩ := hS
          exact ⟨d1, d2, by rw [hV 10 0 7 (by omega)]; exact d3, by rw [hV 10 0 8 (by omega)]; exact d4, fun v hv => by rw [hU 17 _ (by omega), hU 18 _ (by omega), hV 20 0 v (by omega), hU 19 _ (by omega)]; exact d5 v hv⟩
        · rcases hst with ⟨e1, e2, e3, e4, e5⟩ | ⟨e1, e2, e3, p, e4, e5⟩ | ⟨e1, p, e2, e3⟩
          · exact Or.inl ⟨e1, e2, hno e3, e4, e5⟩
          · exact Or.inr (Or.inl ⟨e1, hno e2, e3, p, hrun p e4, e5⟩)
          · refine Or.inr (Or.inr ⟨e1, p, hrun p e2, ?_⟩)
            rcases e3 with ⟨f1, f2, f3, f4⟩ | ⟨j, f1, f2, f3, f4, f5, f6, ⟨g, f7, f8, f9⟩, f10, f11, f12⟩
            · exact Or.inl ⟨f1, hno f2, f3, f4⟩
            · exact Or.inr ⟨j, f1, f2, f3, by rw [hV 10 0 5 (by omega)]; exact f4, by rw [hU 13 _ (by omega)]; exact f5, by rw [hU 15 _ (by omega)]; exact f6, ⟨g, f7, by rw [hV 10 0 6 (by omega)]; exact f8, fun v hv => by rw [hU 16 _ (by omega)]; exact f9 v hv⟩, by rw [hU 14 _ (by omega), hV 22 _ 3 (by omega)]; exact f10, fun r hr => by rw [hU 9 _ (by omega), hV 23 _ r (by omega)]; exact f11 r hr, by rw [hV 22 _ 2 (by omega)]; exact f12⟩
      · exact (hT t' ht').fr (oV.same qt) (oU t')
theorem R_add (h : Rel k V U) (x1 x2 x3 x4 : Int32) : ∃ (r : Int32) (V' : Sto) (U' : Sto), fX5_add V x1 x2 x3 x4 = some (r, V') ∧ fX6_add U x1 x2 x3 x4 = some (r, U') ∧ Rel (k + 1) V' U' := by
  obtain ⟨c, n, ver, hc, hn, hG, hT⟩ := id h
  unfold fX5_add fX6_add
  rcases rng x1 (show 4 < 2 ^ 31 by decide) with q | ⟨t, ht, rfl⟩
  · exact ⟨0, V, U, by rw [om_none (sOf_none q)], by rw [o4O q, ob_e, if_neg i01], h.up⟩
  · obtain ⟨K, L, s, R, W, hL, hB, -, -⟩ := id (hT t ht)
    have hL30 := hL.1
    have hfull : fX3_isFull V t = some (bI (decide (L = 30))) := by
      unfold fX3_isFull
      rw [hL.2.1]
      by_cases q : L < 30
      · rw [if_pos (show nI L < 30 from nI_lt (b := 30) q (by decide))]
        have : ¬ L = 30 := by omega
        simp [this, bI]
      · rw [if_neg (show ¬ nI L < 30 from nI_nlt (b := 30) (by omega) (by omega))]
        have : L = 30 := by omega
        simp [this, bI]
    rw [om_some (sOf_nI ht), uw hB.1 hB.2.1, ob_e, hfull, ob_e, o4I ht, ob_e, if_pos rfl]
    simp only [gd_of (inb_nI ht (show 4 < 2 ^ 31 by decide)), nI_clamp (show t < 2 ^ 31 by omega)]
    rw [busyU ht hB.1 hB.2.2.1, ob_e, hL.2.2.1]
    rcases rng x2 (show 17 < 2 ^ 31 by decide) with q | ⟨kn, hk, rfl⟩
    · have o17 : fX6_out U x2 17 = some 1 := oO (n := 17) (by decide) q
      rw [isw_out q, ob_e, o17, ob_e, if_neg i01]
      refine ⟨0, V, U, ?_, rfl, h.up⟩
      split
      · split
        · rfl
        · rfl
      · rfl
    · have o17 : fX6_out U (nI kn) 17 = some 0 := oI (n := 17) (by decide) hk
      obtain ⟨w, w1, w2, w3⟩ := isw_k (V := V) (U := U) (a := x3) (b := x4) (show kn ≤ 16 by omega)
      rw [o17, ob_e, if_pos rfl, w1, ob_e, w2, ob_e]
      cases hb : bsy s with
      | true => exact ⟨0, V, U, by rw [if_neg (by decide)], by rw [if_neg (by decide)], h.up⟩
      | false =>
        rw [if_pos (show bI false = 0 by decide), if_pos (show bI false = 0 by decide)]
        by_cases q30 : L = 30
        · subst q30
          exact ⟨0, V, U, by rw [if_neg (by decide)], by rw [if_pos (by rfl)], h.up⟩
        · have hlt : L < 30 := by omega
          rw [if_neg (show ¬ nI L = 30 from nI_ne (b := 30) (by omega) (by decide) q30), if_pos (by simp [q30, bI])]
          cases w with
          | false => exact ⟨0, V, U, by rw [if_pos (by decide)], by rw [if_pos (by decide)], h.up⟩
          | true =>
            have happ : fX3_append V t (nI kn) x3 x4 = some (st (st (st (st V 12 t 0 L (nI kn)) 13 t 0 L x3) 14 t 0 L x4) 11 t 0 8 (nI (L + 1))) := by
              unfold fX3_append
              rw [hfull, ob_e, if_pos (by simp [q30, bI]), hL.2.1, gd_of (inb_nI hlt (by decide)), bnd_e, nI_clamp (by omega), st_nc (by decide), hL.2.1, gd_of (inb_nI hlt (by decide)), bnd_e, nI_clamp (by omega), st_nc (by decide), st_nc (by decide), hL.2.1, gd_of (inb_nI hlt (by decide)), bnd_e, nI_clamp (by omega), st_nc (by decide), st_nc (by decide), st_nc (by decide), hL.2.1, bnd_e, nI_1]
            have i120 : inb (nI (30 * t + L)) 120 = true := inb_nI (by omega) (by decide)
            rw [if_neg (show ¬ bI true = 0 by decide), if_neg (show ¬ bI true = 0 by decide), happ, ob_e, bnd_e, ix_30, gd_of i120]
            simp only [bnd_e, gd_of i120, nI_clamp (show 30 * t + L < 2 ^ 31 by omega)]
            rw [st_nc (show 4 ≠ 3 by decide), st_nc (show 4 ≠ 2 by decide), st_nc (show 4 ≠ 1 by decide), hL.2.2.1, nI_1]
            have d30 : (30 * t + L) / 30 = t := by omega
            have oV : onlyV t V (st (st (st (st (st V 12 t 0 L (nI kn)) 13 t 0 L x3) 14 t 0 L x4) 11 t 0 8 (nI (L + 1))) 10 t 0 9 0) := ((((onlyV.st (by omega)).tr (onlyV.st (by omega))).tr (onlyV.st (by omega))).tr (onlyV.st (by omega))).tr (onlyV.st (by omega))
            have oU : onlyU t U (st (st (st (st (st U 1 0 0 (30 * t + L) (nI kn)) 2 0 0 (30 * t + L) x3) 3 0 0 (30 * t + L) x4) 4 0 0 t (nI (L + 1))) 5 0 0 t 0) := ((((onlyU.st ⟨by decide, by decide, by decide, by decide, d30⟩).tr (onlyU.st ⟨by decide, by decide, by decide, by decide, d30⟩)).tr (onlyU.st ⟨by decide, by decide, by decide, by decide, d30⟩)).tr (onlyU.st ⟨by decide, by decide, by decide, by decide, by simp [sz]⟩)).tr (onlyU.st ⟨by decide, by decide, by decide, by decide, by simp [sz]⟩)
            refine ⟨1, _, _, rfl, rfl, c, n, ver, by omega, by omega, hG.fr oV oU, fun t' ht' => ?_⟩
            by_cases qt : t' = t
            · subst qt
              refine TR_edit (K := upN K L kn) (L := L + 1) (hT t' ht') (fun s' a b => nbusy hB.1 hB.2.1 hb a b) ⟨by omega, by rw [st_nc (by decide), st_eq], by rw [st_nc (by decide), st_eq], fun j hj => ?_⟩ (fun c i j h1 h2 => ?_) st_eq (fun x idx hx => ?_) st_eq
              · by_cases qj : j = L
                · subst qj
                  have hL2 := hL.2.2.2 j hj
                  rw [upN_s]
                  refine ⟨?_, ?_, ?_, ?_, ?_⟩
                  · rw [st_nc (by decide), st_nc (by decide), st_nc (by decide), st_nc (by decide), st_eq]
                  · rw [st_nc (by decide), st_nc (by decide), st_nc (by decide), st_nc (by decide), st_eq]
                  · rw [st_nc (by decide), st_nc (by decide), st_nc (by decide), st_eq, st_nc (by decide), st_nc (by decide), st_nc (by decide), st_eq]
                  · rw [st_nc (by decide), st_nc (by decide), st_eq, st_nc (by decide), st_nc (by decide), st_eq]
                  · rw [st_nc (by decide), st_nc (by decide), st_nc (by decide), st_eq, st_nc (by decide), st_nc (by decide), st_eq]
                    exact w3 rfl
                · have qj2 : 30 * t' + j ≠ 30 * t' + L := by omega
                  rw [upN_n qj]
                  simp only [st_nc (show 12 ≠ 10 by decide), st_nc (show 12 ≠ 11 by decide), st_nc (show 12 ≠ 14 by decide), st_nc (show 12 ≠ 13 by decide), st_nc (show 13 ≠ 10 by decide), st_nc (show 13 ≠ 11 by decide), st_nc (show 13 ≠ 14 by decide), st_nc (show 13 ≠ 12 by decide), st_nc (show 14 ≠ 10 by decide), st_nc (show 14 ≠ 11 by decide), st_nc (show 14 ≠ 13 by decide), st_nc (show 14 ≠ 12 by decide), st_nc (show 1 ≠ 5 by decide), st_nc (show 1 ≠ 4 by decide), st_nc (show 1 ≠ 3 by decide), st_nc (show 1 ≠ 2 by decide), st_nc (show 2 ≠ 5 by decide), st_nc (show 2 ≠ 4 by decide), st_nc (show 2 ≠ 3 by decide), st_nc (show 2 ≠ 1 by decide), st_nc (show 3 ≠ 5 by decide), st_nc (show 3 ≠ 4 by decide), st_nc (show 3 ≠ 2 by decide), st_nc (show 3 ≠ 1 by decide), st_nj qj, st_nj qj2]
                  exact hL.2.2.2 j hj
              · rw [st_get, if_neg (by omega), st_nc (by omega), st_nc (by omega), st_nc (by omega), st_nc (by omega)]
              · rw [st_nc (by omega), st_nc (by omega), st_nc (by omega), st_nc (by omega), st_nc (by omega)]
            · exact (hT t' ht').fr (oV.same qt) (oU.same qt)
end RE
