section RM
variable {k : Nat} {V U : Sto}
theorem st2 {s : Nat} (hs : s ≤ 4) : (nI s = 2) = (s = 2) := nI_c (c := 2) hs (by decide)
theorem st1 {s : Nat} (hs : s ≤ 4) : (nI s = 1) = (s = 1) := nI_c (c := 1) hs (by decide)
/-- what a thread waits for -/
theorem wfor {t v s R W : Nat} (hv : v < 8) (hs : s ≤ 4) (hst : V 10 t 0 9 = nI s) (h : TS t V U R W) : fX4_waitsFor V t ((1 : Int32) <<< (nI v &&& 31)) = some (bI (decide (s = 2) && R.testBit v)) := by
  unfold fX4_waitsFor
  rw [hst, h.2.2.1]
  simp only [st2 hs]
  by_cases h2 : s = 2
  · rw [if_pos h2]
    cases hb : R.testBit v with
    | true => rw [if_neg (fun q => by rw [(bit0 h.1 hv).mp q] at hb; cases hb)]; simp [h2, bI]
    | false => rw [if_pos ((bit0 h.1 hv).mpr hb)]; simp [bI]
  · rw [if_neg h2]; simp [h2, bI]
theorem R_wait_L {c v : Nat} {ver : Nat → Nat} (hv : v < 8) (hT : ∀ t, t < 4 → TR c ver t V U) : ∀ (n i : Nat) (x : Int32), i ≤ 4 → 4 < i + n → ∃ r : Int32, fX5_waiting_L13 n V (nI v) x (nI i) = some r ∧ fX6_waiting_L15 n U (nI v) x (nI i) = some r := by
  intro n
  induction n with
  | zero => intro i x a b; omega
  | succ n ih =>
    intro i x h1 h2
    rw [fX5_waiting_L13, fX6_waiting_L15]
    by_cases h : 4 ≤ i
    · have : i = 4 := by omega
      subst this
      exact ⟨x, by rw [if_pos (by decide)], by rw [if_pos (by decide)]⟩
    · have hi : i < 4 := by omega
      obtain ⟨K, L, s, R, W, -, hB, hS, -⟩ := hT i hi
      have hn : ¬ (4 : Int32) ≤ nI i := nI_ge (b := 4) (by omega) (by decide)
      rw [if_neg hn, if_neg hn, gd_of (inb_nI hi (by decide)), gd_of (inb_nI hi (by decide)), nI_clamp (by omega), wfor hv hB.1 hB.2.1 hS, ob_e, hB.2.2.1, ix_8, gd_of (inb_nI (show 8 * i + v < 32 by omega) (by decide)), nI_clamp (by omega), (hS.2.2.2.2 v hv).1, nI_1]
      simp only [st2 hB.1]
      obtain ⟨r0, a1, a2⟩ := ih (i + 1) x (by omega) (by omega)
      obtain ⟨r1, b1, b2⟩ := ih (i + 1) (x + 1) (by omega) (by omega)
      by_cases hs : s = 2
      · cases hb : R.testBit v with
        | true => exact ⟨r1, by rw [if_neg (by simp [hs, bI]), b1], by rw [if_pos hs, if_neg (by decide), b2]⟩
        | false => exact ⟨r0, by rw [if_pos (by simp [bI]), a1], by rw [if_pos hs, if_pos (by decide), a2]⟩
      · exact ⟨r0, by rw [if_pos (by simp [hs, bI]), a1], by rw [if_neg hs, a2]⟩
theorem R_waiting (h : Rel k V U) (x1 : Int32) : ∃ r : Int32, fX5_waiting V x1 = some r ∧ fX6_waiting U x1 = some r ∧ Rel (k + 1) V U := by
  obtain ⟨c, n, ver, -, -, hG, hT⟩ := id h
  unfold fX5_waiting fX6_waiting
  rcases rng x1 (show 8 < 2 ^ 31 by decide) with q | ⟨v, hv, rfl⟩
  · exact ⟨0, by rw [vO q, ob_e, if_pos rfl], by rw [o8O q, ob_e, if_neg i01], h.up⟩
  · obtain ⟨r, a, b⟩ := R_wait_L hv hT 40 0 0 (by omega) (by omega)
    have a' : fX5_waiting_L13 40 V (nI v) 0 0 = some r := a
    have b' : fX6_waiting_L15 40 U (nI v) 0 0 = some r := b
    exact ⟨r, by rw [vI hv, ob_e, if_neg i01, a', ob_e], by rw [o8I hv, ob_e, if_pos rfl, b', ob_e], h.up⟩
def anyS (V : Sto) (s : Int32) : Nat → Nat → Bool
  | 0, _ => false
  | m + 1, i => decide (V 10 i 0 9 = s) || anyS V s m (i + 1)
theorem C_out_L : ∀ (n m i : Nat) (a : Bool), i + m = 4 → m < n → fX5_outcome_L4 n V (bI a) (nI i) = some (if anyS V 1 m i = true then 0 else if (a || anyS V 2 m i) = true then 2 else 1) := by
  intro n
  induction n with
  | zero => intro m i a h1 h2; omega
  | succ n ih =>
    intro m i a h1 h2
    rw [fX5_outcome_L4]
    cases m with
    | zero =>
      have : i = 4 := by omega
      subst this
      rw [if_pos (by decide)]
      cases a <;> rfl
    | succ m =>
      rw [if_neg (show ¬ (4 : Int32) ≤ nI i from nI_ge (b := 4) (by omega) (by decide)), gd_of (inb_nI (show i < 4 by omega) (by decide)), gd_of (inb_nI (show i < 4 by omega) (by decide)), nI_clamp (by omega), nI_1]
      simp only [anyS]
      by_cases q1 : V 10 i 0 9 = 1
      · rw [if_pos q1]; simp [q1]
      · rw [if_neg q1]
        by_cases q2 : V 10 i 0 9 = 2
        · rw [if_pos q2]
          have h9 : fX5_outcome_L4 n V 1 (nI (i + 1)) = _ := ih m (i + 1) true (by omega) (by omega)
          rw [h9]
          simp [q2]
        · rw [if_neg q2, ih m (i + 1) a (by omega) (by omega)]
          simp [q1, q2]
theorem M_out_L {c : Nat} {ver : Nat → Nat} (hT : ∀ t, t < 4 → TR c ver t V U) : ∀ (n m i : Nat) (r a : Bool), i + m = 4 → m < n → fX6_outcome_L6 n U (bI r) (bI a) (nI i) = some (bI (r || anyS V 1 m i), bI (a || anyS V 2 m i)) := by
  intro n
  induction n with
  | zero => intro m i r a h1 h2; omega
  | succ n ih =>
    intro m i r a h1 h2
    rw [fX6_outcome_L6]
    cases m with
    | zero =>
      have : i = 4 := by omega
      subst this
      rw [if_pos (by decide)]
      simp [anyS]
    | succ m =>
      obtain ⟨K, L, s, R, W, -, hB, -, -⟩ := hT i (by omega)
      have e5 : U 5 0 0 i = V 10 i 0 9 := by rw [hB.2.1, hB.2.2.1]
      rw [if_neg (show ¬ (4 : Int32) ≤ nI i from nI_ge (b := 4) (by omega) (by decide))]
      simp only [gd_of (inb_nI (show i < 4 by omega) (show 4 < 2 ^ 31 by decide)), nI_clamp (show i < 2 ^ 31 by omega), nI_1, e5, anyS]
      have I := fun r a => ih m (i + 1) r a (by omega) (by omega)
      have I11 : fX6_outcome_L6 n U 1 1 (nI (i + 1)) = _ := I true true
      have I10 : fX6_outcome_L6 n U 1 0 (nI (i + 1)) = _ := I true false
      have I01 : fX6_outcome_L6 n U 0 1 (nI (i + 1)) = _ := I false true
      have I00 : fX6_outcome_L6 n U 0 0 (nI (i + 1)) = _ := I false false
      rw [I11, I10, I01, I00]
      cases r <;> cases a <;> by_cases q1 : V 10 i 0 9 = 1 <;> by_cases q2 : V 10 i 0 9 = 2 <;> simp [bI, q1, q2] <;> rw [q1] at q2 <;> exact absurd q2 (by decide)
theorem R_outcome (h : Rel k V U) : ∃ r : Int32, fX5_outcome V = some r ∧ fX6_outcome U = some r ∧ Rel (k + 1) V U := by
  obtain ⟨c, n, ver, -, -, hG, hT⟩ := id h
  unfold fX5_outcome fX6_outcome
  have a : fX5_outcome_L4 40 V 0 0 = _ := C_out_L 40 4 0 false (by omega) (by omega)
  have b : fX6_outcome_L6 40 U 0 0 0 = _ := M_out_L hT 40 4 0 false false (by omega) (by omega)
  rw [a, b, ob2_e]
  refine ⟨_, rfl, ?_, h.up⟩
  cases anyS V 1 4 0 <;> cases anyS V 2 4 0 <;> rfl
theorem xor16 {m : Nat} (h : m < 2 ^ 20) : 0 ≤ nI m ^^^ (16 : Int32) := by
  have e : nI m ^^^ (16 : Int32) = nI (m ^^^ 16) := by
    show nI m ^^^ nI 16 = _
    apply Int32.toBitVec_inj.1
    show BitVec.ofNat 32 m ^^^ BitVec.ofNat 32 16 = BitVec.ofNat 32 (m ^^^ 16)
    apply BitVec.eq_of_getLsbD_eq
    intro i hi
    simp [hi]
  rw [e]
  exact nI_pos' (Nat.lt_of_lt_of_le (Nat.xor_lt_two_pow h (show 16 < 2 ^ 20 by decide)) (by decide))
theorem rem16 {m : Nat} (h : m < 2 ^ 20) : nI m - nI m / 16 * 16 = nI (m % 16) := pk_rem (d := 16) (by omega) (by decide) (by decide)
theorem fm16 {m : Nat} (h : m < 2 ^ 20) : fJ9_floorMod_7cf53 V (nI m) 16 = some (nI (m % 16)) := by
  unfold fJ9_floorMod_7cf53
  rw [gd_of (by decide), if_pos (xor16 h), rem16 h]
theorem R_printed (hk : k ≤ 512) (h : Rel k V U) (x1 : Int32) : ∃ r : Int32, fX5_printed V x1 = some r ∧ fX6_printed U x1 = some r ∧ Rel (k + 1) V U := by
  obtain ⟨c, n, ver, hc, hn, hG, hT⟩ := id h
  obtain ⟨-, -, g3, g4, -, g6⟩ := hG
  unfold fX5_printed fX6_printed
  by_cases hm : x1 = -1
  · exact ⟨nI n, by rw [if_pos hm, g3], by rw [if_pos hm, g4], h.up⟩
  · rw [if_neg hm, if_neg hm]
    unfold fX2_latest
    rcases rng x1 (show 16 < 2 ^ 31 by decide) with q | ⟨j, hj, rfl⟩
    · by_cases q0 : x1 < 0
      · exact ⟨0, by rw [if_pos q0, ob_e], by rw [if_pos q0], h.up⟩
      · have q1 : (16 : Int32) ≤ x1 := q.resolve_left q0
        have q2 : (15 : Int32) < x1 := by
          rw [Int32.le_iff_toInt_le] at q1
          rw [Int32.lt_iff_toInt_lt]
          have e1 : (16 : Int32).toInt = 16 := by decide
          have e2 : (15 : Int32).toInt = 15 := by decide
          omega
        exact ⟨0, by rw [if_neg q0, if_pos q1, ob_e], by rw [if_neg q0, if_pos q2], h.up⟩
    · have q15 : ¬ (15 : Int32) < nI j := nI_nlt (b := j) (a := 15) (by omega) (by decide)
      rw [if_neg (nI_pos (by omega)), if_neg (show ¬ (16 : Int32) ≤ nI j from nI_ge (b := 16) hj (by decide)), if_neg (nI_pos (by omega)), if_neg q15, g3, g4]
      by_cases hjn : j < n
      · have e : nI n - 1 - nI j = nI (n - 1 - j) := by rw [nI_s1 (by omega), pk_sub (by omega)]
        rw [if_pos (nI_lt hjn (by omega)), if_pos (nI_lt hjn (by omega)), e, fm16 (by omega), ob_e, rem16 (by omega), gd_of (inb_nI (Nat.mod_lt _ (by decide)) (by decide)), gd_of (inb_nI (Nat.mod_lt _ (by decide)) (by decide)), nI_clamp (by omega), g6 _ (Nat.mod_lt _ (by decide))]
        exact ⟨_, ob_e, rfl, h.up⟩
      · rw [if_neg (nI_nlt (by omega) (by omega)), if_neg (nI_nlt (by omega) (by omega))]
        exact ⟨0, ob_e, rfl, h.up⟩
end RM
