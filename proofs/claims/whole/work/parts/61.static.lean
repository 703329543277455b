/-! the structure of a list of kinds K, place by place -/
def opn (k : Nat) : Bool := k == 6 || k == 9 || k == 11 || k == 13 || k == 15
def midk (k : Nat) : Bool := k == 10 || k == 12 || k == 16
def upN {α : Type} (f : Nat → α) (i : Nat) (x : α) : Nat → α := fun j => if j = i then x else f j
theorem upN_s {α : Type} {f : Nat → α} {i : Nat} {x : α} : upN f i x i = x := if_pos rfl
theorem upN_n {α : Type} {f : Nat → α} {i j : Nat} {x : α} (h : j ≠ i) : upN f i x j = f j := if_neg h
def dep (K : Nat → Nat) : Nat → Nat
  | 0 => 0
  | p + 1 => if opn (K p) = true then dep K p + 1 else if K p = 7 then dep K p - 1 else dep K p
def opnr (K : Nat → Nat) : Nat → Nat → Nat
  | 0 => fun _ => 0
  | p + 1 => if opn (K p) = true then upN (opnr K p) (dep K p) p else opnr K p
def flg (K : Nat → Nat) : Nat → Nat → Bool
  | 0 => fun _ => false
  | p + 1 => if opn (K p) = true then upN (flg K p) (dep K p) false else if midk (K p) = true then upN (flg K p) (dep K p - 1) true else flg K p
section ST
variable {K : Nat → Nat}
theorem dep_o {p : Nat} (h : opn (K p) = true) : dep K (p + 1) = dep K p + 1 := by simp [dep, h]
theorem dep_e {p : Nat} (h : K p = 7) : dep K (p + 1) = dep K p - 1 := by simp [dep, h, opn]
theorem dep_n {p : Nat} (h : opn (K p) = false) (h7 : K p ≠ 7) : dep K (p + 1) = dep K p := by simp [dep, h, h7]
theorem opnr_o {p : Nat} (h : opn (K p) = true) : opnr K (p + 1) = upN (opnr K p) (dep K p) p := by simp [opnr, h]
theorem opnr_n {p : Nat} (h : opn (K p) = false) : opnr K (p + 1) = opnr K p := by simp [opnr, h]
theorem flg_o {p : Nat} (h : opn (K p) = true) : flg K (p + 1) = upN (flg K p) (dep K p) false := by simp [flg, h]
theorem flg_m {p : Nat} (h : opn (K p) = false) (hm : midk (K p) = true) : flg K (p + 1) = upN (flg K p) (dep K p - 1) true := by simp [flg, h, hm]
theorem flg_n {p : Nat} (h : opn (K p) = false) (hm : midk (K p) = false) : flg K (p + 1) = flg K p := by simp [flg, h, hm]
theorem opn_7 {p : Nat} (h : K p = 7) : opn (K p) = false := by rw [h]; rfl
theorem mid_7 {p : Nat} (h : K p = 7) : midk (K p) = false := by rw [h]; rfl
theorem mid_no {p : Nat} (h : midk (K p) = true) : opn (K p) = false ∧ K p ≠ 7 := by
  unfold midk at h
  simp only [Bool.or_eq_true, beq_iff_eq] at h
  rcases h with (h | h) | h <;> rw [h] <;> exact ⟨rfl, by decide⟩
/-- a level that is open at q: where it was opened, and since when -/
theorem lvl : ∀ (q i : Nat), i < dep K q → opnr K q i < q ∧ opn (K (opnr K q i)) = true ∧ dep K (opnr K q i) = i ∧ ∀ r, opnr K q i < r → r ≤ q → i < dep K r ∧ opnr K r i = opnr K q i := by
  intro q
  induction q with
  | zero => intro i h; exact absurd h (by simp [dep])
  | succ q ih =>
    intro i h
    have keep : i < dep K q → opnr K (q + 1) i = opnr K q i → opnr K (q + 1) i < q + 1 ∧ opn (K (opnr K (q + 1) i)) = true ∧ dep K (opnr K (q + 1) i) = i ∧ ∀ r, opnr K (q + 1) i < r → r ≤ q + 1 → i < dep K r ∧ opnr K r i = opnr K (q + 1) i := by
      intro h1 h2
      obtain ⟨a1, a2, a3, a4⟩ := ih i h1
      rw [h2]
      refine ⟨by omega, a2, a3, fun r h3 h4 => ?_⟩
      rcases Nat.lt_or_ge q r with h5 | h5
      · have : r = q + 1 := by omega
        subst this
        exact ⟨h, h2⟩
      · exact a4 r h3 h5
    cases ho : opn (K q) with
    | true =>
      rw [dep_o ho] at h
      by_cases hi : i = dep K q
      · have e : opnr K (q + 1) i = q := by rw [opnr_o ho, hi, upN_s]
        rw [e]
        refine ⟨by omega, ho, hi.symm, fun r h3 h4 => ?_⟩
        have : r = q + 1 := by omega
        subst this
        exact ⟨by rw [dep_o ho]; omega, e⟩
      · exact keep (by omega) (by rw [opnr_o ho, upN_n hi])
    | false =>
      by_cases h7 : K q = 7
      · rw [dep_e h7] at h
        exact keep (by omega) (by rw [opnr_n ho])
      · rw [dep_n ho h7] at h
        exact keep h (by rw [opnr_n ho])
theorem lvl_lt {q i : Nat} (h : i < dep K q) : opnr K q i < q := (lvl q i h).1
theorem lvl_op {q i : Nat} (h : i < dep K q) : opn (K (opnr K q i)) = true := (lvl q i h).2.1
theorem lvl_dep {q i : Nat} (h : i < dep K q) : dep K (opnr K q i) = i := (lvl q i h).2.2.1
theorem lvl_in {q i r : Nat} (h : i < dep K q) (h1 : opnr K q i < r) (h2 : r ≤ q) : i < dep K r ∧ opnr K r i = opnr K q i := (lvl q i h).2.2.2 r h1 h2
theorem lvl_ord {q i j : Nat} (h : i < dep K q) (hj : j < i) : opnr K q j < opnr K q i := by
  have h2 : j < dep K q := by omega
  rcases Nat.lt_trichotomy (opnr K q j) (opnr K q i) with h3 | h3 | h3
  · exact h3
  · have := lvl_dep h
    rw [← h3, lvl_dep h2] at this
    omega
  · have := (lvl_in h h3 (Nat.le_of_lt (lvl_lt h2))).1
    rw [lvl_dep h2] at this
    omega
/-- below a level all is as it was where it was opened -/
theorem lvl_low {q i j : Nat} (h : i < dep K q) (hj : j < i) : opnr K (opnr K q i) j = opnr K q j := (lvl_in (show j < dep K q by omega) (lvl_ord h hj) (Nat.le_of_lt (lvl_lt h))).2
theorem flg_low : ∀ (q i : Nat), i < dep K q → ∀ j, j < i → flg K q j = flg K (opnr K q i) j := by
  intro q
  induction q with
  | zero => intro i h; exact absurd h (by simp [dep])
  | succ q ih =>
    intro i h j hj
    cases ho : opn (K q) with
    | true =>
      rw [dep_o ho] at h
      by_cases hi : i = dep K q
      · have e : opnr K (q + 1) i = q := by rw [opnr_o ho, hi, upN_s]
        rw [e, flg_o ho, upN_n (by omega)]
      · rw [opnr_o ho, upN_n hi, flg_o ho, upN_n (by omega)]
        exact ih i (by omega) j hj
    | false =>
      have hd : i < dep K q := by
        by_cases h7 : K q = 7
        · rw [dep_e h7] at h; omega
        · rw [dep_n ho h7] at h; exact h
      rw [opnr_n ho]
      cases hm : midk (K q) with
      | true => rw [flg_m ho hm, upN_n (by omega)]; exact ih i hd j hj
      | false => rw [flg_n ho hm]; exact ih i hd j hj
/-- a flag that is up stays up while its level is open -/
theorem flg_up {q i r : Nat} (h : i < dep K q) (h1 : opnr K q i < r) (h2 : r ≤ q) (hf : flg K r i = true) : flg K q i = true := by
  obtain ⟨d, rfl⟩ : ∃ d, q = r + d := ⟨q - r, by omega⟩
  have key : ∀ d', d' ≤ d → flg K (r + d') i = true := by
    intro d'
    induction d' with
    | zero => intro _; exact hf
    | succ d' ih =>
      intro hle
      have hq := ih (by omega)
      have hin := (lvl_in h (show opnr K (r + d) i < r + d' by omega) (by omega)).1
      have hin2 := (lvl_in h (show opnr K (r + d) i < r + (d' + 1) by omega) (by omega))
      show flg K (r + d' + 1) i = true
      cases ho : opn (K (r + d')) with
      | true => rw [flg_o ho, upN_n (by omega)]; exact hq
      | false =>
        cases hm : midk (K (r + d')) with
        | true =>
          rw [flg_m ho hm]
          by_cases hi : i = dep K (r + d') - 1
          · rw [hi, upN_s]
          · rw [upN_n hi]; exact hq
        | false => rw [flg_n ho hm]; exact hq
  exact key d (Nat.le_refl _)
def ENDr (K : Nat → Nat) (o e : Nat) : Prop := opn (K o) = true ∧ K e = 7 ∧ o < e ∧ dep K e = dep K o + 1 ∧ opnr K e (dep K o) = o
def MIDr (K : Nat → Nat) (o m : Nat) : Prop := opn (K o) = true ∧ midk (K m) = true ∧ o < m ∧ dep K m = dep K o + 1 ∧ opnr K m (dep K o) = o ∧ flg K m (dep K o) = false
theorem ENDr.inn {o e r : Nat} (h : ENDr K o e) (h1 : o < r) (h2 : r ≤ e) : dep K o < dep K r ∧ opnr K r (dep K o) = o := by
  obtain ⟨-, -, -, h4, h5⟩ := h
  have := lvl_in (K := K) (q := e) (i := dep K o) (r := r) (by omega) (by rw [h5]; exact h1) h2
  rw [h5] at this
  exact this
theorem ENDr.dep1 {o e : Nat} (h : ENDr K o e) : dep K (e + 1) = dep K o := by
  rw [dep_e h.2.1, h.2.2.2.1]; rfl
/-- places that agree below a level -/
def agr (K : Nat → Nat) (p q n : Nat) : Prop := ∀ j, j < n → opnr K p j = opnr K q j ∧ flg K p j = flg K q j
theorem agr.sym {p q n : Nat} (h : agr K p q n) : agr K q p n := fun j hj => ⟨(h j hj).1.symm, (h j hj).2.symm⟩
theorem agr.tr {p q r n : Nat} (h : agr K p q n) (h2 : agr K q r n) : agr K p r n := fun j hj => ⟨(h j hj).1.trans (h2 j hj).1, (h j hj).2.trans (h2 j hj).2⟩
theorem agr.le {p q n m : Nat} (h : agr K p q n) (hm : m ≤ n) : agr K p q m := fun j hj => h j (by omega)
theorem agr_lvl {q i : Nat} (h : i < dep K q) : agr K q (opnr K q i) i := fun j hj => ⟨(lvl_low h hj).symm, flg_low q i h j hj⟩
theorem ENDr.agr1 {o e : Nat} (h : ENDr K o e) : agr K (e + 1) o (dep K o) := by
  obtain ⟨h1, h2, h3, h4, h5⟩ := h
  have ho := opn_7 (K := K) h2
  have hl : dep K o < dep K e := by omega
  have hx := agr_lvl hl
  rw [h5] at hx
  intro j hj
  rw [opnr_n ho, flg_n ho (mid_7 h2)]
  exact hx j hj
theorem MIDr.dep1 {o m : Nat} (h : MIDr K o m) : dep K (m + 1) = dep K o + 1 := by
  have hn := mid_no h.2.1
  rw [dep_n hn.1 hn.2, h.2.2.2.1]
theorem MIDr.agr1 {o m : Nat} (h : MIDr K o m) : agr K (m + 1) o (dep K o) := by
  obtain ⟨h1, h2, h3, h4, h5, h6⟩ := h
  have hn := mid_no h2
  have hl : dep K o < dep K m := by omega
  have hx := agr_lvl hl
  rw [h5] at hx
  intro j hj
  rw [opnr_n hn.1, flg_m hn.1 h2, upN_n (by omega)]
  exact hx j hj
theorem MIDr.top1 {o m : Nat} (h : MIDr K o m) : opnr K (m + 1) (dep K o) = o ∧ flg K (m + 1) (dep K o) = true := by
  obtain ⟨h1, h2, h3, h4, h5, h6⟩ := h
  have hn := mid_no h2
  rw [opnr_n hn.1, flg_m hn.1 h2, h4]
  exact ⟨h5, by simp [upN_s]⟩
/-- marks: levels that are ATOMIC, or the first part of an EITHER or a TRY -/
def isM (K : Nat → Nat) (p j : Nat) : Bool := K (opnr K p j) == 6 || ((K (opnr K p j) == 9 || K (opnr K p j) == 15) && !flg K p j)
def cm (K : Nat → Nat) (p : Nat) : Nat → Nat
  | 0 => 0
  | n + 1 => cm K p n + (if isM K p n = true then 1 else 0)
theorem isM_agr {p q n j : Nat} (h : agr K p q n) (hj : j < n) : isM K p j = isM K q j := by
  unfold isM
  rw [(h j hj).1, (h j hj).2]
theorem cm_agr {p q n : Nat} (h : agr K p q n) : cm K p n = cm K q n := by
  induction n with
  | zero => rfl
  | succ n ih => simp only [cm]; rw [ih (h.le (by omega)), isM_agr h (by omega)]
theorem cm_mono {p m n : Nat} (h : m ≤ n) : cm K p m ≤ cm K p n := by
  induction n with
  | zero => have : m = 0 := by omega
            subst this; exact Nat.le_refl _
  | succ n ih =>
    rcases Nat.lt_or_ge n m with h1 | h1
    · have : m = n + 1 := by omega
      subst this; exact Nat.le_refl _
    · simp only [cm]; have := ih h1; omega
theorem cm_lt {p j n : Nat} (hj : j < n) (hM : isM K p j = true) : cm K p j < cm K p n := by
  have h1 : cm K p (j + 1) ≤ cm K p n := cm_mono hj
  simp only [cm, hM, if_true] at h1
  omega
theorem cm_le {p n : Nat} : cm K p n ≤ n := by
  induction n with
  | zero => exact Nat.le_refl _
  | succ n ih => simp only [cm]; split <;> omega
theorem cm_inj {p i j n : Nat} (hi : i < n) (hj : j < n) (hMi : isM K p i = true) (hMj : isM K p j = true) (h : cm K p i = cm K p j) : i = j := by
  rcases Nat.lt_trichotomy i j with h1 | h1 | h1
  · have := cm_lt h1 hMi; omega
  · exact h1
  · have := cm_lt h1 hMj; omega
/-- every mark index comes from a level -/
theorem cm_sur {p n i : Nat} (h : i < cm K p n) : ∃ j, j < n ∧ isM K p j = true ∧ cm K p j = i := by
  induction n with
  | zero => exact absurd h (by simp [cm])
  | succ n ih =>
    by_cases h1 : i < cm K p n
    · obtain ⟨j, a, b, c⟩ := ih h1
      exact ⟨j, by omega, b, c⟩
    · simp only [cm] at h
      by_cases hM : isM K p n = true
      · rw [if_pos hM] at h
        exact ⟨n, by omega, hM, by omega⟩
      · rw [if_neg hM] at h; omega
end ST
