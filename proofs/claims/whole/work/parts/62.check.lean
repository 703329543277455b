/-! the two checks of a list -/
def ins (K : Nat → Nat) (p : Nat) : Nat → Bool
  | 0 => false
  | n + 1 => ins K p n || K (opnr K p n) == 6
def hw (K : Nat → Nat) (p k : Nat) : Bool := decide (0 < dep K p) && (K (opnr K p (dep K p - 1)) == k && !flg K p (dep K p - 1))
def wrF (k d : Nat) (a h9 h11 h15 : Bool) : Bool :=
  if k = 3 ∨ k = 4 ∨ k = 8 then !a else if k = 5 then a else if k = 6 then a || decide (5 ≤ d) else if k = 7 then decide (d = 0) || h9 || h15 else if k = 9 then !a || decide (5 ≤ d) else if k = 10 then !h9 else if k = 12 then !h11 else if k = 16 then !h15 else if k = 11 ∨ k = 13 ∨ k = 15 then decide (5 ≤ d) else false
def wrg (K : Nat → Nat) (p : Nat) : Bool := wrF (K p) (dep K p) (ins K p (dep K p)) (hw K p 9) (hw K p 11) (hw K p 15)
theorem k16 {k : Nat} (h : k ≤ 16) : k = 0 ∨ k = 1 ∨ k = 2 ∨ k = 3 ∨ k = 4 ∨ k = 5 ∨ k = 6 ∨ k = 7 ∨ k = 8 ∨ k = 9 ∨ k = 10 ∨ k = 11 ∨ k = 12 ∨ k = 13 ∨ k = 14 ∨ k = 15 ∨ k = 16 := by omega
theorem wrg_dep {K : Nat → Nat} {p : Nat} (hk : K p ≤ 16) (h : wrg K p = false) (ho : opn (K p) = true) : dep K p < 5 := by
  unfold wrg at h
  generalize K p = k at *
  generalize dep K p = d at *
  generalize ins K p d = a at *
  rcases k16 hk with rfl | rfl | rfl | rfl | rfl | rfl | rfl | rfl | rfl | rfl | rfl | rfl | rfl | rfl | rfl | rfl | rfl <;> simp [opn, wrF] at ho h <;> omega
theorem wrg_end {K : Nat → Nat} {p : Nat} (hk : K p = 7) (h : wrg K p = false) : 0 < dep K p ∧ hw K p 9 = false ∧ hw K p 15 = false := by
  unfold wrg at h
  rw [hk] at h
  simp [wrF] at h
  exact ⟨by omega, h.1.2, h.2⟩
theorem wrg_or {K : Nat → Nat} {p : Nat} (hk : K p = 10) (h : wrg K p = false) : hw K p 9 = true := by
  unfold wrg at h; rw [hk] at h; simpa [wrF] using h
theorem wrg_else {K : Nat → Nat} {p : Nat} (hk : K p = 12) (h : wrg K p = false) : hw K p 11 = true := by
  unfold wrg at h; rw [hk] at h; simpa [wrF] using h
theorem wrg_catch {K : Nat → Nat} {p : Nat} (hk : K p = 16) (h : wrg K p = false) : hw K p 15 = true := by
  unfold wrg at h; rw [hk] at h; simpa [wrF] using h
theorem hw_t {K : Nat → Nat} {p k : Nat} (h : hw K p k = true) : 0 < dep K p ∧ K (opnr K p (dep K p - 1)) = k ∧ flg K p (dep K p - 1) = false := by
  unfold hw at h
  simp only [Bool.and_eq_true, decide_eq_true_eq, beq_iff_eq, Bool.not_eq_true'] at h
  exact ⟨h.1, h.2.1, h.2.2⟩
theorem wrg_mid {K : Nat → Nat} {p : Nat} (hm : midk (K p) = true) (h : wrg K p = false) : ∃ o, MIDr K o p ∧ ((K p = 10 ∧ K o = 9) ∨ (K p = 12 ∧ K o = 11) ∨ (K p = 16 ∧ K o = 15)) := by
  have key : ∀ k, hw K p k = true → MIDr K (opnr K p (dep K p - 1)) p ∧ K (opnr K p (dep K p - 1)) = k := by
    intro k hk
    obtain ⟨h1, h2, h3⟩ := hw_t hk
    have hl : dep K p - 1 < dep K p := by omega
    have hd := lvl_dep hl
    exact ⟨⟨lvl_op hl, hm, lvl_lt hl, by rw [hd]; omega, by rw [hd], by rw [hd]; exact h3⟩, h2⟩
  have hm2 := hm
  unfold midk at hm2
  simp only [Bool.or_eq_true, beq_iff_eq] at hm2
  rcases hm2 with (q | q) | q
  · obtain ⟨a, b⟩ := key 9 (wrg_or q h); exact ⟨_, a, Or.inl ⟨q, b⟩⟩
  · obtain ⟨a, b⟩ := key 11 (wrg_else q h); exact ⟨_, a, Or.inr (Or.inl ⟨q, b⟩)⟩
  · obtain ⟨a, b⟩ := key 15 (wrg_catch q h); exact ⟨_, a, Or.inr (Or.inr ⟨q, b⟩)⟩
theorem wrg_endr {K : Nat → Nat} {p : Nat} (hk : K p = 7) (h : wrg K p = false) : ENDr K (opnr K p (dep K p - 1)) p ∧ (K (opnr K p (dep K p - 1)) = 9 ∨ K (opnr K p (dep K p - 1)) = 15 → flg K p (dep K p - 1) = true) := by
  obtain ⟨h1, h2, h3⟩ := wrg_end hk h
  have hl : dep K p - 1 < dep K p := by omega
  have hd := lvl_dep hl
  refine ⟨⟨lvl_op hl, hk, lvl_lt hl, by rw [hd]; omega, by rw [hd]⟩, fun q => ?_⟩
  cases hf : flg K p (dep K p - 1) with
  | true => rfl
  | false =>
    exfalso
    rcases q with q | q
    · simp [hw, h1, q, hf] at h2
    · simp [hw, h1, q, hf] at h3
/-! the class's side -/
theorem X3_at_ok {V : Sto} {t ca na j : Nat} (h : j < na) (hn : na < 2 ^ 31) : fX3_at V t ca na (nI j) = some (V ca t 0 j) := by
  unfold fX3_at
  rw [if_neg (nI_pos (by omega)), if_neg (nI_ge h hn), gd_of (inb_nI h hn), nI_clamp (by omega)]
theorem X3_at_m1 {V : Sto} {t ca na : Nat} : fX3_at V t ca na (-1) = some (-1) := by
  unfold fX3_at
  rw [if_pos m1_lt0]
theorem X3_kindAt_ok {V : Sto} {t j : Nat} (h : j < 30) : fX3_kindAt V t (nI j) = some (V 12 t 0 j) := by
  unfold fX3_kindAt; rw [X3_at_ok h (by decide)]; rfl
theorem X3_kindAt_m1 {V : Sto} {t : Nat} : fX3_kindAt V t (-1) = some (-1) := by
  unfold fX3_kindAt; rw [X3_at_m1]; rfl
theorem X3_firstAt_ok {V : Sto} {t j : Nat} (h : j < 30) : fX3_firstAt V t (nI j) = some (V 13 t 0 j) := by
  unfold fX3_firstAt; rw [X3_at_ok h (by decide)]; rfl
theorem X3_secondAt_ok {V : Sto} {t j : Nat} (h : j < 30) : fX3_secondAt V t (nI j) = some (V 14 t 0 j) := by
  unfold fX3_secondAt; rw [X3_at_ok h (by decide)]; rfl
theorem X3_openerOf_ok {V : Sto} {t j : Nat} (h : j < 30) : fX3_openerOf V t (nI j) = some (V 15 t 0 j) := by
  unfold fX3_openerOf; rw [X3_at_ok h (by decide)]; rfl
theorem X3_middleOf_ok {V : Sto} {t j : Nat} (h : j < 30) : fX3_middleOf V t (nI j) = some (V 16 t 0 j) := by
  unfold fX3_middleOf; rw [X3_at_ok h (by decide)]; rfl
theorem X3_middleOf_m1 {V : Sto} {t : Nat} : fX3_middleOf V t (-1) = some (-1) := by
  unfold fX3_middleOf; rw [X3_at_m1]; rfl
/-- the kinds of the list -/
def kok (V : Sto) (t : Nat) (K : Nat → Nat) : Prop := ∀ j, j < 30 → V 12 t 0 j = nI (K j) ∧ K j ≤ 16
/-- the open ones at p, as the class holds them -/
def jop (V : Sto) (t : Nat) (K : Nat → Nat) (p : Nat) : Prop := V 11 t 0 7 = nI (dep K p) ∧ dep K p ≤ 5 ∧ (∀ i, i < dep K p → V 18 t 0 i = nI (opnr K p i)) ∧ (∀ i, i < dep K p → (V 16 t 0 (opnr K p i) = -1 ↔ flg K p i = false))
theorem X3_inner {V : Sto} {t p : Nat} {K : Nat → Nat} (h : jop V t K p) : fX3_innermost V t = some (if 0 < dep K p then nI (opnr K p (dep K p - 1)) else -1) := by
  unfold fX3_innermost
  rw [h.1]
  by_cases hd : 0 < dep K p
  · rw [if_pos hd, nI_s1 hd, X3_at_ok (by have := h.2.1; omega) (by decide), ob_e, h.2.2.1 _ (by omega)]
  · have : dep K p = 0 := by omega
    rw [if_neg hd, this]
    show ob (fX3_at V t 18 5 (nI 0 - 1)) _ = _
    rw [show nI 0 - 1 = (-1 : Int32) from by decide, X3_at_m1]
    rfl
theorem X3_lacks {V : Sto} {t p k : Nat} {K : Nat → Nat} (hk : kok V t K) (hp : p ≤ 30) (h : jop V t K p) (h16 : k ≤ 16) : fX3_lacksMiddle V t (nI k) = some (bI (hw K p k)) := by
  unfold fX3_lacksMiddle
  rw [X3_inner h, ob_e]
  by_cases hd : 0 < dep K p
  · have hl : dep K p - 1 < dep K p := by omega
    have ho := lvl_lt hl
    obtain ⟨e1, e2⟩ := hk (opnr K p (dep K p - 1)) (by omega)
    rw [if_pos hd, X3_kindAt_ok (by omega), ob_e, e1]
    by_cases hq : K (opnr K p (dep K p - 1)) = k
    · rw [if_pos (by rw [hq]), X3_middleOf_ok (by omega), ob_e]
      cases hf : flg K p (dep K p - 1) with
      | true =>
        rw [if_neg (fun z => by have := (h.2.2.2 _ hl).mp z; rw [hf] at this; cases this)]
        simp [hw, hd, hq, hf, bI]
      | false =>
        rw [if_pos ((h.2.2.2 _ hl).mpr hf)]
        simp [hw, hd, hq, hf, bI]
    · rw [if_neg (nI_ne (by omega) (by omega) hq)]
      simp [hw, hq, bI]
  · rw [if_neg hd, X3_kindAt_m1, ob_e, if_neg (fun q => nI_nm1 (show k < 2 ^ 31 by omega) q.symm)]
    simp [hw, hd, bI]
theorem X3_atom_L {V : Sto} {t p : Nat} {K : Nat → Nat} (hk : kok V t K) (hp : p ≤ 30) (h : jop V t K p) : ∀ (n i : Nat), i ≤ dep K p → dep K p < i + n → ins K p i = false → fX3_isAtomicOpen_L2 n V t (nI i) = some (bI (ins K p (dep K p))) := by
  intro n
  induction n with
  | zero => intro i h1 h2; omega
  | succ n ih =>
    intro i h1 h2 h3
    have h5 := h.2.1
    rw [fX3_isAtomicOpen_L2, h.1]
    by_cases hd : dep K p ≤ i
    · have : i = dep K p := by omega
      rw [if_pos (nI_le hd (by omega)), ← this, h3]
      rfl
    · have hl : i < dep K p := by omega
      have ho := lvl_lt hl
      obtain ⟨e1, e2⟩ := hk (opnr K p i) (by omega)
      rw [if_neg (nI_ge hl (by omega)), X3_at_ok (by omega) (by decide), ob_e, h.2.2.1 i hl, X3_kindAt_ok (by omega), ob_e, e1]
      by_cases h6 : K (opnr K p i) = 6
      · rw [if_pos (by rw [h6]; rfl)]
        have up : ∀ m, i + 1 ≤ m → ins K p m = true := by
          intro m
          induction m with
          | zero => intro q; omega
          | succ m ihm =>
            intro q
            simp only [ins, Bool.or_eq_true]
            rcases Nat.lt_or_ge i m with z | z
            · exact Or.inl (ihm z)
            · have : m = i := by omega
              subst this
              exact Or.inr (by simp [h6])
        rw [up _ hl]
        rfl
      · rw [if_neg (show ¬ nI (K (opnr K p i)) = 6 from nI_ne (b := 6) (by omega) (by decide) h6), nI_1]
        exact ih (i + 1) (by omega) (by omega) (by simp only [ins, h3, Bool.false_or]; simpa using h6)
theorem X3_atom {V : Sto} {t p : Nat} {K : Nat → Nat} (hk : kok V t K) (hp : p ≤ 30) (h : jop V t K p) : fX3_isAtomicOpen V t = some (bI (ins K p (dep K p))) := by
  have h5 := h.2.1
  exact X3_atom_L hk hp h 40 0 (by omega) (by omega) rfl
