/-! pure rows: evaluating the functions -/
theorem gd_of {α : Type} {b : Bool} {x : Option α} (h : b = true) : gd b x = x := by rw [h]; rfl
theorem bnd_e {α β : Type} {x : α} {f : α → Option β} : bnd x f = f x := rfl
theorem ob_e {α β : Type} {z : α} {f : α → Option β} : ob (some z) f = f z := rfl
theorem ob2_e {α β γ : Type} {u : α} {v : β} {f : α → β → Option γ} : ob2 (some (u, v)) f = f u v := rfl
theorem ob3_e {α β γ δ : Type} {u : α} {v : β} {z : γ} {f : α → β → γ → Option δ} : ob3 (some (u, v, z)) f = f u v z := rfl
theorem ob_of {α β : Type} {x : Option α} {z : α} {f : α → Option β} (h : x = some z) : ob x f = f z := by rw [h]; rfl
theorem ob2_of {α β γ : Type} {x : Option (α × β)} {u : α} {v : β} {f : α → β → Option γ} (h : x = some (u, v)) : ob2 x f = f u v := by rw [h]; rfl
theorem ob3_of {α β γ δ : Type} {x : Option (α × β × γ)} {u : α} {v : β} {z : γ} {f : α → β → γ → Option δ} (h : x = some (u, v, z)) : ob3 x f = f u v z := by rw [h]; rfl
theorem st_get (V : Sto) (c t i j : Nat) (x : Int32) (c' t' i' j' : Nat) : st V c t i j x c' t' i' j' = if c' = c ∧ t' = t ∧ i' = i ∧ j' = j then x else V c' t' i' j' := by
  unfold st upS upd
  by_cases h : c' = c ∧ t' = t ∧ i' = i
  · obtain ⟨rfl, rfl, rfl⟩ := h
    by_cases h2 : j' = j
    · simp [h2]
    · simp [h2]
  · rw [if_neg h, if_neg (fun q => h ⟨q.1, q.2.1, q.2.2.1⟩)]
theorem st_eq {V : Sto} {c t i j : Nat} {x : Int32} : st V c t i j x c t i j = x := by rw [st_get, if_pos ⟨rfl, rfl, rfl, rfl⟩]
theorem st_nc {V : Sto} {c t i j : Nat} {x : Int32} {c' t' i' j' : Nat} (h : c' ≠ c) : st V c t i j x c' t' i' j' = V c' t' i' j' := by rw [st_get, if_neg (fun q => h q.1)]
theorem st_nt {V : Sto} {c t i j : Nat} {x : Int32} {c' t' i' j' : Nat} (h : t' ≠ t) : st V c t i j x c' t' i' j' = V c' t' i' j' := by rw [st_get, if_neg (fun q => h q.2.1)]
theorem st_nj {V : Sto} {c t i j : Nat} {x : Int32} {c' t' i' j' : Nat} (h : j' ≠ j) : st V c t i j x c' t' i' j' = V c' t' i' j' := by rw [st_get, if_neg (fun q => h q.2.2.2)]
theorem cpS_get (V : Sto) (c t i c1 t1 i1 n : Nat) (c' t' i' j' : Nat) : cpS V c t i c1 t1 i1 n c' t' i' j' = if c' = c1 ∧ t' = t1 ∧ i' = i1 ∧ j' < n then V c t i j' else V c' t' i' j' := by
  unfold cpS upS
  by_cases h : c' = c1 ∧ t' = t1 ∧ i' = i1
  · obtain ⟨rfl, rfl, rfl⟩ := h
    rw [if_pos ⟨rfl, rfl, rfl⟩]
    by_cases h2 : j' < n
    · rw [if_pos ⟨rfl, rfl, rfl, h2⟩, pk_cpy_in (by omega) (by omega)]
      simp
    · rw [if_neg (fun q => h2 q.2.2.2), pk_cpy_out (by omega)]
  · rw [if_neg h, if_neg (fun q => h ⟨q.1, q.2.1, q.2.2.1⟩)]
theorem inb_nI {k n : Nat} (h : k < n) (hn : n < 2 ^ 31) : inb (nI k) n = true := decide_eq_true (nI_in h hn)
theorem nb_0 : nb 0 = 0 := by decide
theorem nb_1 : nb 1 = 1 := by decide
def bI (b : Bool) : Int32 := if b then 1 else 0
theorem bI_t : bI true = 1 := rfl
theorem bI_f : bI false = 0 := rfl
theorem nb_bI (b : Bool) : nb (bI b) = bI b := by cases b <;> decide
theorem isB_bI (b : Bool) : isB (bI b) = true := by cases b <;> decide
theorem bI_0 {b : Bool} : bI b = 0 ↔ b = false := by cases b <;> decide
theorem bI_1 {b : Bool} : bI b = 1 ↔ b = true := by cases b <;> decide
theorem nI_lit (k : Nat) : (OfNat.ofNat k : Int32) = nI k := rfl
theorem sOf_none {x : Int32} (h : x < 0 ∨ 4 ≤ x) : sOf x = none := by
  unfold sOf
  by_cases h0 : x < 0
  · rw [if_pos h0]
  · rw [if_neg h0, if_pos (h.resolve_left h0)]
theorem sOf_nI {t : Nat} (h : t < 4) : sOf (nI t) = some t := by
  unfold sOf
  rw [if_neg (nI_pos (by omega)), if_neg (show ¬ (4 : Int32) ≤ nI t from nI_ge (b := 4) h (by decide)), nI_clamp (by omega)]
theorem rng (x : Int32) {n : Nat} (hn : n < 2 ^ 31) : (x < 0 ∨ nI n ≤ x) ∨ ∃ j : Nat, j < n ∧ x = nI j := by
  rcases pk_ix x hn with h | h | h
  · exact Or.inl (Or.inl h)
  · exact Or.inl (Or.inr h)
  · exact Or.inr h
theorem nI_inj {a b : Nat} (ha : a < 2 ^ 31) (hb : b < 2 ^ 31) (h : nI a = nI b) : a = b := (nI_eq ha hb).mp h
theorem ix_30 (t p : Nat) : 30 * nI t + nI p = nI (30 * t + p) := by show nI 30 * nI t + nI p = _; rw [pk_mul, nI_add]
theorem ix_8 (t p : Nat) : 8 * nI t + nI p = nI (8 * t + p) := by show nI 8 * nI t + nI p = _; rw [pk_mul, nI_add]
theorem ix_4 (t p : Nat) : 4 * nI t + nI p = nI (4 * t + p) := by show nI 4 * nI t + nI p = _; rw [pk_mul, nI_add]
theorem ix_6 (t p : Nat) : 6 * nI t + nI p = nI (6 * t + p) := by show nI 6 * nI t + nI p = _; rw [pk_mul, nI_add]
theorem ix_40 (t : Nat) : 4 * nI t = nI (4 * t) := by show nI 4 * nI t = _; rw [pk_mul]
theorem nI_s1 {n : Nat} (h : 0 < n) : nI n - 1 = nI (n - 1) := by show nI n - nI 1 = _; rw [pk_sub h]
theorem nI_m1 {n : Nat} (h : 0 < n) : nI n + (-1) = nI (n - 1) := sb_m1 h
theorem nI_ne {a b : Nat} (ha : a < 2 ^ 31) (hb : b < 2 ^ 31) (h : a ≠ b) : ¬ nI a = nI b := fun q => h (nI_inj ha hb q)
theorem nI_nm1 {a : Nat} (ha : a < 2 ^ 31) : ¬ nI a = -1 := fun q => by
  have h := congrArg Int32.toInt q
  rw [nI_toInt ha] at h
  have : (-1 : Int32).toInt = -1 := by decide
  omega
theorem m1_lt0 : (-1 : Int32) < 0 := by decide
