/-! the reference's loops over rows, in closed form -/
def blkF (U : Sto) (x lo i N : Nat) (f : Nat → Int32) : Sto := fun x' a b idx => if x' = x ∧ a = 0 ∧ b = 0 ∧ lo + i ≤ idx ∧ idx < lo + N then f (idx - lo) else U x' a b idx
theorem blk_in {U : Sto} {x lo i N j : Nat} {f : Nat → Int32} (h : i ≤ j) (h2 : j < N) : blkF U x lo i N f x 0 0 (lo + j) = f j := by
  unfold blkF
  rw [if_pos ⟨rfl, rfl, rfl, by omega, by omega⟩, Nat.add_sub_cancel_left]
theorem blk_nc {U : Sto} {x lo i N : Nat} {f : Nat → Int32} {x' a b idx : Nat} (h : x' ≠ x) : blkF U x lo i N f x' a b idx = U x' a b idx := by
  unfold blkF; rw [if_neg (fun q => h q.1)]
theorem blk_out {U : Sto} {x lo i N : Nat} {f : Nat → Int32} {x' a b idx : Nat} (h : ¬ (lo + i ≤ idx ∧ idx < lo + N)) : blkF U x lo i N f x' a b idx = U x' a b idx := by
  unfold blkF; rw [if_neg (fun q => h q.2.2.2)]
theorem blk_nil {U : Sto} {x lo N : Nat} {f : Nat → Int32} : blkF U x lo N N f = U := by
  funext x' a b idx
  exact blk_out (by omega)
theorem blk_step {U : Sto} {x lo i N : Nat} {f : Nat → Int32} {v : Int32} (h : i < N) (hv : v = f i) : blkF (st U x 0 0 (lo + i) v) x lo (i + 1) N f = blkF U x lo i N f := by
  funext x' a b idx
  unfold blkF
  rw [st_get]
  by_cases hx : x' = x ∧ a = 0 ∧ b = 0
  · obtain ⟨rfl, rfl, rfl⟩ := hx
    by_cases h1 : idx = lo + i
    · subst h1
      rw [if_neg (by omega), if_pos ⟨rfl, rfl, rfl, rfl⟩, if_pos ⟨rfl, rfl, rfl, by omega, by omega⟩, Nat.add_sub_cancel_left, hv]
    · by_cases h2 : lo + (i + 1) ≤ idx ∧ idx < lo + N
      · rw [if_pos ⟨rfl, rfl, rfl, h2.1, h2.2⟩, if_pos ⟨rfl, rfl, rfl, by omega, h2.2⟩]
      · rw [if_neg (fun q => h2 ⟨q.2.2.2.1, q.2.2.2.2⟩), if_neg (fun q => h1 q.2.2.2), if_neg (by omega)]
  · rw [if_neg (fun q => hx ⟨q.1, q.2.1, q.2.2.1⟩), if_neg (fun q => hx ⟨q.1, q.2.1, q.2.2.1⟩), if_neg (fun q => hx ⟨q.1, q.2.1, q.2.2.1⟩)]
theorem blk_step0 {U : Sto} {x lo i N : Nat} {v : Int32} (h : i < N) : blkF (st U x 0 0 (lo + i) v) x lo (i + 1) N (fun _ => v) = blkF U x lo i N (fun _ => v) := blk_step h rfl
theorem blk_st {U : Sto} {x lo i N : Nat} {f : Nat → Int32} {c l : Nat} {v : Int32} (h : c ≠ x) : blkF (st U c 0 0 l v) x lo i N f = st (blkF U x lo i N f) c 0 0 l v := by
  funext x' a b idx
  unfold blkF
  simp only [st_get]
  by_cases hx : x' = x ∧ a = 0 ∧ b = 0 ∧ lo + i ≤ idx ∧ idx < lo + N
  · rw [if_pos hx, if_neg (fun q => h (q.1.symm.trans hx.1)), if_pos hx]
  · rw [if_neg hx, if_neg hx]
theorem nI_g {a b : Nat} (h : b ≤ a) (ha : a < 2 ^ 31) : nI b ≤ nI a := nI_le h ha
def eaF (U : Sto) (t i : Nat) : Sto := blkF (blkF (blkF U 17 (8 * t) i 8 (fun _ => 0)) 18 (8 * t) i 8 (fun _ => 0)) 16 (8 * t) i 8 (fun _ => 0)
theorem X6_ea_L {t : Nat} (ht : t < 4) : ∀ (n i : Nat) (U : Sto), i ≤ 8 → 8 < i + n → fX6_endAttempt_L9 n U (nI t) (nI i) = some (eaF U t i) := by
  intro n
  induction n with
  | zero => intro i U a b; omega
  | succ n ih =>
    intro i U h1 h2
    rw [fX6_endAttempt_L9]
    by_cases h : 8 ≤ i
    · have : i = 8 := by omega
      subst this
      rw [if_pos (by decide)]
      unfold eaF
      rw [blk_nil, blk_nil, blk_nil]
    · rw [if_neg (show ¬ (8 : Int32) ≤ nI i from nI_ge (b := 8) (by omega) (by decide)), ix_8, gd_of (inb_nI (show 8 * t + i < 32 by omega) (by decide)), bnd_e, gd_of (inb_nI (show 8 * t + i < 32 by omega) (by decide)), bnd_e, gd_of (inb_nI (show 8 * t + i < 32 by omega) (by decide)), bnd_e, nb_0, nI_clamp (by omega), nI_1, ih (i + 1) _ (by omega) (by omega)]
      unfold eaF
      rw [blk_st (by decide), blk_st (by decide), blk_step0 (by omega), blk_st (by decide), blk_step0 (by omega), blk_step0 (by omega)]
def eaU (U : Sto) (t : Nat) : Sto := eaF (st U 13 0 0 t 0) t 0
theorem X6_ea {U : Sto} {t : Nat} (ht : t < 4) : fX6_endAttempt U (nI t) = some (eaU U t) := by
  unfold fX6_endAttempt
  rw [gd_of (inb_nI ht (by decide)), bnd_e, nb_0, nI_clamp (by omega)]
  have h := X6_ea_L ht 40 0 (st U 13 0 0 t 0) (by omega) (by omega)
  have h2 : fX6_endAttempt_L9 40 (st U 13 0 0 t 0) (nI t) 0 = some (eaU U t) := h
  rw [h2]; rfl
theorem eaU_get (U : Sto) (t x a b idx : Nat) : eaU U t x a b idx = if a = 0 ∧ b = 0 ∧ ((x = 13 ∧ idx = t) ∨ ((x = 16 ∨ x = 17 ∨ x = 18) ∧ 8 * t ≤ idx ∧ idx < 8 * t + 8)) then 0 else U x a b idx := by
  unfold eaU eaF blkF
  simp only [st_get, Nat.add_zero]
  by_cases h0 : a = 0 ∧ b = 0
  · obtain ⟨rfl, rfl⟩ := h0
    by_cases h1 : x = 16 ∧ 8 * t ≤ idx ∧ idx < 8 * t + 8
    · rw [if_pos ⟨h1.1, rfl, rfl, h1.2.1, h1.2.2⟩, if_pos ⟨rfl, rfl, Or.inr ⟨Or.inl h1.1, h1.2⟩⟩]
    · rw [if_neg (by omega)]
      by_cases h2 : x = 18 ∧ 8 * t ≤ idx ∧ idx < 8 * t + 8
      · rw [if_pos ⟨h2.1, rfl, rfl, h2.2.1, h2.2.2⟩, if_pos ⟨rfl, rfl, Or.inr ⟨Or.inr (Or.inr h2.1), h2.2⟩⟩]
      · rw [if_neg (by omega)]
        by_cases h3 : x = 17 ∧ 8 * t ≤ idx ∧ idx < 8 * t + 8
        · rw [if_pos ⟨h3.1, rfl, rfl, h3.2.1, h3.2.2⟩, if_pos ⟨rfl, rfl, Or.inr ⟨Or.inr (Or.inl h3.1), h3.2⟩⟩]
        · rw [if_neg (by omega)]
          by_cases h4 : x = 13 ∧ idx = t
          · rw [if_pos ⟨h4.1, rfl, rfl, h4.2⟩, if_pos ⟨rfl, rfl, Or.inl h4⟩]
          · rw [if_neg (by omega), if_neg (by omega)]
  · rw [if_neg (by omega), if_neg (by omega), if_neg (by omega), if_neg (by omega), if_neg (by omega)]
def goU (U : Sto) (t : Nat) (x : Int32) : Sto := if x = U 4 0 0 t then st (st U 6 0 0 t x) 5 0 0 t 3 else st U 6 0 0 t x
theorem X6_go {U : Sto} {t : Nat} {x : Int32} (ht : t < 4) : fX6_go U (nI t) x = some (goU U t x) := by
  unfold fX6_go goU
  rw [gd_of (inb_nI ht (by decide)), bnd_e, gd_of (inb_nI ht (by decide)), gd_of (inb_nI ht (by decide)), bnd_e, nI_clamp (by omega), st_nc (by decide)]
  split <;> rfl
/-- one row, four places -/
theorem X6_start_L {t : Nat} (ht : t < 4) : ∀ (n i : Nat) (U : Sto), i ≤ 4 → 4 < i + n → fX6_start_L31 n U (nI t) (nI i) = some (blkF U 8 (4 * t) i 4 (fun _ => 0)) := by
  intro n
  induction n with
  | zero => intro i U a b; omega
  | succ n ih =>
    intro i U h1 h2
    rw [fX6_start_L31]
    by_cases h : 4 ≤ i
    · have : i = 4 := by omega
      subst this
      rw [if_pos (by decide), blk_nil]
    · rw [if_neg (show ¬ (4 : Int32) ≤ nI i from nI_ge (b := 4) (by omega) (by decide)), ix_4, gd_of (inb_nI (show 4 * t + i < 16 by omega) (by decide)), bnd_e, nI_clamp (by omega), nI_1, ih (i + 1) _ (by omega) (by omega), blk_step0 (by omega)]
theorem X6_begin_L {t : Nat} (ht : t < 4) (f : Nat → Int32) : ∀ (n i : Nat) (U : Sto), i ≤ 4 → 4 < i + n → (∀ j, j < 4 → U 8 0 0 (4 * t + j) = f j) → fX6_begin_L38 n U (nI t) (nI i) = some (blkF U 9 (4 * t) i 4 f) := by
  intro n
  induction n with
  | zero => intro i U a b; omega
  | succ n ih =>
    intro i U h1 h2 hf
    rw [fX6_begin_L38]
    by_cases h : 4 ≤ i
    · have : i = 4 := by omega
      subst this
      rw [if_pos (by decide), blk_nil]
    · rw [if_neg (show ¬ (4 : Int32) ≤ nI i from nI_ge (b := 4) (by omega) (by decide)), ix_4, gd_of (inb_nI (show 4 * t + i < 16 by omega) (by decide)), gd_of (inb_nI (show 4 * t + i < 16 by omega) (by decide)), bnd_e, nI_clamp (by omega), nI_1, ih (i + 1) _ (by omega) (by omega) (fun j hj => by rw [st_nc (by decide)]; exact hf j hj), blk_step (by omega) (hf i (by omega))]
theorem X6_undo_L {t : Nat} (ht : t < 4) (f : Nat → Int32) : ∀ (n i : Nat) (U : Sto), i ≤ 4 → 4 < i + n → (∀ j, j < 4 → U 9 0 0 (4 * t + j) = f j) → fX6_undo_L26 n U (nI t) (nI i) = some (blkF U 8 (4 * t) i 4 f) := by
  intro n
  induction n with
  | zero => intro i U a b; omega
  | succ n ih =>
    intro i U h1 h2 hf
    rw [fX6_undo_L26]
    by_cases h : 4 ≤ i
    · have : i = 4 := by omega
      subst this
      rw [if_pos (by decide), blk_nil]
    · rw [if_neg (show ¬ (4 : Int32) ≤ nI i from nI_ge (b := 4) (by omega) (by decide)), ix_4, gd_of (inb_nI (show 4 * t + i < 16 by omega) (by decide)), gd_of (inb_nI (show 4 * t + i < 16 by omega) (by decide)), bnd_e, nI_clamp (by omega), nI_1, ih (i + 1) _ (by omega) (by omega) (fun j hj => by rw [st_nc (by decide)]; exact hf j hj), blk_step (by omega) (hf i (by omega))]
def begU (U : Sto) (t : Nat) : Sto := blkF (st (st (st (eaU U t) 13 0 0 t 1) 14 0 0 t (U 6 0 0 t)) 15 0 0 t (U 20 0 0 t)) 9 (4 * t) 0 4 (fun j => U 8 0 0 (4 * t + j))
theorem X6_begin {U : Sto} {t : Nat} (ht : t < 4) : fX6_begin U (nI t) = some (begU U t) := by
  unfold fX6_begin
  rw [X6_ea ht, ob_e]
  simp only [gd_of (inb_nI ht (show 4 < 2 ^ 31 by decide)), bnd_e, nb_1, nI_clamp (show t < 2 ^ 31 by omega)]
  have e6 : (st (eaU U t) 13 0 0 t 1) 6 0 0 t = U 6 0 0 t := by rw [st_nc (by decide), eaU_get, if_neg (by omega)]
  have e20 : (st (st (eaU U t) 13 0 0 t 1) 14 0 0 t (U 6 0 0 t)) 20 0 0 t = U 20 0 0 t := by rw [st_nc (by decide), st_nc (by decide), eaU_get, if_neg (by omega)]
  rw [e6, e20]
  have h := X6_begin_L ht (fun j => U 8 0 0 (4 * t + j)) 40 0 (st (st (st (eaU U t) 13 0 0 t 1) 14 0 0 t (U 6 0 0 t)) 15 0 0 t (U 20 0 0 t)) (by omega) (by omega) (fun j hj => by rw [st_nc (by decide), st_nc (by decide), st_nc (by decide), eaU_get, if_neg (by omega)])
  have h2 : fX6_begin_L38 40 (st (st (st (eaU U t) 13 0 0 t 1) 14 0 0 t (U 6 0 0 t)) 15 0 0 t (U 20 0 0 t)) (nI t) 0 = some (begU U t) := h
  rw [h2]; rfl
def undU (U : Sto) (t : Nat) : Sto := st (blkF (st (st U 6 0 0 t (U 14 0 0 t)) 20 0 0 t (U 15 0 0 t)) 8 (4 * t) 0 4 (fun j => U 9 0 0 (4 * t + j))) 13 0 0 t 0
theorem X6_undo {U : Sto} {t : Nat} (ht : t < 4) : fX6_undo U (nI t) = some (undU U t) := by
  unfold fX6_undo
  simp only [gd_of (inb_nI ht (show 4 < 2 ^ 31 by decide)), bnd_e, nb_0, nI_clamp (show t < 2 ^ 31 by omega)]
  have e15 : (st U 6 0 0 t (U 14 0 0 t)) 15 0 0 t = U 15 0 0 t := st_nc (by decide)
  rw [e15]
  have h := X6_undo_L ht (fun j => U 9 0 0 (4 * t + j)) 40 0 (st (st U 6 0 0 t (U 14 0 0 t)) 20 0 0 t (U 15 0 0 t)) (by omega) (by omega) (fun j hj => by rw [st_nc (by decide), st_nc (by decide)])
  have h2 : fX6_undo_L26 40 (st (st U 6 0 0 t (U 14 0 0 t)) 20 0 0 t (U 15 0 0 t)) (nI t) 0 = some _ := h
  rw [h2]; rfl
def disU (U : Sto) (t : Nat) : Sto := st (eaU (undU U t) t) 7 0 0 t (U 7 0 0 t + 1)
theorem X6_discard {U : Sto} {t : Nat} (ht : t < 4) : fX6_discard U (nI t) = some (2, disU U t) := by
  unfold fX6_discard
  rw [X6_undo ht, ob_e, X6_ea ht, ob_e]
  simp only [gd_of (inb_nI ht (show 4 < 2 ^ 31 by decide)), bnd_e, nI_clamp (show t < 2 ^ 31 by omega)]
  have e7 : eaU (undU U t) t 7 0 0 t = U 7 0 0 t := by
    rw [eaU_get, if_neg (by omega)]
    unfold undU
    rw [st_nc (by decide), blk_nc (by decide), st_nc (by decide), st_nc (by decide)]
  rw [e7]
  rfl
theorem X6_bp_L26 {t d : Nat} (ht : t < 4) (hd : d < 24) (f : Nat → Int32) : ∀ (n i : Nat) (U : Sto), i ≤ 4 → 4 < i + n → (∀ j, j < 4 → U 8 0 0 (4 * t + j) = f j) → fX6_beginPart_L26 n U (nI t) (nI d) (nI i) = some (blkF U 22 (4 * d) i 4 f) := by
  intro n
  induction n with
  | zero => intro i U a b; omega
  | succ n ih =>
    intro i U h1 h2 hf
    rw [fX6_beginPart_L26]
    by_cases h : 4 ≤ i
    · have : i = 4 := by omega
      subst this
      rw [if_pos (by decide), blk_nil]
    · rw [if_neg (show ¬ (4 : Int32) ≤ nI i from nI_ge (b := 4) (by omega) (by decide)), ix_4, ix_4, gd_of (inb_nI (show 4 * t + i < 16 by omega) (by decide)), gd_of (inb_nI (show 4 * d + i < 96 by omega) (by decide)), bnd_e, nI_clamp (by omega), nI_clamp (by omega), nI_1, ih (i + 1) _ (by omega) (by omega) (fun j hj => by rw [st_nc (by decide)]; exact hf j hj), blk_step (by omega) (hf i (by omega))]
theorem X6_bp_L59 {t d : Nat} (ht : t < 4) (hd : d < 24) (f g : Nat → Int32) (hb : ∀ j, j < 8 → nb (f j) = f j) : ∀ (n i : Nat) (U : Sto), i ≤ 8 → 8 < i + n → (∀ j, j < 8 → U 18 0 0 (8 * t + j) = f j) → (∀ j, j < 8 → U 19 0 0 (8 * t + j) = g j) → fX6_beginPart_L59 n U (nI t) (nI d) (nI i) = some (blkF (blkF U 23 (8 * d) i 8 f) 24 (8 * d) i 8 g) := by
  intro n
  induction n with
  | zero => intro i U a b; omega
  | succ n ih =>
    intro i U h1 h2 hf hg
    rw [fX6_beginPart_L59]
    by_cases h : 8 ≤ i
    · have : i = 8 := by omega
      subst this
      rw [if_pos (by decide), blk_nil, blk_nil]
    · rw [if_neg (show ¬ (8 : Int32) ≤ nI i from nI_ge (b := 8) (by omega) (by decide)), ix_8, ix_8]
      simp only [gd_of (inb_nI (show 8 * t + i < 32 by omega) (show 32 < 2 ^ 31 by decide)), gd_of (inb_nI (show 8 * d + i < 192 by omega) (show 192 < 2 ^ 31 by decide)), bnd_e, nI_clamp (show 8 * t + i < 2 ^ 31 by omega), nI_clamp (show 8 * d + i < 2 ^ 31 by omega), nI_1]
      rw [hf i (by omega), hb i (by omega), st_nc (show 19 ≠ 23 by decide), hg i (by omega), ih (i + 1) _ (by omega) (by omega) (fun j hj => by rw [st_nc (by decide), st_nc (by decide)]; exact hf j hj) (fun j hj => by rw [st_nc (by decide), st_nc (by decide)]; exact hg j hj)]
      rw [blk_st (by decide), blk_step (by omega) rfl, blk_step (by omega) rfl]
theorem X6_bk_L10 {t d : Nat} {y : Int32} (ht : t < 4) (hd : d < 24) (f : Nat → Int32) : ∀ (n i : Nat) (U : Sto), i ≤ 4 → 4 < i + n → (∀ j, j < 4 → U 22 0 0 (4 * d + j) = f j) → fX6_back_L10 n U (nI t) y (nI d) (nI i) = some (blkF U 8 (4 * t) i 4 f) := by
  intro n
  induction n with
  | zero => intro i U a b; omega
  | succ n ih =>
    intro i U h1 h2 hf
    rw [fX6_back_L10]
    by_cases h : 4 ≤ i
    · have : i = 4 := by omega
      subst this
      rw [if_pos (by decide), blk_nil]
    · rw [if_neg (show ¬ (4 : Int32) ≤ nI i from nI_ge (b := 4) (by omega) (by decide)), ix_4, ix_4, gd_of (inb_nI (show 4 * d + i < 96 by omega) (by decide)), gd_of (inb_nI (show 4 * t + i < 16 by omega) (by decide)), bnd_e, nI_clamp (by omega), nI_clamp (by omega), nI_1, ih (i + 1) _ (by omega) (by omega) (fun j hj => by rw [st_nc (by decide)]; exact hf j hj), blk_step (by omega) (hf i (by omega))]
theorem X6_bk_L47 {t d : Nat} {y : Int32} (ht : t < 4) (hd : d < 24) (f g : Nat → Int32) (hb : ∀ j, j < 8 → nb (f j) = f j) : ∀ (n i : Nat) (U : Sto), i ≤ 8 → 8 < i + n → (∀ j, j < 8 → U 23 0 0 (8 * d + j) = f j) → (∀ j, j < 8 → U 24 0 0 (8 * d + j) = g j) → fX6_back_L47 n U (nI t) y (nI d) (nI i) = some (blkF (blkF U 18 (8 * t) i 8 f) 19 (8 * t) i 8 g) := by
  intro n
  induction n with
  | zero => intro i U a b; omega
  | succ n ih =>
    intro i U h1 h2 hf hg
    rw [fX6_back_L47]
    by_cases h : 8 ≤ i
    · have : i = 8 := by omega
      subst this
      rw [if_pos (by decide), blk_nil, blk_nil]
    · rw [if_neg (show ¬ (8 : Int32) ≤ nI i from nI_ge (b := 8) (by omega) (by decide)), ix_8, ix_8]
      simp only [gd_of (inb_nI (show 8 * t + i < 32 by omega) (show 32 < 2 ^ 31 by decide)), gd_of (inb_nI (show 8 * d + i < 192 by omega) (show 192 < 2 ^ 31 by decide)), bnd_e, nI_clamp (show 8 * t + i < 2 ^ 31 by omega), nI_clamp (show 8 * d + i < 2 ^ 31 by omega), nI_1]
      rw [hf i (by omega), hb i (by omega), st_nc (show 24 ≠ 18 by decide), hg i (by omega), ih (i + 1) _ (by omega) (by omega) (fun j hj => by rw [st_nc (by decide), st_nc (by decide)]; exact hf j hj) (fun j hj => by rw [st_nc (by decide), st_nc (by decide)]; exact hg j hj)]
      rw [blk_st (by decide), blk_step (by omega) rfl, blk_step (by omega) rfl]
theorem X6_rt_L {t : Nat} (ht : t < 4) : ∀ (n i : Nat) (U : Sto), i ≤ 8 → 8 < i + n → fX6_retry_L56 n U (nI t) (nI i) = some (blkF U 18 (8 * t) i 8 (fun _ => 0)) := by
  intro n
  induction n with
  | zero => intro i U a b; omega
  | succ n ih =>
    intro i U h1 h2
    rw [fX6_retry_L56]
    by_cases h : 8 ≤ i
    · have : i = 8 := by omega
      subst this
      rw [if_pos (by decide), blk_nil]
    · rw [if_neg (show ¬ (8 : Int32) ≤ nI i from nI_ge (b := 8) (by omega) (by decide)), ix_8, gd_of (inb_nI (show 8 * t + i < 32 by omega) (by decide)), bnd_e, nb_0, nI_clamp (by omega), nI_1, ih (i + 1) _ (by omega) (by omega), blk_step0 (by omega)]
