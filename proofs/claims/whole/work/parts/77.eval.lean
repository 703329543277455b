/-! one word: which method does it -/
theorem ob2_id {α β : Type} {x : Option (α × β)} : ob2 x (fun u v => some (u, v)) = x := by
  cases x <;> rfl
theorem ob_id {α : Type} {x : Option α} : ob x (fun u => some u) = x := by
  cases x <;> rfl
section EV
variable {V U : Sto} {t p : Nat}
theorem dW_0 (hp : p < 30) (h10 : V 10 t 0 10 = nI p) (hk : V 12 t 0 p = nI 0) : fX5_doWord V t = fX4_assign V t (V 13 t 0 p) (V 14 t 0 p) := by
  unfold fX5_doWord
  simp only [h10, X3_firstAt_ok hp, ob_e, X3_secondAt_ok hp, X3_kindAt_ok hp, hk, ob2_id]
  rw [if_pos (by decide)]
theorem dW_1 (hp : p < 30) (h10 : V 10 t 0 10 = nI p) (hk : V 12 t 0 p = nI 1) : fX5_doWord V t = ob (fX4_registerValue V t (V 13 t 0 p)) (fun x => ob (fX4_registerValue V t (V 14 t 0 p)) (fun y => fX4_assign V t (V 13 t 0 p) (x + y))) := by
  unfold fX5_doWord
  simp only [h10, X3_firstAt_ok hp, ob_e, X3_secondAt_ok hp, X3_kindAt_ok hp, hk, ob2_id]
  rw [if_neg (by decide), if_pos (by decide)]
theorem dW_2 (hp : p < 30) (h10 : V 10 t 0 10 = nI p) (hk : V 12 t 0 p = nI 2) : fX5_doWord V t = ob (fX4_registerValue V t (V 13 t 0 p)) (fun x => ob (fX4_registerValue V t (V 14 t 0 p)) (fun y => fX4_assign V t (V 13 t 0 p) (x - y))) := by
  unfold fX5_doWord
  simp only [h10, X3_firstAt_ok hp, ob_e, X3_secondAt_ok hp, X3_kindAt_ok hp, hk, ob2_id]
  rw [if_neg (by decide), if_neg (by decide), if_pos (by decide)]
theorem dW_3 (hp : p < 30) (h10 : V 10 t 0 10 = nI p) (hk : V 12 t 0 p = nI 3) : fX5_doWord V t = fX5_doRead V t (V 13 t 0 p) (V 14 t 0 p) := by
  unfold fX5_doWord
  simp only [h10, X3_firstAt_ok hp, ob_e, X3_secondAt_ok hp, X3_kindAt_ok hp, hk, ob2_id]
  rw [if_neg (by decide), if_neg (by decide), if_neg (by decide), if_pos (by decide)]
theorem dW_4 (hp : p < 30) (h10 : V 10 t 0 10 = nI p) (hk : V 12 t 0 p = nI 4) : fX5_doWord V t = ob (fX4_registerValue V t (V 14 t 0 p)) (fun x => fX4_write V t (V 13 t 0 p) x) := by
  unfold fX5_doWord
  simp only [h10, X3_firstAt_ok hp, ob_e, X3_secondAt_ok hp, X3_kindAt_ok hp, hk, ob2_id]
  rw [if_neg (by decide), if_neg (by decide), if_neg (by decide), if_neg (by decide), if_pos (by decide)]
theorem dW_5 (hp : p < 30) (h10 : V 10 t 0 10 = nI p) (hk : V 12 t 0 p = nI 5) : fX5_doWord V t = ob (fX4_registerValue V t (V 13 t 0 p)) (fun x => ob (fX2_write V x) (fun V1 => fX4_goOnTo V1 t (nI p + 1))) := by
  unfold fX5_doWord
  simp only [h10, X3_firstAt_ok hp, ob_e, X3_secondAt_ok hp, X3_kindAt_ok hp, hk, ob2_id]
  rw [if_neg (by decide), if_neg (by decide), if_neg (by decide), if_neg (by decide), if_neg (by decide), if_pos (by decide)]
theorem dW_6 (hp : p < 30) (h10 : V 10 t 0 10 = nI p) (hk : V 12 t 0 p = nI 6) : fX5_doWord V t = fX4_beginAttempt V t (V 1 0 0 2) := by
  unfold fX5_doWord
  rw [h10, X3_firstAt_ok hp, ob_e, X3_secondAt_ok hp, ob_e, X3_kindAt_ok hp, ob_e, hk]
  generalize V 1 0 0 2 = y
  rw [if_neg (show ¬ nI 6 = 0 by decide), if_neg (show ¬ nI 6 = 1 by decide), if_neg (show ¬ nI 6 = 2 by decide), if_neg (show ¬ nI 6 = 3 by decide), if_neg (show ¬ nI 6 = 4 by decide), if_neg (show ¬ nI 6 = 5 by decide), if_pos (show nI 6 = 6 by decide), ob2_id]
theorem dW_7 (hp : p < 30) (h10 : V 10 t 0 10 = nI p) (hk : V 12 t 0 p = nI 7) : fX5_doWord V t = fX5_doEnd V t := by
  unfold fX5_doWord
  simp only [h10, X3_firstAt_ok hp, ob_e, X3_secondAt_ok hp, X3_kindAt_ok hp, hk, ob2_id]
  rw [if_neg (by decide), if_neg (by decide), if_neg (by decide), if_neg (by decide), if_neg (by decide), if_neg (by decide), if_neg (by decide), if_pos (by decide)]
theorem dW_8 (hp : p < 30) (h10 : V 10 t 0 10 = nI p) (hk : V 12 t 0 p = nI 8) : fX5_doWord V t = fX5_doRetry V t := by
  unfold fX5_doWord
  simp only [h10, X3_firstAt_ok hp, ob_e, X3_secondAt_ok hp, X3_kindAt_ok hp, hk, ob2_id]
  rw [if_neg (by decide), if_neg (by decide), if_neg (by decide), if_neg (by decide), if_neg (by decide), if_neg (by decide), if_neg (by decide), if_neg (by decide), if_pos (by decide)]
theorem dW_9 (hp : p < 30) (h10 : V 10 t 0 10 = nI p) (hk : V 12 t 0 p = nI 9) : fX5_doWord V t = fX4_noteAndGoOn V t := by
  unfold fX5_doWord
  simp only [h10, X3_firstAt_ok hp, ob_e, X3_secondAt_ok hp, X3_kindAt_ok hp, hk, ob2_id]
  rw [if_neg (by decide), if_neg (by decide), if_neg (by decide), if_neg (by decide), if_neg (by decide), if_neg (by decide), if_neg (by decide), if_neg (by decide), if_neg (by decide), if_pos (by decide)]
theorem dW_10 (hp : p < 30) (h10 : V 10 t 0 10 = nI p) (hk : V 12 t 0 p = nI 10) : fX5_doWord V t = fX4_endFirstPart V t := by
  unfold fX5_doWord
  simp only [h10, X3_firstAt_ok hp, ob_e, X3_secondAt_ok hp, X3_kindAt_ok hp, hk, ob2_id]
  rw [if_neg (by decide), if_neg (by decide), if_neg (by decide), if_neg (by decide), if_neg (by decide), if_neg (by decide), if_neg (by decide), if_neg (by decide), if_neg (by decide), if_neg (by decide), if_pos (by decide)]
theorem dW_11 (hp : p < 30) (h10 : V 10 t 0 10 = nI p) (hk : V 12 t 0 p = nI 11) : fX5_doWord V t = ob (fX4_registerValue V t (V 13 t 0 p)) (fun x => if x ≤ 0 then ob (fX3_elsewhere V t (nI p)) (fun y => fX4_goOnTo V t y) else fX4_goOnTo V t (nI p + 1)) := by
  unfold fX5_doWord
  simp only [h10, X3_firstAt_ok hp, ob_e, X3_secondAt_ok hp, X3_kindAt_ok hp, hk, ob2_id]
  rw [if_neg (by decide), if_neg (by decide), if_neg (by decide), if_neg (by decide), if_neg (by decide), if_neg (by decide), if_neg (by decide), if_neg (by decide), if_neg (by decide), if_neg (by decide), if_neg (by decide), if_pos (by decide)]
theorem dW_12 (hp : p < 30) (h10 : V 10 t 0 10 = nI p) (hk : V 12 t 0 p = nI 12) : fX5_doWord V t = ob (fX3_behindEnd V t (nI p)) (fun y => fX4_goOnTo V t y) := by
  unfold fX5_doWord
  simp only [h10, X3_firstAt_ok hp, ob_e, X3_secondAt_ok hp, X3_kindAt_ok hp, hk, ob2_id]
  rw [if_neg (by decide), if_neg (by decide), if_neg (by decide), if_neg (by decide), if_neg (by decide), if_neg (by decide), if_neg (by decide), if_neg (by decide), if_neg (by decide), if_neg (by decide), if_neg (by decide), if_neg (by decide), if_pos (by decide)]
theorem dW_13 (hp : p < 30) (h10 : V 10 t 0 10 = nI p) (hk : V 12 t 0 p = nI 13) : fX5_doWord V t = ob (fX4_registerValue V t (V 13 t 0 p)) (fun x => if x ≤ 0 then ob (fX3_elsewhere V t (nI p)) (fun y => fX4_goOnTo V t y) else fX4_goOnTo V t (nI p + 1)) := by
  unfold fX5_doWord
  simp only [h10, X3_firstAt_ok hp, ob_e, X3_secondAt_ok hp, X3_kindAt_ok hp, hk, ob2_id]
  rw [if_neg (by decide), if_neg (by decide), if_neg (by decide), if_neg (by decide), if_neg (by decide), if_neg (by decide), if_neg (by decide), if_neg (by decide), if_neg (by decide), if_neg (by decide), if_neg (by decide), if_neg (by decide), if_neg (by decide), if_pos (by decide)]
theorem dW_14 (hp : p < 30) (h10 : V 10 t 0 10 = nI p) (hk : V 12 t 0 p = nI 14) : fX5_doWord V t = ob (fX4_registerValue V t (V 13 t 0 p)) (fun x => fX5_doThrow V t x) := by
  unfold fX5_doWord
  simp only [h10, X3_firstAt_ok hp, ob_e, X3_secondAt_ok hp, X3_kindAt_ok hp, hk, ob2_id]
  rw [if_neg (by decide), if_neg (by decide), if_neg (by decide), if_neg (by decide), if_neg (by decide), if_neg (by decide), if_neg (by decide), if_neg (by decide), if_neg (by decide), if_neg (by decide), if_neg (by decide), if_neg (by decide), if_neg (by decide), if_neg (by decide), if_pos (by decide)]
theorem dW_15 (hp : p < 30) (h10 : V 10 t 0 10 = nI p) (hk : V 12 t 0 p = nI 15) : fX5_doWord V t = fX4_noteAndGoOn V t := by
  unfold fX5_doWord
  simp only [h10, X3_firstAt_ok hp, ob_e, X3_secondAt_ok hp, X3_kindAt_ok hp, hk, ob2_id]
  rw [if_neg (by decide), if_neg (by decide), if_neg (by decide), if_neg (by decide), if_neg (by decide), if_neg (by decide), if_neg (by decide), if_neg (by decide), if_neg (by decide), if_neg (by decide), if_neg (by decide), if_neg (by decide), if_neg (by decide), if_neg (by decide), if_neg (by decide), if_pos (by decide)]
theorem dW_16 (hp : p < 30) (h10 : V 10 t 0 10 = nI p) (hk : V 12 t 0 p = nI 16) : fX5_doWord V t = fX4_endFirstPart V t := by
  unfold fX5_doWord
  simp only [h10, X3_firstAt_ok hp, ob_e, X3_secondAt_ok hp, X3_kindAt_ok hp, hk, ob2_id]
  rw [if_neg (by decide), if_neg (by decide), if_neg (by decide), if_neg (by decide), if_neg (by decide), if_neg (by decide), if_neg (by decide), if_neg (by decide), if_neg (by decide), if_neg (by decide), if_neg (by decide), if_neg (by decide), if_neg (by decide), if_neg (by decide), if_neg (by decide), if_neg (by decide), if_pos (by decide)]
theorem mS_0 (ht : t < 4) (hp : p < 30) (h5 : U 5 0 0 t = 1) (h6 : U 6 0 0 t = nI p) (hk : U 1 0 0 (30 * t + p) = nI 0) : fX6_step U (nI t) = ob (fX6_plain U (nI t) (nI 0) (U 2 0 0 (30 * t + p)) (U 3 0 0 (30 * t + p))) (fun V1 => some (0, V1)) := by
  unfold fX6_step
  rw [o4I ht, ob_e, if_pos rfl]
  simp only [gd_of (inb_nI ht (show 4 < 2 ^ 31 by decide)), nI_clamp (show t < 2 ^ 31 by omega), h5, h6, ix_30, gd_of (inb_nI (show 30 * t + p < 120 by omega) (show 120 < 2 ^ 31 by decide)), nI_clamp (show 30 * t + p < 2 ^ 31 by omega), hk, ob2_id, if_true]
  rw [if_neg (by decide), if_neg (by decide), if_neg (by decide), if_neg (by decide), if_neg (by decide), if_neg (by decide), if_neg (by decide), if_neg (by decide), if_neg (by decide), if_neg (by decide), if_neg (by decide), if_neg (by decide)]
  unfold fX6_step_J171
  rw [if_neg (by decide)]
  unfold fX6_step_J182
  rw [if_neg (by decide), if_neg (by decide)]
  unfold fX6_step_J204
  rw [if_neg (by decide), if_neg (by decide), if_pos (by decide)]
theorem mS_1 (ht : t < 4) (hp : p < 30) (h5 : U 5 0 0 t = 1) (h6 : U 6 0 0 t = nI p) (hk : U 1 0 0 (30 * t + p) = nI 1) : fX6_step U (nI t) = ob (fX6_plain U (nI t) (nI 1) (U 2 0 0 (30 * t + p)) (U 3 0 0 (30 * t + p))) (fun V1 => some (0, V1)) := by
  unfold fX6_step
  rw [o4I ht, ob_e, if_pos rfl]
  simp only [gd_of (inb_nI ht (show 4 < 2 ^ 31 by decide)), nI_clamp (show t < 2 ^ 31 by omega), h5, h6, ix_30, gd_of (inb_nI (show 30 * t + p < 120 by omega) (show 120 < 2 ^ 31 by decide)), nI_clamp (show 30 * t + p < 2 ^ 31 by omega), hk, ob2_id, if_true]
  rw [if_neg (by decide), if_neg (by decide), if_neg (by decide), if_neg (by decide), if_neg (by decide), if_neg (by decide), if_neg (by decide), if_neg (by decide), if_neg (by decide), if_neg (by decide), if_neg (by decide), if_neg (by decide)]
  unfold fX6_step_J171
  rw [if_neg (by decide)]
  unfold fX6_step_J182
  rw [if_neg (by decide), if_neg (by decide)]
  unfold fX6_step_J204
  rw [if_neg (by decide), if_neg (by decide), if_pos (by decide)]
theorem mS_2 (ht : t < 4) (hp : p < 30) (h5 : U 5 0 0 t = 1) (h6 : U 6 0 0 t = nI p) (hk : U 1 0 0 (30 * t + p) = nI 2) : fX6_step U (nI t) = ob (fX6_plain U (nI t) (nI 2) (U 2 0 0 (30 * t + p)) (U 3 0 0 (30 * t + p))) (fun V1 => some (0, V1)) := by
  unfold fX6_step
  rw [o4I ht, ob_e, if_pos rfl]
  simp only [gd_of (inb_nI ht (show 4 < 2 ^ 31 by decide)), nI_clamp (show t < 2 ^ 31 by omega), h5, h6, ix_30, gd_of (inb_nI (show 30 * t + p < 120 by omega) (show 120 < 2 ^ 31 by decide)), nI_clamp (show 30 * t + p < 2 ^ 31 by omega), hk, ob2_id, if_true]
  rw [if_neg (by decide), if_neg (by decide), if_neg (by decide), if_neg (by decide), if_neg (by decide), if_neg (by decide), if_neg (by decide), if_neg (by decide), if_neg (by decide), if_neg (by decide), if_neg (by decide), if_neg (by decide)]
  unfold fX6_step_J171
  rw [if_neg (by decide)]
  unfold fX6_step_J182
  rw [if_neg (by decide), if_neg (by decide)]
  unfold fX6_step_J204
  rw [if_neg (by decide), if_neg (by decide), if_pos (by decide)]
theorem mS_3 (ht : t < 4) (hp : p < 30) (h5 : U 5 0 0 t = 1) (h6 : U 6 0 0 t = nI p) (hk : U 1 0 0 (30 * t + p) = nI 3) : fX6_step U (nI t) = fX6_access U (nI t) (nI 3) (U 2 0 0 (30 * t + p)) (U 3 0 0 (30 * t + p)) := by
  unfold fX6_step
  rw [o4I ht, ob_e, if_pos rfl]
  simp only [gd_of (inb_nI ht (show 4 < 2 ^ 31 by decide)), nI_clamp (show t < 2 ^ 31 by omega), h5, h6, ix_30, gd_of (inb_nI (show 30 * t + p < 120 by omega) (show 120 < 2 ^ 31 by decide)), nI_clamp (show 30 * t + p < 2 ^ 31 by omega), hk, ob2_id, if_true]
  rw [if_pos (by decide)]
theorem mS_4 (ht : t < 4) (hp : p < 30) (h5 : U 5 0 0 t = 1) (h6 : U 6 0 0 t = nI p) (hk : U 1 0 0 (30 * t + p) = nI 4) : fX6_step U (nI t) = fX6_access U (nI t) (nI 4) (U 2 0 0 (30 * t + p)) (U 3 0 0 (30 * t + p)) := by
  unfold fX6_step
  rw [o4I ht, ob_e, if_pos rfl]
  simp only [gd_of (inb_nI ht (show 4 < 2 ^ 31 by decide)), nI_clamp (show t < 2 ^ 31 by omega), h5, h6, ix_30, gd_of (inb_nI (show 30 * t + p < 120 by omega) (show 120 < 2 ^ 31 by decide)), nI_clamp (show 30 * t + p < 2 ^ 31 by omega), hk, ob2_id, if_true]
  rw [if_neg (by decide), if_pos (by decide)]
theorem mS_5 (ht : t < 4) (hp : p < 30) (h5 : U 5 0 0 t = 1) (h6 : U 6 0 0 t = nI p) (hk : U 1 0 0 (30 * t + p) = nI 5) : fX6_step U (nI t) = ob (fX6_plain U (nI t) (nI 5) (U 2 0 0 (30 * t + p)) (U 3 0 0 (30 * t + p))) (fun V1 => some (0, V1)) := by
  unfold fX6_step
  rw [o4I ht, ob_e, if_pos rfl]
  simp only [gd_of (inb_nI ht (show 4 < 2 ^ 31 by decide)), nI_clamp (show t < 2 ^ 31 by omega), h5, h6, ix_30, gd_of (inb_nI (show 30 * t + p < 120 by omega) (show 120 < 2 ^ 31 by decide)), nI_clamp (show 30 * t + p < 2 ^ 31 by omega), hk, ob2_id, if_true]
  rw [if_neg (by decide), if_neg (by decide), if_pos (by decide)]
  unfold fX6_step_J171
  rw [if_neg (by decide)]
  unfold fX6_step_J182
  rw [if_neg (by decide), if_neg (by decide)]
  unfold fX6_step_J204
  rw [if_neg (by decide), if_neg (by decide), if_pos (by decide)]
theorem mS_6 (ht : t < 4) (hp : p < 30) (h5 : U 5 0 0 t = 1) (h6 : U 6 0 0 t = nI p) (hk : U 1 0 0 (30 * t + p) = nI 6) : fX6_step U (nI t) = ob (fX6_begin U (nI t)) (fun V0 => ob (fX6_plain V0 (nI t) (nI 6) (U 2 0 0 (30 * t + p)) (U 3 0 0 (30 * t + p))) (fun V1 => some (0, V1))) := by
  unfold fX6_step
  rw [o4I ht, ob_e, if_pos rfl]
  simp only [gd_of (inb_nI ht (show 4 < 2 ^ 31 by decide)), nI_clamp (show t < 2 ^ 31 by omega), h5, h6, ix_30, gd_of (inb_nI (show 30 * t + p < 120 by omega) (show 120 < 2 ^ 31 by decide)), nI_clamp (show 30 * t + p < 2 ^ 31 by omega), hk, ob2_id, if_true]
  rw [if_neg (by decide), if_neg (by decide), if_neg (by decide), if_pos (by decide)]
  unfold fX6_step_J171
  rw [if_pos (by decide)]
  rfl
theorem mS_7 (ht : t < 4) (hp : p < 30) (h5 : U 5 0 0 t = 1) (h6 : U 6 0 0 t = nI p) (hk : U 1 0 0 (30 * t + p) = nI 7) : fX6_step U (nI t) = fX6_end U (nI t) := by
  unfold fX6_step
  rw [o4I ht, ob_e, if_pos rfl]
  simp only [gd_of (inb_nI ht (show 4 < 2 ^ 31 by decide)), nI_clamp (show t < 2 ^ 31 by omega), h5, h6, ix_30, gd_of (inb_nI (show 30 * t + p < 120 by omega) (show 120 < 2 ^ 31 by decide)), nI_clamp (show 30 * t + p < 2 ^ 31 by omega), hk, ob2_id, if_true]
  rw [if_neg (by decide), if_neg (by decide), if_neg (by decide), if_neg (by decide), if_pos (by decide)]
theorem mS_8 (ht : t < 4) (hp : p < 30) (h5 : U 5 0 0 t = 1) (h6 : U 6 0 0 t = nI p) (hk : U 1 0 0 (30 * t + p) = nI 8) : fX6_step U (nI t) = fX6_retry U (nI t) := by
  unfold fX6_step
  rw [o4I ht, ob_e, if_pos rfl]
  simp only [gd_of (inb_nI ht (show 4 < 2 ^ 31 by decide)), nI_clamp (show t < 2 ^ 31 by omega), h5, h6, ix_30, gd_of (inb_nI (show 30 * t + p < 120 by omega) (show 120 < 2 ^ 31 by decide)), nI_clamp (show 30 * t + p < 2 ^ 31 by omega), hk, ob2_id, if_true]
  rw [if_neg (by decide), if_neg (by decide), if_neg (by decide), if_neg (by decide), if_neg (by decide), if_pos (by decide)]
theorem mS_9 (ht : t < 4) (hp : p < 30) (h5 : U 5 0 0 t = 1) (h6 : U 6 0 0 t = nI p) (hk : U 1 0 0 (30 * t + p) = nI 9) : fX6_step U (nI t) = ob (fX6_beginPart U (nI t)) (fun V1 => some (0, V1)) := by
  unfold fX6_step
  rw [o4I ht, ob_e, if_pos rfl]
  simp only [gd_of (inb_nI ht (show 4 < 2 ^ 31 by decide)), nI_clamp (show t < 2 ^ 31 by omega), h5, h6, ix_30, gd_of (inb_nI (show 30 * t + p < 120 by omega) (show 120 < 2 ^ 31 by decide)), nI_clamp (show 30 * t + p < 2 ^ 31 by omega), hk, ob2_id, if_true]
  rw [if_neg (by decide), if_neg (by decide), if_neg (by decide), if_neg (by decide), if_neg (by decide), if_neg (by decide), if_pos (by decide)]
  unfold fX6_step_J171
  rw [if_neg (by decide)]
  unfold fX6_step_J182
  rw [if_neg (by decide), if_neg (by decide)]
  unfold fX6_step_J204
  rw [if_pos (by decide)]
theorem mS_10 (ht : t < 4) (hp : p < 30) (h5 : U 5 0 0 t = 1) (h6 : U 6 0 0 t = nI p) (hk : U 1 0 0 (30 * t + p) = nI 10) : fX6_step U (nI t) = ob (fX6_branch (st U 20 0 0 t (U 20 0 0 t - 1)) (nI t) (nI 10) (U 2 0 0 (30 * t + p))) (fun V1 => some (0, V1)) := by
  unfold fX6_step
  rw [o4I ht, ob_e, if_pos rfl]
  simp only [gd_of (inb_nI ht (show 4 < 2 ^ 31 by decide)), nI_clamp (show t < 2 ^ 31 by omega), h5, h6, ix_30, gd_of (inb_nI (show 30 * t + p < 120 by omega) (show 120 < 2 ^ 31 by decide)), nI_clamp (show 30 * t + p < 2 ^ 31 by omega), hk, ob2_id, if_true]
  rw [if_neg (by decide), if_neg (by decide), if_neg (by decide), if_neg (by decide), if_neg (by decide), if_neg (by decide), if_neg (by decide), if_pos (by decide)]
  unfold fX6_step_J171
  rw [if_neg (by decide)]
  unfold fX6_step_J182
  rw [if_pos (by decide)]
  unfold fX6_step_J194
  simp only [gd_of (inb_nI ht (show 4 < 2 ^ 31 by decide)), nI_clamp (show t < 2 ^ 31 by omega), bnd_e]
  unfold fX6_step_J204
  rw [if_neg (by decide), if_neg (by decide), if_neg (by decide)]
theorem mS_11 (ht : t < 4) (hp : p < 30) (h5 : U 5 0 0 t = 1) (h6 : U 6 0 0 t = nI p) (hk : U 1 0 0 (30 * t + p) = nI 11) : fX6_step U (nI t) = ob (fX6_branch U (nI t) (nI 11) (U 2 0 0 (30 * t + p))) (fun V1 => some (0, V1)) := by
  unfold fX6_step
  rw [o4I ht, ob_e, if_pos rfl]
  simp only [gd_of (inb_nI ht (show 4 < 2 ^ 31 by decide)), nI_clamp (show t < 2 ^ 31 by omega), h5, h6, ix_30, gd_of (inb_nI (show 30 * t + p < 120 by omega) (show 120 < 2 ^ 31 by decide)), nI_clamp (show 30 * t + p < 2 ^ 31 by omega), hk, ob2_id, if_true]
  rw [if_neg (by decide), if_neg (by decide), if_neg (by decide), if_neg (by decide), if_neg (by decide), if_neg (by decide), if_neg (by decide), if_neg (by decide), if_pos (by decide)]
  unfold fX6_step_J171
  rw [if_neg (by decide)]
  unfold fX6_step_J182
  rw [if_neg (by decide), if_neg (by decide)]
  unfold fX6_step_J204
  rw [if_neg (by decide), if_neg (by decide), if_neg (by decide)]
theorem mS_12 (ht : t < 4) (hp : p < 30) (h5 : U 5 0 0 t = 1) (h6 : U 6 0 0 t = nI p) (hk : U 1 0 0 (30 * t + p) = nI 12) : fX6_step U (nI t) = ob (fX6_branch U (nI t) (nI 12) (U 2 0 0 (30 * t + p))) (fun V1 => some (0, V1)) := by
  unfold fX6_step
  rw [o4I ht, ob_e, if_pos rfl]
  simp only [gd_of (inb_nI ht (show 4 < 2 ^ 31 by decide)), nI_clamp (show t < 2 ^ 31 by omega), h5, h6, ix_30, gd_of (inb_nI (show 30 * t + p < 120 by omega) (show 120 < 2 ^ 31 by decide)), nI_clamp (show 30 * t + p < 2 ^ 31 by omega), hk, ob2_id, if_true]
  rw [if_neg (by decide), if_neg (by decide), if_neg (by decide), if_neg (by decide), if_neg (by decide), if_neg (by decide), if_neg (by decide), if_neg (by decide), if_neg (by decide), if_pos (by decide)]
  unfold fX6_step_J171
  rw [if_neg (by decide)]
  unfold fX6_step_J182
  rw [if_neg (by decide), if_neg (by decide)]
  unfold fX6_step_J204
  rw [if_neg (by decide), if_neg (by decide), if_neg (by decide)]
theorem mS_13 (ht : t < 4) (hp : p < 30) (h5 : U 5 0 0 t = 1) (h6 : U 6 0 0 t = nI p) (hk : U 1 0 0 (30 * t + p) = nI 13) : fX6_step U (nI t) = ob (fX6_branch U (nI t) (nI 13) (U 2 0 0 (30 * t + p))) (fun V1 => some (0, V1)) := by
  unfold fX6_step
  rw [o4I ht, ob_e, if_pos rfl]
  simp only [gd_of (inb_nI ht (show 4 < 2 ^ 31 by decide)), nI_clamp (show t < 2 ^ 31 by omega), h5, h6, ix_30, gd_of (inb_nI (show 30 * t + p < 120 by omega) (show 120 < 2 ^ 31 by decide)), nI_clamp (show 30 * t + p < 2 ^ 31 by omega), hk, ob2_id, if_true]
  rw [if_neg (by decide), if_neg (by decide), if_neg (by decide), if_neg (by decide), if_neg (by decide), if_neg (by decide), if_neg (by decide), if_neg (by decide), if_neg (by decide), if_neg (by decide), if_pos (by decide)]
  unfold fX6_step_J171
  rw [if_neg (by decide)]
  unfold fX6_step_J182
  rw [if_neg (by decide), if_neg (by decide)]
  unfold fX6_step_J204
  rw [if_neg (by decide), if_neg (by decide), if_neg (by decide)]
theorem mS_14 (ht : t < 4) (hp : p < 30) (h5 : U 5 0 0 t = 1) (h6 : U 6 0 0 t = nI p) (hk : U 1 0 0 (30 * t + p) = nI 14) : fX6_step U (nI t) = gd (inb (4 * nI t + (U 2 0 0 (30 * t + p))) 16) (fX6_toss U (nI t) (U 8 0 0 (4 * nI t + (U 2 0 0 (30 * t + p))).toNatClampNeg)) := by
  unfold fX6_step
  rw [o4I ht, ob_e, if_pos rfl]
  simp only [gd_of (inb_nI ht (show 4 < 2 ^ 31 by decide)), nI_clamp (show t < 2 ^ 31 by omega), h5, h6, ix_30, gd_of (inb_nI (show 30 * t + p < 120 by omega) (show 120 < 2 ^ 31 by decide)), nI_clamp (show 30 * t + p < 2 ^ 31 by omega), hk, ob2_id, if_true]
  rw [if_neg (by decide), if_neg (by decide), if_neg (by decide), if_neg (by decide), if_neg (by decide), if_neg (by decide), if_neg (by decide), if_neg (by decide), if_neg (by decide), if_neg (by decide), if_neg (by decide), if_pos (by decide)]
theorem mS_15 (ht : t < 4) (hp : p < 30) (h5 : U 5 0 0 t = 1) (h6 : U 6 0 0 t = nI p) (hk : U 1 0 0 (30 * t + p) = nI 15) : fX6_step U (nI t) = ob (fX6_beginPart U (nI t)) (fun V1 => some (0, V1)) := by
  unfold fX6_step
  rw [o4I ht, ob_e, if_pos rfl]
  simp only [gd_of (inb_nI ht (show 4 < 2 ^ 31 by decide)), nI_clamp (show t < 2 ^ 31 by omega), h5, h6, ix_30, gd_of (inb_nI (show 30 * t + p < 120 by omega) (show 120 < 2 ^ 31 by decide)), nI_clamp (show 30 * t + p < 2 ^ 31 by omega), hk, ob2_id, if_true]
  rw [if_neg (by decide), if_neg (by decide), if_neg (by decide), if_neg (by decide), if_neg (by decide), if_neg (by decide), if_neg (by decide), if_neg (by decide), if_neg (by decide), if_neg (by decide), if_neg (by decide), if_neg (by decide)]
  unfold fX6_step_J171
  rw [if_neg (by decide)]
  unfold fX6_step_J182
  rw [if_neg (by decide), if_neg (by decide)]
  unfold fX6_step_J204
  rw [if_neg (by decide), if_pos (by decide)]
theorem mS_16 (ht : t < 4) (hp : p < 30) (h5 : U 5 0 0 t = 1) (h6 : U 6 0 0 t = nI p) (hk : U 1 0 0 (30 * t + p) = nI 16) : fX6_step U (nI t) = ob (fX6_branch (st U 20 0 0 t (U 20 0 0 t - 1)) (nI t) (nI 16) (U 2 0 0 (30 * t + p))) (fun V1 => some (0, V1)) := by
  unfold fX6_step
  rw [o4I ht, ob_e, if_pos rfl]
  simp only [gd_of (inb_nI ht (show 4 < 2 ^ 31 by decide)), nI_clamp (show t < 2 ^ 31 by omega), h5, h6, ix_30, gd_of (inb_nI (show 30 * t + p < 120 by omega) (show 120 < 2 ^ 31 by decide)), nI_clamp (show 30 * t + p < 2 ^ 31 by omega), hk, ob2_id, if_true]
  rw [if_neg (by decide), if_neg (by decide), if_neg (by decide), if_neg (by decide), if_neg (by decide), if_neg (by decide), if_neg (by decide), if_neg (by decide), if_neg (by decide), if_neg (by decide), if_neg (by decide), if_neg (by decide)]
  unfold fX6_step_J171
  rw [if_neg (by decide)]
  unfold fX6_step_J182
  rw [if_neg (by decide), if_pos (by decide)]
  unfold fX6_step_J194
  simp only [gd_of (inb_nI ht (show 4 < 2 ^ 31 by decide)), nI_clamp (show t < 2 ^ 31 by omega), bnd_e]
  unfold fX6_step_J204
  rw [if_neg (by decide), if_neg (by decide), if_neg (by decide)]
end EV
