section SS
variable {k : Nat} {V U : Sto}
def lvV (V : Sto) (t : Nat) : Sto := st (st (st (if V 10 t 0 5 = -1 then V else st V 10 t 0 4 (V 10 t 0 5)) 10 t 0 5 (-1)) 10 t 0 7 0) 10 t 0 8 0
theorem X4_leave {t : Nat} : fX4_leaveAttempt V t = some (lvV V t) := by
  unfold fX4_leaveAttempt fX4_isInAttempt lvV
  by_cases h : V 10 t 0 5 = -1
  · rw [if_pos h, ob_e, if_pos rfl, if_pos h]; rfl
  · rw [if_neg h, ob_e, if_neg i01, if_neg h]; rfl
theorem lvV_o {t : Nat} : onlyV t V (lvV V t) := by
  unfold lvV
  refine ((onlyV.tr ?_ (onlyV.st (by omega))).tr (onlyV.st (by omega))).tr (onlyV.st (by omega))
  split
  · exact onlyV.rf
  · exact onlyV.st (by omega)
theorem lvV_n {t c i j : Nat} (h : ¬ (c = 10 ∧ (j = 4 ∨ j = 5 ∨ j = 7 ∨ j = 8))) : lvV V t c t i j = V c t i j := by
  unfold lvV
  by_cases hc : c = 10
  · have hj : ¬ (j = 4 ∨ j = 5 ∨ j = 7 ∨ j = 8) := fun q => h ⟨hc, q⟩
    rw [st_nj (by omega), st_nj (by omega), st_nj (by omega)]
    split
    · rfl
    · rw [st_nj (by omega)]
  · rw [st_nc hc, st_nc hc, st_nc hc]
    split
    · rfl
    · rw [st_nc hc]
theorem lvV_5 {t : Nat} : lvV V t 10 t 0 5 = -1 := by unfold lvV; rw [st_nj (by decide), st_nj (by decide), st_eq]
theorem lvV_7 {t : Nat} : lvV V t 10 t 0 7 = 0 := by unfold lvV; rw [st_nj (by decide), st_eq]
theorem lvV_8 {t : Nat} : lvV V t 10 t 0 8 = 0 := by unfold lvV; rw [st_eq]
theorem lvV_4 {t : Nat} : lvV V t 10 t 0 4 = if V 10 t 0 5 = -1 then V 10 t 0 4 else V 10 t 0 5 := by
  unfold lvV
  rw [st_nj (by decide), st_nj (by decide), st_nj (by decide)]
  split
  · rfl
  · rw [st_eq]
theorem eaU_x {t x idx : Nat} (h : x ≠ 13 ∧ x ≠ 16 ∧ x ≠ 17 ∧ x ≠ 18) : eaU U t x 0 0 idx = U x 0 0 idx := by rw [eaU_get, if_neg (by omega)]
theorem eaU_13 {t : Nat} : eaU U t 13 0 0 t = 0 := by rw [eaU_get, if_pos ⟨rfl, rfl, Or.inl ⟨rfl, rfl⟩⟩]
theorem eaU_b {t x v : Nat} (hx : x = 16 ∨ x = 17 ∨ x = 18) (hv : v < 8) : eaU U t x 0 0 (8 * t + v) = 0 := by rw [eaU_get, if_pos ⟨rfl, rfl, Or.inr ⟨hx, by omega, by omega⟩⟩]
/-- a thread that is neither READY nor PARKED -/
theorem TR_idle {c t L s : Nat} {ver : Nat → Nat} {K : Nat → Nat} (hL : TL t V U K L) (hB : TB t V U s) (h1 : s ≠ 1) (h2 : s ≠ 2) (h5 : V 10 t 0 5 = -1) (h7 : V 10 t 0 7 = 0) (h8 : V 10 t 0 8 = 0) (u13 : U 13 0 0 t = 0) (u17 : ∀ v, v < 8 → U 17 0 0 (8 * t + v) = 0) (u18 : ∀ v, v < 8 → U 18 0 0 (8 * t + v) = 0) : TR c ver t V U :=
  ⟨K, L, s, 0, 0, hL, hB, ⟨by omega, by omega, h7, h8, fun v hv => ⟨by rw [u17 v hv, Nat.zero_testBit]; rfl, by rw [u18 v hv, Nat.zero_testBit]; rfl, fun q => by rw [Nat.zero_testBit] at q; cases q⟩⟩, Or.inl ⟨h1, h2, ⟨h5, u13⟩, rfl, rfl⟩⟩
theorem R_stop (h : Rel k V U) (x1 : Int32) : ∃ (r : Int32) (V' : Sto) (U' : Sto), fX5_stop V x1 = some (r, V') ∧ fX6_stop U x1 = some (r, U') ∧ Rel (k + 1) V' U' := by
  obtain ⟨c, n, ver, hc, hn, hG, hT⟩ := id h
  unfold fX5_stop fX6_stop
  rcases rng x1 (show 4 < 2 ^ 31 by decide) with q | ⟨t, ht, rfl⟩
  · exact ⟨0, V, U, by rw [om_none (sOf_none q)], by rw [o4O q, ob_e, if_neg i01], h.up⟩
  · obtain ⟨K, L, s, R, W, hL, hB, -, -⟩ := id (hT t ht)
    rw [om_some (sOf_nI ht), uw hB.1 hB.2.1, ob_e, o4I ht, ob_e, if_pos rfl, busyU ht hB.1 hB.2.2.1, ob_e]
    cases hb : bsy s with
    | false => exact ⟨0, V, U, by rw [if_pos (by decide)], by rw [if_pos (by decide)], h.up⟩
    | true =>
      rw [if_neg (show ¬ bI true = 0 by decide), if_neg (show ¬ bI true = 0 by decide), X4_leave, ob_e, bnd_e, X6_ea ht, ob_e]
      simp only [gd_of (inb_nI ht (show 4 < 2 ^ 31 by decide)), bnd_e, nI_clamp (show t < 2 ^ 31 by omega)]
      have oV : onlyV t V (st (lvV V t) 10 t 0 9 0) := lvV_o.tr (onlyV.st (by omega))
      have oU : onlyU t U (st (st (eaU U t) 20 0 0 t 0) 5 0 0 t 0) := (onlyU.ea.tr (onlyU.st ⟨by decide, by decide, by decide, by decide, by simp [sz]⟩)).tr (onlyU.st ⟨by decide, by decide, by decide, by decide, by simp [sz]⟩)
      refine ⟨1, _, _, rfl, rfl, c, n, ver, by omega, by omega, hG.fr oV oU, fun t' ht' => ?_⟩
      by_cases qt : t' = t
      · subst qt
        have gV : ∀ c i j, ¬ (c = 10 ∧ (j = 4 ∨ j = 5 ∨ j = 7 ∨ j = 8 ∨ j = 9)) → st (lvV V t') 10 t' 0 9 0 c t' i j = V c t' i j := fun c i j q => by rw [st_get, if_neg (by omega), lvV_n (by omega)]
        have gU : ∀ x idx, x ≠ 13 ∧ x ≠ 16 ∧ x ≠ 17 ∧ x ≠ 18 ∧ x ≠ 20 ∧ x ≠ 5 → st (st (eaU U t') 20 0 0 t' 0) 5 0 0 t' 0 x 0 0 idx = U x 0 0 idx := fun x idx q => by rw [st_nc (by omega), st_nc (by omega), eaU_x (by omega)]
        refine TR_idle (K := K) (L := L) (s := 0) (hL.fr (fun c j q => gV c 0 j (by omega)) (fun x idx q _ => gU x idx (by omega))) ⟨by omega, st_eq, st_eq, ?_, ?_, fun r hr => ?_⟩ (by decide) (by decide) ?_ ?_ ?_ ?_ (fun v hv => ?_) (fun v hv => ?_)
        · rw [gV 10 0 10 (by omega), gU 6 _ (by omega)]; exact hB.2.2.2.1
        · rw [gV 10 0 11 (by omega), gU 7 _ (by omega)]; exact hB.2.2.2.2.1
        · rw [gV 19 0 r (by omega), gU 8 _ (by omega)]; exact hB.2.2.2.2.2 r hr
        · rw [st_nj (by decide)]; exact lvV_5
        · rw [st_nj (by decide)]; exact lvV_7
        · rw [st_nj (by decide)]; exact lvV_8
        · rw [st_nc (by decide), st_nc (by decide)]; exact eaU_13
        · rw [st_nc (by decide), st_nc (by decide)]; exact eaU_b (by omega) hv
        · rw [st_nc (by decide), st_nc (by decide)]; exact eaU_b (by omega) hv
      · exact (hT t' ht').fr (oV.same qt) (oU.same qt)
/-- the class's registers set to 0 -/
def zrV (V : Sto) (t i : Nat) : Sto := fun c t' i' j => if c = 19 ∧ t' = t ∧ i' = 0 ∧ i ≤ j ∧ j < 4 then 0 else V c t' i' j
theorem X4_zr_L {t : Nat} : ∀ (n i : Nat) (V : Sto), i ≤ 4 → 4 < i + n → fX4_begin_L2 n V t (nI i) = some (zrV V t i) := by
  intro n
  induction n with
  | zero => intro i V a b; omega
  | succ n ih =>
    intro i V h1 h2
    rw [fX4_begin_L2]
    by_cases h : 4 ≤ i
    · have : i = 4 := by omega
      subst this
      rw [if_pos (by decide)]
      congr 1
      funext c t' i' j
      unfold zrV
      rw [if_neg (by omega)]
    · rw [if_neg (show ¬ (4 : Int32) ≤ nI i from nI_ge (b := 4) (by omega) (by decide)), gd_of (inb_nI (show i < 4 by omega) (by decide)), bnd_e, nI_clamp (by omega), nI_1, ih (i + 1) _ (by omega) (by omega)]
      congr 1
      funext c t' i' j
      unfold zrV
      rw [st_get]
      by_cases q : c = 19 ∧ t' = t ∧ i' = 0 ∧ i ≤ j ∧ j < 4
      · rw [if_pos q]
        by_cases qj : j = i
        · rw [if_neg (by omega), if_pos ⟨q.1, q.2.1, q.2.2.1, qj⟩]
        · rw [if_pos ⟨q.1, q.2.1, q.2.2.1, by omega, q.2.2.2.2⟩]
      · rw [if_neg q, if_neg (by omega), if_neg (by omega)]
def goV (V : Sto) (t : Nat) (x : Int32) : Sto := if x < V 11 t 0 8 then st V 10 t 0 10 x else st (st V 10 t 0 10 x) 10 t 0 9 3
theorem X4_go {t : Nat} {x : Int32} : fX4_goOnTo V t x = some (0, goV V t x) := by
  unfold fX4_goOnTo goV
  rw [bnd_e, st_nc (by decide)]
  split <;> rfl
theorem goV_o {t : Nat} {x : Int32} : onlyV t V (goV V t x) := by
  unfold goV
  split
  · exact onlyV.st (by omega)
  · exact (onlyV.st (by omega)).tr (onlyV.st (by omega))
theorem goU_o {t : Nat} {x : Int32} : onlyU t U (goU U t x) := by
  unfold goU
  split
  · exact (onlyU.st ⟨by decide, by decide, by decide, by decide, by simp [sz]⟩).tr (onlyU.st ⟨by decide, by decide, by decide, by decide, by simp [sz]⟩)
  · exact onlyU.st ⟨by decide, by decide, by decide, by decide, by simp [sz]⟩
theorem goV_n {t c i j : Nat} {x : Int32} (h : ¬ (c = 10 ∧ (j = 9 ∨ j = 10))) : goV V t x c t i j = V c t i j := by
  unfold goV
  split
  · rw [st_get, if_neg (by omega)]
  · rw [st_get, if_neg (by omega), st_get, if_neg (by omega)]
theorem goU_n {t x idx : Nat} {y : Int32} (h : x ≠ 5 ∧ x ≠ 6) : goU U t y x 0 0 idx = U x 0 0 idx := by
  unfold goU
  split
  · rw [st_nc (by omega), st_nc (by omega)]
  · rw [st_nc (by omega)]
theorem goV_p {t : Nat} {x : Int32} : goV V t x 10 t 0 10 = x := by
  unfold goV
  split
  · exact st_eq
  · rw [st_nj (by decide)]; exact st_eq
theorem goU_p {t : Nat} {x : Int32} : goU U t x 6 0 0 t = x := by
  unfold goU
  split
  · rw [st_nc (by decide)]; exact st_eq
  · exact st_eq
theorem goV_s {t p L : Nat} (hp : p ≤ L) (hL : L ≤ 30) (h : V 11 t 0 8 = nI L) : goV V t (nI p) 10 t 0 9 = if p < L then V 10 t 0 9 else 3 := by
  unfold goV
  rw [h]
  by_cases q : p < L
  · rw [if_pos (nI_lt q (by omega)), if_pos q, st_nj (by decide)]
  · rw [if_neg (nI_nlt (by omega) (by omega)), if_neg q, st_eq]
theorem goU_s {t p L : Nat} (hp : p ≤ L) (hL : L ≤ 30) (h : U 4 0 0 t = nI L) : goU U t (nI p) 5 0 0 t = if p < L then U 5 0 0 t else 3 := by
  unfold goU
  rw [h]
  by_cases q : p < L
  · rw [if_neg (nI_ne (by omega) (by omega) (by omega)), if_pos q, st_nc (by decide)]
  · rw [if_pos (by rw [show p = L by omega]), if_neg q, st_eq]
theorem R_start (h : Rel k V U) (x1 : Int32) : ∃ (r : Int32) (V' : Sto) (U' : Sto), fX5_start V x1 = some (r, V') ∧ fX6_start U x1 = some (r, U') ∧ Rel (k + 1) V' U' := by
  obtain ⟨c, n, ver, hc, hn, hG, hT⟩ := id h
  rcases rng x1 (show 4 < 2 ^ 31 by decide) with q | ⟨t, ht, rfl⟩
  · exact ⟨0, V, U, by unfold fX5_start; rw [om_none (sOf_none q)], by unfold fX6_start; rw [o4O q, ob_e, if_neg i01], h.up⟩
  · obtain ⟨K, L, s, R, W, hL, hB, hS, hst⟩ := id (hT t ht)
    cases hb : bsy s with
    | true => exact ⟨0, V, U, by unfold fX5_start; rw [om_some (sOf_nI ht), uw hB.1 hB.2.1, ob_e, hb, if_neg (by decide)], by unfold fX6_start; rw [o4I ht, ob_e, if_pos rfl, busyU ht hB.1 hB.2.2.1, ob_e, hb, if_neg (by decide)], h.up⟩
    | false =>
      obtain ⟨V1, a1, a2, a3⟩ := X3_go hL.1 hL.kok hL.2.1
      obtain ⟨U1, b1, b2⟩ := X6_check_ok ht hL.1 hL.mok hL.2.2.1
      obtain ⟨r0, V0', U0', c1, c2, c3⟩ := R_check h (nI t)
      have e1 : fX5_check V (nI t) = some (chk K L 0, V1) := by unfold fX5_check; rw [om_some (sOf_nI ht), a1, ob2_e]
      rw [e1] at c1
      rw [b1] at c2
      cases c1
      cases c2
      by_cases hg : chk K L 0 = -1
      · have hgood : Good K L := by
          have := chk_good L 0 (by have := hL.1; omega) hg
          exact ⟨fun p hp => this.1 p (by omega) (by omega), by have := this.2; rw [Nat.zero_add] at this; exact this⟩
        have hJ := a3 hg
        have hV1 : ∀ c i j, ¬ (c = 15 ∨ c = 16 ∨ c = 17 ∨ c = 18 ∨ (c = 11 ∧ j = 7)) → V1 c t i j = V c t i j := fun c i j q => a2 c t i j (fun z => q z.2)
        have hU1 : ∀ x idx, x ≤ 26 → U1 x 0 0 idx = U x 0 0 idx := fun x idx hx => b2 x 0 0 idx (by omega) (by omega)
        obtain ⟨z1, z2⟩ := bsy_n hb
        obtain ⟨n5, n13, nR, nW⟩ : V 10 t 0 5 = -1 ∧ U 13 0 0 t = 0 ∧ R = 0 ∧ W = 0 := by
          rcases hst with ⟨-, -, e3, e4, e5⟩ | ⟨e1, -⟩ | ⟨e1, -⟩
          · exact ⟨e3.1, e3.2, e4, e5⟩
          · exact absurd e1 z2
          · exact absurd e1 z1
        subst nR
        subst nW
        have cb : fX4_begin V1 t = some (goV (st (st (st (zrV V1 t 0) 10 t 0 11 0) 10 t 0 4 0) 10 t 0 9 1) t 0) := by
          unfold fX4_begin
          have e : fX4_begin_L2 40 V1 t 0 = some (zrV V1 t 0) := X4_zr_L 40 0 V1 (by omega) (by omega)
          rw [e, ob_e, bnd_e, bnd_e, bnd_e, X4_go, ob2_e]
        have eS : fX6_start_L31 40 U1 (nI t) 0 = some (blkF U1 8 (4 * t) 0 4 (fun _ => 0)) := X6_start_L ht 40 0 U1 (by omega) (by omega)
        refine ⟨1, goV (st (st (st (zrV V1 t 0) 10 t 0 11 0) 10 t 0 4 0) 10 t 0 9 1) t 0, goU (st (eaU (st (st (blkF U1 8 (4 * t) 0 4 (fun _ => 0)) 7 0 0 t 0) 20 0 0 t 0) t) 5 0 0 t 1) t 0, ?_, ?_, ?_⟩
        · unfold fX5_start
          rw [om_some (sOf_nI ht), uw hB.1 hB.2.1, ob_e, hb, if_pos (show bI false = 0 by decide), a1, ob2_e, if_pos hg, cb, ob_e]
        · unfold fX6_start
          rw [o4I ht, ob_e, if_pos rfl, busyU ht hB.1 hB.2.2.1, ob_e, hb, if_pos (show bI false = 0 by decide), b1, ob2_e, if_pos hg, eS, ob_e]
          simp only [gd_of (inb_nI ht (show 4 < 2 ^ 31 by decide)), bnd_e, nI_clamp (show t < 2 ^ 31 by omega)]
          rw [X6_ea ht, ob_e, X6_go ht, ob_e]
        · obtain ⟨c', n', ver', d1, d2, dG, dT⟩ := c3
          have zo : onlyV t V1 (zrV V1 t 0) := fun c t' i j q => by
            unfold zrV
            rw [if_neg (fun z => q ⟨z.2.1, by omega⟩)]
          have oV : onlyV t V1 (goV (st (st (st (zrV V1 t 0) 10 t 0 11 0) 10 t 0 4 0) 10 t 0 9 1) t 0) := (((zo.tr (onlyV.st (by omega))).tr (onlyV.st (by omega))).tr (onlyV.st (by omega))).tr goV_o
          have oU : onlyU t U1 (goU (st (eaU (st (st (blkF U1 8 (4 * t) 0 4 (fun _ => 0)) 7 0 0 t 0) 20 0 0 t 0) t) 5 0 0 t 1) t 0) := (((((onlyU.blk (fun idx h1 h2 => ⟨by decide, by decide, by decide, by decide, by show idx / 4 = t; omega⟩)).tr (onlyU.st ⟨by decide, by decide, by decide, by decide, by simp [sz]⟩)).tr (onlyU.st ⟨by decide, by decide, by decide, by decide, by simp [sz]⟩)).tr onlyU.ea).tr (onlyU.st ⟨by decide, by decide, by decide, by decide, by simp [sz]⟩)).tr goU_o
          refine ⟨c', n', ver', d1, d2, dG.fr oV oU, fun t' ht' => ?_⟩
          by_cases qt : t' = t
          · subst qt
            have gV : ∀ c i j, ¬ (c = 19 ∨ (c = 10 ∧ (j = 4 ∨ j = 9 ∨ j = 10 ∨ j = 11))) → goV (st (st (st (zrV V1 t' 0) 10 t' 0 11 0) 10 t' 0 4 0) 10 t' 0 9 1) t' 0 c t' i j = V1 c t' i j := fun c i j q => by
              rw [goV_n (by omega), st_get, if_neg (by omega), st_get, if_neg (by omega), st_get, if_neg (by omega)]
              unfold zrV
              rw [if_neg (by omega)]
            have gU : ∀ x idx, x ≠ 8 ∧ x ≠ 7 ∧ x ≠ 20 ∧ x ≠ 13 ∧ x ≠ 16 ∧ x ≠ 17 ∧ x ≠ 18 ∧ x ≠ 5 ∧ x ≠ 6 → goU (st (eaU (st (st (blkF U1 8 (4 * t') 0 4 (fun _ => 0)) 7 0 0 t' 0) 20 0 0 t' 0) t') 5 0 0 t' 1) t' 0 x 0 0 idx = U1 x 0 0 idx := fun x idx q => by
              rw [goU_n (by omega), st_nc (by omega), eaU_x (by omega), st_nc (by omega), st_nc (by omega), blk_nc (by omega)]
            have hLL : TL t' (goV (st (st (st (zrV V1 t' 0) 10 t' 0 11 0) 10 t' 0 4 0) 10 t' 0 9 1) t' 0) (goU (st (eaU (st (st (blkF U1 8 (4 * t') 0 4 (fun _ => 0)) 7 0 0 t' 0) 20 0 0 t' 0) t') 5 0 0 t' 1) t' 0) K L := hL.fr (fun c j q => by rw [gV c 0 j (by omega), hV1 c 0 j (by omega)]) (fun x idx q _ => by rw [gU x idx (by omega), hU1 x idx (by omega)])
            have l8 : st (st (st (zrV V1 t' 0) 10 t' 0 11 0) 10 t' 0 4 0) 10 t' 0 9 1 11 t' 0 8 = nI L := by
              rw [st_nc (by decide), st_nc (by decide), st_nc (by decide)]
              unfold zrV
              rw [if_neg (by omega), hV1 11 0 8 (by omega)]; exact hL.2.1
            have l4 : st (eaU (st (st (blkF U1 8 (4 * t') 0 4 (fun _ => 0)) 7 0 0 t' 0) 20 0 0 t' 0) t') 5 0 0 t' 1 4 0 0 t' = nI L := by
              rw [st_nc (by decide), eaU_x (by omega), st_nc (by decide), st_nc (by decide), blk_nc (by decide), hU1 4 _ (by omega)]; exact hL.2.2.1
            have s9 := goV_s (t := t') (V := st (st (st (zrV V1 t' 0) 10 t' 0 11 0) 10 t' 0 4 0) 10 t' 0 9 1) (p := 0) (Nat.zero_le L) hL.1 l8
            have s5 := goU_s (t := t') (U := st (eaU (st (st (blkF U1 8 (4 * t') 0 4 (fun _ => 0)) 7 0 0 t' 0) 20 0 0 t' 0) t') 5 0 0 t' 1) (p := 0) (Nat.zero_le L) hL.1 l4
            rw [st_eq] at s9 s5
            have tb : ∀ s', s' ≤ 4 → (if 0 < L then (1 : Int32) else 3) = nI s' → TB t' (goV (st (st (st (zrV V1 t' 0) 10 t' 0 11 0) 10 t' 0 4 0) 10 t' 0 9 1) t' 0) (goU (st (eaU (st (st (blkF U1 8 (4 * t') 0 4 (fun _ => 0)) 7 0 0 t' 0) 20 0 0 t' 0) t') 5 0 0 t' 1) t' 0) s' := fun s' hs' he => by
              refine ⟨hs', s9.trans he, s5.trans he, by rw [goV_p, goU_p], ?_, fun r hr => ?_⟩
              · rw [goV_n (by omega), st_nj (by decide), st_nj (by decide), st_eq, goU_n (by omega), st_nc (by decide), eaU_x (by omega), st_nc (by decide), st_eq]
              · rw [goV_n (by omega), st_nc (by decide), st_nc (by decide), st_nc (by decide), goU_n (by omega), st_nc (by decide), eaU_x (by omega), st_nc (by decide), st_nc (by decide), blk_in (by omega) hr]
                unfold zrV
                rw [if_pos ⟨rfl, rfl, rfl, by omega, hr⟩]
            have f5 : goV (st (st (st (zrV V1 t' 0) 10 t' 0 11 0) 10 t' 0 4 0) 10 t' 0 9 1) t' 0 10 t' 0 5 = -1 := by rw [gV 10 0 5 (by omega), hV1 10 0 5 (by omega)]; exact n5
            have f7 : goV (st (st (st (zrV V1 t' 0) 10 t' 0 11 0) 10 t' 0 4 0) 10 t' 0 9 1) t' 0 10 t' 0 7 = 0 := by rw [gV 10 0 7 (by omega), hV1 10 0 7 (by omega)]; exact hS.2.2.1
            have f8 : goV (st (st (st (zrV V1 t' 0) 10 t' 0 11 0) 10 t' 0 4 0) 10 t' 0 9 1) t' 0 10 t' 0 8 = 0 := by rw [gV 10 0 8 (by omega), hV1 10 0 8 (by omega)]; exact hS.2.2.2.1
            have u13 : goU (st (eaU (st (st (blkF U1 8 (4 * t') 0 4 (fun _ => 0)) 7 0 0 t' 0) 20 0 0 t' 0) t') 5 0 0 t' 1) t' 0 13 0 0 t' = 0 := by rw [goU_n (by omega), st_nc (by decide), eaU_13]
            have u17 : ∀ x v, (x = 17 ∨ x = 18) → v < 8 → goU (st (eaU (st (st (blkF U1 8 (4 * t') 0 4 (fun _ => 0)) 7 0 0 t' 0) 20 0 0 t' 0) t') 5 0 0 t' 1) t' 0 x 0 0 (8 * t' + v) = 0 := fun x v hx hv => by rw [goU_n (by omega), st_nc (by omega), eaU_b (by omega) hv]
            by_cases hL0 : 0 < L
            · have hd0 : dep K 0 = 0 := rfl
              refine ⟨K, L, 1, 0, 0, hLL, tb 1 (by omega) (by rw [if_pos hL0]; rfl), ⟨by omega, by omega, f7, f8, fun v hv => ⟨by rw [u17 17 v (by omega) hv, Nat.zero_testBit]; rfl, by rw [u17 18 v (by omega) hv, Nat.zero_testBit]; rfl, fun q => by rw [Nat.zero_testBit] at q; cases q⟩⟩, Or.inr (Or.inr ⟨rfl, 0, ⟨hL0, goV_p, (Conn_of hgood hJ).fr (fun j => gV 15 0 j (by omega)) (fun j => gV 16 0 j (by omega)) (fun j => gV 17 0 j (by omega)), ?_, ?_, fun j hj => by rw [hd0] at hj; omega, fun j hj => by rw [hd0] at hj; omega⟩, Or.inl ⟨fun j hj => by rw [hd0] at hj; omega, ⟨f5, u13⟩, rfl, rfl⟩⟩)⟩
              · rw [goV_n (by omega), st_nj (by decide), st_eq]; rfl
              · rw [goU_n (by omega), st_nc (by decide), eaU_x (by omega), st_eq]; rfl
            · exact TR_idle hLL (tb 3 (by omega) (by rw [if_neg hL0]; rfl)) (by decide) (by decide) f5 f7 f8 u13 (fun v hv => u17 17 v (by omega) hv) (fun v hv => u17 18 v (by omega) hv)
          · exact (dT t' ht').fr (oV.same qt) (oU.same qt)
      · refine ⟨0, V1, U1, ?_, ?_, c3⟩
        · unfold fX5_start
          rw [om_some (sOf_nI ht), uw hB.1 hB.2.1, ob_e, hb, if_pos (show bI false = 0 by decide), a1, ob2_e, if_neg hg]
        · unfold fX6_start
          rw [o4I ht, ob_e, if_pos rfl, busyU ht hB.1 hB.2.2.1, ob_e, hb, if_pos (show bI false = 0 by decide), b1, ob2_e, if_neg hg]
end SS
