/-! words that leave the marks alone -/
def StepOK (B t : Nat) (V U : Sto) : Prop := ∃ (r : Int32) (V' U' : Sto), fX5_doWord V t = some (r, V') ∧ fX6_step U (nI t) = some (r, U') ∧ ¬ r < 0 ∧ RelB (B + 1) V' U'
def Ctx (B c n : Nat) (ver : Nat → Nat) (t : Nat) (V U : Sto) (K : Nat → Nat) (L p : Nat) : Prop := (c ≤ B ∧ n ≤ B ∧ B < 2 ^ 20) ∧ GR V U c n ver ∧ (∀ t, t < 4 → TR c ver t V U) ∧ t < 4 ∧ p < L ∧ V 10 t 0 10 = nI p ∧ U 6 0 0 t = nI p ∧ SD c ver t V U K L p (dep K p)
section PL
variable {K : Nat → Nat} {V U V' U' : Sto} {B c n t L p : Nat} {ver : Nat → Nat}
theorem fin1 (hB : c ≤ B ∧ n ≤ B) (hG : GR V U c n ver) (hT : ∀ t, t < 4 → TR c ver t V U) (oV : onlyV t V V') (oU : onlyU t U U') (h : TR c ver t V' U') : RelB (B + 1) V' U' :=
  RelB.one (V := V) (U := U) (t := t) (B := B) ⟨by omega, by omega⟩ (hG.fr oV oU) (fun t' h1 _ => hT t' h1) (fun t' _ h2 => oV.same h2) (fun t' _ h2 => oU.same h2) h
theorem Ctx.fin (C : Ctx B c n ver t V U K L p) (oV : onlyV t V V') (oU : onlyU t U U') (h : TR c ver t V' U') : RelB (B + 1) V' U' := fin1 ⟨C.1.1, C.1.2.1⟩ C.2.1 C.2.2.1 oV oU h
theorem Ctx.t4 (C : Ctx B c n ver t V U K L p) : t < 4 := C.2.2.2.1
theorem Ctx.pL (C : Ctx B c n ver t V U K L p) : p < L := C.2.2.2.2.1
theorem Ctx.cp (C : Ctx B c n ver t V U K L p) : V 10 t 0 10 = nI p := C.2.2.2.2.2.1
theorem Ctx.mp (C : Ctx B c n ver t V U K L p) : U 6 0 0 t = nI p := C.2.2.2.2.2.2.1
theorem Ctx.sd (C : Ctx B c n ver t V U K L p) : SD c ver t V U K L p (dep K p) := C.2.2.2.2.2.2.2
theorem Ctx.L30 (C : Ctx B c n ver t V U K L p) : L ≤ 30 := C.sd.1.1
theorem Ctx.p30 (C : Ctx B c n ver t V U K L p) : p < 30 := by have := C.L30; have := C.pL; omega
theorem Ctx.mr (C : Ctx B c n ver t V U K L p) : U 5 0 0 t = 1 := C.sd.2.2.1.2.1
theorem Ctx.good (C : Ctx B c n ver t V U K L p) : Good K L := C.sd.2.1.1
theorem Ctx.wr (C : Ctx B c n ver t V U K L p) : wrg K p = false := C.good.1 p C.pL
theorem Ctx.ck (C : Ctx B c n ver t V U K L p) {k : Nat} (hk : K p = k) : V 12 t 0 p = nI k := by rw [← hk]; exact (C.sd.1.2.2.2 p C.p30).1
theorem Ctx.mk (C : Ctx B c n ver t V U K L p) {k : Nat} (hk : K p = k) : U 1 0 0 (30 * t + p) = nI k := by rw [← hk]; exact (C.sd.1.2.2.2 p C.p30).2.1
theorem Ctx.ab (C : Ctx B c n ver t V U K L p) : V 13 t 0 p = U 2 0 0 (30 * t + p) ∧ V 14 t 0 p = U 3 0 0 (30 * t + p) ∧ wOK (K p) (V 13 t 0 p) (V 14 t 0 p) := (C.sd.1.2.2.2 p C.p30).2.2
theorem Ctx.rg (C : Ctx B c n ver t V U K L p) {r : Nat} (hr : r < 4) : U 8 0 0 (4 * t + r) = V 19 t 0 r := (C.sd.2.2.1.2.2.2 r hr).symm
/-- other stores of the same thread -/
theorem SD.fr {m : Nat} (h : SD c ver t V U K L p m) (hp : p ≤ L) (hm : m ≤ dep K p) (hV : ∀ c i j, 10 ≤ c → ¬ (c = 19 ∨ c = 20 ∨ (c = 10 ∧ 7 ≤ j)) → V' c t i j = V c t i j) (hU : ∀ x idx, 1 ≤ x → x ≤ 24 → ¬ (x = 5 ∨ x = 6 ∨ x = 7 ∨ x = 8 ∨ x = 10 ∨ x = 11 ∨ x = 17 ∨ x = 18 ∨ x = 19) → U' x 0 0 idx = U x 0 0 idx) (hB : TBx t V' U') (hS : ∀ R W, TS t V U R W → ∃ R' W', TS t V' U' R' W' ∧ ((∀ j, j < m → K (opnr K p j) ≠ 6) → R = 0 → W = 0 → R' = 0 ∧ W' = 0)) : SD c ver t V' U' K L p m := by
  obtain ⟨h1, h2, h3, h4, R, W, h5, h7⟩ := id h
  obtain ⟨R', W', h8, h9⟩ := hS R W h5
  refine ⟨h1.fr (fun c j q => hV c 0 j (by omega) (by omega)) (fun x idx q _ => hU x idx (by omega) (by omega) (by omega)), h2.fr (fun j => hV 15 0 j (by omega) (by omega)) (fun j => hV 16 0 j (by omega) (by omega)) (fun j => hV 17 0 j (by omega) (by omega)), hB, ?_, R', W', h8, ?_⟩
  · have g4 : V' 10 t 0 4 = nI (cm K p m) := by rw [hV 10 0 4 (by omega) (by omega)]; exact h4.1
    have g20 : U' 20 0 0 t = nI (cq K p m) := by rw [hU 20 _ (by omega) (by omega) (by omega)]; exact h4.2.1
    exact TMd.cut h4 (Nat.le_refl _) (fun j hj => (h.q6 hp (by omega)).1) g4 g20 (fun i c j _ hc => hV c i j (by omega) (by omega)) (fun x d idx _ hx => by
      have hx2 := hx.x
      exact hU x idx (by omega) (by omega) (by omega))
  · rcases h7 with ⟨b1, b2, b3, b4⟩ | ⟨j, b1, b2, b3⟩
    · obtain ⟨z1, z2⟩ := h9 b1 b3 b4
      exact Or.inl ⟨b1, ⟨by rw [hV 10 0 5 (by omega) (by omega)]; exact b2.1, by rw [hU 13 _ (by omega) (by omega) (by omega)]; exact b2.2⟩, z1, z2⟩
    · exact Or.inr ⟨j, b1, b2, b3.fr (fun j _ => hV 10 0 j (by omega) (by omega)) (fun c j _ => hV c _ j (by omega) (by omega)) (fun x idx _ => hU x idx (by omega) (by omega) (by omega))⟩
theorem TS.reg {R W r : Nat} {x : Int32} (h : TS t V U R W) : TS t (st V 19 t 0 r x) (st U 8 0 0 (4 * t + r) x) R W := by
  obtain ⟨a1, a2, a3, a4, a5⟩ := h
  refine ⟨a1, a2, by rw [st_nc (by decide)]; exact a3, by rw [st_nc (by decide)]; exact a4, fun v hv => ?_⟩
  rw [st_nc (by decide), st_nc (by decide), st_nc (by decide), st_nc (by decide)]
  exact a5 v hv
theorem TBx.reg {r : Nat} {x : Int32} (h : TBx t V U) : TBx t (st V 19 t 0 r x) (st U 8 0 0 (4 * t + r) x) := by
  obtain ⟨a1, a2, a3, a4⟩ := h
  refine ⟨by rw [st_nc (by decide)]; exact a1, by rw [st_nc (by decide)]; exact a2, by rw [st_nc (by decide), st_nc (by decide)]; exact a3, fun r' hr' => ?_⟩
  by_cases q : r' = r
  · subst q; rw [st_eq, st_eq]
  · rw [st_nj q, st_nj (by omega)]; exact a4 r' hr'
theorem SD.reg {m r : Nat} {x : Int32} (h : SD c ver t V U K L p m) (hp : p ≤ L) (hm : m ≤ dep K p) : SD c ver t (st V 19 t 0 r x) (st U 8 0 0 (4 * t + r) x) K L p m :=
  h.fr hp hm (fun c i j _ q => st_nc (by omega)) (fun x idx _ _ q => st_nc (by omega)) h.2.2.1.reg (fun R W hS => ⟨R, W, hS.reg, fun _ q1 q2 => ⟨q1, q2⟩⟩)
theorem agr_n {m : Nat} (ho : opn (K p) = false) (hm : midk (K p) = false) : agr K p (p + 1) m := fun j _ => by rw [opnr_n ho, flg_n ho hm]; exact ⟨rfl, rfl⟩
theorem SD.next (h : SD c ver t V U K L p (dep K p)) (ho : opn (K p) = false) (hm : midk (K p) = false) (h7 : K p ≠ 7) : SD c ver t V U K L (p + 1) (dep K (p + 1)) := by
  rw [dep_n ho h7]; exact h.agr (agr_n ho hm)
theorem agr_o (ho : opn (K p) = true) : agr K p (p + 1) (dep K p) := fun j hj => by rw [opnr_o ho, flg_o ho, upN_n (by omega), upN_n (by omega)]; exact ⟨rfl, rfl⟩
theorem top_o (ho : opn (K p) = true) : opnr K (p + 1) (dep K p) = p ∧ flg K (p + 1) (dep K p) = false := by rw [opnr_o ho, flg_o ho, upN_s, upN_s]; exact ⟨rfl, rfl⟩
theorem SD.into (h : SD c ver t V U K L p (dep K p)) (hk : K p = 11 ∨ K p = 13) : SD c ver t V U K L (p + 1) (dep K (p + 1)) := by
  have ho : opn (K p) = true := by rcases hk with z | z <;> rw [z] <;> rfl
  rw [dep_o ho]
  exact (h.agr (agr_o ho)).up (isM_f (by rw [(top_o ho).1]; exact hk))
theorem SD.past {e : Nat} (h : SD c ver t V U K L p (dep K p)) (he : ENDr K p e) : SD c ver t V U K L (e + 1) (dep K (e + 1)) := by
  rw [he.dep1]; exact h.agr he.agr1.sym
theorem SD.half {m : Nat} (h : SD c ver t V U K L p (dep K p)) (hm : MIDr K p m) (hk : K p ≠ 6) : SD c ver t V U K L (m + 1) (dep K (m + 1)) := by
  rw [hm.dep1]
  exact (h.agr hm.agr1.sym).up (isM_g (by rw [hm.top1.1]; exact hk) hm.top1.2)
/-- going on, both sides -/
theorem asg1 {r : Nat} {x : Int32} (hr : r < 4) (h10 : V 10 t 0 10 = nI p) : fX4_assign V t (nI r) x = some (0, goV (st V 19 t 0 r x) t (nI (p + 1))) := by
  unfold fX4_assign
  rw [srI hr, ob_e, X4_go, ob2_e, st_nc (by decide), h10, nI_1]
theorem and3 : ∀ r, r < 4 → nI r &&& 3 = nI r := by decide
theorem pl_0 {r : Nat} {x : Int32} (ht : t < 4) (hr : r < 4) (h6 : U 6 0 0 t = nI p) : fX6_plain U (nI t) (nI 0) (nI r) x = some (goU (st U 8 0 0 (4 * t + r) x) t (nI (p + 1))) := by
  unfold fX6_plain
  rw [if_pos (by decide), and3 r hr, ix_4, gd_of (inb_nI (show 4 * t + r < 16 by omega) (by decide)), bnd_e, gd_of (inb_nI ht (by decide)), nI_clamp (by omega), nI_clamp (by omega), st_nc (by decide), h6, nI_1, X6_go ht, ob_e]
theorem pl_1 {r r2 : Nat} (ht : t < 4) (hr : r < 4) (hr2 : r2 < 4) (h6 : U 6 0 0 t = nI p) : fX6_plain U (nI t) (nI 1) (nI r) (nI r2) = some (goU (st U 8 0 0 (4 * t + r) (U 8 0 0 (4 * t + r) + U 8 0 0 (4 * t + r2))) t (nI (p + 1))) := by
  unfold fX6_plain
  rw [if_neg (by decide), if_pos (by decide), and3 r hr, ix_4, ix_4, gd_of (inb_nI (show 4 * t + r < 16 by omega) (by decide)), gd_of (inb_nI (show 4 * t + r2 < 16 by omega) (by decide)), gd_of (inb_nI (show 4 * t + r < 16 by omega) (by decide)), bnd_e, gd_of (inb_nI ht (by decide)), nI_clamp (show 4 * t + r < 2 ^ 31 by omega), nI_clamp (show 4 * t + r2 < 2 ^ 31 by omega), nI_clamp (show t < 2 ^ 31 by omega), st_nc (by decide), h6, nI_1, X6_go ht, ob_e]
theorem pl_2 {r r2 : Nat} (ht : t < 4) (hr : r < 4) (hr2 : r2 < 4) (h6 : U 6 0 0 t = nI p) : fX6_plain U (nI t) (nI 2) (nI r) (nI r2) = some (goU (st U 8 0 0 (4 * t + r) (U 8 0 0 (4 * t + r) - U 8 0 0 (4 * t + r2))) t (nI (p + 1))) := by
  unfold fX6_plain
  rw [if_neg (by decide), if_neg (by decide), if_pos (by decide), and3 r hr, ix_4, ix_4, gd_of (inb_nI (show 4 * t + r < 16 by omega) (by decide)), gd_of (inb_nI (show 4 * t + r2 < 16 by omega) (by decide)), gd_of (inb_nI (show 4 * t + r < 16 by omega) (by decide)), bnd_e, gd_of (inb_nI ht (by decide)), nI_clamp (show 4 * t + r < 2 ^ 31 by omega), nI_clamp (show 4 * t + r2 < 2 ^ 31 by omega), nI_clamp (show t < 2 ^ 31 by omega), st_nc (by decide), h6, nI_1, X6_go ht, ob_e]
theorem i0 : ¬ (0 : Int32) < 0 := by decide
theorem oU8 {r : Nat} {x : Int32} (hr : r < 4) : onlyU t U (st U 8 0 0 (4 * t + r) x) := onlyU.st ⟨by decide, by decide, by decide, by decide, by show (4 * t + r) / 4 = t; omega⟩
/-- a register is set, and the thread goes on -/
theorem Ctx.asg (C : Ctx B c n ver t V U K L p) {r : Nat} {x : Int32} (hr : r < 4) (ho : opn (K p) = false) (hm : midk (K p) = false) (h7 : K p ≠ 7) (hc : fX5_doWord V t = fX4_assign V t (nI r) x) (hu : fX6_step U (nI t) = some (0, goU (st U 8 0 0 (4 * t + r) x) t (nI (p + 1)))) : StepOK B t V U :=
  ⟨0, _, _, hc.trans (asg1 hr C.cp), hu, i0, C.fin ((onlyV.st (by omega)).tr goV_o) ((oU8 hr).tr goU_o) (((C.sd.next ho hm h7).reg (by have := C.pL; omega) (Nat.le_refl _)).go (by have := C.pL; omega))⟩
end PL
section W0
variable {K : Nat → Nat} {V U V' U' : Sto} {B c n t L p : Nat} {ver : Nat → Nat}
theorem W_0 (C : Ctx B c n ver t V U K L p) (hk : K p = 0) : StepOK B t V U := by
  obtain ⟨e1, e2, w⟩ := C.ab
  rw [hk] at w
  obtain ⟨r, hr, ea⟩ := w.2.1 (by omega)
  refine C.asg (r := r) (x := V 14 t 0 p) hr (by rw [hk]; rfl) (by rw [hk]; rfl) (by omega) ?_ ?_
  · rw [dW_0 C.p30 C.cp (C.ck hk), ea]
  · rw [mS_0 C.t4 C.p30 C.mr C.mp (C.mk hk), ← e1, ea, ← e2, pl_0 C.t4 hr C.mp, ob_e]
theorem W_1 (C : Ctx B c n ver t V U K L p) (hk : K p = 1) : StepOK B t V U := by
  obtain ⟨e1, e2, w⟩ := C.ab
  rw [hk] at w
  obtain ⟨r, hr, ea⟩ := w.2.1 (by omega)
  obtain ⟨r2, hr2, eb⟩ := w.2.2.1 (by omega)
  refine C.asg (r := r) (x := V 19 t 0 r + V 19 t 0 r2) hr (by rw [hk]; rfl) (by rw [hk]; rfl) (by omega) ?_ ?_
  · rw [dW_1 C.p30 C.cp (C.ck hk), ea, eb, rvI hr, ob_e, rvI hr2, ob_e]
  · rw [mS_1 C.t4 C.p30 C.mr C.mp (C.mk hk), ← e1, ea, ← e2, eb, pl_1 C.t4 hr hr2 C.mp, ob_e, C.rg hr, C.rg hr2]
theorem W_2 (C : Ctx B c n ver t V U K L p) (hk : K p = 2) : StepOK B t V U := by
  obtain ⟨e1, e2, w⟩ := C.ab
  rw [hk] at w
  obtain ⟨r, hr, ea⟩ := w.2.1 (by omega)
  obtain ⟨r2, hr2, eb⟩ := w.2.2.1 (by omega)
  refine C.asg (r := r) (x := V 19 t 0 r - V 19 t 0 r2) hr (by rw [hk]; rfl) (by rw [hk]; rfl) (by omega) ?_ ?_
  · rw [dW_2 C.p30 C.cp (C.ck hk), ea, eb, rvI hr, ob_e, rvI hr2, ob_e]
  · rw [mS_2 C.t4 C.p30 C.mr C.mp (C.mk hk), ← e1, ea, ← e2, eb, pl_2 C.t4 hr hr2 C.mp, ob_e, C.rg hr, C.rg hr2]
theorem W_5 (C : Ctx B c n ver t V U K L p) (hk : K p = 5) : StepOK B t V U := by
  obtain ⟨e1, e2, w⟩ := C.ab
  rw [hk] at w
  obtain ⟨r, hr, ea⟩ := w.2.1 (by omega)
  have ht := C.t4
  have hpL := C.pL
  obtain ⟨⟨hc, hn, hB⟩, ⟨g1, g2, g3, g4, g5, g6⟩, hT, -⟩ := id C
  have hn16 : n % 16 < 16 := Nat.mod_lt _ (by decide)
  have ec : fX5_doWord V t = some (0, goV (st (st V 5 0 0 (n % 16) (V 19 t 0 r)) 4 0 0 1 (nI (n + 1))) t (nI (p + 1))) := by
    rw [dW_5 C.p30 C.cp (C.ck hk), ea, rvI hr, ob_e]
    unfold fX2_write
    rw [g3, fm16 (by omega), ob_e, gd_of (inb_nI hn16 (by decide)), bnd_e, bnd_e, ob_e, nI_clamp (by omega), st_nc (show 4 ≠ 5 by decide), g3, nI_1, nI_1, X4_go]
  have eu : fX6_step U (nI t) = some (0, goU (st (st U 26 0 0 (n % 16) (V 19 t 0 r)) 0 0 0 24 (nI (n + 1))) t (nI (p + 1))) := by
    rw [mS_5 C.t4 C.p30 C.mr C.mp (C.mk hk), ← e1, ea]
    unfold fX6_plain
    rw [if_neg (by decide), if_neg (by decide), if_neg (by decide), if_pos (by decide), and3 r hr, ix_4, gd_of (inb_nI (show 4 * t + r < 16 by omega) (by decide)), g4, rem16 (by omega), gd_of (inb_nI hn16 (by decide)), bnd_e, bnd_e, gd_of (inb_nI ht (by decide)), nI_clamp (show 4 * t + r < 2 ^ 31 by omega), nI_clamp (show t < 2 ^ 31 by omega), nI_clamp (show n % 16 < 2 ^ 31 by omega), st_nc (show 0 ≠ 26 by decide), g4, nI_1, st_nc (show 6 ≠ 0 by decide), st_nc (show 6 ≠ 26 by decide), C.mp, nI_1, X6_go ht, ob_e, ob_e, C.rg hr]
  refine ⟨0, _, _, ec, eu, i0, ?_⟩
  have sV : ∀ t', sameV t' V (st (st V 5 0 0 (n % 16) (V 19 t 0 r)) 4 0 0 1 (nI (n + 1))) := fun t' c i j hc => by rw [st_nc (by omega), st_nc (by omega)]
  have sU : ∀ x idx, 1 ≤ x → x ≤ 24 → st (st U 26 0 0 (n % 16) (V 19 t 0 r)) 0 0 0 24 (nI (n + 1)) x 0 0 idx = U x 0 0 idx := fun x idx a b => by rw [st_nc (by omega), st_nc (by omega)]
  have hT2 : ∀ t', t' < 4 → TR c ver t' (st (st V 5 0 0 (n % 16) (V 19 t 0 r)) 4 0 0 1 (nI (n + 1))) (st (st U 26 0 0 (n % 16) (V 19 t 0 r)) 0 0 0 24 (nI (n + 1))) := fun t' h1 => (hT t' h1).fr (sV t') (fun x idx a b _ _ _ => sU x idx a b)
  have hG2 : GR (st (st V 5 0 0 (n % 16) (V 19 t 0 r)) 4 0 0 1 (nI (n + 1))) (st (st U 26 0 0 (n % 16) (V 19 t 0 r)) 0 0 0 24 (nI (n + 1))) c (n + 1) ver := by
    refine ⟨by rw [st_nc (by decide), st_nc (by decide)]; exact g1, by rw [st_nj (by decide), st_nc (by decide)]; exact g2, st_eq, st_eq, fun v hv => ?_, fun j hj => ?_⟩
    · rw [st_nc (by decide), st_nc (by decide), st_nc (by decide), st_nc (by decide), st_nc (by decide), st_nc (by decide), st_nc (by decide), st_nc (by decide)]
      exact g5 v hv
    · rw [st_nc (show 5 ≠ 4 by decide), st_nc (show 26 ≠ 0 by decide)]
      by_cases q : j = n % 16
      · rw [q, st_eq, st_eq]
      · rw [st_nj q, st_nj q]; exact g6 j hj
  have S1 : SD c ver t (st (st V 5 0 0 (n % 16) (V 19 t 0 r)) 4 0 0 1 (nI (n + 1))) (st (st U 26 0 0 (n % 16) (V 19 t 0 r)) 0 0 0 24 (nI (n + 1))) K L p (dep K p) := by
    have S := C.sd
    refine S.fr (by omega) (Nat.le_refl _) (fun c i j h _ => sV t c i j h) (fun x idx a b _ => sU x idx a b) ?_ (fun R W hS => ⟨R, W, ?_, fun _ q1 q2 => ⟨q1, q2⟩⟩)
    · obtain ⟨a1, a2, a3, a4⟩ := S.2.2.1
      exact ⟨by rw [sV t 10 0 9 (by omega)]; exact a1, by rw [sU 5 _ (by omega) (by omega)]; exact a2, by rw [sV t 10 0 11 (by omega), sU 7 _ (by omega) (by omega)]; exact a3, fun r hr => by rw [sV t 19 0 r (by omega), sU 8 _ (by omega) (by omega)]; exact a4 r hr⟩
    · obtain ⟨a1, a2, a3, a4, a5⟩ := hS
      exact ⟨a1, a2, by rw [sV t 10 0 7 (by omega)]; exact a3, by rw [sV t 10 0 8 (by omega)]; exact a4, fun v hv => by rw [sU 17 _ (by omega) (by omega), sU 18 _ (by omega) (by omega), sU 19 _ (by omega) (by omega), sV t 20 0 v (by omega)]; exact a5 v hv⟩
  have S2 := S1.next (by rw [hk]; rfl) (by rw [hk]; rfl) (by omega)
  exact RelB.one (V := st (st V 5 0 0 (n % 16) (V 19 t 0 r)) 4 0 0 1 (nI (n + 1))) (U := st (st U 26 0 0 (n % 16) (V 19 t 0 r)) 0 0 0 24 (nI (n + 1))) (t := t) (B := B) ⟨by omega, by omega⟩ (hG2.fr goV_o goU_o) (fun t' h1 _ => hT2 t' h1) (fun t' _ h2 => goV_o.same h2) (fun t' _ h2 => goU_o.same h2) (S2.go (by omega))
/-- the branch of a word whose register isn't above 0, or of a middle word -/
theorem br_45 {q : Nat} {k x : Int32} (ht : t < 4) (h6 : U 6 0 0 t = nI p) (hk : k ≠ 11) (hk3 : k ≠ 13) (h : fX6_partner U (nI t) (nI p) 0 = some (nI q)) : fX6_branch U (nI t) k x = some (goU U t (nI (q + 1))) := by
  unfold fX6_branch
  rw [gd_of (inb_nI ht (by decide)), nI_clamp (by omega), h6, if_neg hk, if_neg hk3]
  unfold fX6_branch_J45
  rw [if_neg hk, h, ob_e, nI_1, X6_go ht, ob_e]
theorem br_if {r : Nat} {k : Int32} (ht : t < 4) (hr : r < 4) (h6 : U 6 0 0 t = nI p) (hk : k = 11 ∨ k = 13) : fX6_branch U (nI t) k (nI r) = if U 8 0 0 (4 * t + r) ≤ 0 then fX6_branch_J45 U (nI t) k (nI p) else some (goU U t (nI (p + 1))) := by
  unfold fX6_branch
  rw [gd_of (inb_nI ht (by decide)), nI_clamp (by omega), h6]
  have e : fX6_branch_J20 U (nI t) k (nI r) (nI p) = if U 8 0 0 (4 * t + r) ≤ 0 then fX6_branch_J45 U (nI t) k (nI p) else some (goU U t (nI (p + 1))) := by
    unfold fX6_branch_J20
    rw [ix_4, gd_of (inb_nI (show 4 * t + r < 16 by omega) (by decide)), nI_clamp (by omega), nI_1, X6_go ht, ob_e]
  rcases hk with z | z
  · rw [if_pos z, e]
  · subst z
    rw [if_neg (by decide), if_pos rfl, e]
theorem Ctx.goto (C : Ctx B c n ver t V U K L p) {q : Nat} (hq : q ≤ L) (S : SD c ver t V U K L q (dep K q)) (hc : fX5_doWord V t = some (0, goV V t (nI q))) (hu : fX6_step U (nI t) = some (0, goU U t (nI q))) : StepOK B t V U :=
  ⟨0, _, _, hc, hu, i0, C.fin goV_o goU_o (S.go hq)⟩
theorem W_11 (C : Ctx B c n ver t V U K L p) (hk : K p = 11) : StepOK B t V U := by
  obtain ⟨e1, e2, w⟩ := C.ab
  rw [hk] at w
  obtain ⟨r, hr, ea⟩ := w.2.1 (by omega)
  have ht := C.t4
  have hpL := C.pL
  have hL := C.L30
  have hcc := dW_11 C.p30 C.cp (C.ck hk)
  have hmm := mS_11 C.t4 C.p30 C.mr C.mp (C.mk hk)
  rw [ea, rvI hr, ob_e] at hcc
  rw [← e1, ea, br_if (k := nI 11) ht hr C.mp (Or.inl rfl), C.rg hr] at hmm
  by_cases hx : V 19 t 0 r ≤ 0
  · rw [if_pos hx] at hcc hmm
    obtain ⟨e, he, b1, b2, b3⟩ := C.sd.2.1.2.1 p hpL (by rw [hk]; rfl)
    unfold fX3_elsewhere fX3_secondPart at hcc
    unfold fX6_branch_J45 at hmm
    rw [if_pos (show nI 11 = 11 from rfl)] at hmm
    rw [X3_middleOf_ok C.p30, ob_e] at hcc
    rcases b3 with ⟨m1, m2⟩ | ⟨m, m1, m2, m3, m4⟩
    · rw [m1, if_pos rfl, X3_at_ok C.p30 (by decide), ob_e, b1, ob_e, nI_1, X4_go] at hcc
      rw [X6_pt_none ht hL C.sd.1.mok C.sd.1.2.2.1 he b2 m2, ob_e, nI_1, X6_go ht, ob_e, ob_e] at hmm
      exact C.goto (by omega) (C.sd.past b2) hcc hmm
    · rw [m2, if_neg (nI_nm1 (by omega)), X3_at_ok C.p30 (by decide), ob_e, m2, ob_e, ob_e, nI_1, X4_go] at hcc
      rw [X6_pt_half ht hL C.sd.1.mok C.sd.1.2.2.1 he b2 m3 m1, ob_e, nI_1, X6_go ht, ob_e, ob_e] at hmm
      exact C.goto (by omega) (C.sd.half m3 (by omega)) hcc hmm
  · rw [if_neg hx] at hcc hmm
    rw [nI_1, X4_go] at hcc
    exact C.goto (by omega) (C.sd.into (Or.inl hk)) hcc hmm
theorem W_13 (C : Ctx B c n ver t V U K L p) (hk : K p = 13) : StepOK B t V U := by
  obtain ⟨e1, e2, w⟩ := C.ab
  rw [hk] at w
  obtain ⟨r, hr, ea⟩ := w.2.1 (by omega)
  have ht := C.t4
  have hpL := C.pL
  have hL := C.L30
  have hcc := dW_13 C.p30 C.cp (C.ck hk)
  have hmm := mS_13 C.t4 C.p30 C.mr C.mp (C.mk hk)
  rw [ea, rvI hr, ob_e] at hcc
  rw [← e1, ea, br_if (k := nI 13) ht hr C.mp (Or.inr rfl), C.rg hr] at hmm
  by_cases hx : V 19 t 0 r ≤ 0
  · rw [if_pos hx] at hcc hmm
    obtain ⟨e, he, hcl⟩ := C.sd.2.1.2.1 p hpL (by rw [hk]; rfl)
    have m1 := (end_noflag C.good he hcl (Or.inr hk)).1
    obtain ⟨b1, b2, b3⟩ := hcl
    unfold fX3_elsewhere fX3_secondPart at hcc
    unfold fX6_branch_J45 at hmm
    rw [if_neg (show ¬ nI 13 = 11 by decide)] at hmm
    rw [X3_middleOf_ok C.p30, ob_e, m1, if_pos rfl, X3_at_ok C.p30 (by decide), ob_e, b1, ob_e, nI_1, X4_go] at hcc
    rw [X6_pt_end ht hL C.sd.1.mok C.sd.1.2.2.1 he b2, ob_e, nI_1, X6_go ht, ob_e, ob_e] at hmm
    exact C.goto (by omega) (C.sd.past b2) hcc hmm
  · rw [if_neg hx] at hcc hmm
    rw [nI_1, X4_go] at hcc
    exact C.goto (by omega) (C.sd.into (Or.inr hk)) hcc hmm
/-- a middle word, its opener and its END -/
theorem Conn.two (h : Conn V t K L) (hp : p < L) (hm : midk (K p) = true) : ∃ o e, o < p ∧ p < e ∧ e < L ∧ V 15 t 0 p = nI o ∧ V 17 t 0 o = nI e ∧ MIDr K o p ∧ ENDr K o e := by
  obtain ⟨o, a1, a2⟩ := (h.2.2 p hp).2 hm
  have hop := a2.2.2.1
  obtain ⟨e, b1, b2, b3, -⟩ := h.2.1 o (by omega) a2.1
  refine ⟨o, e, hop, ?_, b1, a1, b2, a2, b3⟩
  rcases Nat.lt_trichotomy p e with q | q | q
  · exact q
  · subst q
    have := mid_no hm
    exact absurd b3.2.1 this.2
  · exfalso
    have hl : dep K o < dep K p := by rw [a2.2.2.2.1]; omega
    have hx := (lvl_in hl (r := e + 1) (by rw [a2.2.2.2.2.1]; have := b3.2.2.1; omega) (by omega)).1
    rw [b3.dep1] at hx
    omega
theorem SD.out {o e : Nat} (h : SD c ver t V U K L p (dep K o)) (hd : dep K o < dep K p) (ho : opnr K p (dep K o) = o) (he : ENDr K o e) : SD c ver t V U K L (e + 1) (dep K (e + 1)) := by
  rw [he.dep1]
  have hx := agr_lvl hd
  rw [ho] at hx
  exact h.agr (hx.tr he.agr1.sym)
theorem W_12 (C : Ctx B c n ver t V U K L p) (hk : K p = 12) : StepOK B t V U := by
  have ht := C.t4
  have hpL := C.pL
  have hL := C.L30
  have hmd : midk (K p) = true := by rw [hk]; rfl
  obtain ⟨o, e, h1, h2, h3, h4, h5, h6, h7⟩ := C.sd.2.1.two hpL hmd
  have hcc := dW_12 C.p30 C.cp (C.ck hk)
  have hmm := mS_12 C.t4 C.p30 C.mr C.mp (C.mk hk)
  unfold fX3_behindEnd at hcc
  rw [X3_at_ok C.p30 (by decide), ob_e, h4, X3_at_ok (show o < 30 by omega) (by decide), ob_e, h5, ob_e, nI_1, X4_go] at hcc
  rw [br_45 ht C.mp (by decide) (by decide) (X6_pt_mid ht hL C.sd.1.mok C.sd.1.2.2.1 h3 h7 h6 h2), ob_e] at hmm
  have hko : K o = 11 := by
    have := mid_kind C.good hpL h6
    omega
  have S := C.sd
  rw [h6.2.2.2.1] at S
  have S2 := S.dn (isM_f (by rw [h6.2.2.2.2.1]; exact Or.inl hko))
  exact C.goto (by omega) (S2.out (by rw [h6.2.2.2.1]; omega) h6.2.2.2.2.1 h7) hcc hmm
theorem W_7x (C : Ctx B c n ver t V U K L p) (hk : K p = 7) : ∃ o, o < p ∧ ENDr K o p ∧ fX5_doWord V t = (if nI (K o) = 6 then ob (fX5_hasStaleReads V t) (fun r9 => if r9 = 0 then fX5_commit V t else fX4_discard V t) else if nI (K o) = 13 then some (0, goV V t (nI o)) else some (0, goV V t (nI (p + 1)))) ∧ fX6_step U (nI t) = (if nI (K o) = 6 then fX6_commit U (nI t) else if nI (K o) = 13 then some (0, goU U t (nI o)) else some (0, goU U t (nI (p + 1)))) := by
  have ht := C.t4
  have hpL := C.pL
  have hL := C.L30
  obtain ⟨o, h1, h2⟩ := (C.sd.2.1.2.2 p hpL).1 hk
  have hop := h2.2.2.1
  refine ⟨o, hop, h2, ?_, ?_⟩
  · rw [dW_7 C.p30 C.cp (C.ck hk)]
    unfold fX5_doEnd
    rw [C.cp, X3_openerOf_ok C.p30, ob_e, h1, X3_kindAt_ok (show o < 30 by omega), ob_e, (C.sd.1.kok o (by omega)).1, nI_1]
    simp only [X4_go, ob2_id, ob2_e]
  · rw [mS_7 C.t4 C.p30 C.mr C.mp (C.mk hk)]
    unfold fX6_end
    rw [gd_of (inb_nI ht (by decide)), nI_clamp (by omega), C.mp, X6_origin_ok ht C.sd.1.mok C.p30 h2, ob_e, ix_30, gd_of (inb_nI (show 30 * t + o < 120 by omega) (by decide)), nI_clamp (by omega), (C.sd.1.mok o (by omega)).1, gd_of (inb_nI ht (by decide)), nI_1, ob2_id, X6_go ht, X6_go ht, ob_e, ob_e]
theorem W_7 (C : Ctx B c n ver t V U K L p) (hk : K p = 7) (h6 : ∀ o, ENDr K o p → K o ≠ 6) : StepOK B t V U := by
  have hpL := C.pL
  obtain ⟨o, hop, he, hcc, hmm⟩ := W_7x C hk
  have h16 : K o ≤ 16 := (C.sd.1.kok o (by have := C.p30; omega)).2
  have hn6 := h6 o he
  have hne : ¬ nI (K o) = 6 := nI_ne (b := 6) (by omega) (by decide) hn6
  rw [if_neg hne] at hcc hmm
  have hM : isM K p (dep K o) = false := by
    have hoo := he.1
    unfold opn at hoo
    simp only [Bool.or_eq_true, beq_iff_eq] at hoo
    by_cases q : K o = 9 ∨ K o = 15
    · exact isM_g (by rw [he.2.2.2.2]; exact hn6) (end_flag C.good hpL he q)
    · exact isM_f (by rw [he.2.2.2.2]; omega)
  have S := C.sd
  rw [he.2.2.2.1] at S
  have S2 := S.dn hM
  have hd : dep K o < dep K p := by rw [he.2.2.2.1]; omega
  by_cases q : K o = 13
  · rw [if_pos (by rw [q]; rfl)] at hcc hmm
    have hx := agr_lvl hd
    rw [he.2.2.2.2] at hx
    exact C.goto (by omega) (S2.agr hx) hcc hmm
  · have hne2 : ¬ nI (K o) = 13 := nI_ne (b := 13) (by omega) (by decide) q
    rw [if_neg hne2] at hcc hmm
    exact C.goto (by omega) (S2.out hd he.2.2.2.2 he) hcc hmm
end W0
