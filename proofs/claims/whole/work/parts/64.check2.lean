theorem X3_connect_ok {V : Sto} {t p : Nat} {K : Nat → Nat} (hk : kok V t K) (hp : p < 30) (h : Jn V t K p) (hw : wrg K p = false) : ∃ V', fX3_connect V t (nI p) = some V' ∧ frG V V' t ∧ Jn V' t K (p + 1) := by
  obtain ⟨e1, e2⟩ := hk p hp
  have pl : ∀ (_ : opn (K p) = false) (_ : K p ≠ 7) (_ : midk (K p) = false), Jn V t K (p + 1) := fun a b c => Jn_plain h a b c
  have op : ∀ (_ : opn (K p) = true), ∃ V', fX3_connectOpener V t (nI p) = some V' ∧ frG V V' t ∧ Jn V' t K (p + 1) := fun a => by
    obtain ⟨b1, b2⟩ := Jn_open hp h a (wrg_dep e2 hw a)
    exact ⟨_, b1, ((frG.st (by omega)).tr (frG.st (by omega))).tr (frG.st (by omega)), b2⟩
  have md : ∀ (_ : midk (K p) = true), ∃ V', fX3_connectTo V t 16 30 (nI p) = some V' ∧ frG V V' t ∧ Jn V' t K (p + 1) := fun a => by
    obtain ⟨o, c1, -⟩ := wrg_mid a hw
    obtain ⟨b1, b2⟩ := Jn_mid hp h c1
    exact ⟨_, b1, (frG.st (by omega)).tr (frG.st (by omega)), b2⟩
  unfold fX3_connect
  rw [X3_kindAt_ok hp, e1, ob_e]
  generalize hkk : K p = k at *
  rcases k16 e2 with rfl | rfl | rfl | rfl | rfl | rfl | rfl | rfl | rfl | rfl | rfl | rfl | rfl | rfl | rfl | rfl | rfl
  · exact ⟨V, rfl, frG.rf, pl rfl (by decide) rfl⟩
  · exact ⟨V, rfl, frG.rf, pl rfl (by decide) rfl⟩
  · exact ⟨V, rfl, frG.rf, pl rfl (by decide) rfl⟩
  · exact ⟨V, rfl, frG.rf, pl rfl (by decide) rfl⟩
  · exact ⟨V, rfl, frG.rf, pl rfl (by decide) rfl⟩
  · exact ⟨V, rfl, frG.rf, pl rfl (by decide) rfl⟩
  · obtain ⟨V', b1, b2, b3⟩ := op rfl
    exact ⟨V', by rw [if_pos (by decide), b1]; rfl, b2, b3⟩
  · obtain ⟨b1, b2⟩ := Jn_end hp h (wrg_endr hkk hw).1
    refine ⟨_, ?_, ((frG.st (by omega)).tr (frG.st (by omega))).tr (frG.st (by omega)), b2⟩
    have hd := (wrg_end hkk hw).1
    rw [if_neg (by decide), if_pos (by decide), b1, ob_e, bnd_e, st_nc (by decide), st_nc (by decide), h.1.1, nI_s1 hd]
  · exact ⟨V, rfl, frG.rf, pl rfl (by decide) rfl⟩
  · obtain ⟨V', b1, b2, b3⟩ := op rfl
    exact ⟨V', by rw [if_neg (by decide), if_neg (by decide), if_neg (by decide), if_pos (by decide), b1]; rfl, b2, b3⟩
  · obtain ⟨V', b1, b2, b3⟩ := md rfl
    exact ⟨V', by rw [if_neg (by decide), if_neg (by decide), if_neg (by decide), if_neg (by decide), if_pos (by decide), b1]; rfl, b2, b3⟩
  · obtain ⟨V', b1, b2, b3⟩ := op rfl
    exact ⟨V', by rw [if_neg (by decide), if_neg (by decide), if_neg (by decide), if_neg (by decide), if_neg (by decide), if_pos (by decide), b1]; rfl, b2, b3⟩
  · obtain ⟨V', b1, b2, b3⟩ := md rfl
    exact ⟨V', by rw [if_neg (by decide), if_neg (by decide), if_neg (by decide), if_neg (by decide), if_neg (by decide), if_neg (by decide), if_pos (by decide), b1]; rfl, b2, b3⟩
  · obtain ⟨V', b1, b2, b3⟩ := op rfl
    exact ⟨V', by rw [if_neg (by decide), if_neg (by decide), if_neg (by decide), if_neg (by decide), if_neg (by decide), if_neg (by decide), if_neg (by decide), if_pos (by decide), b1]; rfl, b2, b3⟩
  · exact ⟨V, rfl, frG.rf, pl rfl (by decide) rfl⟩
  · obtain ⟨V', b1, b2, b3⟩ := op rfl
    exact ⟨V', by rw [if_neg (by decide), if_neg (by decide), if_neg (by decide), if_neg (by decide), if_neg (by decide), if_neg (by decide), if_neg (by decide), if_neg (by decide), if_neg (by decide), if_pos (by decide), b1]; rfl, b2, b3⟩
  · obtain ⟨V', b1, b2, b3⟩ := md rfl
    exact ⟨V', by rw [if_neg (by decide), if_neg (by decide), if_neg (by decide), if_neg (by decide), if_neg (by decide), if_neg (by decide), if_neg (by decide), if_neg (by decide), if_neg (by decide), if_neg (by decide), if_pos (by decide), b1]; rfl, b2, b3⟩
/-- what a check answers, from place p on, with m words left -/
def chk (K : Nat → Nat) : Nat → Nat → Int32
  | 0, p => if dep K p = 0 then -1 else nI p
  | m + 1, p => if wrg K p = true then nI p else chk K m (p + 1)
def Good (K : Nat → Nat) (L : Nat) : Prop := (∀ p, p < L → wrg K p = false) ∧ dep K L = 0
theorem chk_good {K : Nat → Nat} : ∀ (m p : Nat), m + p ≤ 30 → chk K m p = -1 → (∀ q, p ≤ q → q < p + m → wrg K q = false) ∧ dep K (p + m) = 0 := by
  intro m
  induction m with
  | zero =>
    intro p hp h
    simp only [chk] at h
    by_cases h0 : dep K p = 0
    · exact ⟨fun q a b => by omega, h0⟩
    · rw [if_neg h0] at h; exact absurd h (nI_nm1 (by omega))
  | succ m ih =>
    intro p hp h
    simp only [chk] at h
    by_cases h0 : wrg K p = true
    · rw [if_pos h0] at h; exact absurd h (nI_nm1 (by omega))
    · rw [if_neg h0] at h
      obtain ⟨a, b⟩ := ih (p + 1) (by omega) h
      refine ⟨fun q h1 h2 => ?_, by rw [show p + (m + 1) = p + 1 + m by omega]; exact b⟩
      by_cases hq : q = p
      · rw [hq]; exact Bool.eq_false_iff.mpr h0
      · exact a q (by omega) (by omega)
theorem chk_of_good {K : Nat → Nat} : ∀ (m p : Nat), (∀ q, p ≤ q → q < p + m → wrg K q = false) → dep K (p + m) = 0 → chk K m p = -1 := by
  intro m
  induction m with
  | zero => intro p _ h; simp only [chk]; rw [if_pos (show dep K p = 0 from h)]
  | succ m ih =>
    intro p h1 h2
    simp only [chk]
    rw [if_neg (by rw [h1 p (by omega) (by omega)]; decide)]
    exact ih (p + 1) (fun q a b => h1 q (by omega) (by omega)) (by rw [show p + 1 + m = p + (m + 1) by omega]; exact h2)
theorem X3_go_L {t L : Nat} {K : Nat → Nat} (hL : L ≤ 30) : ∀ (n p : Nat) (V : Sto), p ≤ L → L < p + n → kok V t K → V 11 t 0 8 = nI L → Jn V t K p → ∃ V', fX3_goThrough_L7 n V t (nI p) = some (chk K (L - p) p, V') ∧ frG V V' t ∧ (chk K (L - p) p = -1 → Jn V' t K L) := by
  intro n
  induction n with
  | zero => intro p V h1 h2; omega
  | succ n ih =>
    intro p V h1 h2 hk hl hj
    rw [fX3_goThrough_L7, hl]
    by_cases hp : L ≤ p
    · have e : p = L := by omega
      subst e
      rw [if_pos (nI_le hp (by omega)), hj.1.1, Nat.sub_self]
      simp only [nI_eq0 (d := dep K p) (by have := hj.1.2.1; omega)]
      refine ⟨V, ?_, frG.rf, fun _ => hj⟩
      simp only [chk]
      split <;> rfl
    · have hp2 : p < 30 := by omega
      obtain ⟨e1, e2⟩ := hk p hp2
      rw [if_neg (nI_ge (show p < L by omega) (by omega)), X3_kindAt_ok hp2, ob_e, e1, X3_wrong hk (by omega) hj.1 e2, ob_e]
      have hs : L - p = (L - (p + 1)) + 1 := by omega
      rw [hs]
      simp only [chk]
      show ∃ V', (if bI (wrg K p) = 0 then _ else _) = _ ∧ _
      cases hwr : wrg K p with
      | true =>
        rw [if_neg (by decide), if_pos rfl]
        exact ⟨V, rfl, frG.rf, fun q => absurd q (nI_nm1 (by omega))⟩
      | false =>
        obtain ⟨V1, c1, c2, c3⟩ := X3_connect_ok hk hp2 hj hwr
        rw [if_pos (by decide), c1, ob_e, nI_1, if_neg (by decide)]
        obtain ⟨V', d1, d2, d3⟩ := ih (p + 1) V1 (by omega) (by omega) (c2.kok hk) (by rw [c2 11 t 0 8 (by omega)]; exact hl) c3
        exact ⟨V', d1, c2.tr d2, d3⟩
theorem Jn_0 {V : Sto} {t : Nat} {K : Nat → Nat} : Jn (st V 11 t 0 7 0) t K 0 := by
  refine ⟨⟨by rw [st_eq]; rfl, by simp [dep], fun i hi => ?_, fun i hi => ?_⟩, fun i hi => ?_, fun o ho => ?_, fun q hq => ?_⟩
  · simp [dep] at hi
  · simp [dep] at hi
  · simp [dep] at hi
  · omega
  · omega
theorem X3_go {V : Sto} {t L : Nat} {K : Nat → Nat} (hL : L ≤ 30) (hk : kok V t K) (hl : V 11 t 0 8 = nI L) : ∃ V', fX3_goThrough V t = some (chk K L 0, V') ∧ frG V V' t ∧ (chk K L 0 = -1 → Jn V' t K L) := by
  unfold fX3_goThrough
  rw [bnd_e]
  have f0 : frG V (st V 11 t 0 7 0) t := frG.st (by omega)
  obtain ⟨V', a, b, c⟩ := X3_go_L hL 40 0 (st V 11 t 0 7 0) (by omega) (by omega) (f0.kok hk) (by rw [f0 11 t 0 8 (by omega)]; exact hl) Jn_0
  exact ⟨V', a, f0.tr b, c⟩
/-! the reference's side -/
def frH (U U' : Sto) : Prop := ∀ c i j k, c ≠ 27 → c ≠ 28 → U' c i j k = U c i j k
theorem frH.rf {U : Sto} : frH U U := fun _ _ _ _ _ _ => rfl
theorem frH.tr {U U1 U2 : Sto} (h : frH U U1) (h2 : frH U1 U2) : frH U U2 := fun c i j k a b => (h2 c i j k a b).trans (h c i j k a b)
theorem frH.st {U : Sto} {c t i j : Nat} {x : Int32} (h : c = 27 ∨ c = 28) : frH U (st U c t i j x) := fun c' t' i' j' a b => by
  rw [st_nc (by omega)]
def mok (U : Sto) (t : Nat) (K : Nat → Nat) : Prop := ∀ j, j < 30 → U 1 0 0 (30 * t + j) = nI (K j) ∧ K j ≤ 16
def mop (U : Sto) (K : Nat → Nat) (p : Nat) : Prop := dep K p ≤ 5 ∧ ∀ i, i < dep K p → U 27 0 0 i = nI (K (opnr K p i)) ∧ U 28 0 0 i = bI (flg K p i)
theorem X6_out_4 {U : Sto} {x : Int32} {n : Nat} (hn : n < 2 ^ 31) : fX6_out U x (nI n) = some (if x < 0 ∨ nI n ≤ x then 1 else 0) := by
  unfold fX6_out
  by_cases h : x < 0
  · rw [if_pos h, if_pos (Or.inl h)]
  · by_cases h2 : nI n ≤ x
    · rw [if_neg h, if_neg (fun q => absurd h2 (Int32.not_le.mpr q)), if_pos (Or.inr h2)]
    · rw [if_neg h, if_pos (Int32.not_le.mp h2), if_neg (fun q => q.elim h h2)]
theorem X6_opens_ok {U : Sto} {k : Nat} (h : k ≤ 16) : fX6_opens U (nI k) = some (bI (opn k)) := by
  unfold fX6_opens
  rcases k16 h with rfl | rfl | rfl | rfl | rfl | rfl | rfl | rfl | rfl | rfl | rfl | rfl | rfl | rfl | rfl | rfl | rfl <;> rfl
theorem X6_half {U : Sto} {p k : Nat} {K : Nat → Nat} (hK : ∀ j, j < p → K j ≤ 16) (h : mop U K p) (h16 : k ≤ 16) : fX6_halfway U (nI (dep K p)) (nI k) = some (bI (hw K p k)) := by
  unfold fX6_halfway
  by_cases hd : 0 < dep K p
  · have hl : dep K p - 1 < dep K p := by omega
    obtain ⟨a, b⟩ := h.2 _ hl
    have h5 := h.1
    rw [if_neg (show ¬ nI (dep K p) ≤ 0 from nI_nle hd (by omega)), nI_s1 hd, gd_of (inb_nI (by omega) (by decide)), nI_clamp (by omega), a]
    by_cases hq : K (opnr K p (dep K p - 1)) = k
    · rw [if_pos (by rw [hq]), gd_of (inb_nI (by omega) (by decide)), b]
      cases hf : flg K p (dep K p - 1) with
      | true => rw [if_neg (by decide)]; simp [hw, hd, hq, hf, bI]
      | false => rw [if_pos (by decide)]; simp [hw, hd, hq, hf, bI]
    · rw [if_neg (nI_ne (by have := hK _ (lvl_lt hl); omega) (by omega) hq)]
      simp [hw, hq, bI]
  · have e : dep K p = 0 := by omega
    rw [e, if_pos (by decide)]
    simp [hw, e, bI]
