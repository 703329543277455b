theorem nI_lt5 {d : Nat} (h : d < 2 ^ 31) : (nI d < 5) = (d < 5) := propext (nI_ltI (b := 5) h (by decide))
theorem nI_eq0 {d : Nat} (h : d < 2 ^ 31) : (nI d = 0) = (d = 0) := propext (nI_eq (b := 0) h (by decide))
theorem X3_wrong {V : Sto} {t p k : Nat} {K : Nat → Nat} (hk : kok V t K) (hp : p ≤ 30) (h : jop V t K p) (h16 : k ≤ 16) : fX3_isWrong V t (nI k) = some (bI (wrF k (dep K p) (ins K p (dep K p)) (hw K p 9) (hw K p 11) (hw K p 15))) := by
  have A := X3_atom hk hp h
  have H9 : fX3_lacksMiddle V t 9 = some (bI (hw K p 9)) := X3_lacks (k := 9) hk hp h (by decide)
  have H11 : fX3_lacksMiddle V t 11 = some (bI (hw K p 11)) := X3_lacks (k := 11) hk hp h (by decide)
  have H15 : fX3_lacksMiddle V t 15 = some (bI (hw K p 15)) := X3_lacks (k := 15) hk hp h (by decide)
  unfold fX3_isWrong
  rw [A, H9, H11, H15, h.1]
  have hd5 := h.2.1
  generalize ins K p (dep K p) = a
  generalize hw K p 9 = h9
  generalize hw K p 11 = h11
  generalize hw K p 15 = h15
  generalize dep K p = d at hd5 ⊢
  have e5 := nI_lt5 (d := d) (by omega)
  have e0 := nI_eq0 (d := d) (by omega)
  simp only [e5, e0, ob_e]
  rcases k16 h16 with rfl | rfl | rfl | rfl | rfl | rfl | rfl | rfl | rfl | rfl | rfl | rfl | rfl | rfl | rfl | rfl | rfl
  · rfl
  · rfl
  · rfl
  · rw [if_pos (by decide)]; cases a <;> rfl
  · rw [if_neg (by decide), if_pos (by decide)]; cases a <;> rfl
  · rw [if_neg (by decide), if_neg (by decide), if_pos (by decide)]; cases a <;> rfl
  · rw [if_neg (by decide), if_neg (by decide), if_neg (by decide), if_pos (by decide)]
    cases a <;> by_cases q : d < 5 <;> simp [wrF, bI, q] <;> omega
  · rw [if_neg (by decide), if_neg (by decide), if_neg (by decide), if_neg (by decide), if_pos (by decide)]
    cases h9 <;> cases h15 <;> by_cases q : d = 0 <;> simp [wrF, bI, q]
  · rw [if_neg (by decide), if_neg (by decide), if_neg (by decide), if_neg (by decide), if_neg (by decide), if_pos (by decide)]; cases a <;> rfl
  · rw [if_neg (by decide), if_neg (by decide), if_neg (by decide), if_neg (by decide), if_neg (by decide), if_neg (by decide), if_pos (by decide)]
    cases a <;> by_cases q : d < 5 <;> simp [wrF, bI, q] <;> omega
  · rw [if_neg (by decide), if_neg (by decide), if_neg (by decide), if_neg (by decide), if_neg (by decide), if_neg (by decide), if_neg (by decide), if_pos (by decide)]; cases h9 <;> rfl
  · rw [if_neg (by decide), if_neg (by decide), if_neg (by decide), if_neg (by decide), if_neg (by decide), if_neg (by decide), if_neg (by decide), if_neg (by decide), if_pos (by decide)]
    by_cases q : d < 5 <;> simp [wrF, bI, q] <;> omega
  · rw [if_neg (by decide), if_neg (by decide), if_neg (by decide), if_neg (by decide), if_neg (by decide), if_neg (by decide), if_neg (by decide), if_neg (by decide), if_neg (by decide), if_pos (by decide)]; cases h11 <;> rfl
  · rw [if_neg (by decide), if_neg (by decide), if_neg (by decide), if_neg (by decide), if_neg (by decide), if_neg (by decide), if_neg (by decide), if_neg (by decide), if_neg (by decide), if_neg (by decide), if_pos (by decide)]
    by_cases q : d < 5 <;> simp [wrF, bI, q] <;> omega
  · rfl
  · rw [if_neg (by decide), if_neg (by decide), if_neg (by decide), if_neg (by decide), if_neg (by decide), if_neg (by decide), if_neg (by decide), if_neg (by decide), if_neg (by decide), if_neg (by decide), if_neg (by decide), if_neg (by decide), if_pos (by decide)]
    by_cases q : d < 5 <;> simp [wrF, bI, q] <;> omega
  · rw [if_neg (by decide), if_neg (by decide), if_neg (by decide), if_neg (by decide), if_neg (by decide), if_neg (by decide), if_neg (by decide), if_neg (by decide), if_neg (by decide), if_neg (by decide), if_neg (by decide), if_neg (by decide), if_neg (by decide), if_pos (by decide)]; cases h15 <;> rfl
/-- what going through the list may change -/
def frG (V V' : Sto) (t : Nat) : Prop := ∀ c t' i j, ¬ (t' = t ∧ (c = 15 ∨ c = 16 ∨ c = 17 ∨ c = 18 ∨ (c = 11 ∧ j = 7))) → V' c t' i j = V c t' i j
theorem frG.rf {V : Sto} {t : Nat} : frG V V t := fun _ _ _ _ _ => rfl
theorem frG.tr {V V1 V2 : Sto} {t : Nat} (h : frG V V1 t) (h2 : frG V1 V2 t) : frG V V2 t := fun c t' i j q => (h2 c t' i j q).trans (h c t' i j q)
theorem frG.st {V : Sto} {t c i j : Nat} {x : Int32} (h : c = 15 ∨ c = 16 ∨ c = 17 ∨ c = 18 ∨ (c = 11 ∧ j = 7)) : frG V (st V c t i j x) t := fun c' t' i' j' q => by
  rw [st_get, if_neg]
  rintro ⟨rfl, rfl, rfl, rfl⟩
  exact q ⟨rfl, h⟩
theorem frG.kok {V V' : Sto} {t : Nat} {K : Nat → Nat} (h : frG V V' t) (hk : kok V t K) : kok V' t K := fun j hj => by
  rw [h 12 t 0 j (by omega)]; exact hk j hj
def jmd (V : Sto) (t : Nat) (K : Nat → Nat) (p : Nat) : Prop := ∀ i, i < dep K p → flg K p i = true → ∃ m, m < p ∧ V 16 t 0 (opnr K p i) = nI m ∧ MIDr K (opnr K p i) m
def clo (V : Sto) (t : Nat) (K : Nat → Nat) (o e : Nat) : Prop := V 17 t 0 o = nI e ∧ ENDr K o e ∧ ((V 16 t 0 o = -1 ∧ flg K e (dep K o) = false) ∨ ∃ m, m < e ∧ V 16 t 0 o = nI m ∧ MIDr K o m ∧ flg K e (dep K o) = true)
def jcl (V : Sto) (t : Nat) (K : Nat → Nat) (p : Nat) : Prop := ∀ o, o < p → opn (K o) = true → (∃ i, i < dep K p ∧ opnr K p i = o) ∨ ∃ e, e < p ∧ clo V t K o e
def jen (V : Sto) (t : Nat) (K : Nat → Nat) (p : Nat) : Prop := ∀ q, q < p → (K q = 7 → ∃ o, V 15 t 0 q = nI o ∧ ENDr K o q) ∧ (midk (K q) = true → ∃ o, V 15 t 0 q = nI o ∧ MIDr K o q)
def Jn (V : Sto) (t : Nat) (K : Nat → Nat) (p : Nat) : Prop := jop V t K p ∧ jmd V t K p ∧ jcl V t K p ∧ jen V t K p
theorem lvl_ne {K : Nat → Nat} {p i j : Nat} (hi : i < dep K p) (hj : j < dep K p) (h : i ≠ j) : opnr K p i ≠ opnr K p j := fun q => h (by rw [← lvl_dep hi, q, lvl_dep hj])
theorem clo_ne {V : Sto} {t : Nat} {K : Nat → Nat} {p i o e : Nat} (hi : i < dep K p) (h : clo V t K o e) (he : e < p) : o ≠ opnr K p i := by
  rintro rfl
  have h1 := h.2.1.dep1
  have h2 := (lvl_in hi (r := e + 1) (by have := h.2.1.2.2.1; omega) (by omega)).1
  have h3 := lvl_dep hi
  omega
theorem Jn_open {V : Sto} {t p : Nat} {K : Nat → Nat} (hp : p < 30) (h : Jn V t K p) (ho : opn (K p) = true) (hd : dep K p < 5) : fX3_connectOpener V t (nI p) = some (st (st (st V 16 t 0 p (-1)) 18 t 0 (dep K p) (nI p)) 11 t 0 7 (nI (dep K p + 1))) ∧ Jn (st (st (st V 16 t 0 p (-1)) 18 t 0 (dep K p) (nI p)) 11 t 0 7 (nI (dep K p + 1))) t K (p + 1) := by
  obtain ⟨⟨h1, h2, h3, h4⟩, h5, h6, h7⟩ := h
  constructor
  · unfold fX3_connectOpener
    rw [h1, if_neg (show ¬ (5 : Int32) ≤ nI (dep K p) from nI_ge (b := 5) hd (by decide)), gd_of (inb_nI hp (by decide)), bnd_e, nI_clamp (by omega), st_nc (by decide), h1, gd_of (inb_nI hd (by decide)), bnd_e, nI_clamp (by omega), st_nc (by decide), st_nc (by decide), h1, bnd_e, nI_1]
  · have r16 : ∀ o, o ≠ p → st (st (st V 16 t 0 p (-1)) 18 t 0 (dep K p) (nI p)) 11 t 0 7 (nI (dep K p + 1)) 16 t 0 o = V 16 t 0 o := fun o q => by rw [st_nc (by decide), st_nc (by decide), st_nj q]
    have r17 : ∀ o, st (st (st V 16 t 0 p (-1)) 18 t 0 (dep K p) (nI p)) 11 t 0 7 (nI (dep K p + 1)) 17 t 0 o = V 17 t 0 o := fun o => by rw [st_nc (by decide), st_nc (by decide), st_nc (by decide)]
    have r15 : ∀ o, st (st (st V 16 t 0 p (-1)) 18 t 0 (dep K p) (nI p)) 11 t 0 7 (nI (dep K p + 1)) 15 t 0 o = V 15 t 0 o := fun o => by rw [st_nc (by decide), st_nc (by decide), st_nc (by decide)]
    have hop : ∀ i, i < dep K p → opnr K (p + 1) i = opnr K p i := fun i hi => by rw [opnr_o ho, upN_n (by omega)]
    refine ⟨⟨?_, ?_, fun i hi => ?_, fun i hi => ?_⟩, fun i hi hf => ?_, fun o hop2 hoo => ?_, fun q hq => ?_⟩
    · rw [st_eq, dep_o ho]
    · rw [dep_o ho]; omega
    · rw [dep_o ho] at hi
      rw [st_nc (by decide)]
      by_cases hi2 : i = dep K p
      · rw [hi2, st_eq, opnr_o ho, upN_s]
      · rw [st_nj hi2, st_nc (by decide), hop i (by omega)]; exact h3 i (by omega)
    · rw [dep_o ho] at hi
      by_cases hi2 : i = dep K p
      · rw [hi2, opnr_o ho, upN_s, flg_o ho, upN_s, st_nc (by decide), st_nc (by decide), st_eq]
        exact ⟨fun _ => rfl, fun _ => rfl⟩
      · have hi3 : i < dep K p := by omega
        rw [hop i hi3, r16 _ (Nat.ne_of_lt (lvl_lt hi3)), flg_o ho, upN_n hi2]; exact h4 i hi3
    · rw [dep_o ho] at hi
      by_cases hi2 : i = dep K p
      · rw [hi2, flg_o ho, upN_s] at hf; cases hf
      · have hi3 : i < dep K p := by omega
        rw [flg_o ho, upN_n hi2] at hf
        obtain ⟨m, a1, a2, a3⟩ := h5 i hi3 hf
        rw [hop i hi3, r16 _ (Nat.ne_of_lt (lvl_lt hi3))]
        exact ⟨m, by omega, a2, a3⟩
    · by_cases q : o = p
      · subst q
        exact Or.inl ⟨dep K o, by rw [dep_o ho]; omega, by rw [opnr_o ho, upN_s]⟩
      · rcases h6 o (by omega) hoo with ⟨i, a1, a2⟩ | ⟨e, a1, a2, a3, a4⟩
        · exact Or.inl ⟨i, by rw [dep_o ho]; omega, by rw [hop i a1]; exact a2⟩
        · exact Or.inr ⟨e, by omega, by rw [r17]; exact a2, a3, by rw [r16 o q]; exact a4⟩
    · by_cases z : q = p
      · subst z
        exact ⟨fun z => (by rw [opn_7 z] at ho; cases ho), fun z => (by rw [(mid_no z).1] at ho; cases ho)⟩
      · rw [r15]; exact h7 q (by omega)
theorem Jn_mid {V : Sto} {t p o : Nat} {K : Nat → Nat} (hp : p < 30) (h : Jn V t K p) (hm : MIDr K o p) : fX3_connectTo V t 16 30 (nI p) = some (st (st V 16 t 0 o (nI p)) 15 t 0 p (nI o)) ∧ Jn (st (st V 16 t 0 o (nI p)) 15 t 0 p (nI o)) t K (p + 1) := by
  have hj := h.1
  obtain ⟨⟨h1, h2, h3, h4⟩, h5, h6, h7⟩ := h
  obtain ⟨m1, m2, m3, m4, m5, m6⟩ := id hm
  have hn := mid_no m2
  have hdd : dep K (p + 1) = dep K p := dep_n hn.1 hn.2
  have hoo : opnr K (p + 1) = opnr K p := opnr_n hn.1
  have hl : dep K o < dep K p := by omega
  have e1 : dep K p - 1 = dep K o := by omega
  constructor
  · unfold fX3_connectTo
    rw [X3_inner hj, if_pos (by omega), ob_e, e1, m5, if_neg (nI_pos (by omega)), if_neg (nI_ge (show o < 30 by omega) (by decide)), gd_of (inb_nI (by omega) (by decide)), bnd_e, gd_of (inb_nI hp (by decide)), bnd_e, nI_clamp (by omega), nI_clamp (by omega)]
  · have r16 : ∀ o', o' ≠ o → st (st V 16 t 0 o (nI p)) 15 t 0 p (nI o) 16 t 0 o' = V 16 t 0 o' := fun o' q => by rw [st_nc (by decide), st_nj q]
    have r16e : st (st V 16 t 0 o (nI p)) 15 t 0 p (nI o) 16 t 0 o = nI p := by rw [st_nc (by decide), st_eq]
    have r17 : ∀ o', st (st V 16 t 0 o (nI p)) 15 t 0 p (nI o) 17 t 0 o' = V 17 t 0 o' := fun o' => by rw [st_nc (by decide), st_nc (by decide)]
    have hne : ∀ i, i < dep K p → i ≠ dep K o → opnr K p i ≠ o := fun i hi q z => lvl_ne hi hl q (z.trans m5.symm)
    refine ⟨⟨?_, ?_, fun i hi => ?_, fun i hi => ?_⟩, fun i hi hf => ?_, fun o' ho1 ho2 => ?_, fun q hq => ?_⟩
    · rw [st_nc (by decide), st_nc (by decide), hdd]; exact h1
    · rw [hdd]; exact h2
    · rw [hdd] at hi; rw [st_nc (by decide), st_nc (by decide), hoo]; exact h3 i hi
    · rw [hdd] at hi
      rw [hoo, flg_m hn.1 m2, e1]
      by_cases q : i = dep K o
      · rw [q, m5, r16e, upN_s]
        exact ⟨fun z => absurd z (nI_nm1 (by omega)), fun z => by cases z⟩
      · rw [r16 _ (hne i hi q), upN_n q]; exact h4 i hi
    · rw [hdd] at hi
      rw [flg_m hn.1 m2, e1] at hf
      rw [hoo]
      by_cases q : i = dep K o
      · rw [q, m5]
        exact ⟨p, by omega, r16e, hm⟩
      · rw [upN_n q] at hf
        obtain ⟨m, a1, a2, a3⟩ := h5 i hi hf
        exact ⟨m, by omega, by rw [r16 _ (hne i hi q)]; exact a2, a3⟩
    · by_cases q : o' = p
      · subst q; rw [hn.1] at ho2; cases ho2
      · rcases h6 o' (by omega) ho2 with ⟨i, a1, a2⟩ | ⟨e, a1, a2⟩
        · exact Or.inl ⟨i, by rw [hdd]; exact a1, by rw [hoo]; exact a2⟩
        · have hx : o' ≠ o := by
            have := clo_ne hl a2 a1
            rw [m5] at this
            exact this
          exact Or.inr ⟨e, by omega, by rw [r17]; exact a2.1, a2.2.1, by rw [r16 o' hx]; exact a2.2.2⟩
    · by_cases z : q = p
      · subst z
        exact ⟨fun z => absurd z hn.2, fun _ => ⟨o, st_eq, hm⟩⟩
      · rw [st_nj z, st_nc (by decide)]; exact h7 q (by omega)
theorem Jn_end {V : Sto} {t p o : Nat} {K : Nat → Nat} (hp : p < 30) (h : Jn V t K p) (hm : ENDr K o p) : fX3_connectTo V t 17 30 (nI p) = some (st (st V 17 t 0 o (nI p)) 15 t 0 p (nI o)) ∧ Jn (st (st (st V 17 t 0 o (nI p)) 15 t 0 p (nI o)) 11 t 0 7 (nI (dep K p - 1))) t K (p + 1) := by
  have hj := h.1
  obtain ⟨⟨h1, h2, h3, h4⟩, h5, h6, h7⟩ := h
  obtain ⟨m1, m2, m3, m4, m5⟩ := id hm
  have hno := opn_7 (K := K) m2
  have hnm := mid_7 (K := K) m2
  have hdd : dep K (p + 1) = dep K p - 1 := dep_e m2
  have hoo : opnr K (p + 1) = opnr K p := opnr_n hno
  have hff : flg K (p + 1) = flg K p := flg_n hno hnm
  have hl : dep K o < dep K p := by omega
  have e1 : dep K p - 1 = dep K o := by omega
  constructor
  · unfold fX3_connectTo
    rw [X3_inner hj, if_pos (by omega), ob_e, e1, m5, if_neg (nI_pos (by omega)), if_neg (nI_ge (show o < 30 by omega) (by decide)), gd_of (inb_nI (by omega) (by decide)), bnd_e, gd_of (inb_nI hp (by decide)), bnd_e, nI_clamp (by omega), nI_clamp (by omega)]
  · generalize hV : st (st (st V 17 t 0 o (nI p)) 15 t 0 p (nI o)) 11 t 0 7 (nI (dep K p - 1)) = V2
    have r16 : ∀ o', V2 16 t 0 o' = V 16 t 0 o' := fun o' => by rw [← hV, st_nc (by decide), st_nc (by decide), st_nc (by decide)]
    have r17 : ∀ o', o' ≠ o → V2 17 t 0 o' = V 17 t 0 o' := fun o' q => by rw [← hV, st_nc (by decide), st_nc (by decide), st_nj q]
    have r17e : V2 17 t 0 o = nI p := by rw [← hV, st_nc (by decide), st_nc (by decide), st_eq]
    refine ⟨⟨?_, ?_, fun i hi => ?_, fun i hi => ?_⟩, fun i hi hf => ?_, fun o' ho1 ho2 => ?_, fun q hq => ?_⟩
    · rw [hdd, ← hV, st_eq]
    · rw [hdd]; omega
    · rw [hdd] at hi; rw [← hV, st_nc (by decide), st_nc (by decide), st_nc (by decide), hoo]; exact h3 i (by omega)
    · rw [hdd] at hi; rw [r16, hoo, hff]; exact h4 i (by omega)
    · rw [hdd] at hi; rw [hff] at hf; rw [hoo, r16]
      obtain ⟨m, a1, a2, a3⟩ := h5 i (by omega) hf
      exact ⟨m, by omega, a2, a3⟩
    · by_cases q : o' = p
      · subst q; rw [hno] at ho2; cases ho2
      · rcases h6 o' (by omega) ho2 with ⟨i, a1, a2⟩ | ⟨e, a1, a2⟩
        · by_cases hi : i = dep K o
          · right
            have q2 : o' = o := by rw [← a2, hi, m5]
            subst q2
            refine ⟨p, by omega, r17e, hm, ?_⟩
            cases hf : flg K p (dep K o') with
            | false => exact Or.inl ⟨by rw [r16]; have := (h4 _ hl).mpr hf; rw [m5] at this; exact this, rfl⟩
            | true =>
              obtain ⟨m, b1, b2, b3⟩ := h5 _ hl hf
              rw [m5] at b2 b3
              exact Or.inr ⟨m, b1, by rw [r16]; exact b2, b3, rfl⟩
          · exact Or.inl ⟨i, by omega, by rw [hoo]; exact a2⟩
        · have hx : o' ≠ o := by
            have := clo_ne hl a2 a1
            rw [m5] at this
            exact this
          exact Or.inr ⟨e, by omega, by rw [r17 o' hx]; exact a2.1, a2.2.1, by rw [r16]; exact a2.2.2⟩
    · by_cases z : q = p
      · subst z
        exact ⟨fun _ => ⟨o, by rw [← hV, st_nc (by decide), st_eq], hm⟩, fun z => by rw [hnm] at z; cases z⟩
      · rw [← hV, st_nc (by decide), st_nj z, st_nc (by decide)]; exact h7 q (by omega)
theorem Jn_plain {V : Sto} {t p : Nat} {K : Nat → Nat} (h : Jn V t K p) (ho : opn (K p) = false) (h7 : K p ≠ 7) (hm : midk (K p) = false) : Jn V t K (p + 1) := by
  obtain ⟨⟨h1, h2, h3, h4⟩, h5, h6, h8⟩ := h
  have hdd : dep K (p + 1) = dep K p := dep_n ho h7
  have hoo : opnr K (p + 1) = opnr K p := opnr_n ho
  have hff : flg K (p + 1) = flg K p := flg_n ho hm
  refine ⟨⟨by rw [hdd]; exact h1, by rw [hdd]; exact h2, by rw [hdd, hoo]; exact h3, by rw [hdd, hoo, hff]; exact h4⟩, fun i hi hf => ?_, fun o ho1 ho2 => ?_, fun q hq => ?_⟩
  · rw [hdd] at hi; rw [hff] at hf; rw [hoo]
    obtain ⟨m, a1, a2, a3⟩ := h5 i hi hf
    exact ⟨m, by omega, a2, a3⟩
  · by_cases q : o = p
    · subst q; rw [ho] at ho2; cases ho2
    · rcases h6 o (by omega) ho2 with ⟨i, a1, a2⟩ | ⟨e, a1, a2⟩
      · exact Or.inl ⟨i, by rw [hdd]; exact a1, by rw [hoo]; exact a2⟩
      · exact Or.inr ⟨e, by omega, a2⟩
  · by_cases z : q = p
    · subst z; exact ⟨fun z => absurd z h7, fun z => by rw [hm] at z; cases z⟩
    · exact h8 q (by omega)
