def ECx (cy : Nat → ClassId) (a : Id3 → Nat) (f : Nat → Int32) (c t i : Nat) : va_E := match c with
  | 0 => .inr (5, [.ref (a (1, 0, 0)), .ref (a (4, 0, 0)), .ref (a (6, 0, 0))])
  | 1 => .inr (1, [.ref (a (2, 0, 0)), .ref (a (3, 0, 0)), .int (f 2)])
  | 2 => .inl (cy 0, 8, .inl f)
  | 3 => .inl (cy 0, 8, .inl f)
  | 4 => .inr (2, [.ref (a (5, 0, 0)), .int (f 1)])
  | 5 => .inl (cy 0, 16, .inl f)
  | 6 => .inl (cy 3, 4, .inr (.inr (.inr (.inr (fun j => some (a (10, j, 0)))))))
  | 10 => .inr (4, [.ref (a (11, t, 0)), .ref (a (19, t, 0)), .ref (a (20, t, 0)), .ref (a (21, t, 0)), .int (f 4), .int (f 5), .int (f 6), .int (f 7), .int (f 8), .int (f 9), .int (f 10), .int (f 11)])
  | 11 => .inr (3, [.ref (a (12, t, 0)), .ref (a (13, t, 0)), .ref (a (14, t, 0)), .ref (a (15, t, 0)), .ref (a (16, t, 0)), .ref (a (17, t, 0)), .ref (a (18, t, 0)), .int (f 7), .int (f 8)])
  | 12 => .inl (cy 0, 30, .inl f)
  | 13 => .inl (cy 0, 30, .inl f)
  | 14 => .inl (cy 0, 30, .inl f)
  | 15 => .inl (cy 0, 30, .inl f)
  | 16 => .inl (cy 0, 30, .inl f)
  | 17 => .inl (cy 0, 30, .inl f)
  | 18 => .inl (cy 0, 5, .inl f)
  | 19 => .inl (cy 0, 4, .inl f)
  | 20 => .inl (cy 0, 8, .inl f)
  | 21 => .inl (cy 2, 5, .inr (.inr (.inr (.inr (fun j => some (a (22, t, j)))))))
  | 22 => .inr (0, [.ref (a (23, t, i)), .ref (a (24, t, i)), .int (f 2), .int (f 3)])
  | 23 => .inl (cy 0, 4, .inl f)
  | 24 => .inl (cy 0, 8, .inl f)
  | _ => .inl (cy 0, 0, .inl (fun _ => 0))
def EC : Shp := fun cy a V q => ECx cy a (V q.1 q.2.1 q.2.2) q.1 q.2.1 q.2.2
theorem EC_l : Lcl EC := fun cy a _ _ c t i h => congrArg (fun f => ECx cy a f c t i) h
def idC : List Id3 := [(0, 0, 0), (1, 0, 0), (2, 0, 0), (3, 0, 0), (4, 0, 0), (5, 0, 0), (6, 0, 0), (10, 0, 0), (11, 0, 0), (12, 0, 0), (13, 0, 0), (14, 0, 0), (15, 0, 0), (16, 0, 0), (17, 0, 0), (18, 0, 0), (19, 0, 0), (20, 0, 0), (21, 0, 0), (22, 0, 0), (23, 0, 0), (24, 0, 0), (22, 0, 1), (23, 0, 1), (24, 0, 1), (22, 0, 2), (23, 0, 2), (24, 0, 2), (22, 0, 3), (23, 0, 3), (24, 0, 3), (22, 0, 4), (23, 0, 4), (24, 0, 4), (10, 1, 0), (11, 1, 0), (12, 1, 0), (13, 1, 0), (14, 1, 0), (15, 1, 0), (16, 1, 0), (17, 1, 0), (18, 1, 0), (19, 1, 0), (20, 1, 0), (21, 1, 0), (22, 1, 0), (23, 1, 0), (24, 1, 0), (22, 1, 1), (23, 1, 1), (24, 1, 1), (22, 1, 2), (23, 1, 2), (24, 1, 2), (22, 1, 3), (23, 1, 3), (24, 1, 3), (22, 1, 4), (23, 1, 4), (24, 1, 4), (10, 2, 0), (11, 2, 0), (12, 2, 0), (13, 2, 0), (14, 2, 0), (15, 2, 0), (16, 2, 0), (17, 2, 0), (18, 2, 0), (19, 2, 0), (20, 2, 0), (21, 2, 0), (22, 2, 0), (23, 2, 0), (24, 2, 0), (22, 2, 1), (23, 2, 1), (24, 2, 1), (22, 2, 2), (23, 2, 2), (24, 2, 2), (22, 2, 3), (23, 2, 3), (24, 2, 3), (22, 2, 4), (23, 2, 4), (24, 2, 4), (10, 3, 0), (11, 3, 0), (12, 3, 0), (13, 3, 0), (14, 3, 0), (15, 3, 0), (16, 3, 0), (17, 3, 0), (18, 3, 0), (19, 3, 0), (20, 3, 0), (21, 3, 0), (22, 3, 0), (23, 3, 0), (24, 3, 0), (22, 3, 1), (23, 3, 1), (24, 3, 1), (22, 3, 2), (23, 3, 2), (24, 3, 2), (22, 3, 3), (23, 3, 3), (24, 3, 3), (22, 3, 4), (23, 3, 4), (24, 3, 4)]
theorem idC_n : idC.Nodup := by decide +kernel
theorem iC0 : (0, 0, 0) ∈ idC := by decide +kernel
theorem eC0 {cy : Nat → ClassId} {a : Id3 → Nat} {V : Sto} {t i : Nat} : EC cy a V (0, t, i) = .inr (5, [.ref (a (1, 0, 0)), .ref (a (4, 0, 0)), .ref (a (6, 0, 0))]) := rfl
theorem iC1 : (1, 0, 0) ∈ idC := by decide +kernel
theorem eC1 {cy : Nat → ClassId} {a : Id3 → Nat} {V : Sto} {t i : Nat} : EC cy a V (1, t, i) = .inr (1, [.ref (a (2, 0, 0)), .ref (a (3, 0, 0)), .int (V 1 t i 2)]) := rfl
theorem uC1_2 {cy : Nat → ClassId} {a : Id3 → Nat} {V : Sto} {t i : Nat} {x : Int32} : EC cy a (st V 1 t i 2 x) (1, t, i) = .inr (1, ([.ref (a (2, 0, 0)), .ref (a (3, 0, 0)), .int (V 1 t i 2)] : List Value).set 2 (.int x)) := by
  show ECx cy a (upS V 1 t i (upd (V 1 t i) 2 x) 1 t i) 1 t i = _
  rw [upS_same]
  rfl
theorem iC2 : (2, 0, 0) ∈ idC := by decide +kernel
theorem aC2 {t i : Nat} : isAI EC 2 t i 8 := fun _ _ _ => rfl
theorem iC3 : (3, 0, 0) ∈ idC := by decide +kernel
theorem aC3 {t i : Nat} : isAI EC 3 t i 8 := fun _ _ _ => rfl
theorem iC4 : (4, 0, 0) ∈ idC := by decide +kernel
theorem eC4 {cy : Nat → ClassId} {a : Id3 → Nat} {V : Sto} {t i : Nat} : EC cy a V (4, t, i) = .inr (2, [.ref (a (5, 0, 0)), .int (V 4 t i 1)]) := rfl
theorem uC4_1 {cy : Nat → ClassId} {a : Id3 → Nat} {V : Sto} {t i : Nat} {x : Int32} : EC cy a (st V 4 t i 1 x) (4, t, i) = .inr (2, ([.ref (a (5, 0, 0)), .int (V 4 t i 1)] : List Value).set 1 (.int x)) := by
  show ECx cy a (upS V 4 t i (upd (V 4 t i) 1 x) 4 t i) 4 t i = _
  rw [upS_same]
  rfl
theorem iC5 : (5, 0, 0) ∈ idC := by decide +kernel
theorem aC5 {t i : Nat} : isAI EC 5 t i 16 := fun _ _ _ => rfl
theorem iC6 : (6, 0, 0) ∈ idC := by decide +kernel
theorem qC6 {cy : Nat → ClassId} {a : Id3 → Nat} {V : Sto} {t i : Nat} : EC cy a V (6, t, i) = .inl (cy 3, 4, .inr (.inr (.inr (.inr (fun j => some (a ((fun j => (10, j, 0)) j))))))) := rfl
theorem iC10 {t : Nat} (h : t < 4) : (10, t, 0) ∈ idC := (by decide +kernel : ∀ t, t < 4 → (10, t, 0) ∈ idC) t h
theorem eC10 {cy : Nat → ClassId} {a : Id3 → Nat} {V : Sto} {t i : Nat} : EC cy a V (10, t, i) = .inr (4, [.ref (a (11, t, 0)), .ref (a (19, t, 0)), .ref (a (20, t, 0)), .ref (a (21, t, 0)), .int (V 10 t i 4), .int (V 10 t i 5), .int (V 10 t i 6), .int (V 10 t i 7), .int (V 10 t i 8), .int (V 10 t i 9), .int (V 10 t i 10), .int (V 10 t i 11)]) := rfl
theorem uC10_4 {cy : Nat → ClassId} {a : Id3 → Nat} {V : Sto} {t i : Nat} {x : Int32} : EC cy a (st V 10 t i 4 x) (10, t, i) = .inr (4, ([.ref (a (11, t, 0)), .ref (a (19, t, 0)), .ref (a (20, t, 0)), .ref (a (21, t, 0)), .int (V 10 t i 4), .int (V 10 t i 5), .int (V 10 t i 6), .int (V 10 t i 7), .int (V 10 t i 8), .int (V 10 t i 9), .int (V 10 t i 10), .int (V 10 t i 11)] : List Value).set 4 (.int x)) := by
  show ECx cy a (upS V 10 t i (upd (V 10 t i) 4 x) 10 t i) 10 t i = _
  rw [upS_same]
  rfl
theorem uC10_5 {cy : Nat → ClassId} {a : Id3 → Nat} {V : Sto} {t i : Nat} {x : Int32} : EC cy a (st V 10 t i 5 x) (10, t, i) = .inr (4, ([.ref (a (11, t, 0)), .ref (a (19, t, 0)), .ref (a (20, t, 0)), .ref (a (21, t, 0)), .int (V 10 t i 4), .int (V 10 t i 5), .int (V 10 t i 6), .int (V 10 t i 7), .int (V 10 t i 8), .int (V 10 t i 9), .int (V 10 t i 10), .int (V 10 t i 11)] : List Value).set 5 (.int x)) := by
  show ECx cy a (upS V 10 t i (upd (V 10 t i) 5 x) 10 t i) 10 t i = _
  rw [upS_same]
  rfl
theorem uC10_6 {cy : Nat → ClassId} {a : Id3 → Nat} {V : Sto} {t i : Nat} {x : Int32} : EC cy a (st V 10 t i 6 x) (10, t, i) = .inr (4, ([.ref (a (11, t, 0)), .ref (a (19, t, 0)), .ref (a (20, t, 0)), .ref (a (21, t, 0)), .int (V 10 t i 4), .int (V 10 t i 5), .int (V 10 t i 6), .int (V 10 t i 7), .int (V 10 t i 8), .int (V 10 t i 9), .int (V 10 t i 10), .int (V 10 t i 11)] : List Value).set 6 (.int x)) := by
  show ECx cy a (upS V 10 t i (upd (V 10 t i) 6 x) 10 t i) 10 t i = _
  rw [upS_same]
  rfl
theorem uC10_7 {cy : Nat → ClassId} {a : Id3 → Nat} {V : Sto} {t i : Nat} {x : Int32} : EC cy a (st V 10 t i 7 x) (10, t, i) = .inr (4, ([.ref (a (11, t, 0)), .ref (a (19, t, 0)), .ref (a (20, t, 0)), .ref (a (21, t, 0)), .int (V 10 t i 4), .int (V 10 t i 5), .int (V 10 t i 6), .int (V 10 t i 7), .int (V 10 t i 8), .int (V 10 t i 9), .int (V 10 t i 10), .int (V 10 t i 11)] : List Value).set 7 (.int x)) := by
  show ECx cy a (upS V 10 t i (upd (V 10 t i) 7 x) 10 t i) 10 t i = _
  rw [upS_same]
  rfl
theorem uC10_8 {cy : Nat → ClassId} {a : Id3 → Nat} {V : Sto} {t i : Nat} {x : Int32} : EC cy a (st V 10 t i 8 x) (10, t, i) = .inr (4, ([.ref (a (11, t, 0)), .ref (a (19, t, 0)), .ref (a (20, t, 0)), .ref (a (21, t, 0)), .int (V 10 t i 4), .int (V 10 t i 5), .int (V 10 t i 6), .int (V 10 t i 7), .int (V 10 t i 8), .int (V 10 t i 9), .int (V 10 t i 10), .int (V 10 t i 11)] : List Value).set 8 (.int x)) := by
  show ECx cy a (upS V 10 t i (upd (V 10 t i) 8 x) 10 t i) 10 t i = _
  rw [upS_same]
  rfl
theorem uC10_9 {cy : Nat → ClassId} {a : Id3 → Nat} {V : Sto} {t i : Nat} {x : Int32} : EC cy a (st V 10 t i 9 x) (10, t, i) = .inr (4, ([.ref (a (11, t, 0)), .ref (a (19, t, 0)), .ref (a (20, t, 0)), .ref (a (21, t, 0)), .int (V 10 t i 4), .int (V 10 t i 5), .int (V 10 t i 6), .int (V 10 t i 7), .int (V 10 t i 8), .int (V 10 t i 9), .int (V 10 t i 10), .int (V 10 t i 11)] : List Value).set 9 (.int x)) := by
  show ECx cy a (upS V 10 t i (upd (V 10 t i) 9 x) 10 t i) 10 t i = _
  rw [upS_same]
  rfl
theorem uC10_10 {cy : Nat → ClassId} {a : Id3 → Nat} {V : Sto} {t i : Nat} {x : Int32} : EC cy a (st V 10 t i 10 x) (10, t, i) = .inr (4, ([.ref (a (11, t, 0)), .ref (a (19, t, 0)), .ref (a (20, t, 0)), .ref (a (21, t, 0)), .int (V 10 t i 4), .int (V 10 t i 5), .int (V 10 t i 6), .int (V 10 t i 7), .int (V 10 t i 8), .int (V 10 t i 9), .int (V 10 t i 10), .int (V 10 t i 11)] : List Value).set 10 (.int x)) := by
  show ECx cy a (upS V 10 t i (upd (V 10 t i) 10 x) 10 t i) 10 t i = _
  rw [upS_same]
  rfl
theorem uC10_11 {cy : Nat → ClassId} {a : Id3 → Nat} {V : Sto} {t i : Nat} {x : Int32} : EC cy a (st V 10 t i 11 x) (10, t, i) = .inr (4, ([.ref (a (11, t, 0)), .ref (a (19, t, 0)), .ref (a (20, t, 0)), .ref (a (21, t, 0)), .int (V 10 t i 4), .int (V 10 t i 5), .int (V 10 t i 6), .int (V 10 t i 7), .int (V 10 t i 8), .int (V 10 t i 9), .int (V 10 t i 10), .int (V 10 t i 11)] : List Value).set 11 (.int x)) := by
  show ECx cy a (upS V 10 t i (upd (V 10 t i) 11 x) 10 t i) 10 t i = _
  rw [upS_same]
  rfl
theorem iC11 {t : Nat} (h : t < 4) : (11, t, 0) ∈ idC := (by decide +kernel : ∀ t, t < 4 → (11, t, 0) ∈ idC) t h
theorem eC11 {cy : Nat → ClassId} {a : Id3 → Nat} {V : Sto} {t i : Nat} : EC cy a V (11, t, i) = .inr (3, [.ref (a (12, t, 0)), .ref (a (13, t, 0)), .ref (a (14, t, 0)), .ref (a (15, t, 0)), .ref (a (16, t, 0)), .ref (a (17, t, 0)), .ref (a (18, t, 0)), .int (V 11 t i 7), .int (V 11 t i 8)]) := rfl
theorem uC11_7 {cy : Nat → ClassId} {a : Id3 → Nat} {V : Sto} {t i : Nat} {x : Int32} : EC cy a (st V 11 t i 7 x) (11, t, i) = .inr (3, ([.ref (a (12, t, 0)), .ref (a (13, t, 0)), .ref (a (14, t, 0)), .ref (a (15, t, 0)), .ref (a (16, t, 0)), .ref (a (17, t, 0)), .ref (a (18, t, 0)), .int (V 11 t i 7), .int (V 11 t i 8)] : List Value).set 7 (.int x)) := by
  show ECx cy a (upS V 11 t i (upd (V 11 t i) 7 x) 11 t i) 11 t i = _
  rw [upS_same]
  rfl
theorem uC11_8 {cy : Nat → ClassId} {a : Id3 → Nat} {V : Sto} {t i : Nat} {x : Int32} : EC cy a (st V 11 t i 8 x) (11, t, i) = .inr (3, ([.ref (a (12, t, 0)), .ref (a (13, t, 0)), .ref (a (14, t, 0)), .ref (a (15, t, 0)), .ref (a (16, t, 0)), .ref (a (17, t, 0)), .ref (a (18, t, 0)), .int (V 11 t i 7), .int (V 11 t i 8)] : List Value).set 8 (.int x)) := by
  show ECx cy a (upS V 11 t i (upd (V 11 t i) 8 x) 11 t i) 11 t i = _
  rw [upS_same]
  rfl
theorem iC12 {t : Nat} (h : t < 4) : (12, t, 0) ∈ idC := (by decide +kernel : ∀ t, t < 4 → (12, t, 0) ∈ idC) t h
theorem aC12 {t i : Nat} : isAI EC 12 t i 30 := fun _ _ _ => rfl
theorem iC13 {t : Nat} (h : t < 4) : (13, t, 0) ∈ idC := (by decide +kernel : ∀ t, t < 4 → (13, t, 0) ∈ idC) t h
theorem aC13 {t i : Nat} : isAI EC 13 t i 30 := fun _ _ _ => rfl
theorem iC14 {t : Nat} (h : t < 4) : (14, t, 0) ∈ idC := (by decide +kernel : ∀ t, t < 4 → (14, t, 0) ∈ idC) t h
theorem aC14 {t i : Nat} : isAI EC 14 t i 30 := fun _ _ _ => rfl
theorem iC15 {t : Nat} (h : t < 4) : (15, t, 0) ∈ idC := (by decide +kernel : ∀ t, t < 4 → (15, t, 0) ∈ idC) t h
theorem aC15 {t i : Nat} : isAI EC 15 t i 30 := fun _ _ _ => rfl
theorem iC16 {t : Nat} (h : t < 4) : (16, t, 0) ∈ idC := (by decide +kernel : ∀ t, t < 4 → (16, t, 0) ∈ idC) t h
theorem aC16 {t i : Nat} : isAI EC 16 t i 30 := fun _ _ _ => rfl
theorem iC17 {t : Nat} (h : t < 4) : (17, t, 0) ∈ idC := (by decide +kernel : ∀ t, t < 4 → (17, t, 0) ∈ idC) t h
theorem aC17 {t i : Nat} : isAI EC 17 t i 30 := fun _ _ _ => rfl
theorem iC18 {t : Nat} (h : t < 4) : (18, t, 0) ∈ idC := (by decide +kernel : ∀ t, t < 4 → (18, t, 0) ∈ idC) t h
theorem aC18 {t i : Nat} : isAI EC 18 t i 5 := fun _ _ _ => rfl
theorem iC19 {t : Nat} (h : t < 4) : (19, t, 0) ∈ idC := (by decide +kernel : ∀ t, t < 4 → (19, t, 0) ∈ idC) t h
theorem aC19 {t i : Nat} : isAI EC 19 t i 4 := fun _ _ _ => rfl
theorem iC20 {t : Nat} (h : t < 4) : (20, t, 0) ∈ idC := (by decide +kernel : ∀ t, t < 4 → (20, t, 0) ∈ idC) t h
theorem aC20 {t i : Nat} : isAI EC 20 t i 8 := fun _ _ _ => rfl
theorem iC21 {t : Nat} (h : t < 4) : (21, t, 0) ∈ idC := (by decide +kernel : ∀ t, t < 4 → (21, t, 0) ∈ idC) t h
theorem qC21 {cy : Nat → ClassId} {a : Id3 → Nat} {V : Sto} {t i : Nat} : EC cy a V (21, t, i) = .inl (cy 2, 5, .inr (.inr (.inr (.inr (fun j => some (a ((fun j => (22, t, j)) j))))))) := rfl
theorem iC22 {t i : Nat} (h : t < 4) (h2 : i < 5) : (22, t, i) ∈ idC := (by decide +kernel : ∀ t, t < 4 → ∀ i, i < 5 → (22, t, i) ∈ idC) t h i h2
theorem eC22 {cy : Nat → ClassId} {a : Id3 → Nat} {V : Sto} {t i : Nat} : EC cy a V (22, t, i) = .inr (0, [.ref (a (23, t, i)), .ref (a (24, t, i)), .int (V 22 t i 2), .int (V 22 t i 3)]) := rfl
theorem uC22_2 {cy : Nat → ClassId} {a : Id3 → Nat} {V : Sto} {t i : Nat} {x : Int32} : EC cy a (st V 22 t i 2 x) (22, t, i) = .inr (0, ([.ref (a (23, t, i)), .ref (a (24, t, i)), .int (V 22 t i 2), .int (V 22 t i 3)] : List Value).set 2 (.int x)) := by
  show ECx cy a (upS V 22 t i (upd (V 22 t i) 2 x) 22 t i) 22 t i = _
  rw [upS_same]
  rfl
theorem uC22_3 {cy : Nat → ClassId} {a : Id3 → Nat} {V : Sto} {t i : Nat} {x : Int32} : EC cy a (st V 22 t i 3 x) (22, t, i) = .inr (0, ([.ref (a (23, t, i)), .ref (a (24, t, i)), .int (V 22 t i 2), .int (V 22 t i 3)] : List Value).set 3 (.int x)) := by
  show ECx cy a (upS V 22 t i (upd (V 22 t i) 3 x) 22 t i) 22 t i = _
  rw [upS_same]
  rfl
theorem iC23 {t i : Nat} (h : t < 4) (h2 : i < 5) : (23, t, i) ∈ idC := (by decide +kernel : ∀ t, t < 4 → ∀ i, i < 5 → (23, t, i) ∈ idC) t h i h2
theorem aC23 {t i : Nat} : isAI EC 23 t i 4 := fun _ _ _ => rfl
theorem iC24 {t i : Nat} (h : t < 4) (h2 : i < 5) : (24, t, i) ∈ idC := (by decide +kernel : ∀ t, t < 4 → ∀ i, i < 5 → (24, t, i) ∈ idC) t h i h2
theorem aC24 {t i : Nat} : isAI EC 24 t i 8 := fun _ _ _ => rfl
def EMx (cy : Nat → ClassId) (a : Id3 → Nat) (f : Nat → Int32) (c t i : Nat) : va_E := match c with
  | 0 => .inr (6, [.ref (a (1, 0, 0)), .ref (a (2, 0, 0)), .ref (a (3, 0, 0)), .ref (a (4, 0, 0)), .ref (a (5, 0, 0)), .ref (a (6, 0, 0)), .ref (a (7, 0, 0)), .ref (a (8, 0, 0)), .ref (a (9, 0, 0)), .ref (a (10, 0, 0)), .ref (a (11, 0, 0)), .int (f 11), .ref (a (13, 0, 0)), .ref (a (14, 0, 0)), .ref (a (15, 0, 0)), .ref (a (16, 0, 0)), .ref (a (17, 0, 0)), .ref (a (18, 0, 0)), .ref (a (19, 0, 0)), .ref (a (20, 0, 0)), .ref (a (21, 0, 0)), .ref (a (22, 0, 0)), .ref (a (23, 0, 0)), .ref (a (24, 0, 0)), .int (f 24), .ref (a (26, 0, 0)), .ref (a (27, 0, 0)), .ref (a (28, 0, 0))])
  | 1 => .inl (cy 0, 120, .inl f)
  | 2 => .inl (cy 0, 120, .inl f)
  | 3 => .inl (cy 0, 120, .inl f)
  | 4 => .inl (cy 0, 4, .inl f)
  | 5 => .inl (cy 0, 4, .inl f)
  | 6 => .inl (cy 0, 4, .inl f)
  | 7 => .inl (cy 0, 4, .inl f)
  | 8 => .inl (cy 0, 16, .inl f)
  | 9 => .inl (cy 0, 16, .inl f)
  | 10 => .inl (cy 0, 8, .inl f)
  | 11 => .inl (cy 0, 8, .inl f)
  | 13 => .inl (cy 1, 4, .inl f)
  | 14 => .inl (cy 0, 4, .inl f)
  | 15 => .inl (cy 0, 4, .inl f)
  | 16 => .inl (cy 1, 32, .inl f)
  | 17 => .inl (cy 1, 32, .inl f)
  | 18 => .inl (cy 1, 32, .inl f)
  | 19 => .inl (cy 0, 32, .inl f)
  | 20 => .inl (cy 0, 4, .inl f)
  | 21 => .inl (cy 0, 24, .inl f)
  | 22 => .inl (cy 0, 96, .inl f)
  | 23 => .inl (cy 1, 192, .inl f)
  | 24 => .inl (cy 0, 192, .inl f)
  | 26 => .inl (cy 0, 16, .inl f)
  | 27 => .inl (cy 0, 6, .inl f)
  | 28 => .inl (cy 1, 6, .inl f)
  | _ => .inl (cy 0, 0, .inl (fun _ => 0))
def EM : Shp := fun cy a V q => EMx cy a (V q.1 q.2.1 q.2.2) q.1 q.2.1 q.2.2
theorem EM_l : Lcl EM := fun cy a _ _ c t i h => congrArg (fun f => EMx cy a f c t i) h
def idM : List Id3 := [(0, 0, 0), (1, 0, 0), (2, 0, 0), (3, 0, 0), (4, 0, 0), (5, 0, 0), (6, 0, 0), (7, 0, 0), (8, 0, 0), (9, 0, 0), (10, 0, 0), (11, 0, 0), (13, 0, 0), (14, 0, 0), (15, 0, 0), (16, 0, 0), (17, 0, 0), (18, 0, 0), (19, 0, 0), (20, 0, 0), (21, 0, 0), (22, 0, 0), (23, 0, 0), (24, 0, 0), (26, 0, 0), (27, 0, 0), (28, 0, 0)]
theorem idM_n : idM.Nodup := by decide +kernel
theorem iM0 : (0, 0, 0) ∈ idM := by decide +kernel
theorem eM0 {cy : Nat → ClassId} {a : Id3 → Nat} {V : Sto} {t i : Nat} : EM cy a V (0, t, i) = .inr (6, [.ref (a (1, 0, 0)), .ref (a (2, 0, 0)), .ref (a (3, 0, 0)), .ref (a (4, 0, 0)), .ref (a (5, 0, 0)), .ref (a (6, 0, 0)), .ref (a (7, 0, 0)), .ref (a (8, 0, 0)), .ref (a (9, 0, 0)), .ref (a (10, 0, 0)), .ref (a (11, 0, 0)), .int (V 0 t i 11), .ref (a (13, 0, 0)), .ref (a (14, 0, 0)), .ref (a (15, 0, 0)), .ref (a (16, 0, 0)), .ref (a (17, 0, 0)), .ref (a (18, 0, 0)), .ref (a (19, 0, 0)), .ref (a (20, 0, 0)), .ref (a (21, 0, 0)), .ref (a (22, 0, 0)), .ref (a (23, 0, 0)), .ref (a (24, 0, 0)), .int (V 0 t i 24), .ref (a (26, 0, 0)), .ref (a (27, 0, 0)), .ref (a (28, 0, 0))]) := rfl
theorem uM0_11 {cy : Nat → ClassId} {a : Id3 → Nat} {V : Sto} {t i : Nat} {x : Int32} : EM cy a (st V 0 t i 11 x) (0, t, i) = .inr (6, ([.ref (a (1, 0, 0)), .ref (a (2, 0, 0)), .ref (a (3, 0, 0)), .ref (a (4, 0, 0)), .ref (a (5, 0, 0)), .ref (a (6, 0, 0)), .ref (a (7, 0, 0)), .ref (a (8, 0, 0)), .ref (a (9, 0, 0)), .ref (a (10, 0, 0)), .ref (a (11, 0, 0)), .int (V 0 t i 11), .ref (a (13, 0, 0)), .ref (a (14, 0, 0)), .ref (a (15, 0, 0)), .ref (a (16, 0, 0)), .ref (a (17, 0, 0)), .ref (a (18, 0, 0)), .ref (a (19, 0, 0)), .ref (a (20, 0, 0)), .ref (a (21, 0, 0)), .ref (a (22, 0, 0)), .ref (a (23, 0, 0)), .ref (a (24, 0, 0)), .int (V 0 t i 24), .ref (a (26, 0, 0)), .ref (a (27, 0, 0)), .ref (a (28, 0, 0))] : List Value).set 11 (.int x)) := by
  show EMx cy a (upS V 0 t i (upd (V 0 t i) 11 x) 0 t i) 0 t i = _
  rw [upS_same]
  rfl
theorem uM0_24 {cy : Nat → ClassId} {a : Id3 → Nat} {V : Sto} {t i : Nat} {x : Int32} : EM cy a (st V 0 t i 24 x) (0, t, i) = .inr (6, ([.ref (a (1, 0, 0)), .ref (a (2, 0, 0)), .ref (a (3, 0, 0)), .ref (a (4, 0, 0)), .ref (a (5, 0, 0)), .ref (a (6, 0, 0)), .ref (a (7, 0, 0)), .ref (a (8, 0, 0)), .ref (a (9, 0, 0)), .ref (a (10, 0, 0)), .ref (a (11, 0, 0)), .int (V 0 t i 11), .ref (a (13, 0, 0)), .ref (a (14, 0, 0)), .ref (a (15, 0, 0)), .ref (a (16, 0, 0)), .ref (a (17, 0, 0)), .ref (a (18, 0, 0)), .ref (a (19, 0, 0)), .ref (a (20, 0, 0)), .ref (a (21, 0, 0)), .ref (a (22, 0, 0)), .ref (a (23, 0, 0)), .ref (a (24, 0, 0)), .int (V 0 t i 24), .ref (a (26, 0, 0)), .ref (a (27, 0, 0)), .ref (a (28, 0, 0))] : List Value).set 24 (.int x)) := by
  show EMx cy a (upS V 0 t i (upd (V 0 t i) 24 x) 0 t i) 0 t i = _
  rw [upS_same]
  rfl
theorem iM1 : (1, 0, 0) ∈ idM := by decide +kernel
theorem aM1 {t i : Nat} : isAI EM 1 t i 120 := fun _ _ _ => rfl
theorem iM2 : (2, 0, 0) ∈ idM := by decide +kernel
theorem aM2 {t i : Nat} : isAI EM 2 t i 120 := fun _ _ _ => rfl
theorem iM3 : (3, 0, 0) ∈ idM := by decide +kernel
theorem aM3 {t i : Nat} : isAI EM 3 t i 120 := fun _ _ _ => rfl
theorem iM4 : (4, 0, 0) ∈ idM := by decide +kernel
theorem aM4 {t i : Nat} : isAI EM 4 t i 4 := fun _ _ _ => rfl
theorem iM5 : (5, 0, 0) ∈ idM := by decide +kernel
theorem aM5 {t i : Nat} : isAI EM 5 t i 4 := fun _ _ _ => rfl
theorem iM6 : (6, 0, 0) ∈ idM := by decide +kernel
theorem aM6 {t i : Nat} : isAI EM 6 t i 4 := fun _ _ _ => rfl
theorem iM7 : (7, 0, 0) ∈ idM := by decide +kernel
theorem aM7 {t i : Nat} : isAI EM 7 t i 4 := fun _ _ _ => rfl
theorem iM8 : (8, 0, 0) ∈ idM := by decide +kernel
theorem aM8 {t i : Nat} : isAI EM 8 t i 16 := fun _ _ _ => rfl
theorem iM9 : (9, 0, 0) ∈ idM := by decide +kernel
theorem aM9 {t i : Nat} : isAI EM 9 t i 16 := fun _ _ _ => rfl
theorem iM10 : (10, 0, 0) ∈ idM := by decide +kernel
theorem aM10 {t i : Nat} : isAI EM 10 t i 8 := fun _ _ _ => rfl
theorem iM11 : (11, 0, 0) ∈ idM := by decide +kernel
theorem aM11 {t i : Nat} : isAI EM 11 t i 8 := fun _ _ _ => rfl
theorem iM13 : (13, 0, 0) ∈ idM := by decide +kernel
theorem aM13 {t i : Nat} : isAZ EM 13 t i 4 := fun _ _ _ => rfl
theorem iM14 : (14, 0, 0) ∈ idM := by decide +kernel
theorem aM14 {t i : Nat} : isAI EM 14 t i 4 := fun _ _ _ => rfl
theorem iM15 : (15, 0, 0) ∈ idM := by decide +kernel
theorem aM15 {t i : Nat} : isAI EM 15 t i 4 := fun _ _ _ => rfl
theorem iM16 : (16, 0, 0) ∈ idM := by decide +kernel
theorem aM16 {t i : Nat} : isAZ EM 16 t i 32 := fun _ _ _ => rfl
theorem iM17 : (17, 0, 0) ∈ idM := by decide +kernel
theorem aM17 {t i : Nat} : isAZ EM 17 t i 32 := fun _ _ _ => rfl
theorem iM18 : (18, 0, 0) ∈ idM := by decide +kernel
theorem aM18 {t i : Nat} : isAZ EM 18 t i 32 := fun _ _ _ => rfl
theorem iM19 : (19, 0, 0) ∈ idM := by decide +kernel
theorem aM19 {t i : Nat} : isAI EM 19 t i 32 := fun _ _ _ => rfl
theorem iM20 : (20, 0, 0) ∈ idM := by decide +kernel
theorem aM20 {t i : Nat} : isAI EM 20 t i 4 := fun _ _ _ => rfl
theorem iM21 : (21, 0, 0) ∈ idM := by decide +kernel
theorem aM21 {t i : Nat} : isAI EM 21 t i 24 := fun _ _ _ => rfl
theorem iM22 : (22, 0, 0) ∈ idM := by decide +kernel
theorem aM22 {t i : Nat} : isAI EM 22 t i 96 := fun _ _ _ => rfl
theorem iM23 : (23, 0, 0) ∈ idM := by decide +kernel
theorem aM23 {t i : Nat} : isAZ EM 23 t i 192 := fun _ _ _ => rfl
theorem iM24 : (24, 0, 0) ∈ idM := by decide +kernel
theorem aM24 {t i : Nat} : isAI EM 24 t i 192 := fun _ _ _ => rfl
theorem iM26 : (26, 0, 0) ∈ idM := by decide +kernel
theorem aM26 {t i : Nat} : isAI EM 26 t i 16 := fun _ _ _ => rfl
theorem iM27 : (27, 0, 0) ∈ idM := by decide +kernel
theorem aM27 {t i : Nat} : isAI EM 27 t i 6 := fun _ _ _ => rfl
theorem iM28 : (28, 0, 0) ∈ idM := by decide +kernel
theorem aM28 {t i : Nat} : isAZ EM 28 t i 6 := fun _ _ _ => rfl
theorem vc0 : vwCl[0]? = some (RX0, TX0, 4) := rfl
theorem vc1 : vwCl[1]? = some (RX1, TX1, 3) := rfl
theorem vc2 : vwCl[2]? = some (RX2, TX2, 2) := rfl
theorem vc3 : vwCl[3]? = some (RX3, TX3, 9) := rfl
theorem vc4 : vwCl[4]? = some (RX4, TX4, 12) := rfl
theorem vc5 : vwCl[5]? = some (RX5, TX5, 3) := rfl
theorem vc6 : vwCl[6]? = some (RX6, TX6, 28) := rfl
theorem wy_X1_countCommit : Wy yX1_countCommit cX1_countCommit 1 none 0 := ⟨w_co_yX1_countCommit_cX1_countCommit_1_none, w_ini_RX1, by decide +kernel, by decide +kernel, by decide +kernel⟩
theorem wi_X1_countCommit : Cond.instanceMethod yX1_countCommit ∈ wsL_law ∧ Cond.selects yX1_countCommit.cls yX1_countCommit yX1_countCommit ∈ wsL_law := ⟨w_im_yX1_countCommit, w_se_RX1_yX1_countCommit_yX1_countCommit⟩
theorem wy_X1_change : Wy yX1_change cX1_change 3 none 2 := ⟨w_co_yX1_change_cX1_change_3_none, w_ini_RX1, by decide +kernel, by decide +kernel, by decide +kernel⟩
theorem wi_X1_change : Cond.instanceMethod yX1_change ∈ wsL_law ∧ Cond.selects yX1_change.cls yX1_change yX1_change ∈ wsL_law := ⟨w_im_yX1_change, w_se_RX1_yX1_change_yX1_change⟩
theorem wy_X1_hasChanged : Wy yX1_hasChanged cX1_hasChanged 4 (some .boolean) 2 := ⟨w_co_yX1_hasChanged_cX1_hasChanged_4_some_boolean, w_ini_RX1, by decide +kernel, by decide +kernel, by decide +kernel⟩
theorem wi_X1_hasChanged : Cond.instanceMethod yX1_hasChanged ∈ wsL_law ∧ Cond.selects yX1_hasChanged.cls yX1_hasChanged yX1_hasChanged ∈ wsL_law := ⟨w_im_yX1_hasChanged, w_se_RX1_yX1_hasChanged_yX1_hasChanged⟩
theorem wy_X2_write : Wy yX2_write cX2_write 2 none 1 := ⟨w_co_yX2_write_cX2_write_2_none, w_ini_RX2, by decide +kernel, by decide +kernel, by decide +kernel⟩
theorem wi_X2_write : Cond.instanceMethod yX2_write ∈ wsL_law ∧ Cond.selects yX2_write.cls yX2_write yX2_write ∈ wsL_law := ⟨w_im_yX2_write, w_se_RX2_yX2_write_yX2_write⟩
theorem wy_X2_latest : Wy yX2_latest cX2_latest 2 (some .int) 1 := ⟨w_co_yX2_latest_cX2_latest_2_some_int, w_ini_RX2, by decide +kernel, by decide +kernel, by decide +kernel⟩
theorem wi_X2_latest : Cond.instanceMethod yX2_latest ∈ wsL_law ∧ Cond.selects yX2_latest.cls yX2_latest yX2_latest ∈ wsL_law := ⟨w_im_yX2_latest, w_se_RX2_yX2_latest_yX2_latest⟩
theorem wy_X3_at : Wy yX3_at cX3_at 2 (some .int) 2 := ⟨w_co_yX3_at_cX3_at_2_some_int, w_ini_RX3, by decide +kernel, by decide +kernel, by decide +kernel⟩
theorem wy_X3_isFull : Wy yX3_isFull cX3_isFull 1 (some .boolean) 0 := ⟨w_co_yX3_isFull_cX3_isFull_1_some_boolean, w_ini_RX3, by decide +kernel, by decide +kernel, by decide +kernel⟩
theorem wi_X3_isFull : Cond.instanceMethod yX3_isFull ∈ wsL_law ∧ Cond.selects yX3_isFull.cls yX3_isFull yX3_isFull ∈ wsL_law := ⟨w_im_yX3_isFull, w_se_RX3_yX3_isFull_yX3_isFull⟩
theorem wy_X3_append : Wy yX3_append cX3_append 4 none 3 := ⟨w_co_yX3_append_cX3_append_4_none, w_ini_RX3, by decide +kernel, by decide +kernel, by decide +kernel⟩
theorem wi_X3_append : Cond.instanceMethod yX3_append ∈ wsL_law ∧ Cond.selects yX3_append.cls yX3_append yX3_append ∈ wsL_law := ⟨w_im_yX3_append, w_se_RX3_yX3_append_yX3_append⟩
theorem wy_X3_kindAt : Wy yX3_kindAt cX3_kindAt 2 (some .int) 1 := ⟨w_co_yX3_kindAt_cX3_kindAt_2_some_int, w_ini_RX3, by decide +kernel, by decide +kernel, by decide +kernel⟩
theorem wi_X3_kindAt : Cond.instanceMethod yX3_kindAt ∈ wsL_law ∧ Cond.selects yX3_kindAt.cls yX3_kindAt yX3_kindAt ∈ wsL_law := ⟨w_im_yX3_kindAt, w_se_RX3_yX3_kindAt_yX3_kindAt⟩
theorem wy_X3_firstAt : Wy yX3_firstAt cX3_firstAt 2 (some .int) 1 := ⟨w_co_yX3_firstAt_cX3_firstAt_2_some_int, w_ini_RX3, by decide +kernel, by decide +kernel, by decide +kernel⟩
theorem wi_X3_firstAt : Cond.instanceMethod yX3_firstAt ∈ wsL_law ∧ Cond.selects yX3_firstAt.cls yX3_firstAt yX3_firstAt ∈ wsL_law := ⟨w_im_yX3_firstAt, w_se_RX3_yX3_firstAt_yX3_firstAt⟩
theorem wy_X3_secondAt : Wy yX3_secondAt cX3_secondAt 2 (some .int) 1 := ⟨w_co_yX3_secondAt_cX3_secondAt_2_some_int, w_ini_RX3, by decide +kernel, by decide +kernel, by decide +kernel⟩
theorem wi_X3_secondAt : Cond.instanceMethod yX3_secondAt ∈ wsL_law ∧ Cond.selects yX3_secondAt.cls yX3_secondAt yX3_secondAt ∈ wsL_law := ⟨w_im_yX3_secondAt, w_se_RX3_yX3_secondAt_yX3_secondAt⟩
theorem wy_X3_openerOf : Wy yX3_openerOf cX3_openerOf 2 (some .int) 1 := ⟨w_co_yX3_openerOf_cX3_openerOf_2_some_int, w_ini_RX3, by decide +kernel, by decide +kernel, by decide +kernel⟩
theorem wi_X3_openerOf : Cond.instanceMethod yX3_openerOf ∈ wsL_law ∧ Cond.selects yX3_openerOf.cls yX3_openerOf yX3_openerOf ∈ wsL_law := ⟨w_im_yX3_openerOf, w_se_RX3_yX3_openerOf_yX3_openerOf⟩
theorem wy_X3_middleOf : Wy yX3_middleOf cX3_middleOf 2 (some .int) 1 := ⟨w_co_yX3_middleOf_cX3_middleOf_2_some_int, w_ini_RX3, by decide +kernel, by decide +kernel, by decide +kernel⟩
theorem wi_X3_middleOf : Cond.instanceMethod yX3_middleOf ∈ wsL_law ∧ Cond.selects yX3_middleOf.cls yX3_middleOf yX3_middleOf ∈ wsL_law := ⟨w_im_yX3_middleOf, w_se_RX3_yX3_middleOf_yX3_middleOf⟩
theorem wy_X3_behindEnd : Wy yX3_behindEnd cX3_behindEnd 2 (some .int) 1 := ⟨w_co_yX3_behindEnd_cX3_behindEnd_2_some_int, w_ini_RX3, by decide +kernel, by decide +kernel, by decide +kernel⟩
theorem wi_X3_behindEnd : Cond.instanceMethod yX3_behindEnd ∈ wsL_law ∧ Cond.selects yX3_behindEnd.cls yX3_behindEnd yX3_behindEnd ∈ wsL_law := ⟨w_im_yX3_behindEnd, w_se_RX3_yX3_behindEnd_yX3_behindEnd⟩
theorem wy_X3_secondPart : Wy yX3_secondPart cX3_secondPart 2 (some .int) 1 := ⟨w_co_yX3_secondPart_cX3_secondPart_2_some_int, w_ini_RX3, by decide +kernel, by decide +kernel, by decide +kernel⟩
theorem wi_X3_secondPart : Cond.instanceMethod yX3_secondPart ∈ wsL_law ∧ Cond.selects yX3_secondPart.cls yX3_secondPart yX3_secondPart ∈ wsL_law := ⟨w_im_yX3_secondPart, w_se_RX3_yX3_secondPart_yX3_secondPart⟩
theorem wy_X3_elsewhere : Wy yX3_elsewhere cX3_elsewhere 2 (some .int) 1 := ⟨w_co_yX3_elsewhere_cX3_elsewhere_2_some_int, w_ini_RX3, by decide +kernel, by decide +kernel, by decide +kernel⟩
theorem wi_X3_elsewhere : Cond.instanceMethod yX3_elsewhere ∈ wsL_law ∧ Cond.selects yX3_elsewhere.cls yX3_elsewhere yX3_elsewhere ∈ wsL_law := ⟨w_im_yX3_elsewhere, w_se_RX3_yX3_elsewhere_yX3_elsewhere⟩
theorem wy_X3_goThrough : Wy yX3_goThrough cX3_goThrough 2 (some .int) 0 := ⟨w_co_yX3_goThrough_cX3_goThrough_2_some_int, w_ini_RX3, by decide +kernel, by decide +kernel, by decide +kernel⟩
theorem wi_X3_goThrough : Cond.instanceMethod yX3_goThrough ∈ wsL_law ∧ Cond.selects yX3_goThrough.cls yX3_goThrough yX3_goThrough ∈ wsL_law := ⟨w_im_yX3_goThrough, w_se_RX3_yX3_goThrough_yX3_goThrough⟩
theorem wy_X3_isWrong : Wy yX3_isWrong cX3_isWrong 2 (some .boolean) 1 := ⟨w_co_yX3_isWrong_cX3_isWrong_2_some_boolean, w_ini_RX3, by decide +kernel, by decide +kernel, by decide +kernel⟩
theorem wi_X3_isWrong : Cond.instanceMethod yX3_isWrong ∈ wsL_law ∧ Cond.selects yX3_isWrong.cls yX3_isWrong yX3_isWrong ∈ wsL_law := ⟨w_im_yX3_isWrong, w_se_RX3_yX3_isWrong_yX3_isWrong⟩
theorem wy_X3_innermost : Wy yX3_innermost cX3_innermost 1 (some .int) 0 := ⟨w_co_yX3_innermost_cX3_innermost_1_some_int, w_ini_RX3, by decide +kernel, by decide +kernel, by decide +kernel⟩
theorem wi_X3_innermost : Cond.instanceMethod yX3_innermost ∈ wsL_law ∧ Cond.selects yX3_innermost.cls yX3_innermost yX3_innermost ∈ wsL_law := ⟨w_im_yX3_innermost, w_se_RX3_yX3_innermost_yX3_innermost⟩
theorem wy_X3_lacksMiddle : Wy yX3_lacksMiddle cX3_lacksMiddle 3 (some .boolean) 1 := ⟨w_co_yX3_lacksMiddle_cX3_lacksMiddle_3_some_boolean, w_ini_RX3, by decide +kernel, by decide +kernel, by decide +kernel⟩
theorem wi_X3_lacksMiddle : Cond.instanceMethod yX3_lacksMiddle ∈ wsL_law ∧ Cond.selects yX3_lacksMiddle.cls yX3_lacksMiddle yX3_lacksMiddle ∈ wsL_law := ⟨w_im_yX3_lacksMiddle, w_se_RX3_yX3_lacksMiddle_yX3_lacksMiddle⟩
theorem wy_X3_isAtomicOpen : Wy yX3_isAtomicOpen cX3_isAtomicOpen 2 (some .boolean) 0 := ⟨w_co_yX3_isAtomicOpen_cX3_isAtomicOpen_2_some_boolean, w_ini_RX3, by decide +kernel, by decide +kernel, by decide +kernel⟩
theorem wi_X3_isAtomicOpen : Cond.instanceMethod yX3_isAtomicOpen ∈ wsL_law ∧ Cond.selects yX3_isAtomicOpen.cls yX3_isAtomicOpen yX3_isAtomicOpen ∈ wsL_law := ⟨w_im_yX3_isAtomicOpen, w_se_RX3_yX3_isAtomicOpen_yX3_isAtomicOpen⟩
theorem wy_X3_connect : Wy yX3_connect cX3_connect 2 none 1 := ⟨w_co_yX3_connect_cX3_connect_2_none, w_ini_RX3, by decide +kernel, by decide +kernel, by decide +kernel⟩
theorem wi_X3_connect : Cond.instanceMethod yX3_connect ∈ wsL_law ∧ Cond.selects yX3_connect.cls yX3_connect yX3_connect ∈ wsL_law := ⟨w_im_yX3_connect, w_se_RX3_yX3_connect_yX3_connect⟩
theorem wy_X3_connectOpener : Wy yX3_connectOpener cX3_connectOpener 2 none 1 := ⟨w_co_yX3_connectOpener_cX3_connectOpener_2_none, w_ini_RX3, by decide +kernel, by decide +kernel, by decide +kernel⟩
theorem wi_X3_connectOpener : Cond.instanceMethod yX3_connectOpener ∈ wsL_law ∧ Cond.selects yX3_connectOpener.cls yX3_connectOpener yX3_connectOpener ∈ wsL_law := ⟨w_im_yX3_connectOpener, w_se_RX3_yX3_connectOpener_yX3_connectOpener⟩
theorem wy_X3_connectTo : Wy yX3_connectTo cX3_connectTo 4 none 2 := ⟨w_co_yX3_connectTo_cX3_connectTo_4_none, w_ini_RX3, by decide +kernel, by decide +kernel, by decide +kernel⟩
theorem wi_X3_connectTo : Cond.instanceMethod yX3_connectTo ∈ wsL_law ∧ Cond.selects yX3_connectTo.cls yX3_connectTo yX3_connectTo ∈ wsL_law := ⟨w_im_yX3_connectTo, w_se_RX3_yX3_connectTo_yX3_connectTo⟩
theorem wy_X4_isUnderWay : Wy yX4_isUnderWay cX4_isUnderWay 1 (some .boolean) 0 := ⟨w_co_yX4_isUnderWay_cX4_isUnderWay_1_some_boolean, w_ini_RX4, by decide +kernel, by decide +kernel, by decide +kernel⟩
theorem wi_X4_isUnderWay : Cond.instanceMethod yX4_isUnderWay ∈ wsL_law ∧ Cond.selects yX4_isUnderWay.cls yX4_isUnderWay yX4_isUnderWay ∈ wsL_law := ⟨w_im_yX4_isUnderWay, w_se_RX4_yX4_isUnderWay_yX4_isUnderWay⟩
theorem wy_X4_isInAttempt : Wy yX4_isInAttempt cX4_isInAttempt 1 (some .boolean) 0 := ⟨w_co_yX4_isInAttempt_cX4_isInAttempt_1_some_boolean, w_ini_RX4, by decide +kernel, by decide +kernel, by decide +kernel⟩
theorem wi_X4_isInAttempt : Cond.instanceMethod yX4_isInAttempt ∈ wsL_law ∧ Cond.selects yX4_isInAttempt.cls yX4_isInAttempt yX4_isInAttempt ∈ wsL_law := ⟨w_im_yX4_isInAttempt, w_se_RX4_yX4_isInAttempt_yX4_isInAttempt⟩
theorem wy_X4_hasWritten : Wy yX4_hasWritten cX4_hasWritten 2 (some .boolean) 1 := ⟨w_co_yX4_hasWritten_cX4_hasWritten_2_some_boolean, w_ini_RX4, by decide +kernel, by decide +kernel, by decide +kernel⟩
theorem wi_X4_hasWritten : Cond.instanceMethod yX4_hasWritten ∈ wsL_law ∧ Cond.selects yX4_hasWritten.cls yX4_hasWritten yX4_hasWritten ∈ wsL_law := ⟨w_im_yX4_hasWritten, w_se_RX4_yX4_hasWritten_yX4_hasWritten⟩
theorem wy_X4_waitsFor : Wy yX4_waitsFor cX4_waitsFor 2 (some .boolean) 1 := ⟨w_co_yX4_waitsFor_cX4_waitsFor_2_some_boolean, w_ini_RX4, by decide +kernel, by decide +kernel, by decide +kernel⟩
theorem wi_X4_waitsFor : Cond.instanceMethod yX4_waitsFor ∈ wsL_law ∧ Cond.selects yX4_waitsFor.cls yX4_waitsFor yX4_waitsFor ∈ wsL_law := ⟨w_im_yX4_waitsFor, w_se_RX4_yX4_waitsFor_yX4_waitsFor⟩
theorem wy_X4_registerValue : Wy yX4_registerValue cX4_registerValue 2 (some .int) 1 := ⟨w_co_yX4_registerValue_cX4_registerValue_2_some_int, w_ini_RX4, by decide +kernel, by decide +kernel, by decide +kernel⟩
theorem wi_X4_registerValue : Cond.instanceMethod yX4_registerValue ∈ wsL_law ∧ Cond.selects yX4_registerValue.cls yX4_registerValue yX4_registerValue ∈ wsL_law := ⟨w_im_yX4_registerValue, w_se_RX4_yX4_registerValue_yX4_registerValue⟩
theorem wy_X4_setRegister : Wy yX4_setRegister cX4_setRegister 3 none 2 := ⟨w_co_yX4_setRegister_cX4_setRegister_3_none, w_ini_RX4, by decide +kernel, by decide +kernel, by decide +kernel⟩
theorem wi_X4_setRegister : Cond.instanceMethod yX4_setRegister ∈ wsL_law ∧ Cond.selects yX4_setRegister.cls yX4_setRegister yX4_setRegister ∈ wsL_law := ⟨w_im_yX4_setRegister, w_se_RX4_yX4_setRegister_yX4_setRegister⟩
theorem wy_X4_begin : Wy yX4_begin cX4_begin 2 none 0 := ⟨w_co_yX4_begin_cX4_begin_2_none, w_ini_RX4, by decide +kernel, by decide +kernel, by decide +kernel⟩
theorem wi_X4_begin : Cond.instanceMethod yX4_begin ∈ wsL_law ∧ Cond.selects yX4_begin.cls yX4_begin yX4_begin ∈ wsL_law := ⟨w_im_yX4_begin, w_se_RX4_yX4_begin_yX4_begin⟩
theorem wy_X4_goOnTo : Wy yX4_goOnTo cX4_goOnTo 2 (some .int) 1 := ⟨w_co_yX4_goOnTo_cX4_goOnTo_2_some_int, w_ini_RX4, by decide +kernel, by decide +kernel, by decide +kernel⟩
theorem wi_X4_goOnTo : Cond.instanceMethod yX4_goOnTo ∈ wsL_law ∧ Cond.selects yX4_goOnTo.cls yX4_goOnTo yX4_goOnTo ∈ wsL_law := ⟨w_im_yX4_goOnTo, w_se_RX4_yX4_goOnTo_yX4_goOnTo⟩
theorem wy_X4_assign : Wy yX4_assign cX4_assign 3 (some .int) 2 := ⟨w_co_yX4_assign_cX4_assign_3_some_int, w_ini_RX4, by decide +kernel, by decide +kernel, by decide +kernel⟩
theorem wi_X4_assign : Cond.instanceMethod yX4_assign ∈ wsL_law ∧ Cond.selects yX4_assign.cls yX4_assign yX4_assign ∈ wsL_law := ⟨w_im_yX4_assign, w_se_RX4_yX4_assign_yX4_assign⟩
theorem wy_X4_write : Wy yX4_write cX4_write 3 (some .int) 2 := ⟨w_co_yX4_write_cX4_write_3_some_int, w_ini_RX4, by decide +kernel, by decide +kernel, by decide +kernel⟩
theorem wi_X4_write : Cond.instanceMethod yX4_write ∈ wsL_law ∧ Cond.selects yX4_write.cls yX4_write yX4_write ∈ wsL_law := ⟨w_im_yX4_write, w_se_RX4_yX4_write_yX4_write⟩
theorem wy_X4_beginAttempt : Wy yX4_beginAttempt cX4_beginAttempt 2 (some .int) 1 := ⟨w_co_yX4_beginAttempt_cX4_beginAttempt_2_some_int, w_ini_RX4, by decide +kernel, by decide +kernel, by decide +kernel⟩
theorem wi_X4_beginAttempt : Cond.instanceMethod yX4_beginAttempt ∈ wsL_law ∧ Cond.selects yX4_beginAttempt.cls yX4_beginAttempt yX4_beginAttempt ∈ wsL_law := ⟨w_im_yX4_beginAttempt, w_se_RX4_yX4_beginAttempt_yX4_beginAttempt⟩
theorem wy_X4_noteAndGoOn : Wy yX4_noteAndGoOn cX4_noteAndGoOn 2 (some .int) 0 := ⟨w_co_yX4_noteAndGoOn_cX4_noteAndGoOn_2_some_int, w_ini_RX4, by decide +kernel, by decide +kernel, by decide +kernel⟩
theorem wi_X4_noteAndGoOn : Cond.instanceMethod yX4_noteAndGoOn ∈ wsL_law ∧ Cond.selects yX4_noteAndGoOn.cls yX4_noteAndGoOn yX4_noteAndGoOn ∈ wsL_law := ⟨w_im_yX4_noteAndGoOn, w_se_RX4_yX4_noteAndGoOn_yX4_noteAndGoOn⟩
theorem wy_X4_endFirstPart : Wy yX4_endFirstPart cX4_endFirstPart 1 (some .int) 0 := ⟨w_co_yX4_endFirstPart_cX4_endFirstPart_1_some_int, w_ini_RX4, by decide +kernel, by decide +kernel, by decide +kernel⟩
theorem wi_X4_endFirstPart : Cond.instanceMethod yX4_endFirstPart ∈ wsL_law ∧ Cond.selects yX4_endFirstPart.cls yX4_endFirstPart yX4_endFirstPart ∈ wsL_law := ⟨w_im_yX4_endFirstPart, w_se_RX4_yX4_endFirstPart_yX4_endFirstPart⟩
theorem wy_X4_latestFirstPart : Wy yX4_latestFirstPart cX4_latestFirstPart 3 (some .int) 1 := ⟨w_co_yX4_latestFirstPart_cX4_latestFirstPart_3_some_int, w_ini_RX4, by decide +kernel, by decide +kernel, by decide +kernel⟩
theorem wi_X4_latestFirstPart : Cond.instanceMethod yX4_latestFirstPart ∈ wsL_law ∧ Cond.selects yX4_latestFirstPart.cls yX4_latestFirstPart yX4_latestFirstPart ∈ wsL_law := ⟨w_im_yX4_latestFirstPart, w_se_RX4_yX4_latestFirstPart_yX4_latestFirstPart⟩
theorem wy_X4_goBackTo : Wy yX4_goBackTo cX4_goBackTo 3 none 1 := ⟨w_co_yX4_goBackTo_cX4_goBackTo_3_none, w_ini_RX4, by decide +kernel, by decide +kernel, by decide +kernel⟩
theorem wi_X4_goBackTo : Cond.instanceMethod yX4_goBackTo ∈ wsL_law ∧ Cond.selects yX4_goBackTo.cls yX4_goBackTo yX4_goBackTo ∈ wsL_law := ⟨w_im_yX4_goBackTo, w_se_RX4_yX4_goBackTo_yX4_goBackTo⟩
theorem wy_X4_handle : Wy yX4_handle cX4_handle 3 none 2 := ⟨w_co_yX4_handle_cX4_handle_3_none, w_ini_RX4, by decide +kernel, by decide +kernel, by decide +kernel⟩
theorem wi_X4_handle : Cond.instanceMethod yX4_handle ∈ wsL_law ∧ Cond.selects yX4_handle.cls yX4_handle yX4_handle ∈ wsL_law := ⟨w_im_yX4_handle, w_se_RX4_yX4_handle_yX4_handle⟩
theorem wy_X4_fail : Wy yX4_fail cX4_fail 2 none 1 := ⟨w_co_yX4_fail_cX4_fail_2_none, w_ini_RX4, by decide +kernel, by decide +kernel, by decide +kernel⟩
theorem wi_X4_fail : Cond.instanceMethod yX4_fail ∈ wsL_law ∧ Cond.selects yX4_fail.cls yX4_fail yX4_fail ∈ wsL_law := ⟨w_im_yX4_fail, w_se_RX4_yX4_fail_yX4_fail⟩
theorem wy_X4_leaveAttempt : Wy yX4_leaveAttempt cX4_leaveAttempt 1 none 0 := ⟨w_co_yX4_leaveAttempt_cX4_leaveAttempt_1_none, w_ini_RX4, by decide +kernel, by decide +kernel, by decide +kernel⟩
theorem wi_X4_leaveAttempt : Cond.instanceMethod yX4_leaveAttempt ∈ wsL_law ∧ Cond.selects yX4_leaveAttempt.cls yX4_leaveAttempt yX4_leaveAttempt ∈ wsL_law := ⟨w_im_yX4_leaveAttempt, w_se_RX4_yX4_leaveAttempt_yX4_leaveAttempt⟩
theorem wy_X4_undoAttempt : Wy yX4_undoAttempt cX4_undoAttempt 1 none 0 := ⟨w_co_yX4_undoAttempt_cX4_undoAttempt_1_none, w_ini_RX4, by decide +kernel, by decide +kernel, by decide +kernel⟩
theorem wi_X4_undoAttempt : Cond.instanceMethod yX4_undoAttempt ∈ wsL_law ∧ Cond.selects yX4_undoAttempt.cls yX4_undoAttempt yX4_undoAttempt ∈ wsL_law := ⟨w_im_yX4_undoAttempt, w_se_RX4_yX4_undoAttempt_yX4_undoAttempt⟩
theorem wy_X4_discard : Wy yX4_discard cX4_discard 1 (some .int) 0 := ⟨w_co_yX4_discard_cX4_discard_1_some_int, w_ini_RX4, by decide +kernel, by decide +kernel, by decide +kernel⟩
theorem wi_X4_discard : Cond.instanceMethod yX4_discard ∈ wsL_law ∧ Cond.selects yX4_discard.cls yX4_discard yX4_discard ∈ wsL_law := ⟨w_im_yX4_discard, w_se_RX4_yX4_discard_yX4_discard⟩
theorem wy_X4_park : Wy yX4_park cX4_park 2 (some .int) 0 := ⟨w_co_yX4_park_cX4_park_2_some_int, w_ini_RX4, by decide +kernel, by decide +kernel, by decide +kernel⟩
theorem wi_X4_park : Cond.instanceMethod yX4_park ∈ wsL_law ∧ Cond.selects yX4_park.cls yX4_park yX4_park ∈ wsL_law := ⟨w_im_yX4_park, w_se_RX4_yX4_park_yX4_park⟩
theorem wy_X4_wakeUp : Wy yX4_wakeUp cX4_wakeUp 1 none 0 := ⟨w_co_yX4_wakeUp_cX4_wakeUp_1_none, w_ini_RX4, by decide +kernel, by decide +kernel, by decide +kernel⟩
theorem wi_X4_wakeUp : Cond.instanceMethod yX4_wakeUp ∈ wsL_law ∧ Cond.selects yX4_wakeUp.cls yX4_wakeUp yX4_wakeUp ∈ wsL_law := ⟨w_im_yX4_wakeUp, w_se_RX4_yX4_wakeUp_yX4_wakeUp⟩
theorem wy_X5_add : Wy yX5_add cX5_add 6 (some .boolean) 4 := ⟨w_co_yX5_add_cX5_add_6_some_boolean, w_ini_RX5, by decide +kernel, by decide +kernel, by decide +kernel⟩
theorem wi_X5_add : Cond.instanceMethod yX5_add ∈ wsL_law ∧ Cond.selects yX5_add.cls yX5_add yX5_add ∈ wsL_law := ⟨w_im_yX5_add, w_se_RX5_yX5_add_yX5_add⟩
theorem wy_X5_cut : Wy yX5_cut cX5_cut 4 (some .boolean) 2 := ⟨w_co_yX5_cut_cX5_cut_4_some_boolean, w_ini_RX5, by decide +kernel, by decide +kernel, by decide +kernel⟩
theorem wi_X5_cut : Cond.instanceMethod yX5_cut ∈ wsL_law ∧ Cond.selects yX5_cut.cls yX5_cut yX5_cut ∈ wsL_law := ⟨w_im_yX5_cut, w_se_RX5_yX5_cut_yX5_cut⟩
theorem wy_X5_check : Wy yX5_check cX5_check 3 (some .int) 1 := ⟨w_co_yX5_check_cX5_check_3_some_int, w_ini_RX5, by decide +kernel, by decide +kernel, by decide +kernel⟩
theorem wi_X5_check : Cond.instanceMethod yX5_check ∈ wsL_law ∧ Cond.selects yX5_check.cls yX5_check yX5_check ∈ wsL_law := ⟨w_im_yX5_check, w_se_RX5_yX5_check_yX5_check⟩
theorem wy_X5_start : Wy yX5_start cX5_start 3 (some .boolean) 1 := ⟨w_co_yX5_start_cX5_start_3_some_boolean, w_ini_RX5, by decide +kernel, by decide +kernel, by decide +kernel⟩
theorem wi_X5_start : Cond.instanceMethod yX5_start ∈ wsL_law ∧ Cond.selects yX5_start.cls yX5_start yX5_start ∈ wsL_law := ⟨w_im_yX5_start, w_se_RX5_yX5_start_yX5_start⟩
theorem wy_X5_stop : Wy yX5_stop cX5_stop 3 (some .boolean) 1 := ⟨w_co_yX5_stop_cX5_stop_3_some_boolean, w_ini_RX5, by decide +kernel, by decide +kernel, by decide +kernel⟩
theorem wi_X5_stop : Cond.instanceMethod yX5_stop ∈ wsL_law ∧ Cond.selects yX5_stop.cls yX5_stop yX5_stop ∈ wsL_law := ⟨w_im_yX5_stop, w_se_RX5_yX5_stop_yX5_stop⟩
theorem wy_X5_step : Wy yX5_step cX5_step 3 (some .int) 1 := ⟨w_co_yX5_step_cX5_step_3_some_int, w_ini_RX5, by decide +kernel, by decide +kernel, by decide +kernel⟩
theorem wi_X5_step : Cond.instanceMethod yX5_step ∈ wsL_law ∧ Cond.selects yX5_step.cls yX5_step yX5_step ∈ wsL_law := ⟨w_im_yX5_step, w_se_RX5_yX5_step_yX5_step⟩
theorem wy_X5_run : Wy yX5_run cX5_run 6 (some .int) 2 := ⟨w_co_yX5_run_cX5_run_6_some_int, w_ini_RX5, by decide +kernel, by decide +kernel, by decide +kernel⟩
theorem wi_X5_run : Cond.instanceMethod yX5_run ∈ wsL_law ∧ Cond.selects yX5_run.cls yX5_run yX5_run ∈ wsL_law := ⟨w_im_yX5_run, w_se_RX5_yX5_run_yX5_run⟩
theorem wy_X5_put : Wy yX5_put cX5_put 3 (some .boolean) 2 := ⟨w_co_yX5_put_cX5_put_3_some_boolean, w_ini_RX5, by decide +kernel, by decide +kernel, by decide +kernel⟩
theorem wi_X5_put : Cond.instanceMethod yX5_put ∈ wsL_law ∧ Cond.selects yX5_put.cls yX5_put yX5_put ∈ wsL_law := ⟨w_im_yX5_put, w_se_RX5_yX5_put_yX5_put⟩
theorem wy_X5_value : Wy yX5_value cX5_value 2 (some .int) 1 := ⟨w_co_yX5_value_cX5_value_2_some_int, w_ini_RX5, by decide +kernel, by decide +kernel, by decide +kernel⟩
theorem wi_X5_value : Cond.instanceMethod yX5_value ∈ wsL_law ∧ Cond.selects yX5_value.cls yX5_value yX5_value ∈ wsL_law := ⟨w_im_yX5_value, w_se_RX5_yX5_value_yX5_value⟩
theorem wy_X5_version : Wy yX5_version cX5_version 2 (some .int) 1 := ⟨w_co_yX5_version_cX5_version_2_some_int, w_ini_RX5, by decide +kernel, by decide +kernel, by decide +kernel⟩
theorem wi_X5_version : Cond.instanceMethod yX5_version ∈ wsL_law ∧ Cond.selects yX5_version.cls yX5_version yX5_version ∈ wsL_law := ⟨w_im_yX5_version, w_se_RX5_yX5_version_yX5_version⟩
theorem wy_X5_commits : Wy yX5_commits cX5_commits 1 (some .int) 0 := ⟨w_co_yX5_commits_cX5_commits_1_some_int, w_ini_RX5, by decide +kernel, by decide +kernel, by decide +kernel⟩
theorem wi_X5_commits : Cond.instanceMethod yX5_commits ∈ wsL_law ∧ Cond.selects yX5_commits.cls yX5_commits yX5_commits ∈ wsL_law := ⟨w_im_yX5_commits, w_se_RX5_yX5_commits_yX5_commits⟩
theorem wy_X5_state : Wy yX5_state cX5_state 3 (some .int) 1 := ⟨w_co_yX5_state_cX5_state_3_some_int, w_ini_RX5, by decide +kernel, by decide +kernel, by decide +kernel⟩
theorem wi_X5_state : Cond.instanceMethod yX5_state ∈ wsL_law ∧ Cond.selects yX5_state.cls yX5_state yX5_state ∈ wsL_law := ⟨w_im_yX5_state, w_se_RX5_yX5_state_yX5_state⟩
theorem wy_X5_place : Wy yX5_place cX5_place 3 (some .int) 1 := ⟨w_co_yX5_place_cX5_place_3_some_int, w_ini_RX5, by decide +kernel, by decide +kernel, by decide +kernel⟩
theorem wi_X5_place : Cond.instanceMethod yX5_place ∈ wsL_law ∧ Cond.selects yX5_place.cls yX5_place yX5_place ∈ wsL_law := ⟨w_im_yX5_place, w_se_RX5_yX5_place_yX5_place⟩
theorem wy_X5_register : Wy yX5_register cX5_register 4 (some .int) 2 := ⟨w_co_yX5_register_cX5_register_4_some_int, w_ini_RX5, by decide +kernel, by decide +kernel, by decide +kernel⟩
theorem wi_X5_register : Cond.instanceMethod yX5_register ∈ wsL_law ∧ Cond.selects yX5_register.cls yX5_register yX5_register ∈ wsL_law := ⟨w_im_yX5_register, w_se_RX5_yX5_register_yX5_register⟩
theorem wy_X5_sees : Wy yX5_sees cX5_sees 4 (some .int) 2 := ⟨w_co_yX5_sees_cX5_sees_4_some_int, w_ini_RX5, by decide +kernel, by decide +kernel, by decide +kernel⟩
theorem wi_X5_sees : Cond.instanceMethod yX5_sees ∈ wsL_law ∧ Cond.selects yX5_sees.cls yX5_sees yX5_sees ∈ wsL_law := ⟨w_im_yX5_sees, w_se_RX5_yX5_sees_yX5_sees⟩
theorem wy_X5_log : Wy yX5_log cX5_log 3 (some .int) 1 := ⟨w_co_yX5_log_cX5_log_3_some_int, w_ini_RX5, by decide +kernel, by decide +kernel, by decide +kernel⟩
theorem wi_X5_log : Cond.instanceMethod yX5_log ∈ wsL_law ∧ Cond.selects yX5_log.cls yX5_log yX5_log ∈ wsL_law := ⟨w_im_yX5_log, w_se_RX5_yX5_log_yX5_log⟩
theorem wy_X5_waiting : Wy yX5_waiting cX5_waiting 4 (some .int) 1 := ⟨w_co_yX5_waiting_cX5_waiting_4_some_int, w_ini_RX5, by decide +kernel, by decide +kernel, by decide +kernel⟩
theorem wi_X5_waiting : Cond.instanceMethod yX5_waiting ∈ wsL_law ∧ Cond.selects yX5_waiting.cls yX5_waiting yX5_waiting ∈ wsL_law := ⟨w_im_yX5_waiting, w_se_RX5_yX5_waiting_yX5_waiting⟩
theorem wy_X5_discards : Wy yX5_discards cX5_discards 3 (some .int) 1 := ⟨w_co_yX5_discards_cX5_discards_3_some_int, w_ini_RX5, by decide +kernel, by decide +kernel, by decide +kernel⟩
theorem wi_X5_discards : Cond.instanceMethod yX5_discards ∈ wsL_law ∧ Cond.selects yX5_discards.cls yX5_discards yX5_discards ∈ wsL_law := ⟨w_im_yX5_discards, w_se_RX5_yX5_discards_yX5_discards⟩
theorem wy_X5_outcome : Wy yX5_outcome cX5_outcome 3 (some .int) 0 := ⟨w_co_yX5_outcome_cX5_outcome_3_some_int, w_ini_RX5, by decide +kernel, by decide +kernel, by decide +kernel⟩
theorem wi_X5_outcome : Cond.instanceMethod yX5_outcome ∈ wsL_law ∧ Cond.selects yX5_outcome.cls yX5_outcome yX5_outcome ∈ wsL_law := ⟨w_im_yX5_outcome, w_se_RX5_yX5_outcome_yX5_outcome⟩
theorem wy_X5_printed : Wy yX5_printed cX5_printed 2 (some .int) 1 := ⟨w_co_yX5_printed_cX5_printed_2_some_int, w_ini_RX5, by decide +kernel, by decide +kernel, by decide +kernel⟩
theorem wi_X5_printed : Cond.instanceMethod yX5_printed ∈ wsL_law ∧ Cond.selects yX5_printed.cls yX5_printed yX5_printed ∈ wsL_law := ⟨w_im_yX5_printed, w_se_RX5_yX5_printed_yX5_printed⟩
theorem wy_X5_strandOf : Wy yX5_strandOf cX5_strandOf 2 (some (.object "AtomicThreads$Strand")) 1 := ⟨w_co_yX5_strandOf_cX5_strandOf_2_some_object_Strand, w_ini_RX5, by decide +kernel, by decide +kernel, by decide +kernel⟩
theorem wi_X5_strandOf : Cond.instanceMethod yX5_strandOf ∈ wsL_law ∧ Cond.selects yX5_strandOf.cls yX5_strandOf yX5_strandOf ∈ wsL_law := ⟨w_im_yX5_strandOf, w_se_RX5_yX5_strandOf_yX5_strandOf⟩
theorem wy_X5_isRegister : Wy yX5_isRegister cX5_isRegister 1 (some .boolean) 1 := ⟨w_co_yX5_isRegister_cX5_isRegister_1_some_boolean, w_ini_RX5, by decide +kernel, by decide +kernel, by decide +kernel⟩
theorem wy_X5_isVariable : Wy yX5_isVariable cX5_isVariable 1 (some .boolean) 1 := ⟨w_co_yX5_isVariable_cX5_isVariable_1_some_boolean, w_ini_RX5, by decide +kernel, by decide +kernel, by decide +kernel⟩
theorem wy_X5_isWord : Wy yX5_isWord cX5_isWord 3 (some .boolean) 3 := ⟨w_co_yX5_isWord_cX5_isWord_3_some_boolean, w_ini_RX5, by decide +kernel, by decide +kernel, by decide +kernel⟩
theorem wy_X5_doWord : Wy yX5_doWord cX5_doWord 6 (some .int) 1 := ⟨w_co_yX5_doWord_cX5_doWord_6_some_int, w_ini_RX5, by decide +kernel, by decide +kernel, by decide +kernel⟩
theorem wi_X5_doWord : Cond.instanceMethod yX5_doWord ∈ wsL_law ∧ Cond.selects yX5_doWord.cls yX5_doWord yX5_doWord ∈ wsL_law := ⟨w_im_yX5_doWord, w_se_RX5_yX5_doWord_yX5_doWord⟩
theorem wy_X5_doRead : Wy yX5_doRead cX5_doRead 4 (some .int) 3 := ⟨w_co_yX5_doRead_cX5_doRead_4_some_int, w_ini_RX5, by decide +kernel, by decide +kernel, by decide +kernel⟩
theorem wi_X5_doRead : Cond.instanceMethod yX5_doRead ∈ wsL_law ∧ Cond.selects yX5_doRead.cls yX5_doRead yX5_doRead ∈ wsL_law := ⟨w_im_yX5_doRead, w_se_RX5_yX5_doRead_yX5_doRead⟩
theorem wy_X5_doRetry : Wy yX5_doRetry cX5_doRetry 3 (some .int) 1 := ⟨w_co_yX5_doRetry_cX5_doRetry_3_some_int, w_ini_RX5, by decide +kernel, by decide +kernel, by decide +kernel⟩
theorem wi_X5_doRetry : Cond.instanceMethod yX5_doRetry ∈ wsL_law ∧ Cond.selects yX5_doRetry.cls yX5_doRetry yX5_doRetry ∈ wsL_law := ⟨w_im_yX5_doRetry, w_se_RX5_yX5_doRetry_yX5_doRetry⟩
theorem wy_X5_doThrow : Wy yX5_doThrow cX5_doThrow 4 (some .int) 2 := ⟨w_co_yX5_doThrow_cX5_doThrow_4_some_int, w_ini_RX5, by decide +kernel, by decide +kernel, by decide +kernel⟩
theorem wi_X5_doThrow : Cond.instanceMethod yX5_doThrow ∈ wsL_law ∧ Cond.selects yX5_doThrow.cls yX5_doThrow yX5_doThrow ∈ wsL_law := ⟨w_im_yX5_doThrow, w_se_RX5_yX5_doThrow_yX5_doThrow⟩
theorem wy_X5_doEnd : Wy yX5_doEnd cX5_doEnd 3 (some .int) 1 := ⟨w_co_yX5_doEnd_cX5_doEnd_3_some_int, w_ini_RX5, by decide +kernel, by decide +kernel, by decide +kernel⟩
theorem wi_X5_doEnd : Cond.instanceMethod yX5_doEnd ∈ wsL_law ∧ Cond.selects yX5_doEnd.cls yX5_doEnd yX5_doEnd ∈ wsL_law := ⟨w_im_yX5_doEnd, w_se_RX5_yX5_doEnd_yX5_doEnd⟩
theorem wy_X5_hasStaleReads : Wy yX5_hasStaleReads cX5_hasStaleReads 2 (some .boolean) 1 := ⟨w_co_yX5_hasStaleReads_cX5_hasStaleReads_2_some_boolean, w_ini_RX5, by decide +kernel, by decide +kernel, by decide +kernel⟩
theorem wi_X5_hasStaleReads : Cond.instanceMethod yX5_hasStaleReads ∈ wsL_law ∧ Cond.selects yX5_hasStaleReads.cls yX5_hasStaleReads yX5_hasStaleReads ∈ wsL_law := ⟨w_im_yX5_hasStaleReads, w_se_RX5_yX5_hasStaleReads_yX5_hasStaleReads⟩
theorem wy_X5_commit : Wy yX5_commit cX5_commit 4 (some .int) 1 := ⟨w_co_yX5_commit_cX5_commit_4_some_int, w_ini_RX5, by decide +kernel, by decide +kernel, by decide +kernel⟩
theorem wi_X5_commit : Cond.instanceMethod yX5_commit ∈ wsL_law ∧ Cond.selects yX5_commit.cls yX5_commit yX5_commit ∈ wsL_law := ⟨w_im_yX5_commit, w_se_RX5_yX5_commit_yX5_commit⟩
theorem wy_X5_wake : Wy yX5_wake cX5_wake 3 none 1 := ⟨w_co_yX5_wake_cX5_wake_3_none, w_ini_RX5, by decide +kernel, by decide +kernel, by decide +kernel⟩
theorem wi_X5_wake : Cond.instanceMethod yX5_wake ∈ wsL_law ∧ Cond.selects yX5_wake.cls yX5_wake yX5_wake ∈ wsL_law := ⟨w_im_yX5_wake, w_se_RX5_yX5_wake_yX5_wake⟩
theorem wy_X6_out : Wy yX6_out cX6_out 2 (some .boolean) 2 := ⟨w_co_yX6_out_cX6_out_2_some_boolean, w_ini_RX6, by decide +kernel, by decide +kernel, by decide +kernel⟩
theorem wy_X6_busy : Wy yX6_busy cX6_busy 2 (some .boolean) 1 := ⟨w_co_yX6_busy_cX6_busy_2_some_boolean, w_ini_RX6, by decide +kernel, by decide +kernel, by decide +kernel⟩
theorem wi_X6_busy : Cond.instanceMethod yX6_busy ∈ wsL_law ∧ Cond.selects yX6_busy.cls yX6_busy yX6_busy ∈ wsL_law := ⟨w_im_yX6_busy, w_se_RX6_yX6_busy_yX6_busy⟩
theorem wy_X6_opens : Wy yX6_opens cX6_opens 1 (some .boolean) 1 := ⟨w_co_yX6_opens_cX6_opens_1_some_boolean, w_ini_RX6, by decide +kernel, by decide +kernel, by decide +kernel⟩
theorem wy_X6_named : Wy yX6_named cX6_named 4 (some .boolean) 3 := ⟨w_co_yX6_named_cX6_named_4_some_boolean, w_ini_RX6, by decide +kernel, by decide +kernel, by decide +kernel⟩
theorem wy_X6_add : Wy yX6_add cX6_add 6 (some .boolean) 4 := ⟨w_co_yX6_add_cX6_add_6_some_boolean, w_ini_RX6, by decide +kernel, by decide +kernel, by decide +kernel⟩
theorem wi_X6_add : Cond.instanceMethod yX6_add ∈ wsL_law ∧ Cond.selects yX6_add.cls yX6_add yX6_add ∈ wsL_law := ⟨w_im_yX6_add, w_se_RX6_yX6_add_yX6_add⟩
theorem wy_X6_cut : Wy yX6_cut cX6_cut 3 (some .boolean) 2 := ⟨w_co_yX6_cut_cX6_cut_3_some_boolean, w_ini_RX6, by decide +kernel, by decide +kernel, by decide +kernel⟩
theorem wi_X6_cut : Cond.instanceMethod yX6_cut ∈ wsL_law ∧ Cond.selects yX6_cut.cls yX6_cut yX6_cut ∈ wsL_law := ⟨w_im_yX6_cut, w_se_RX6_yX6_cut_yX6_cut⟩
theorem wy_X6_halfway : Wy yX6_halfway cX6_halfway 3 (some .boolean) 2 := ⟨w_co_yX6_halfway_cX6_halfway_3_some_boolean, w_ini_RX6, by decide +kernel, by decide +kernel, by decide +kernel⟩
theorem wi_X6_halfway : Cond.instanceMethod yX6_halfway ∈ wsL_law ∧ Cond.selects yX6_halfway.cls yX6_halfway yX6_halfway ∈ wsL_law := ⟨w_im_yX6_halfway, w_se_RX6_yX6_halfway_yX6_halfway⟩
theorem wy_X6_wrong : Wy yX6_wrong cX6_wrong 4 (some .boolean) 3 := ⟨w_co_yX6_wrong_cX6_wrong_4_some_boolean, w_ini_RX6, by decide +kernel, by decide +kernel, by decide +kernel⟩
theorem wi_X6_wrong : Cond.instanceMethod yX6_wrong ∈ wsL_law ∧ Cond.selects yX6_wrong.cls yX6_wrong yX6_wrong ∈ wsL_law := ⟨w_im_yX6_wrong, w_se_RX6_yX6_wrong_yX6_wrong⟩
theorem wy_X6_check : Wy yX6_check cX6_check 7 (some .int) 1 := ⟨w_co_yX6_check_cX6_check_7_some_int, w_ini_RX6, by decide +kernel, by decide +kernel, by decide +kernel⟩
theorem wi_X6_check : Cond.instanceMethod yX6_check ∈ wsL_law ∧ Cond.selects yX6_check.cls yX6_check yX6_check ∈ wsL_law := ⟨w_im_yX6_check, w_se_RX6_yX6_check_yX6_check⟩
theorem wy_X6_partner : Wy yX6_partner cX6_partner 7 (some .int) 3 := ⟨w_co_yX6_partner_cX6_partner_7_some_int, w_ini_RX6, by decide +kernel, by decide +kernel, by decide +kernel⟩
theorem wi_X6_partner : Cond.instanceMethod yX6_partner ∈ wsL_law ∧ Cond.selects yX6_partner.cls yX6_partner yX6_partner ∈ wsL_law := ⟨w_im_yX6_partner, w_se_RX6_yX6_partner_yX6_partner⟩
theorem wy_X6_origin : Wy yX6_origin cX6_origin 6 (some .int) 2 := ⟨w_co_yX6_origin_cX6_origin_6_some_int, w_ini_RX6, by decide +kernel, by decide +kernel, by decide +kernel⟩
theorem wi_X6_origin : Cond.instanceMethod yX6_origin ∈ wsL_law ∧ Cond.selects yX6_origin.cls yX6_origin yX6_origin ∈ wsL_law := ⟨w_im_yX6_origin, w_se_RX6_yX6_origin_yX6_origin⟩
theorem wy_X6_start : Wy yX6_start cX6_start 3 (some .boolean) 1 := ⟨w_co_yX6_start_cX6_start_3_some_boolean, w_ini_RX6, by decide +kernel, by decide +kernel, by decide +kernel⟩
theorem wi_X6_start : Cond.instanceMethod yX6_start ∈ wsL_law ∧ Cond.selects yX6_start.cls yX6_start yX6_start ∈ wsL_law := ⟨w_im_yX6_start, w_se_RX6_yX6_start_yX6_start⟩
theorem wy_X6_stop : Wy yX6_stop cX6_stop 2 (some .boolean) 1 := ⟨w_co_yX6_stop_cX6_stop_2_some_boolean, w_ini_RX6, by decide +kernel, by decide +kernel, by decide +kernel⟩
theorem wi_X6_stop : Cond.instanceMethod yX6_stop ∈ wsL_law ∧ Cond.selects yX6_stop.cls yX6_stop yX6_stop ∈ wsL_law := ⟨w_im_yX6_stop, w_se_RX6_yX6_stop_yX6_stop⟩
theorem wy_X6_go : Wy yX6_go cX6_go 3 none 2 := ⟨w_co_yX6_go_cX6_go_3_none, w_ini_RX6, by decide +kernel, by decide +kernel, by decide +kernel⟩
theorem wi_X6_go : Cond.instanceMethod yX6_go ∈ wsL_law ∧ Cond.selects yX6_go.cls yX6_go yX6_go ∈ wsL_law := ⟨w_im_yX6_go, w_se_RX6_yX6_go_yX6_go⟩
theorem wy_X6_endAttempt : Wy yX6_endAttempt cX6_endAttempt 3 none 1 := ⟨w_co_yX6_endAttempt_cX6_endAttempt_3_none, w_ini_RX6, by decide +kernel, by decide +kernel, by decide +kernel⟩
theorem wi_X6_endAttempt : Cond.instanceMethod yX6_endAttempt ∈ wsL_law ∧ Cond.selects yX6_endAttempt.cls yX6_endAttempt yX6_endAttempt ∈ wsL_law := ⟨w_im_yX6_endAttempt, w_se_RX6_yX6_endAttempt_yX6_endAttempt⟩
theorem wy_X6_begin : Wy yX6_begin cX6_begin 3 none 1 := ⟨w_co_yX6_begin_cX6_begin_3_none, w_ini_RX6, by decide +kernel, by decide +kernel, by decide +kernel⟩
theorem wi_X6_begin : Cond.instanceMethod yX6_begin ∈ wsL_law ∧ Cond.selects yX6_begin.cls yX6_begin yX6_begin ∈ wsL_law := ⟨w_im_yX6_begin, w_se_RX6_yX6_begin_yX6_begin⟩
theorem wy_X6_undo : Wy yX6_undo cX6_undo 3 none 1 := ⟨w_co_yX6_undo_cX6_undo_3_none, w_ini_RX6, by decide +kernel, by decide +kernel, by decide +kernel⟩
theorem wi_X6_undo : Cond.instanceMethod yX6_undo ∈ wsL_law ∧ Cond.selects yX6_undo.cls yX6_undo yX6_undo ∈ wsL_law := ⟨w_im_yX6_undo, w_se_RX6_yX6_undo_yX6_undo⟩
theorem wy_X6_discard : Wy yX6_discard cX6_discard 2 (some .int) 1 := ⟨w_co_yX6_discard_cX6_discard_2_some_int, w_ini_RX6, by decide +kernel, by decide +kernel, by decide +kernel⟩
theorem wi_X6_discard : Cond.instanceMethod yX6_discard ∈ wsL_law ∧ Cond.selects yX6_discard.cls yX6_discard yX6_discard ∈ wsL_law := ⟨w_im_yX6_discard, w_se_RX6_yX6_discard_yX6_discard⟩
theorem wy_X6_outOfDate : Wy yX6_outOfDate cX6_outOfDate 4 (some .boolean) 1 := ⟨w_co_yX6_outOfDate_cX6_outOfDate_4_some_boolean, w_ini_RX6, by decide +kernel, by decide +kernel, by decide +kernel⟩
theorem wi_X6_outOfDate : Cond.instanceMethod yX6_outOfDate ∈ wsL_law ∧ Cond.selects yX6_outOfDate.cls yX6_outOfDate yX6_outOfDate ∈ wsL_law := ⟨w_im_yX6_outOfDate, w_se_RX6_yX6_outOfDate_yX6_outOfDate⟩
theorem wy_X6_changed : Wy yX6_changed cX6_changed 4 none 2 := ⟨w_co_yX6_changed_cX6_changed_4_none, w_ini_RX6, by decide +kernel, by decide +kernel, by decide +kernel⟩
theorem wi_X6_changed : Cond.instanceMethod yX6_changed ∈ wsL_law ∧ Cond.selects yX6_changed.cls yX6_changed yX6_changed ∈ wsL_law := ⟨w_im_yX6_changed, w_se_RX6_yX6_changed_yX6_changed⟩
theorem wy_X6_commit : Wy yX6_commit cX6_commit 4 (some .int) 1 := ⟨w_co_yX6_commit_cX6_commit_4_some_int, w_ini_RX6, by decide +kernel, by decide +kernel, by decide +kernel⟩
theorem wi_X6_commit : Cond.instanceMethod yX6_commit ∈ wsL_law ∧ Cond.selects yX6_commit.cls yX6_commit yX6_commit ∈ wsL_law := ⟨w_im_yX6_commit, w_se_RX6_yX6_commit_yX6_commit⟩
theorem wy_X6_beginPart : Wy yX6_beginPart cX6_beginPart 4 none 1 := ⟨w_co_yX6_beginPart_cX6_beginPart_4_none, w_ini_RX6, by decide +kernel, by decide +kernel, by decide +kernel⟩
theorem wi_X6_beginPart : Cond.instanceMethod yX6_beginPart ∈ wsL_law ∧ Cond.selects yX6_beginPart.cls yX6_beginPart yX6_beginPart ∈ wsL_law := ⟨w_im_yX6_beginPart, w_se_RX6_yX6_beginPart_yX6_beginPart⟩
theorem wy_X6_latest : Wy yX6_latest cX6_latest 7 (some .int) 3 := ⟨w_co_yX6_latest_cX6_latest_7_some_int, w_ini_RX6, by decide +kernel, by decide +kernel, by decide +kernel⟩
theorem wi_X6_latest : Cond.instanceMethod yX6_latest ∈ wsL_law ∧ Cond.selects yX6_latest.cls yX6_latest yX6_latest ∈ wsL_law := ⟨w_im_yX6_latest, w_se_RX6_yX6_latest_yX6_latest⟩
theorem wy_X6_back : Wy yX6_back cX6_back 5 (some .int) 2 := ⟨w_co_yX6_back_cX6_back_5_some_int, w_ini_RX6, by decide +kernel, by decide +kernel, by decide +kernel⟩
theorem wi_X6_back : Cond.instanceMethod yX6_back ∈ wsL_law ∧ Cond.selects yX6_back.cls yX6_back yX6_back ∈ wsL_law := ⟨w_im_yX6_back, w_se_RX6_yX6_back_yX6_back⟩
theorem wy_X6_retry : Wy yX6_retry cX6_retry 4 (some .int) 1 := ⟨w_co_yX6_retry_cX6_retry_4_some_int, w_ini_RX6, by decide +kernel, by decide +kernel, by decide +kernel⟩
theorem wi_X6_retry : Cond.instanceMethod yX6_retry ∈ wsL_law ∧ Cond.selects yX6_retry.cls yX6_retry yX6_retry ∈ wsL_law := ⟨w_im_yX6_retry, w_se_RX6_yX6_retry_yX6_retry⟩
theorem wy_X6_toss : Wy yX6_toss cX6_toss 5 (some .int) 2 := ⟨w_co_yX6_toss_cX6_toss_5_some_int, w_ini_RX6, by decide +kernel, by decide +kernel, by decide +kernel⟩
theorem wi_X6_toss : Cond.instanceMethod yX6_toss ∈ wsL_law ∧ Cond.selects yX6_toss.cls yX6_toss yX6_toss ∈ wsL_law := ⟨w_im_yX6_toss, w_se_RX6_yX6_toss_yX6_toss⟩
theorem wy_X6_access : Wy yX6_access cX6_access 7 (some .int) 4 := ⟨w_co_yX6_access_cX6_access_7_some_int, w_ini_RX6, by decide +kernel, by decide +kernel, by decide +kernel⟩
theorem wi_X6_access : Cond.instanceMethod yX6_access ∈ wsL_law ∧ Cond.selects yX6_access.cls yX6_access yX6_access ∈ wsL_law := ⟨w_im_yX6_access, w_se_RX6_yX6_access_yX6_access⟩
theorem wy_X6_plain : Wy yX6_plain cX6_plain 6 none 4 := ⟨w_co_yX6_plain_cX6_plain_6_none, w_ini_RX6, by decide +kernel, by decide +kernel, by decide +kernel⟩
theorem wi_X6_plain : Cond.instanceMethod yX6_plain ∈ wsL_law ∧ Cond.selects yX6_plain.cls yX6_plain yX6_plain ∈ wsL_law := ⟨w_im_yX6_plain, w_se_RX6_yX6_plain_yX6_plain⟩
theorem wy_X6_branch : Wy yX6_branch cX6_branch 6 none 3 := ⟨w_co_yX6_branch_cX6_branch_6_none, w_ini_RX6, by decide +kernel, by decide +kernel, by decide +kernel⟩
theorem wi_X6_branch : Cond.instanceMethod yX6_branch ∈ wsL_law ∧ Cond.selects yX6_branch.cls yX6_branch yX6_branch ∈ wsL_law := ⟨w_im_yX6_branch, w_se_RX6_yX6_branch_yX6_branch⟩
theorem wy_X6_end : Wy yX6_end cX6_end 4 (some .int) 1 := ⟨w_co_yX6_end_cX6_end_4_some_int, w_ini_RX6, by decide +kernel, by decide +kernel, by decide +kernel⟩
theorem wi_X6_end : Cond.instanceMethod yX6_end ∈ wsL_law ∧ Cond.selects yX6_end.cls yX6_end yX6_end ∈ wsL_law := ⟨w_im_yX6_end, w_se_RX6_yX6_end_yX6_end⟩
theorem wy_X6_step : Wy yX6_step cX6_step 6 (some .int) 1 := ⟨w_co_yX6_step_cX6_step_6_some_int, w_ini_RX6, by decide +kernel, by decide +kernel, by decide +kernel⟩
theorem wi_X6_step : Cond.instanceMethod yX6_step ∈ wsL_law ∧ Cond.selects yX6_step.cls yX6_step yX6_step ∈ wsL_law := ⟨w_im_yX6_step, w_se_RX6_yX6_step_yX6_step⟩
theorem wy_X6_run : Wy yX6_run cX6_run 6 (some .int) 2 := ⟨w_co_yX6_run_cX6_run_6_some_int, w_ini_RX6, by decide +kernel, by decide +kernel, by decide +kernel⟩
theorem wi_X6_run : Cond.instanceMethod yX6_run ∈ wsL_law ∧ Cond.selects yX6_run.cls yX6_run yX6_run ∈ wsL_law := ⟨w_im_yX6_run, w_se_RX6_yX6_run_yX6_run⟩
theorem wy_X6_put : Wy yX6_put cX6_put 3 (some .boolean) 2 := ⟨w_co_yX6_put_cX6_put_3_some_boolean, w_ini_RX6, by decide +kernel, by decide +kernel, by decide +kernel⟩
theorem wi_X6_put : Cond.instanceMethod yX6_put ∈ wsL_law ∧ Cond.selects yX6_put.cls yX6_put yX6_put ∈ wsL_law := ⟨w_im_yX6_put, w_se_RX6_yX6_put_yX6_put⟩
theorem wy_X6_value : Wy yX6_value cX6_value 2 (some .int) 1 := ⟨w_co_yX6_value_cX6_value_2_some_int, w_ini_RX6, by decide +kernel, by decide +kernel, by decide +kernel⟩
theorem wi_X6_value : Cond.instanceMethod yX6_value ∈ wsL_law ∧ Cond.selects yX6_value.cls yX6_value yX6_value ∈ wsL_law := ⟨w_im_yX6_value, w_se_RX6_yX6_value_yX6_value⟩
theorem wy_X6_version : Wy yX6_version cX6_version 2 (some .int) 1 := ⟨w_co_yX6_version_cX6_version_2_some_int, w_ini_RX6, by decide +kernel, by decide +kernel, by decide +kernel⟩
theorem wi_X6_version : Cond.instanceMethod yX6_version ∈ wsL_law ∧ Cond.selects yX6_version.cls yX6_version yX6_version ∈ wsL_law := ⟨w_im_yX6_version, w_se_RX6_yX6_version_yX6_version⟩
theorem wy_X6_commits : Wy yX6_commits cX6_commits 1 (some .int) 0 := ⟨w_co_yX6_commits_cX6_commits_1_some_int, w_ini_RX6, by decide +kernel, by decide +kernel, by decide +kernel⟩
theorem wi_X6_commits : Cond.instanceMethod yX6_commits ∈ wsL_law ∧ Cond.selects yX6_commits.cls yX6_commits yX6_commits ∈ wsL_law := ⟨w_im_yX6_commits, w_se_RX6_yX6_commits_yX6_commits⟩
theorem wy_X6_state : Wy yX6_state cX6_state 2 (some .int) 1 := ⟨w_co_yX6_state_cX6_state_2_some_int, w_ini_RX6, by decide +kernel, by decide +kernel, by decide +kernel⟩
theorem wi_X6_state : Cond.instanceMethod yX6_state ∈ wsL_law ∧ Cond.selects yX6_state.cls yX6_state yX6_state ∈ wsL_law := ⟨w_im_yX6_state, w_se_RX6_yX6_state_yX6_state⟩
theorem wy_X6_place : Wy yX6_place cX6_place 2 (some .int) 1 := ⟨w_co_yX6_place_cX6_place_2_some_int, w_ini_RX6, by decide +kernel, by decide +kernel, by decide +kernel⟩
theorem wi_X6_place : Cond.instanceMethod yX6_place ∈ wsL_law ∧ Cond.selects yX6_place.cls yX6_place yX6_place ∈ wsL_law := ⟨w_im_yX6_place, w_se_RX6_yX6_place_yX6_place⟩
theorem wy_X6_register : Wy yX6_register cX6_register 3 (some .int) 2 := ⟨w_co_yX6_register_cX6_register_3_some_int, w_ini_RX6, by decide +kernel, by decide +kernel, by decide +kernel⟩
theorem wi_X6_register : Cond.instanceMethod yX6_register ∈ wsL_law ∧ Cond.selects yX6_register.cls yX6_register yX6_register ∈ wsL_law := ⟨w_im_yX6_register, w_se_RX6_yX6_register_yX6_register⟩
theorem wy_X6_sees : Wy yX6_sees cX6_sees 3 (some .int) 2 := ⟨w_co_yX6_sees_cX6_sees_3_some_int, w_ini_RX6, by decide +kernel, by decide +kernel, by decide +kernel⟩
theorem wi_X6_sees : Cond.instanceMethod yX6_sees ∈ wsL_law ∧ Cond.selects yX6_sees.cls yX6_sees yX6_sees ∈ wsL_law := ⟨w_im_yX6_sees, w_se_RX6_yX6_sees_yX6_sees⟩
theorem wy_X6_log : Wy yX6_log cX6_log 4 (some .int) 1 := ⟨w_co_yX6_log_cX6_log_4_some_int, w_ini_RX6, by decide +kernel, by decide +kernel, by decide +kernel⟩
theorem wi_X6_log : Cond.instanceMethod yX6_log ∈ wsL_law ∧ Cond.selects yX6_log.cls yX6_log yX6_log ∈ wsL_law := ⟨w_im_yX6_log, w_se_RX6_yX6_log_yX6_log⟩
theorem wy_X6_waiting : Wy yX6_waiting cX6_waiting 4 (some .int) 1 := ⟨w_co_yX6_waiting_cX6_waiting_4_some_int, w_ini_RX6, by decide +kernel, by decide +kernel, by decide +kernel⟩
theorem wi_X6_waiting : Cond.instanceMethod yX6_waiting ∈ wsL_law ∧ Cond.selects yX6_waiting.cls yX6_waiting yX6_waiting ∈ wsL_law := ⟨w_im_yX6_waiting, w_se_RX6_yX6_waiting_yX6_waiting⟩
theorem wy_X6_discards : Wy yX6_discards cX6_discards 2 (some .int) 1 := ⟨w_co_yX6_discards_cX6_discards_2_some_int, w_ini_RX6, by decide +kernel, by decide +kernel, by decide +kernel⟩
theorem wi_X6_discards : Cond.instanceMethod yX6_discards ∈ wsL_law ∧ Cond.selects yX6_discards.cls yX6_discards yX6_discards ∈ wsL_law := ⟨w_im_yX6_discards, w_se_RX6_yX6_discards_yX6_discards⟩
theorem wy_X6_outcome : Wy yX6_outcome cX6_outcome 4 (some .int) 0 := ⟨w_co_yX6_outcome_cX6_outcome_4_some_int, w_ini_RX6, by decide +kernel, by decide +kernel, by decide +kernel⟩
theorem wi_X6_outcome : Cond.instanceMethod yX6_outcome ∈ wsL_law ∧ Cond.selects yX6_outcome.cls yX6_outcome yX6_outcome ∈ wsL_law := ⟨w_im_yX6_outcome, w_se_RX6_yX6_outcome_yX6_outcome⟩
theorem wy_X6_printed : Wy yX6_printed cX6_printed 2 (some .int) 1 := ⟨w_co_yX6_printed_cX6_printed_2_some_int, w_ini_RX6, by decide +kernel, by decide +kernel, by decide +kernel⟩
theorem wi_X6_printed : Cond.instanceMethod yX6_printed ∈ wsL_law ∧ Cond.selects yX6_printed.cls yX6_printed yX6_printed ∈ wsL_law := ⟨w_im_yX6_printed, w_se_RX6_yX6_printed_yX6_printed⟩
theorem wy_J9_floorMod_7cf53 : Wy yJ9_floorMod_7cf53 cJ9_floorMod_7cf53 3 (some .int) 2 := ⟨w_co_yJ9_floorMod_7cf53_cJ9_floorMod_7cf53_3_some_int, w_ini_RJ9, by decide +kernel, by decide +kernel, by decide +kernel⟩
