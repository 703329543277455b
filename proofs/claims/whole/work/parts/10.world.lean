/-! the world by ids: a store of numbers, the cells read off it -/
abbrev Id3 : Type := Nat × Nat × Nat
abbrev Sto : Type := Nat → Nat → Nat → Nat → Int32
abbrev Shp : Type := (Nat → ClassId) → (Id3 → Nat) → Sto → Id3 → va_E
def upS (V : Sto) (c t i : Nat) (f : Nat → Int32) : Sto := fun c' t' i' => if c' = c ∧ t' = t ∧ i' = i then f else V c' t' i'
def st (V : Sto) (c t i j : Nat) (x : Int32) : Sto := upS V c t i (upd (V c t i) j x)
def cpS (V : Sto) (c t i c' t' i' n : Nat) : Sto := upS V c' t' i' (va_cpy (V c t i) (V c' t' i') 0 0 n)
theorem upS_same (V : Sto) (c t i : Nat) (f : Nat → Int32) : upS V c t i f c t i = f := if_pos ⟨rfl, rfl, rfl⟩
theorem upS_ne {V : Sto} {c t i c' t' i' : Nat} {f : Nat → Int32} (h : ¬ (c' = c ∧ t' = t ∧ i' = i)) : upS V c t i f c' t' i' = V c' t' i' := if_neg h
def inb (i : Int32) (n : Nat) : Bool := decide (¬ (i < 0 ∨ n ≤ i.toNatClampNeg))
theorem inb_in {i : Int32} {n : Nat} (h : inb i n = true) : vp_in i n := of_decide_eq_true (p := ¬ (i < 0 ∨ n ≤ i.toNatClampNeg)) h
theorem inb_lt {i : Int32} {n : Nat} (h : inb i n = true) : i.toNatClampNeg < n := Nat.not_le.mp (fun q => inb_in h (Or.inr q))
def gd {α : Type} (b : Bool) (x : Option α) : Option α := match b with
  | true => x
  | false => none
theorem gd_some {α : Type} {b : Bool} {x : Option α} {y : α} (h : gd b x = some y) : b = true ∧ x = some y := by
  cases b
  · cases h
  · exact ⟨rfl, h⟩
def bnd {α β : Type} (x : α) (f : α → Option β) : Option β := f x
theorem bnd_some {α β : Type} {x : α} {f : α → Option β} {y : β} (h : bnd x f = some y) : ∃ z, z = x ∧ f z = some y := ⟨x, rfl, h⟩
def ob {α β : Type} (x : Option α) (f : α → Option β) : Option β := match x with
  | none => none
  | some z => f z
theorem ob_some {α β : Type} {x : Option α} {f : α → Option β} {y : β} (h : ob x f = some y) : ∃ z, x = some z ∧ f z = some y := by
  cases x with
  | none => cases h
  | some z => exact ⟨z, rfl, h⟩
def om {β : Type} (x : Option Nat) (y : β) (f : Nat → β) : β := match x with
  | none => y
  | some z => f z
theorem om_none {β : Type} {x : Option Nat} {y : β} {f : Nat → β} (h : x = none) : om x y f = y := by rw [h]; rfl
theorem om_some {β : Type} {x : Option Nat} {y : β} {f : Nat → β} {z : Nat} (h : x = some z) : om x y f = f z := by rw [h]; rfl
def isB (x : Int32) : Bool := decide (x = 0) || decide (x = 1)
theorem isB_nar {x : Int32} (h : isB x = true) : narrow .boolean (.int x) = .int x := by
  unfold isB at h
  simp only [Bool.or_eq_true, decide_eq_true_eq] at h
  rcases h with rfl | rfl <;> decide
def nb (x : Int32) : Int32 := vp_nar .boolean x
def sOf (x : Int32) : Option Nat := if x < 0 then none else if 4 ≤ x then none else some x.toNatClampNeg
def cel (E : Shp) (ids : List Id3) (cy : Nat → ClassId) (a : Id3 → Nat) (V : Sto) : va_W := ids.map (fun q => (a q, E cy a V q))
def Lcl (E : Shp) : Prop := ∀ (cy : Nat → ClassId) (a : Id3 → Nat) (V V' : Sto) (c t i : Nat), V c t i = V' c t i → E cy a V (c, t, i) = E cy a V' (c, t, i)
def inA (ids : List Id3) (a : Id3 → Nat) : Nat → Prop := fun q => ∃ d ∈ ids, a d = q
def Wok (E : Shp) (ids : List Id3) (a : Id3 → Nat) : Prop := Lcl E ∧ ids.Nodup ∧ ∀ q ∈ ids, ∀ q' ∈ ids, a q = a q' → q = q'
def tysA (cy : Nat → ClassId) : List (ClassId × FieldType) := [(cy 0, .int), (cy 1, .boolean), (cy 2, .object RX0), (cy 3, .object RX4)]
def isAI (E : Shp) (c t i n : Nat) : Prop := ∀ (cy : Nat → ClassId) (a : Id3 → Nat) (V : Sto), E cy a V (c, t, i) = .inl (cy 0, n, .inl (V c t i))
def isAZ (E : Shp) (c t i n : Nat) : Prop := ∀ (cy : Nat → ClassId) (a : Id3 → Nat) (V : Sto), E cy a V (c, t, i) = .inl (cy 1, n, .inl (V c t i))
theorem cel_get {E : Shp} {ids : List Id3} {cy : Nat → ClassId} {a : Id3 → Nat} {V : Sto} {q : Id3} (h : q ∈ ids) : ∃ k : Nat, (cel E ids cy a V)[k]? = some (a q, E cy a V q) ∧ ids[k]? = some q := by
  obtain ⟨k, hk⟩ := List.getElem?_of_mem h
  exact ⟨k, by simp [cel, hk], hk⟩
theorem cel_D {E : Shp} {ids : List Id3} {cy : Nat → ClassId} {a : Id3 → Nat} {V : Sto} (ok : Wok E ids a) : va_D (inA ids a) (cel E ids cy a V) := by
  refine ⟨fun i j p q hp hq hpq => ?_, fun k q hk => ?_⟩
  · simp only [cel, List.getElem?_map, Option.map_eq_some_iff] at hp hq
    obtain ⟨d, hd, rfl⟩ := hp
    obtain ⟨d', hd', rfl⟩ := hq
    have e := ok.2.2 d (List.mem_of_getElem? hd) d' (List.mem_of_getElem? hd') hpq
    subst e
    exact (List.getElem?_inj (List.getElem?_eq_some_iff.mp hd).1 ok.2.1).mp (hd.trans hd'.symm)
  · simp only [cel, List.getElem?_map, Option.map_eq_some_iff] at hk
    obtain ⟨d, hd, rfl⟩ := hk
    exact ⟨d, List.mem_of_getElem? hd, rfl⟩
theorem cel_set {E : Shp} {ids : List Id3} {cy : Nat → ClassId} {a : Id3 → Nat} {V : Sto} {c t i k : Nat} {f : Nat → Int32} {e : va_E} (ok : Wok E ids a) (hk : ids[k]? = some (c, t, i)) (he : E cy a (upS V c t i f) (c, t, i) = e) : (cel E ids cy a V).set k (a (c, t, i), e) = cel E ids cy a (upS V c t i f) := by
  have hlt : k < ids.length := (List.getElem?_eq_some_iff.mp hk).1
  apply List.ext_getElem?
  intro j
  rw [List.getElem?_set]
  by_cases hj : k = j
  · subst hj
    have hl2 : k < (cel E ids cy a V).length := by simp only [cel, List.length_map]; exact hlt
    rw [if_pos rfl, if_pos hl2]
    simp only [cel, List.getElem?_map, hk, Option.map_some, he]
  · rw [if_neg hj]
    simp only [cel, List.getElem?_map]
    cases hq : ids[j]? with
    | none => rfl
    | some q =>
      obtain ⟨c', t', i'⟩ := q
      simp only [Option.map_some]
      rw [ok.1 cy a V (upS V c t i f) c' t' i' (upS_ne (fun h => by
        obtain ⟨rfl, rfl, rfl⟩ := h
        exact hj ((List.getElem?_inj hlt ok.2.1).mp (hk.trans hq.symm)))).symm]
def Cx (cy : Nat → ClassId) (D : va_G) (E : Shp) (ids : List Id3) (a : Id3 → Nat) (p : Program) (s : State) (m : MethodId) (args : Array Value) (c : Code) (own : String) (cc : ByteArray) (nL : Nat) : Prop :=
  CallFix p m c cc nL s args wsL_law own ∧ (∀ w ∈ nws, va_Nw w s) ∧ va_K D vwCl (tysA cy) s ∧ Wok E ids a
def Wd (cy : Nat → ClassId) (D : va_G) (E : Shp) (ids : List Id3) (a : Id3 → Nat) (V : Sto) (s : State) (H : Heap) (locs : List Loc) : Prop := va_P D vwCl (cel E ids cy a V) H ∧ va_S (inA ids a) s.heap H locs
def WPre (cy : Nat → ClassId) (D : va_G) (E : Shp) (ids : List Id3) (a : Id3 → Nat) (V : Sto) (U : State) : Prop := va_P D vwCl (cel E ids cy a V) U.heap ∧ va_K D vwCl (tysA cy) U ∧ ∀ w ∈ nws, va_Nw w U
theorem nest_tab {w : Cond} (h : isNest w) : w.onTables = true := by
  rcases h with ⟨_, _, _, _, _, _, rfl⟩ | ⟨_, _, _, _, rfl⟩ <;> rfl
theorem nest_warm {w : Cond} (h : isNest w) {s U : State} (hW : s.WarmedH U.vm) (hZ : va_Nw w s) : va_Nw w U := by
  rcases h with ⟨_, _, _, _, _, _, rfl⟩ | ⟨_, _, _, _, rfl⟩
  · exact va_Nw.warmF hW hZ
  · exact va_Nw.warmM hW hZ
theorem WPre_blind {cy : Nat → ClassId} {D : va_G} {E : Shp} {ids : List Id3} {a : Id3 → Nat} {V : Sto} {As : List Value} : FrameBlind (va_Pc As (fun U => WPre cy D E ids a V U)) := fun av U g mk q => ⟨q.1, q.2.1, va_K.moved (u := U) (U := U.calling g mk av) (Vm.Alike.refl U.vm) q.2.2.1, fun w hw => va_Nw.same (nest_tab (nws_nest w hw)) (u := U) (U := U.calling g mk av) rfl (q.2.2.2 w hw)⟩
def Wy (y : MethodName) (bytes : ByteArray) (nL : Nat) (ret : Option FieldType) (n : Nat) : Prop := Cond.code y bytes nL ret ∈ wsL_law ∧ Cond.initialized y.cls ∈ wsL_law ∧ (y.cls ≠ "java/lang/invoke/MethodHandle" ∧ y.cls ≠ "java/lang/invoke/VarHandle" ∧ (parseMethodDescriptor y.desc).map (fun d => d.parameters.length) = some n)
theorem Wy.good {y : MethodName} {bytes : ByteArray} {nL : Nat} {ret : Option FieldType} {n : Nat} (h : Wy y bytes nL ret n) : GoodIn wsL_law (Cond.code y bytes nL ret :: wsL_law) := fun w hw => (List.mem_cons.mp hw).elim (fun e => e ▸ good_all _ h.1) (good_all w)
abbrev QI (cy : Nat → ClassId) (D : va_G) (E : Shp) (ids : List Id3) (a : Id3 → Nat) (r : Int32) (V : Sto) : Array Value → State → Outcome → State → Prop := va_Qi (fun (r' : Int32) (V1 : Sto) => r' = r ∧ V1 = V) (fun (V1 : Sto) (t : State) => va_P D vwCl (cel E ids cy a V1) t.heap) (inA ids a)
abbrev QV (cy : Nat → ClassId) (D : va_G) (E : Shp) (ids : List Id3) (a : Id3 → Nat) (V : Sto) : Array Value → State → Outcome → State → Prop := va_Qv (fun (V1 : Sto) => V1 = V) (fun (V1 : Sto) (t : State) => va_P D vwCl (cel E ids cy a V1) t.heap) (inA ids a)
def QR (cy : Nat → ClassId) (D : va_G) (E : Shp) (ids : List Id3) (a : Id3 → Nat) (r : Option Nat) (V : Sto) : Array Value → State → Outcome → State → Prop := fun _ s0 oc t => (oc = .returned (some (va_rf r)) ∧ va_P D vwCl (cel E ids cy a V) t.heap) ∧ va_F (inA ids a) s0 t
abbrev MtI (l : Launch) (cy : Nat → ClassId) (D : va_G) (E : Shp) (ids : List Id3) (a : Id3 → Nat) (y : MethodName) (bytes : ByteArray) (nL : Nat) (ty : FieldType) (rm : Room) (As : List Value) (V : Sto) (r : Int32) (V' : Sto) : Prop := Met l y (Cond.code y bytes nL (some ty) :: wsL_law) rm (va_Pc As (fun U => WPre cy D E ids a V U)) (QI cy D E ids a r V') 0 0 (inA ids a)
abbrev MtV (l : Launch) (cy : Nat → ClassId) (D : va_G) (E : Shp) (ids : List Id3) (a : Id3 → Nat) (y : MethodName) (bytes : ByteArray) (nL : Nat) (rm : Room) (As : List Value) (V : Sto) (V' : Sto) : Prop := Met l y (Cond.code y bytes nL none :: wsL_law) rm (va_Pc As (fun U => WPre cy D E ids a V U)) (QV cy D E ids a V') 0 0 (inA ids a)
theorem ofWF {l : Launch} {y : MethodName} {ws ws' : List Cond} {rm : Room} {Pc : Array Value → State → Prop} {Qc : Array Value → State → Outcome → State → Prop} {mc ms : Nat} {free : Addr → Prop} {cc : ByteArray} {maxL : Nat} {ret : Option FieldType}
    (hy : plainFor y = true) (hw : ws = Cond.code y cc maxL ret :: ws')
    (body : ∀ p e s m args below meth c s₁, BodyLoose p l y (headSpec ws rm) cc maxL ret e s m args below meth c s₁ → c.maxLocals = maxL → Pc args s →
      W p l e (headSpec ws rm).room s m args below meth c s.heap [] 0 0 (MQ below Qc args s mc ms free) (entryFrame m args maxL)) : Met l y ws rm Pc Qc mc ms free := by
  refine MetFree.of_bodySF (code := cc) (maxLocals := maxL) (ret := ret) hy ?_ ?_
  · intro args s m h hn
    obtain ⟨meth, c, h1, h2, h3, h4, h5, h6, -, -⟩ := Cond.code_spec hn (atoms_spec (ws := ws) h _ (by rw [hw]; exact List.mem_cons_self))
    exact ⟨meth, c, h1, h2, h3, h4, h5, h6⟩
  · intro p e s m args below meth c s₁ B hml hP _
    have hh0 : s₁.heap = s.heap := by rw [B.state]; rfl
    obtain ⟨t, a1, o, b1, b2, b3⟩ := body p e s m args below meth c s₁ B hml hP s₁ hh0 (Stand.of_body B)
    exact ⟨t, o, a1, b1, b2, ⟨b3.1, b3.2⟩⟩
theorem ofM {l : Launch} {cy : Nat → ClassId} {D : va_G} {E : Shp} {ids : List Id3} {a : Id3 → Nat} {V : Sto} {y : MethodName} {bytes : ByteArray} {nL : Nat} {ret : Option FieldType} {rm : Room} {As : List Value} {Qc : Array Value → State → Outcome → State → Prop} (hy : plainFor y = true) (ok : Wok E ids a) (hlen : (lg_sl As).length ≤ nL)
    (body : ∀ (p : Program) (e : Env) (s : State) (m : MethodId) (args : Array Value) (below : List Frame) (meth : Method) (c : Code), Cx cy D E ids a p s m args c y.cls bytes nL → meth.sig.returnType = ret → meth.locks = false → Wd cy D E ids a V s s.heap [] → ∀ ls : Array Slot, lv_has ls nL (lv_args 0 As) → W p l e rm s m args below meth c s.heap [] 0 0 (MQ below Qc args s 0 0 (inA ids a)) (F0 m 0 ls [])) :
    Met l y (Cond.code y bytes nL ret :: wsL_law) rm (va_Pc As (fun U => WPre cy D E ids a V U)) Qc 0 0 (inA ids a) := by
  refine ofWF (cc := bytes) (maxL := nL) (ret := ret) hy rfl ?_
  intro p e s m args below meth c s₁ B hml hv
  obtain ⟨rfl, hP, hK, hN⟩ := hv
  have hts := atoms_spec (ws := Cond.code y bytes nL ret :: wsL_law) B.pre
  have hown : s.vm.findClass y.cls = some m.cls := findClass_of_methodNamed B.named
  have hl := lv_entry As (n := nL) hlen
  rw [lg_entry_eq]
  exact body p e s m _ below meth c ⟨⟨B.exec, B.bytes, hml, hown, fun w h => hts w (List.mem_cons_of_mem _ h)⟩, hN, hK, ok⟩ B.returns B.notSynchronized ⟨hP, va_S.rf⟩ _ hl
section RW
variable {p : Program} {l : Launch} {e : Env} {R : Room} {s : State} {m : MethodId} {args : Array Value} {below : List Frame} {meth : Method} {c : Code} {H : Heap} {locs : List Loc} {cells slots : Nat} {Q : State → Prop}
variable {cc : ByteArray} {pc : Nat} {ls : Array Slot} {rest : List Value} {cy : Nat → ClassId} {D : va_G} {E : Shp} {ids : List Id3} {a : Id3 → Nat} {V : Sto} {own : String} {nL : Nat}
theorem WPre_at (C : Cx cy D E ids a p s m args c own cc nL) (w : Wd cy D E ids a V s H locs) {U : State} (hU : U.heap = H) (hW : s.WarmedH U.vm) : WPre cy D E ids a V U := ⟨by rw [hU]; exact w.1, va_K.moved hW.alike C.2.2.1, fun x hx => nest_warm (nws_nest x hx) hW (C.2.1 x hx)⟩
theorem r_get (C : Cx cy D E ids a p s m args c own cc nL) (w : Wd cy D E ids a V s H locs) {q : Id3} (hq : q ∈ ids) {ci : Nat} {fs : List Value} (hE : E cy a V q = .inr (ci, fs)) {Cn : String} {T : u_T} {N : Nat} (hc : vwCl[ci]? = some (Cn, T, N)) (hin : ∀ w ∈ u_ws Cn T N, w ∈ wsL_law) (k : Nat) (hk : k < N) {index : Nat} (hl : Cond.fieldLink own index (T k).1 (T k).2.1 (T k).2.2.1 ∈ wsL_law) {v : Value} (hv : fs[k]? = some v) (hdg : decode cc pc = .ok (.getfield index, 3))
    (kk : W p l e R s m args below meth c H locs cells slots Q (F0 m (pc + 3) ls (v :: rest))) : W p l e R s m args below meth c H locs cells slots Q (F0 m pc ls (.ref (a q) :: rest)) := by
  obtain ⟨⟨hx, hb, hml, hown, hts⟩, hN, hK, ok⟩ := C
  obtain ⟨k0, h1, -⟩ := cel_get (E := E) (cy := cy) (a := a) (V := V) hq
  rw [hE] at h1
  exact va_get hx hb hts hin hown hK w.1 k0 h1 hc k hk (hts _ hl) (fun _ h => h) hv hdg kk
theorem r_getN (C : Cx cy D E ids a p s m args c own cc nL) (w : Wd cy D E ids a V s H locs) {q : Id3} (hq : q ∈ ids) {ci : Nat} {fs : List Value} (hE : E cy a V q = .inr (ci, fs)) {Cn : String} {T : u_T} {N : Nat} (hc : vwCl[ci]? = some (Cn, T, N)) (hin : ∀ w ∈ u_ws Cn T N, w ∈ wsL_law) (k : Nat) (hk : k < N) {index : Nat} {host : String} (hl : Cond.fieldLinkNest own index (T k).1 (T k).2.1 (T k).2.2.1 host ∈ nws) {v : Value} (hv : fs[k]? = some v) (hdg : decode cc pc = .ok (.getfield index, 3))
    (kk : W p l e R s m args below meth c H locs cells slots Q (F0 m (pc + 3) ls (v :: rest))) : W p l e R s m args below meth c H locs cells slots Q (F0 m pc ls (.ref (a q) :: rest)) := by
  obtain ⟨⟨hx, hb, hml, hown, hts⟩, hN, hK, ok⟩ := C
  obtain ⟨k0, h1, -⟩ := cel_get (E := E) (cy := cy) (a := a) (V := V) hq
  rw [hE] at h1
  exact va_getN hx hb hts hin hown hK w.1 k0 h1 hc k hk (va_Nw.use rfl (hN _ hl)) (fun _ h => h) hv hdg kk
theorem r_put (C : Cx cy D E ids a p s m args c own cc nL) (w : Wd cy D E ids a V s H locs) {c0 t i : Nat} (hq : (c0, t, i) ∈ ids) {ci : Nat} {fs : List Value} (hE : E cy a V (c0, t, i) = .inr (ci, fs)) {Cn : String} {T : u_T} {N : Nat} (hc : vwCl[ci]? = some (Cn, T, N)) (hin : ∀ w ∈ u_ws Cn T N, w ∈ wsL_law) (ty0 : Nat → FieldType) (hty : ∀ k, k < N → parseFieldDescriptor (T k).2.2.1 = some (ty0 k)) (hnm : ∀ a, a < N → ∀ b, b < N → a ≠ b → (T a).2.1 ≠ (T b).2.1) (k : Nat) (hk : k < N) {index : Nat} (hl : Cond.fieldLink own index (T k).1 (T k).2.1 (T k).2.2.1 ∈ wsL_law) (hfin : (T k).2.2.2 = false) (hd : parseFieldDescriptor (T k).2.2.1 = some .int) {x : Int32} (hset : E cy a (st V c0 t i k x) (c0, t, i) = .inr (ci, fs.set k (.int x))) (hln : k < fs.length) (hdg : decode cc pc = .ok (.putfield index, 3))
    (kk : ∀ (H1 : Heap) (locs1 : List Loc), Wd cy D E ids a (st V c0 t i k x) s H1 locs1 → W p l e R s m args below meth c H1 locs1 cells slots Q (F0 m (pc + 3) ls rest)) : W p l e R s m args below meth c H locs cells slots Q (F0 m pc ls (.int x :: .ref (a (c0, t, i)) :: rest)) := by
  obtain ⟨⟨hx, hb, hml, hown, hts⟩, hN, hK, ok⟩ := C
  obtain ⟨k0, h1, h2⟩ := cel_get (E := E) (cy := cy) (a := a) (V := V) hq
  rw [hE] at h1
  refine va_put hx hb hts hin ty0 hty hnm hown hK w.1 (cel_D ok) w.2 k0 h1 hc k hk (hts _ hl) (fun _ h => h) hfin hd rfl rfl hln hdg (fun H1 locs1 hP hD hS => kk H1 locs1 ⟨?_, hS⟩)
  rw [cel_set ok h2 hset] at hP
  exact hP
theorem r_putN (C : Cx cy D E ids a p s m args c own cc nL) (w : Wd cy D E ids a V s H locs) {c0 t i : Nat} (hq : (c0, t, i) ∈ ids) {ci : Nat} {fs : List Value} (hE : E cy a V (c0, t, i) = .inr (ci, fs)) {Cn : String} {T : u_T} {N : Nat} (hc : vwCl[ci]? = some (Cn, T, N)) (hin : ∀ w ∈ u_ws Cn T N, w ∈ wsL_law) (ty0 : Nat → FieldType) (hty : ∀ k, k < N → parseFieldDescriptor (T k).2.2.1 = some (ty0 k)) (hnm : ∀ a, a < N → ∀ b, b < N → a ≠ b → (T a).2.1 ≠ (T b).2.1) (k : Nat) (hk : k < N) {index : Nat} {host : String} (hl : Cond.fieldLinkNest own index (T k).1 (T k).2.1 (T k).2.2.1 host ∈ nws) (hfin : (T k).2.2.2 = false) (hd : parseFieldDescriptor (T k).2.2.1 = some .int) {x : Int32} (hset : E cy a (st V c0 t i k x) (c0, t, i) = .inr (ci, fs.set k (.int x))) (hln : k < fs.length) (hdg : decode cc pc = .ok (.putfield index, 3))
    (kk : ∀ (H1 : Heap) (locs1 : List Loc), Wd cy D E ids a (st V c0 t i k x) s H1 locs1 → W p l e R s m args below meth c H1 locs1 cells slots Q (F0 m (pc + 3) ls rest)) : W p l e R s m args below meth c H locs cells slots Q (F0 m pc ls (.int x :: .ref (a (c0, t, i)) :: rest)) := by
  obtain ⟨⟨hx, hb, hml, hown, hts⟩, hN, hK, ok⟩ := C
  obtain ⟨k0, h1, h2⟩ := cel_get (E := E) (cy := cy) (a := a) (V := V) hq
  rw [hE] at h1
  refine va_putN hx hb hts hin ty0 hty hnm hown hK w.1 (cel_D ok) w.2 k0 h1 hc k hk (va_Nw.use rfl (hN _ hl)) (fun _ h => h) hfin hd rfl rfl hln hdg (fun H1 locs1 hP hD hS => kk H1 locs1 ⟨?_, hS⟩)
  rw [cel_set ok h2 hset] at hP
  exact hP
theorem r_iald (C : Cx cy D E ids a p s m args c own cc nL) (w : Wd cy D E ids a V s H locs) {c0 t i n : Nat} (hq : (c0, t, i) ∈ ids) (hE : isAI E c0 t i n) {x : Int32} (hin : inb x n = true) (hdg : decode cc pc = .ok (.iaload, 1))
    (kk : W p l e R s m args below meth c H locs cells slots Q (F0 m (pc + 1) ls (.int (V c0 t i x.toNatClampNeg) :: rest))) : W p l e R s m args below meth c H locs cells slots Q (F0 m pc ls (.int x :: .ref (a (c0, t, i)) :: rest)) := by
  obtain ⟨⟨hx, hb, hml, hown, hts⟩, hN, hK, ok⟩ := C
  obtain ⟨k0, h1, -⟩ := cel_get (E := E) (cy := cy) (a := a) (V := V) hq
  rw [hE] at h1
  exact va_iald hx hb hK w.1 k0 0 h1 rfl (inb_in hin) hdg kk
theorem r_zald (C : Cx cy D E ids a p s m args c own cc nL) (w : Wd cy D E ids a V s H locs) {c0 t i n : Nat} (hq : (c0, t, i) ∈ ids) (hE : isAZ E c0 t i n) {x : Int32} (hin : inb x n = true) (hdg : decode cc pc = .ok (.baload, 1))
    (kk : W p l e R s m args below meth c H locs cells slots Q (F0 m (pc + 1) ls (.int (V c0 t i x.toNatClampNeg) :: rest))) : W p l e R s m args below meth c H locs cells slots Q (F0 m pc ls (.int x :: .ref (a (c0, t, i)) :: rest)) := by
  obtain ⟨⟨hx, hb, hml, hown, hts⟩, hN, hK, ok⟩ := C
  obtain ⟨k0, h1, -⟩ := cel_get (E := E) (cy := cy) (a := a) (V := V) hq
  rw [hE] at h1
  exact va_zald hx hb hK w.1 k0 1 h1 rfl (inb_in hin) hdg kk
theorem r_iast (C : Cx cy D E ids a p s m args c own cc nL) (w : Wd cy D E ids a V s H locs) {c0 t i n : Nat} (hq : (c0, t, i) ∈ ids) (hE : isAI E c0 t i n) {x y : Int32} (hin : inb x n = true) (hdg : decode cc pc = .ok (.iastore, 1))
    (kk : ∀ (H1 : Heap) (locs1 : List Loc), Wd cy D E ids a (st V c0 t i x.toNatClampNeg y) s H1 locs1 → W p l e R s m args below meth c H1 locs1 cells slots Q (F0 m (pc + 1) ls rest)) : W p l e R s m args below meth c H locs cells slots Q (F0 m pc ls (.int y :: .int x :: .ref (a (c0, t, i)) :: rest)) := by
  obtain ⟨⟨hx, hb, hml, hown, hts⟩, hN, hK, ok⟩ := C
  obtain ⟨k0, h1, h2⟩ := cel_get (E := E) (cy := cy) (a := a) (V := V) hq
  rw [hE] at h1
  refine va_iast hx hb hK w.1 (cel_D ok) w.2 k0 0 h1 rfl (inb_in hin) hdg (fun H1 locs1 hP hD hS => kk H1 locs1 ⟨?_, hS⟩)
  rw [cel_set ok h2 (f := upd (V c0 t i) x.toNatClampNeg y) (by rw [hE, upS_same])] at hP
  exact hP
theorem r_zast (C : Cx cy D E ids a p s m args c own cc nL) (w : Wd cy D E ids a V s H locs) {c0 t i n : Nat} (hq : (c0, t, i) ∈ ids) (hE : isAZ E c0 t i n) {x y : Int32} (hin : inb x n = true) (hdg : decode cc pc = .ok (.bastore, 1))
    (kk : ∀ (H1 : Heap) (locs1 : List Loc), Wd cy D E ids a (st V c0 t i x.toNatClampNeg (nb y)) s H1 locs1 → W p l e R s m args below meth c H1 locs1 cells slots Q (F0 m (pc + 1) ls rest)) : W p l e R s m args below meth c H locs cells slots Q (F0 m pc ls (.int y :: .int x :: .ref (a (c0, t, i)) :: rest)) := by
  obtain ⟨⟨hx, hb, hml, hown, hts⟩, hN, hK, ok⟩ := C
  obtain ⟨k0, h1, h2⟩ := cel_get (E := E) (cy := cy) (a := a) (V := V) hq
  rw [hE] at h1
  refine va_zast hx hb hK w.1 (cel_D ok) w.2 k0 1 h1 rfl (inb_in hin) hdg (fun H1 locs1 hP hD hS => kk H1 locs1 ⟨?_, hS⟩)
  rw [cel_set ok h2 (f := upd (V c0 t i) x.toNatClampNeg (vp_nar .boolean y)) (by rw [hE, upS_same])] at hP
  exact hP
theorem r_alen (C : Cx cy D E ids a p s m args c own cc nL) (w : Wd cy D E ids a V s H locs) {c0 t i n : Nat} (hq : (c0, t, i) ∈ ids) (hE : isAI E c0 t i n) (hdg : decode cc pc = .ok (.arraylength, 1))
    (kk : W p l e R s m args below meth c H locs cells slots Q (F0 m (pc + 1) ls (.int (nI n) :: rest))) : W p l e R s m args below meth c H locs cells slots Q (F0 m pc ls (.ref (a (c0, t, i)) :: rest)) := by
  obtain ⟨⟨hx, hb, hml, hown, hts⟩, hN, hK, ok⟩ := C
  obtain ⟨k0, h1, -⟩ := cel_get (E := E) (cy := cy) (a := a) (V := V) hq
  rw [hE] at h1
  exact va_alen hx hb hK w.1 k0 0 h1 (ty := .int) rfl rfl hdg kk
theorem r_aald (C : Cx cy D E ids a p s m args c own cc nL) (w : Wd cy D E ids a V s H locs) {q : Id3} {n k : Nat} {f : Nat → Id3} {Cn : String} (hq : q ∈ ids) (hE : E cy a V q = .inl (cy k, n, .inr (.inr (.inr (.inr (fun j => some (a (f j)))))))) (ht : (tysA cy)[k]? = some (cy k, .object Cn)) {x : Int32} (hin : inb x n = true) (hdg : decode cc pc = .ok (.aaload, 1))
    (kk : W p l e R s m args below meth c H locs cells slots Q (F0 m (pc + 1) ls (.ref (a (f x.toNatClampNeg)) :: rest))) : W p l e R s m args below meth c H locs cells slots Q (F0 m pc ls (.int x :: .ref (a q) :: rest)) := by
  obtain ⟨⟨hx, hb, hml, hown, hts⟩, hN, hK, ok⟩ := C
  obtain ⟨k0, h1, -⟩ := cel_get (E := E) (cy := cy) (a := a) (V := V) hq
  rw [hE] at h1
  exact va_aldq hx hb hK w.1 k0 k h1 ht (inb_in hin) hdg kk
theorem r_copy (C : Cx cy D E ids a p s m args c own cc nL) (w : Wd cy D E ids a V s H locs) {c0 t i n c1 t1 i1 n1 N : Nat} {x : Int32} (hq : (c0, t, i) ∈ ids) (hE : isAI E c0 t i n) (hq1 : (c1, t1, i1) ∈ ids) (hE1 : isAI E c1 t1 i1 n1) (hx0 : ¬ x < 0) (hxN : x.toNatClampNeg = N) (hn : N ≤ n) (hn1 : N ≤ n1) {index : Nat} (hl : Cond.methodLink own index arraycopyName ∈ wsL_law) (hsz : ls.size = nL) (hfr : 1 ≤ R.frames) (hlo : (rest.map fun v => v.category).sum + (nativeFrameWords "java/lang/System" "arraycopy" 5 + 11) ≤ R.locals) (hdg : decode cc pc = .ok (.invokestatic index, 3))
    (kk : ∀ (H1 : Heap) (locs1 : List Loc), Wd cy D E ids a (cpS V c0 t i c1 t1 i1 N) s H1 locs1 → W p l e R s m args below meth c H1 locs1 cells slots Q (F0 m (pc + 3) ls rest)) : W p l e R s m args below meth c H locs cells slots Q (F0 m pc ls (.int x :: .int 0 :: .ref (a (c1, t1, i1)) :: .int 0 :: .ref (a (c0, t, i)) :: rest)) := by
  obtain ⟨⟨hx, hb, hml, hown, hts⟩, hN, hK, ok⟩ := C
  obtain ⟨k0, h1, -⟩ := cel_get (E := E) (cy := cy) (a := a) (V := V) hq
  obtain ⟨k1, h3, h4⟩ := cel_get (E := E) (cy := cy) (a := a) (V := V) hq1
  rw [hE] at h1
  rw [hE1] at h3
  subst hxN
  have z0 : ((0 : Int32)).toNatClampNeg = 0 := rfl
  refine va_copyi hx hb (hml.trans hsz.symm) hown (hts _ hl) (hts _ w_nat_arraycopyName) (hts _ w_sta_arraycopyName) (hts _ w_ini_System) hK w.1 (cel_D ok) w.2 k0 k1 0 0 h1 h3 rfl rfl rfl (by decide) (by decide) hx0 (by rw [z0]; omega) (by rw [z0]; omega) (fun j _ => rfl) hfr hlo hdg (fun H1 locs1 hP hD hS => kk H1 locs1 ⟨?_, hS⟩)
  have e4 := cel_set (V := V) (cy := cy) ok h4 (f := va_cpy (V c0 t i) (V c1 t1 i1) 0 0 x.toNatClampNeg) rfl
  rw [hE1, upS_same] at e4
  show va_P D vwCl (cel E ids cy a (upS V c1 t1 i1 (va_cpy (V c0 t i) (V c1 t1 i1) 0 0 x.toNatClampNeg))) H1
  rw [← e4]
  exact hP
theorem r_iret (C : Cx cy D E ids a p s m args c own cc nL) (hr : meth.sig.returnType = some .int) (hlk : meth.locks = false) (w : Wd cy D E ids a V s H locs) {r : Int32} (hdg : decode cc pc = .ok (.ireturn, 1)) : W p l e R s m args below meth c H locs 0 0 (MQ below (QI cy D E ids a r V) args s 0 0 (inA ids a)) (F0 m pc ls [.int r]) :=
  W.iret (v := r) C.1.1 C.1.2.1 hr (fun t ht _ => ⟨⟨r, V, rfl, ⟨rfl, rfl⟩, show va_P D vwCl (cel E ids cy a V) t.heap by rw [ht]; exact w.1⟩, w.2.F ht⟩) w.2.2.2 hdg hlk
theorem r_zret (C : Cx cy D E ids a p s m args c own cc nL) (hr : meth.sig.returnType = some .boolean) (hlk : meth.locks = false) (w : Wd cy D E ids a V s H locs) {r : Int32} (hB : isB r = true) (hdg : decode cc pc = .ok (.ireturn, 1)) : W p l e R s m args below meth c H locs 0 0 (MQ below (QI cy D E ids a r V) args s 0 0 (inA ids a)) (F0 m pc ls [.int r]) :=
  W.zret (v := r) C.1.1 C.1.2.1 hr (isB_nar hB) (fun t ht _ => ⟨⟨r, V, rfl, ⟨rfl, rfl⟩, show va_P D vwCl (cel E ids cy a V) t.heap by rw [ht]; exact w.1⟩, w.2.F ht⟩) w.2.2.2 hdg hlk
theorem r_vret (C : Cx cy D E ids a p s m args c own cc nL) (hr : meth.sig.returnType = none) (hlk : meth.locks = false) (w : Wd cy D E ids a V s H locs) (hdg : decode cc pc = .ok (.return_, 1)) : W p l e R s m args below meth c H locs 0 0 (MQ below (QV cy D E ids a V) args s 0 0 (inA ids a)) (F0 m pc ls []) :=
  W.vret C.1.1 C.1.2.1 hr (fun t ht _ => ⟨⟨V, rfl, rfl, show va_P D vwCl (cel E ids cy a V) t.heap by rw [ht]; exact w.1⟩, w.2.F ht⟩) w.2.2.2 hdg hlk
theorem r_aret (C : Cx cy D E ids a p s m args c own cc nL) {Cn : String} (hr : meth.sig.returnType = some (.object Cn)) (hlk : meth.locks = false) (w : Wd cy D E ids a V s H locs) {r : Option Nat} (hdg : decode cc pc = .ok (.areturn, 1)) : W p l e R s m args below meth c H locs 0 0 (MQ below (QR cy D E ids a r V) args s 0 0 (inA ids a)) (F0 m pc ls [va_rf r]) :=
  W.aret (v := va_rf r) C.1.1 C.1.2.1 hr (Or.inl ⟨_, rfl⟩) (by cases r with | none => exact Or.inl rfl | some x => exact Or.inr ⟨x, rfl⟩) (fun t ht _ => ⟨⟨rfl, show va_P D vwCl (cel E ids cy a V) t.heap by rw [ht]; exact w.1⟩, w.2.F ht⟩) w.2.2.2 hdg hlk
theorem k_I (w : Wd cy D E ids a V s H locs) {r : Int32} {V' : Sto} {st0 : List Value} {aa : Array Value} (hr : va_Run p l e R s m args below meth c H locs cells slots 0 0 (F0 m pc ls st0) rest (QI cy D E ids a r V' aa) (inA ids a)) (kk : ∀ (H1 : Heap) (locs1 : List Loc), Wd cy D E ids a V' s H1 locs1 → W p l e R s m args below meth c H1 locs1 cells slots Q (F0 m (pc + 3) ls (.int r :: rest))) : W p l e R s m args below meth c H locs cells slots Q (F0 m pc ls st0) := by
  refine va_calli hr w.2 (fun q _ h => h) (fun q h => h) (fun r' u t H1 locs1 ht hvm hp hB hz hk hS => ?_)
  obtain ⟨rfl, rfl⟩ := hp
  exact kk H1 locs1 ⟨by rw [← ht]; exact hB, hS⟩
theorem k_V (w : Wd cy D E ids a V s H locs) {V' : Sto} {st0 : List Value} {aa : Array Value} (hr : va_Run p l e R s m args below meth c H locs cells slots 0 0 (F0 m pc ls st0) rest (QV cy D E ids a V' aa) (inA ids a)) (kk : ∀ (H1 : Heap) (locs1 : List Loc), Wd cy D E ids a V' s H1 locs1 → W p l e R s m args below meth c H1 locs1 cells slots Q (F0 m (pc + 3) ls rest)) : W p l e R s m args below meth c H locs cells slots Q (F0 m pc ls st0) := by
  refine va_callv hr w.2 (fun q _ h => h) (fun q h => h) (fun u t H1 locs1 ht hvm hp hB hz hk hS => ?_)
  obtain rfl := hp
  exact kk H1 locs1 ⟨by rw [← ht]; exact hB, hS⟩
theorem k_R (w : Wd cy D E ids a V s H locs) {r : Option Nat} {V' : Sto} {st0 : List Value} {aa : Array Value} (hr : va_Run p l e R s m args below meth c H locs cells slots 0 0 (F0 m pc ls st0) rest (QR cy D E ids a r V' aa) (inA ids a)) (kk : ∀ (H1 : Heap) (locs1 : List Loc), Wd cy D E ids a V' s H1 locs1 → W p l e R s m args below meth c H1 locs1 cells slots Q (F0 m (pc + 3) ls (va_rf r :: rest))) : W p l e R s m args below meth c H locs cells slots Q (F0 m pc ls st0) := by
  intro T hT X
  obtain ⟨v, s0, t, T', L, h0, X', hL, e1, e2, ⟨⟨hv, hb⟩, hz, hk⟩, stp⟩ := hr T hT X
  cases hv
  rw [h0] at hz hk
  obtain ⟨t2, a1, b1⟩ := kk T'.heap (locs ++ L) ⟨by rw [e1]; exact hb, ⟨Nat.le_trans w.2.1 (by rw [e1]; exact hz), fun q h1 h2 => by rw [e1, hk q (Nat.lt_of_lt_of_le h1 w.2.1) h2]; exact w.2.2.1 q h1 h2, fun q hq => by
      rcases List.mem_append.mp hq with h | h
      · exact w.2.2.2 q h
      · exact hL q h⟩⟩ T' rfl X'
  exact ⟨t2, stp t2 a1, b1⟩
theorem q_V (C : Cx cy D E ids a p s m args c own cc nL) (w : Wd cy D E ids a V s H locs) {y : MethodName} {bytes : ByteArray} {nLy n : Nat} {ret : Option FieldType} {rm : Room} {Qc : Array Value → State → Outcome → State → Prop} {q : Id3} {As : List Value} (hM : Met l y (Cond.code y bytes nLy ret :: wsL_law) rm (va_Pc (.ref (a q) :: As) (fun U => WPre cy D E ids a V U)) Qc 0 0 (inA ids a)) (hy : Wy y bytes nLy ret n) (hi : Cond.instanceMethod y ∈ wsL_law ∧ Cond.selects y.cls y y ∈ wsL_law) {index : Nat} (hl : Cond.methodLink own index y ∈ wsL_law) (hq : q ∈ ids) {ci : Nat} {fs : List Value} (hE : E cy a V q = .inr (ci, fs)) {T : u_T} {N : Nat} (hc : vwCl[ci]? = some (y.cls, T, N)) (hrc : rm.cells = 0) (hrs : rm.slots = 0) (hR : rm.frames + 1 ≤ R.frames ∧ 8 + (nLy + 11) + rm.locals ≤ R.locals) (hln : As.length = n) (hsz : ls.size = nL) {st0 : List Value} (hst : st0 = As.reverse ++ .ref (a q) :: rest) (hW8 : (rest.map fun v => v.category).sum ≤ 8) (hdg : decode cc pc = .ok (.invokevirtual index, 3)) (hf : cells + 0 ≤ R.cells ∧ slots + 0 ≤ R.slots) :
    va_Run p l e R s m args below meth c H locs cells slots 0 0 (F0 m pc ls st0) rest (Qc (Value.ref (a q) :: As).toArray) (inA ids a) := by
  obtain ⟨k0, h1, -⟩ := cel_get (E := E) (cy := cy) (a := a) (V := V) hq
  rw [hE] at h1
  have hts := C.1.2.2.2.2
  exact va_runV C.1 hM ⟨callB_of n hts hy.good rfl hrc hrs (hts _ hy.2.1) (hts _ hl) hy.2.2 hR, hts _ hi.1, hts _ hi.2⟩ ⟨WPre_blind, va_recv C.2.2.1 w.1 hc h1, fun U hU hW => ⟨rfl, WPre_at C w hU hW⟩⟩ rfl hln hsz hst (lv_room hW8) hdg hf
theorem q_VN (C : Cx cy D E ids a p s m args c own cc nL) (w : Wd cy D E ids a V s H locs) {y : MethodName} {bytes : ByteArray} {nLy n : Nat} {ret : Option FieldType} {rm : Room} {Qc : Array Value → State → Outcome → State → Prop} {q : Id3} {As : List Value} (hM : Met l y (Cond.code y bytes nLy ret :: wsL_law) rm (va_Pc (.ref (a q) :: As) (fun U => WPre cy D E ids a V U)) Qc 0 0 (inA ids a)) (hy : Wy y bytes nLy ret n) (hi : Cond.instanceMethod y ∈ wsL_law ∧ Cond.selects y.cls y y ∈ wsL_law) {index : Nat} {host : String} (hl : Cond.methodLinkNest own index y host ∈ nws) (hq : q ∈ ids) {ci : Nat} {fs : List Value} (hE : E cy a V q = .inr (ci, fs)) {T : u_T} {N : Nat} (hc : vwCl[ci]? = some (y.cls, T, N)) (hrc : rm.cells = 0) (hrs : rm.slots = 0) (hR : rm.frames + 1 ≤ R.frames ∧ 8 + (nLy + 11) + rm.locals ≤ R.locals) (hln : As.length = n) (hsz : ls.size = nL) {st0 : List Value} (hst : st0 = As.reverse ++ .ref (a q) :: rest) (hW8 : (rest.map fun v => v.category).sum ≤ 8) (hdg : decode cc pc = .ok (.invokevirtual index, 3)) (hf : cells + 0 ≤ R.cells ∧ slots + 0 ≤ R.slots) :
    va_Run p l e R s m args below meth c H locs cells slots 0 0 (F0 m pc ls st0) rest (Qc (Value.ref (a q) :: As).toArray) (inA ids a) := by
  obtain ⟨k0, h1, -⟩ := cel_get (E := E) (cy := cy) (a := a) (V := V) hq
  rw [hE] at h1
  have hts := C.1.2.2.2.2
  exact va_runVN C.1 hM ⟨va_cnB n hts hy.good rfl hrc hrs (C.2.1 _ hl) (hts _ hy.2.1) hy.2.2 hR, hts _ hi.1, hts _ hi.2⟩ ⟨WPre_blind, va_recv C.2.2.1 w.1 hc h1, fun U hU hW => ⟨rfl, WPre_at C w hU hW⟩⟩ rfl hln hsz hst (lv_room hW8) hdg hf
theorem q_S (C : Cx cy D E ids a p s m args c own cc nL) (w : Wd cy D E ids a V s H locs) {y : MethodName} {bytes : ByteArray} {nLy n : Nat} {ret : Option FieldType} {rm : Room} {Qc : Array Value → State → Outcome → State → Prop} {As : List Value} (hM : Met l y (Cond.code y bytes nLy ret :: wsL_law) rm (va_Pc As (fun U => WPre cy D E ids a V U)) Qc 0 0 (inA ids a)) (hy : Wy y bytes nLy ret n) (hi : Cond.static y ∈ wsL_law) {index : Nat} (hl : Cond.methodLink own index y ∈ wsL_law) (hrc : rm.cells = 0) (hrs : rm.slots = 0) (hR : rm.frames + 1 ≤ R.frames ∧ 8 + (nLy + 11) + rm.locals ≤ R.locals) (hln : As.length = n) (hsz : ls.size = nL) {st0 : List Value} (hst : st0 = As.reverse ++ rest) (hW8 : (rest.map fun v => v.category).sum ≤ 8) (hdg : decode cc pc = .ok (.invokestatic index, 3)) (hf : cells + 0 ≤ R.cells ∧ slots + 0 ≤ R.slots) :
    va_Run p l e R s m args below meth c H locs cells slots 0 0 (F0 m pc ls st0) rest (Qc As.toArray) (inA ids a) := by
  have hts := C.1.2.2.2.2
  exact va_runS C.1 hM ⟨callB_of n hts hy.good rfl hrc hrs (hts _ hy.2.1) (hts _ hl) hy.2.2 hR, hts _ hi⟩ ⟨WPre_blind, fun U hU hW => ⟨rfl, WPre_at C w hU hW⟩⟩ rfl hln hsz hst (lv_room hW8) hdg hf
theorem q_SN (C : Cx cy D E ids a p s m args c own cc nL) (w : Wd cy D E ids a V s H locs) {y : MethodName} {bytes : ByteArray} {nLy n : Nat} {ret : Option FieldType} {rm : Room} {Qc : Array Value → State → Outcome → State → Prop} {As : List Value} (hM : Met l y (Cond.code y bytes nLy ret :: wsL_law) rm (va_Pc As (fun U => WPre cy D E ids a V U)) Qc 0 0 (inA ids a)) (hy : Wy y bytes nLy ret n) (hi : Cond.static y ∈ wsL_law) {index : Nat} {host : String} (hl : Cond.methodLinkNest own index y host ∈ nws) (hrc : rm.cells = 0) (hrs : rm.slots = 0) (hR : rm.frames + 1 ≤ R.frames ∧ 8 + (nLy + 11) + rm.locals ≤ R.locals) (hln : As.length = n) (hsz : ls.size = nL) {st0 : List Value} (hst : st0 = As.reverse ++ rest) (hW8 : (rest.map fun v => v.category).sum ≤ 8) (hdg : decode cc pc = .ok (.invokestatic index, 3)) (hf : cells + 0 ≤ R.cells ∧ slots + 0 ≤ R.slots) :
    va_Run p l e R s m args below meth c H locs cells slots 0 0 (F0 m pc ls st0) rest (Qc As.toArray) (inA ids a) := by
  have hts := C.1.2.2.2.2
  exact va_runSN C.1 hM ⟨va_cnB n hts hy.good rfl hrc hrs (C.2.1 _ hl) (hts _ hy.2.1) hy.2.2 hR, hts _ hi, trivial⟩ ⟨WPre_blind, fun U hU hW => ⟨rfl, WPre_at C w hU hW⟩⟩ rfl hln hsz hst (lv_room hW8) hdg hf
end RW
