/-! constructors: worlds that grow -/
def U0 : Sto := fun _ _ _ _ => 0
def V0 : Sto := fun c _ _ => if c = 10 then (fun j => if j = 5 then -1 else 0) else (fun _ => 0)
def CPre (cy : Nat → ClassId) (D : va_G) (ws : va_W) (sz : Nat) (U : State) : Prop := U.heap.size = sz ∧ va_P D vwCl ws U.heap ∧ va_K D vwCl (tysA cy) U ∧ (∀ w ∈ nws, va_Nw w U) ∧ (va_AO RX0 U ∧ va_AO RX4 U) ∧ va_D (fun _ => True) ws
def CI (cy : Nat → ClassId) (D : va_G) (p : Program) (s : State) (m : MethodId) (args : Array Value) (c : Code) (own : String) (cc : ByteArray) (nL : Nat) : Prop := CallFix p m c cc nL s args wsL_law own ∧ (∀ w ∈ nws, va_Nw w s) ∧ va_K D vwCl (tysA cy) s ∧ (va_AO RX0 s ∧ va_AO RX4 s)
def WI (D : va_G) (A : Nat → Prop) (ws : va_W) (s : State) (H : Heap) (locs : List Loc) : Prop := va_P D vwCl ws H ∧ va_D A ws ∧ va_S A s.heap H locs ∧ ∀ q : Nat, s.heap.size ≤ q → A q
abbrev QN (cy : Nat → ClassId) (D : va_G) (E : Shp) (Vi : Sto) (ids : List Id3) (self : Id3) (h0 : Nat) (A : Nat → Prop) : Array Value → State → Outcome → State → Prop := va_Qv (fun (b : Id3 → Nat) => b self = h0) (fun (b : Id3 → Nat) (t : State) => va_P D vwCl (cel E ids cy b Vi) t.heap ∧ va_D A (cel E ids cy b Vi)) A
abbrev MtN (l : Launch) (cy : Nat → ClassId) (D : va_G) (E : Shp) (Vi : Sto) (y : MethodName) (bytes : ByteArray) (nL : Nat) (rm : Room) (ids : List Id3) (self : Id3) (e0 : va_E) (mc ms : Nat) (h0 sz : Nat) : Prop := Met l y (Cond.code y bytes nL none :: wsL_law) rm (va_Pc [.ref h0] (fun U => CPre cy D [(h0, e0)] sz U)) (QN cy D E Vi ids self h0 (va_A [(h0, e0)] sz)) mc ms (va_A [(h0, e0)] sz)
theorem CPre_blind {cy : Nat → ClassId} {D : va_G} {ws : va_W} {sz : Nat} {As : List Value} : FrameBlind (va_Pc As (fun U => CPre cy D ws sz U)) := fun av U g mk q => ⟨q.1, q.2.1, q.2.2.1, va_K.moved (u := U) (U := U.calling g mk av) (Vm.Alike.refl U.vm) q.2.2.2.1, fun w hw => va_Nw.same (nest_tab (nws_nest w hw)) (u := U) (U := U.calling g mk av) rfl (q.2.2.2.2.1 w hw), ⟨va_AO.moved (u := U) (U := U.calling g mk av) (Vm.Alike.refl U.vm) q.2.2.2.2.2.1.1, va_AO.moved (u := U) (U := U.calling g mk av) (Vm.Alike.refl U.vm) q.2.2.2.2.2.1.2⟩, q.2.2.2.2.2.2⟩
theorem va_joinA {A0 : Nat → Prop} {D : va_G} {cl : List vw_C} {wr wc w1 : va_W} {H H1 : Heap} (hP : va_P D cl (wr ++ wc) H) (hD : va_D A0 (wr ++ wc)) (hk : ∀ q : Nat, q < H.size → ¬ va_A wc H.size q → H1[q]? = H[q]?) (hF : ∀ q, va_A wc H.size q → A0 q) (hP1 : va_P D cl w1 H1) (hD1 : va_D (va_A wc H.size) w1) : va_P D cl (wr ++ w1) H1 ∧ va_D A0 (wr ++ w1) := by
  have up : ∀ (k : Nat) (q : Nat × va_E), wr[k]? = some q → (wr ++ wc)[k]? = some q := fun k q h => by
    rw [List.getElem?_append_left (List.getElem?_eq_some_iff.mp h).1]; exact h
  have apart : ∀ (k : Nat) (q : Nat × va_E), wr[k]? = some q → q.1 < H.size ∧ ¬ va_A wc H.size q.1 := by
    intro k q hq
    have hl := (hP k q (up k q hq)).lt
    refine ⟨hl, fun h => ?_⟩
    rcases h with ⟨k2, e, h⟩ | h
    · have h4 : (wr ++ wc)[wr.length + k2]? = some (q.1, e) := by
        rw [List.getElem?_append_right (Nat.le_add_right _ _), Nat.add_sub_cancel_left]; exact h
      have hij := hD.1 k (wr.length + k2) q (q.1, e) (up k q hq) h4 rfl
      have := (List.getElem?_eq_some_iff.mp hq).1
      omega
    · omega
  refine ⟨va_P.app (fun k q hq => ?_) hP1, va_D.app ⟨fun i j p q hp hq hpq => hD.1 i j p q (up i p hp) (up j q hq) hpq, fun k q hq => hD.2 k q (up k q hq)⟩ (hD1.weaken (fun k q _ h => hF q.1 h)) (fun i j x y hx hy hxy => ?_)⟩
  · obtain ⟨g1, g2⟩ := apart k q hq
    exact (hP k q (up k q hq)).kept (hk q.1 g1 g2)
  · exact (apart i x hx).2 (by rw [hxy]; exact hD1.2 j y hy)
theorem Wok_of_D {E : Shp} {ids : List Id3} {cy : Nat → ClassId} {a : Id3 → Nat} {V : Sto} {A : Nat → Prop} (hl : Lcl E) (hn : ids.Nodup) (hD : va_D A (cel E ids cy a V)) : Wok E ids a := by
  refine ⟨hl, hn, fun q hq q' hq' e => ?_⟩
  obtain ⟨k, h1, h2⟩ := cel_get (E := E) (cy := cy) (a := a) (V := V) hq
  obtain ⟨k', h3, h4⟩ := cel_get (E := E) (cy := cy) (a := a) (V := V) hq'
  have hk := hD.1 k k' _ _ h1 h3 e
  subst hk
  exact Option.some.inj (h2.symm.trans h4)
theorem ofN {l : Launch} {cy : Nat → ClassId} {D : va_G} {E : Shp} {Vi : Sto} {ids : List Id3} {self : Id3} {e0 : va_E} {h0 sz mc ms : Nat} {y : MethodName} {bytes : ByteArray} {nL : Nat} {rm : Room} (hy : plainFor y = true) (hyn : y.name = "<init>") (hlen : 1 ≤ nL)
    (body : ∀ (p : Program) (e : Env) (s : State) (m : MethodId) (args : Array Value) (below : List Frame) (meth : Method) (c : Code) (A : Nat → Prop), CI cy D p s m args c y.cls bytes nL → meth.sig.returnType = none → meth.locks = false → meth.name = "<init>" → WI D A [(h0, e0)] s s.heap [] → ∀ ls : Array Slot, lv_has ls nL [(0, .ref h0)] → W p l e rm s m args below meth c s.heap [] 0 0 (MQ below (QN cy D E Vi ids self h0 A) args s mc ms A) (F0 m 0 ls [])) :
    MtN l cy D E Vi y bytes nL rm ids self e0 mc ms h0 sz := by
  refine ofWF (cc := bytes) (maxL := nL) (ret := none) hy rfl ?_
  intro p e s m args below meth c s₁ B hml hv
  obtain ⟨rfl, hsz, hP, hK, hN, hO, hD0⟩ := hv
  have hts := atoms_spec (ws := Cond.code y bytes nL none :: wsL_law) B.pre
  have hown : s.vm.findClass y.cls = some m.cls := findClass_of_methodNamed B.named
  have hin : meth.name = "<init>" := by rw [(name_of_methodNamed B.named B.method).1]; exact hyn
  subst hsz
  have hD := hD0.self (sz := s.heap.size)
  have hl := lv_entry ([.ref h0]) (n := nL) hlen
  rw [lg_entry_eq]
  exact body p e s m _ below meth c _ ⟨⟨B.exec, B.bytes, hml, hown, fun w h => hts w (List.mem_cons_of_mem _ h)⟩, hN, hK, hO⟩ B.returns B.notSynchronized hin ⟨hP, hD, va_S.rf, fun q h => Or.inr h⟩ _ hl
section RN
variable {p : Program} {l : Launch} {e : Env} {R : Room} {s : State} {m : MethodId} {args : Array Value} {below : List Frame} {meth : Method} {c : Code} {H : Heap} {locs : List Loc} {cells slots : Nat} {Q : State → Prop}
variable {cc : ByteArray} {pc : Nat} {ls : Array Slot} {rest : List Value} {cy : Nat → ClassId} {D : va_G} {ws : va_W} {A : Nat → Prop} {own : String} {nL : Nat}
theorem n_obj (C : CI cy D p s m args c own cc nL) {idx : Nat} (hl : Cond.methodLink own idx objectInit ∈ wsL_law) (hsz : ls.size = nL) {a : Nat} (hd : decode cc pc = .ok (.invokespecial idx, 3)) (hfr : 1 ≤ R.frames) (hlo : (rest.map fun v => v.category).sum + 12 ≤ R.locals)
    (kk : W p l e R s m args below meth c H locs cells slots Q (F0 m (pc + 3) ls rest)) : W p l e R s m args below meth c H locs cells slots Q (F0 m pc ls (.ref a :: rest)) := by
  obtain ⟨⟨hx, hb, hml, hown, hts⟩, hN, hK, hO⟩ := C
  exact W.objInit hx hb hown (hts _ hl) (hts _ w_im_objectInit) (hts _ w_co_objectInit_b_1_none) rfl (hsz.trans hml.symm) rfl hd hfr (by show 2 * 0 + _ + 12 ≤ _; omega) kk
theorem n_new (C : CI cy D p s m args c own cc nL) (w : WI D A ws s H locs) {Cn : String} {T : u_T} {N ci index : Nat} (hin : ∀ w ∈ u_ws Cn T N, w ∈ wsL_law) (ty : Nat → FieldType) (hty : ∀ k, k < N → parseFieldDescriptor (T k).2.2.1 = some (ty k)) (hcl : Cond.classLink own index Cn ∈ wsL_law) (hinst : Cond.instantiable Cn N ∈ wsL_law) (hini : Cond.initialized Cn ∈ wsL_law) (hc : vwCl[ci]? = some (Cn, T, N)) {fs : List Value} (hfs : ∀ j, j < N → defaultValue (ty j) = vp_V fs j) (hcells : cells + 1 ≤ R.cells) (hslots : slots + N ≤ R.slots) (hdg : decode cc pc = .ok (.new index, 3))
    (kk : ∀ (q : Nat) (H1 : Heap), WI D A (ws ++ [(q, .inr (ci, fs))]) s H1 locs → W p l e R s m args below meth c H1 locs (cells + 1) (slots + N) Q (F0 m (pc + 3) ls (.ref q :: rest))) : W p l e R s m args below meth c H locs cells slots Q (F0 m pc ls rest) := by
  obtain ⟨⟨hx, hb, hml, hown, hts⟩, hN, hK, hO⟩ := C
  exact va_new hx hb hts hin ty hty hown (hts _ hcl) (hts _ hinst) (hts _ hini) hK w.1 w.2.1 w.2.2.1 w.2.2.2 hc hfs hcells hslots hdg (fun q H1 hP hD hS => kk q H1 ⟨hP, hD, hS, w.2.2.2⟩)
theorem n_newI (C : CI cy D p s m args c own cc nL) (w : WI D A ws s H locs) {n : Int32} {N' : Nat} (hn : ¬ n < 0) (hN' : n.toNatClampNeg = N') (hbytes : N' * componentBytes .int ≤ 536870912) (hcells : cells + 1 ≤ R.cells) (hslots : slots + N' ≤ R.slots) (hdg : decode cc pc = .ok (.newarray .int, 2))
    (kk : ∀ (q : Nat) (H1 : Heap), WI D A (ws ++ [(q, .inl (cy 0, N', .inl (fun _ => 0)))]) s H1 locs → W p l e R s m args below meth c H1 locs (cells + 1) (slots + N') Q (F0 m (pc + 2) ls (.ref q :: rest))) : W p l e R s m args below meth c H locs cells slots Q (F0 m pc ls (.int n :: rest)) := by
  obtain ⟨⟨hx, hb, hml, hown, hts⟩, hN, hK, hO⟩ := C
  refine va_newa (a0 := (N', .inl (fun _ => 0))) (ty := .int) hx hb (atype := .int) (hts _ w_ac_int) rfl hK w.1 w.2.1 w.2.2.1 w.2.2.2 (fun cA => rfl) hn hN' hbytes hcells hslots hdg (fun q cA H1 hK1 hP hD hS => ?_)
  have e1 : s.vm.findClass _ = some cA := (hK1.2 4 (cA, .int) rfl).2
  have e2 : s.vm.findClass _ = some (cy 0) := (hK.2 0 (cy 0, .int) rfl).2
  have e3 : cA = cy 0 := Option.some.inj (e1.symm.trans e2)
  subst e3
  exact kk q H1 ⟨hP, hD, hS, w.2.2.2⟩
theorem n_newZ (C : CI cy D p s m args c own cc nL) (w : WI D A ws s H locs) {n : Int32} {N' : Nat} (hn : ¬ n < 0) (hN' : n.toNatClampNeg = N') (hbytes : N' * componentBytes .boolean ≤ 536870912) (hcells : cells + 1 ≤ R.cells) (hslots : slots + N' ≤ R.slots) (hdg : decode cc pc = .ok (.newarray .boolean, 2))
    (kk : ∀ (q : Nat) (H1 : Heap), WI D A (ws ++ [(q, .inl (cy 1, N', .inl (fun _ => 0)))]) s H1 locs → W p l e R s m args below meth c H1 locs (cells + 1) (slots + N') Q (F0 m (pc + 2) ls (.ref q :: rest))) : W p l e R s m args below meth c H locs cells slots Q (F0 m pc ls (.int n :: rest)) := by
  obtain ⟨⟨hx, hb, hml, hown, hts⟩, hN, hK, hO⟩ := C
  refine va_newa (a0 := (N', .inl (fun _ => 0))) (ty := .boolean) hx hb (atype := .boolean) (hts _ w_ac_boolean) rfl hK w.1 w.2.1 w.2.2.1 w.2.2.2 (fun cA => rfl) hn hN' hbytes hcells hslots hdg (fun q cA H1 hK1 hP hD hS => ?_)
  have e1 : s.vm.findClass _ = some cA := (hK1.2 4 (cA, .boolean) rfl).2
  have e2 : s.vm.findClass _ = some (cy 1) := (hK.2 1 (cy 1, .boolean) rfl).2
  have e3 : cA = cy 1 := Option.some.inj (e1.symm.trans e2)
  subst e3
  exact kk q H1 ⟨hP, hD, hS, w.2.2.2⟩
theorem n_newQ (C : CI cy D p s m args c own cc nL) (w : WI D A ws s H locs) {Cn : String} {k index : Nat} (hk : (tysA cy)[k]? = some (cy k, .object Cn)) (ho : va_AO Cn s) (hcl : Cond.classLink own index Cn ∈ wsL_law) {n : Int32} {N' : Nat} (hn : ¬ n < 0) (hN' : n.toNatClampNeg = N') (hbytes : N' * 4 ≤ 536870912) (hcells : cells + 1 ≤ R.cells) (hslots : slots + N' ≤ R.slots) (hdg : decode cc pc = .ok (.anewarray index, 3))
    (kk : ∀ (q : Nat) (H1 : Heap), WI D A (ws ++ [(q, .inl (cy k, N', .inr (.inr (.inr (.inr (fun _ => none))))))]) s H1 locs → W p l e R s m args below meth c H1 locs (cells + 1) (slots + N') Q (F0 m (pc + 3) ls (.ref q :: rest))) : W p l e R s m args below meth c H locs cells slots Q (F0 m pc ls (.int n :: rest)) := by
  obtain ⟨⟨hx, hb, hml, hown, hts⟩, hN, hK, hO⟩ := C
  refine va_newq hx hb hown (hts _ hcl) ho hK w.1 w.2.1 w.2.2.1 w.2.2.2 hn hN' hbytes hcells hslots hdg (fun q cA H1 hK1 hP hD hS => ?_)
  obtain ⟨kA, comp, f1, f2, f3, e1⟩ : ∃ (kA : Class) (comp : ClassId), s.vm.classes[cA]? = some kA ∧ kA.kind = .array comp (.object Cn) ∧ s.vm.findClass Cn = some comp ∧ s.vm.findClass ("[" ++ (FieldType.object Cn).toString) = some cA := (hK1.2 4 (cA, .object Cn) rfl).2
  obtain ⟨kA', comp', g1, g2, g3, e2⟩ : ∃ (kA : Class) (comp : ClassId), s.vm.classes[cy k]? = some kA ∧ kA.kind = .array comp (.object Cn) ∧ s.vm.findClass Cn = some comp ∧ s.vm.findClass ("[" ++ (FieldType.object Cn).toString) = some (cy k) := (hK.2 k (cy k, .object Cn) hk).2
  have e3 : cA = cy k := Option.some.inj (e1.symm.trans e2)
  subst e3
  exact kk q H1 ⟨hP, hD, hS, w.2.2.2⟩
theorem n_putF (C : CI cy D p s m args c own cc nL) (hin9 : meth.name = "<init>") (w : WI D A ws s H locs) {Cn : String} {T : u_T} {N ci index : Nat} (hin : ∀ w ∈ u_ws Cn T N, w ∈ wsL_law) (ty0 : Nat → FieldType) (hty : ∀ k, k < N → parseFieldDescriptor (T k).2.2.1 = some (ty0 k)) (hnm : ∀ a, a < N → ∀ b, b < N → a ≠ b → (T a).2.1 ≠ (T b).2.1) (q0 : Nat) {a : Nat} {v : Value} {fs : List Value} (he : ws[q0]? = some (a, .inr (ci, fs))) (hc : vwCl[ci]? = some (Cn, T, N)) (k : Nat) (hk : k < N) (hl : Cond.fieldLink own index (T k).1 (T k).2.1 (T k).2.2.1 ∈ wsL_law) (hfin : (T k).2.2.2 = true) (hoc : (T k).1 = own) (hn : narrow (ty0 k) v = v) (hfit : fits (ty0 k) v = true) (hln : k < fs.length) (hdg : decode cc pc = .ok (.putfield index, 3))
    (kk : ∀ (H1 : Heap) (locs1 : List Loc), WI D A (ws.set q0 (a, .inr (ci, fs.set k v))) s H1 locs1 → W p l e R s m args below meth c H1 locs1 cells slots Q (F0 m (pc + 3) ls rest)) : W p l e R s m args below meth c H locs cells slots Q (F0 m pc ls (v :: .ref a :: rest)) := by
  obtain ⟨⟨hx, hb, hml, hown, hts⟩, hN, hK, hO⟩ := C
  exact va_putF hx hb hts hin ty0 hty hnm hown hK w.1 w.2.1 w.2.2.1 q0 he hc k hk (hts _ hl) (fun _ h => h) hfin hin9 hoc (hty k hk) hn hfit hln hdg (fun H1 locs1 hP hD hS => kk H1 locs1 ⟨hP, hD, hS, w.2.2.2⟩)
theorem n_put (C : CI cy D p s m args c own cc nL) (w : WI D A ws s H locs) {Cn : String} {T : u_T} {N ci index : Nat} (hin : ∀ w ∈ u_ws Cn T N, w ∈ wsL_law) (ty0 : Nat → FieldType) (hty : ∀ k, k < N → parseFieldDescriptor (T k).2.2.1 = some (ty0 k)) (hnm : ∀ a, a < N → ∀ b, b < N → a ≠ b → (T a).2.1 ≠ (T b).2.1) (q0 : Nat) {a : Nat} {v : Value} {fs : List Value} (he : ws[q0]? = some (a, .inr (ci, fs))) (hc : vwCl[ci]? = some (Cn, T, N)) (k : Nat) (hk : k < N) (hl : Cond.fieldLink own index (T k).1 (T k).2.1 (T k).2.2.1 ∈ wsL_law) (hfin : (T k).2.2.2 = false) (hn : narrow (ty0 k) v = v) (hfit : fits (ty0 k) v = true) (hln : k < fs.length) (hdg : decode cc pc = .ok (.putfield index, 3))
    (kk : ∀ (H1 : Heap) (locs1 : List Loc), WI D A (ws.set q0 (a, .inr (ci, fs.set k v))) s H1 locs1 → W p l e R s m args below meth c H1 locs1 cells slots Q (F0 m (pc + 3) ls rest)) : W p l e R s m args below meth c H locs cells slots Q (F0 m pc ls (v :: .ref a :: rest)) := by
  obtain ⟨⟨hx, hb, hml, hown, hts⟩, hN, hK, hO⟩ := C
  exact va_put hx hb hts hin ty0 hty hnm hown hK w.1 w.2.1 w.2.2.1 q0 he hc k hk (hts _ hl) (fun _ h => h) hfin (hty k hk) hn hfit hln hdg (fun H1 locs1 hP hD hS => kk H1 locs1 ⟨hP, hD, hS, w.2.2.2⟩)
theorem n_get (C : CI cy D p s m args c own cc nL) (w : WI D A ws s H locs) {Cn : String} {T : u_T} {N ci index : Nat} (hin : ∀ w ∈ u_ws Cn T N, w ∈ wsL_law) (q0 : Nat) {a : Nat} {v : Value} {fs : List Value} (he : ws[q0]? = some (a, .inr (ci, fs))) (hc : vwCl[ci]? = some (Cn, T, N)) (k : Nat) (hk : k < N) (hl : Cond.fieldLink own index (T k).1 (T k).2.1 (T k).2.2.1 ∈ wsL_law) (hv : fs[k]? = some v) (hdg : decode cc pc = .ok (.getfield index, 3))
    (kk : W p l e R s m args below meth c H locs cells slots Q (F0 m (pc + 3) ls (v :: rest))) : W p l e R s m args below meth c H locs cells slots Q (F0 m pc ls (.ref a :: rest)) := by
  obtain ⟨⟨hx, hb, hml, hown, hts⟩, hN, hK, hO⟩ := C
  exact va_get hx hb hts hin hown hK w.1 q0 he hc k hk (hts _ hl) (fun _ h => h) hv hdg kk
theorem n_aast (C : CI cy D p s m args c own cc nL) (w : WI D A ws s H locs) {k : Nat} {Cn : String} {T : u_T} {N : Nat} (hk : (tysA cy)[k]? = some (cy k, .object Cn)) (q0 qk ci : Nat) {a n v : Nat} {vs : List Value} {f : Nat → Option Nat} (ha : ws[q0]? = some (a, .inl (cy k, n, .inr (.inr (.inr (.inr f)))))) (hv : ws[qk]? = some (v, .inr (ci, vs))) (hc : vwCl[ci]? = some (Cn, T, N)) {i : Int32} {j : Nat} (hi : i = nI j) (hj : j < n) (hn : n < 2 ^ 31) (hdg : decode cc pc = .ok (.aastore, 1))
    (kk : ∀ (H1 : Heap) (locs1 : List Loc), WI D A (ws.set q0 (a, .inl (cy k, n, .inr (.inr (.inr (.inr (va_up f j (some v)))))))) s H1 locs1 → W p l e R s m args below meth c H1 locs1 cells slots Q (F0 m (pc + 1) ls rest)) : W p l e R s m args below meth c H locs cells slots Q (F0 m pc ls (.ref v :: .int i :: .ref a :: rest)) := by
  obtain ⟨⟨hx, hb, hml, hown, hts⟩, hN, hK, hO⟩ := C
  subst hi
  refine va_astq (r := (Cn, T, N)) hx hb hK w.1 w.2.1 w.2.2.1 q0 k qk ci ha hk hv hc (vp_in_nI hj hn) hdg (fun H1 locs1 hP hD hS => kk H1 locs1 ?_)
  rw [nI_clamp (by omega)] at hP hD
  exact ⟨hP, hD, hS, w.2.2.2⟩
theorem n_callN (C : CI cy D p s m args c own cc nL) {wr : va_W} {q : Nat} {e0 : va_E} (w : WI D A (wr ++ [(q, e0)]) s H locs) {y : MethodName} {bytes : ByteArray} {nLy mc ms : Nat} {rm : Room} {E : Shp} {Vi : Sto} {ids : List Id3} {self : Id3} (hM : MtN l cy D E Vi y bytes nLy rm ids self e0 mc ms q H.size) (hy : Wy y bytes nLy none 0) (hyn : y.name = "<init>") (him : Cond.instanceMethod y ∈ wsL_law) {index : Nat} {host : String} (hl : Cond.methodLinkNest own index y host ∈ nws) (hrc : rm.cells = mc) (hrs : rm.slots = ms) (hR : rm.frames + 1 ≤ R.frames ∧ 8 + (nLy + 11) + rm.locals ≤ R.locals) (hsz : ls.size = nL) (hW8 : (rest.map fun v => v.category).sum ≤ 8) (hdg : decode cc pc = .ok (.invokespecial index, 3)) (hf : cells + mc ≤ R.cells ∧ slots + ms ≤ R.slots)
    (kk : ∀ (b : Id3 → Nat) (H1 : Heap) (locs1 : List Loc), b self = q → WI D A (wr ++ cel E ids cy b Vi) s H1 locs1 → W p l e R s m args below meth c H1 locs1 (cells + mc) (slots + ms) Q (F0 m (pc + 3) ls rest)) : W p l e R s m args below meth c H locs cells slots Q (F0 m pc ls (.ref q :: rest)) := by
  have hts := C.1.2.2.2.2
  have hFc : ∀ z, va_A [(q, e0)] H.size z → A z := by
    intro z hz
    rcases hz with ⟨k, e9, h9⟩ | h9
    · have h8 : (wr ++ [(q, e0)])[wr.length + k]? = some (z, e9) := by
        rw [List.getElem?_append_right (Nat.le_add_right _ _), Nat.add_sub_cancel_left]; exact h9
      exact w.2.1.2 _ _ h8
    · exact w.2.2.2 z (Nat.le_trans w.2.2.1.1 h9)
  have hPc : va_P D vwCl [(q, e0)] H := fun k x hx => w.1 (wr.length + k) x (by rw [List.getElem?_append_right (Nat.le_add_right _ _), Nat.add_sub_cancel_left]; exact hx)
  have hDc : va_D (fun _ => True) [(q, e0)] := by
    refine ⟨fun i j x z hx hz _ => ?_, fun _ _ _ => trivial⟩
    have h1 : i < 1 := (List.getElem?_eq_some_iff.mp hx).1
    have h2 : j < 1 := (List.getElem?_eq_some_iff.mp hz).1
    omega
  refine va_callv (va_runIN (As := []) (rest := rest) C.1 hM ⟨va_cnB 0 hts hy.good rfl hrc hrs (C.2.1 _ hl) (hts _ hy.2.1) hy.2.2 hR, hyn, hts _ him⟩ ⟨CPre_blind, fun U hU hW => ⟨rfl, by rw [hU], by rw [hU]; exact hPc, va_K.moved hW.alike C.2.2.1, fun x hx => nest_warm (nws_nest x hx) hW (C.2.1 x hx), ⟨va_AO.moved hW.alike C.2.2.2.1, va_AO.moved hW.alike C.2.2.2.2⟩, hDc⟩⟩ rfl rfl hsz rfl (lv_room hW8) hdg hf) w.2.2.1 (fun z _ h => hFc z h) hFc (fun b t H1 locs1 ht hvm hb hB hz1 hk1 hS => ?_)
  obtain ⟨hP1, hD1⟩ := hB
  rw [ht] at hP1
  obtain ⟨hP, hD⟩ := va_joinA w.1 w.2.1 hk1 hFc hP1 hD1
  exact kk b H1 locs1 hb ⟨hP, hD, hS, w.2.2.2⟩
theorem n_ret (C : CI cy D p s m args c own cc nL) (hr : meth.sig.returnType = none) (hlk : meth.locks = false) (w : WI D A ws s H locs) {E : Shp} {Vi : Sto} {ids : List Id3} {self : Id3} {h0 : Nat} (b : Id3 → Nat) (hb : b self = h0) (hws : cel E ids cy b Vi = ws) (hdg : decode cc pc = .ok (.return_, 1)) : W p l e R s m args below meth c H locs cells slots (MQ below (QN cy D E Vi ids self h0 A) args s cells slots A) (F0 m pc ls []) := by
  subst hws
  exact W.vret C.1.1 C.1.2.1 hr (fun t ht _ => ⟨⟨b, rfl, hb, show va_P D vwCl (cel E ids cy b Vi) t.heap by rw [ht]; exact w.1, w.2.1⟩, w.2.2.1.F ht⟩) w.2.2.1.2.2 hdg hlk
end RN
