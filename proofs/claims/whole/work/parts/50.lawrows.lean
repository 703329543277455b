/-! THE CLAIM OUT OF ONE WALK OF THE LAW'S BODY. Your part is whole_start (and what it stands on); all else here is the same for every law, but numbers. -/
def R_law : String := "AtomicThreadsLaw"
def lw_P (b : Addr) (xs : List Int32) (args : Array Value) (s : State) : Prop := args = #[.ref b] ∧ s.IntsAt b xs ∧ xs.length ≤ 2560 ∧ (Jvm.Cond.and given_1 narrow_1).before args s = true
def lw_Q (_ : Array Value) (s : State) (o : Outcome) (t : State) : Prop := o = .returned (some (.int 1)) ∧ Framed s o t [] 600000 7302250
def lw_Z (below : List Frame) (a : Array Value) (s : State) : State → Prop := fun t => ∃ o, t.status = .running ∧ Ended t below o ∧ lw_Q a s o t
/-- the law's own end, with 1 on the stack, nothing written that was there before, its room as the claim has it -/
theorem lw_ret {p : Program} {l : Launch} {e : Env} {s : State} {m : MethodId} {below : List Frame} {meth : Method} {c : Code} {b : Nat} (hx : p.tables.exec = Jvm.exec) (hb : c.code = code) (hr : meth.sig.returnType = ret) (hlocks : meth.locks = false) {pc : Nat} {H : Heap} {ls : Array Slot} (hdg : decode code pc = .ok (.ireturn, 1)) : W p l e room_1 s m #[Value.ref b] below meth c H [] 600000 7302250 (lw_Z below #[Value.ref b] s) (F0 m pc ls [.int 1]) := by
  intro T hT X
  obtain ⟨fs, hret, hrun, hended, hW, hframe⟩ := X.leave (v := some (.int 1)) (hlocks := hlocks) (fun h => by rw [hr] at h; cases h)
  have hmeth' : T.vm.method? m = some meth := X.method'
  refine ⟨T.setFrames fs, ?_, .returned (some (.int 1)), hrun, hended, rfl, ⟨_, rfl⟩, hW, hframe⟩
  jvm_step X.here [X.here.top, hx, hb, hdg, hmeth', hr, ret, narrow_b1]
  (try refine ⟨rfl, ?_⟩); (try refine ⟨rfl, ?_⟩)
  first | (intro acts; rw [hret _ acts rfl rfl rfl]) | rw [hret _ _ rfl rfl rfl]
  exact Steps.refl _
/-- what holds at the law's entry: the machine, the code, the tables' words (any of lw_tbl by 'hts w (by decide +kernel)'), the script of L ints xs at the cell b, what the Statement gives of the start (any of its parts by flat_of_before) -/
def lw_At (p : Program) (s : State) (m : MethodId) (meth : Method) (c : Code) (b L : Nat) (xs : Nat → Int32) : Prop :=
  p.tables.exec = Jvm.exec ∧ c.code = code ∧ meth.sig.returnType = ret ∧ c.maxLocals = 4 ∧ s.vm.findClass R_law = some m.cls ∧ (∀ w ∈ lw_tbl, w.before #[Value.ref b] s = true) ∧ va_X b L xs s s.heap ∧ b < s.heap.size ∧ meth.locks = false ∧ (Jvm.Cond.and given_1 narrow_1).before #[Value.ref b] s = true
theorem va_D_addr {A : Nat → Prop} {ws ws' : va_W} (h : ws.map Prod.fst = ws'.map Prod.fst) (hD : va_D A ws) : va_D A ws' := by
  have at' : ∀ (k : Nat) (q : Nat × va_E), ws'[k]? = some q → ∃ q0 : Nat × va_E, ws[k]? = some q0 ∧ q0.1 = q.1 := by
    intro k q hq
    have h1 : (ws'.map Prod.fst)[k]? = some q.1 := by rw [List.getElem?_map, hq]; rfl
    rw [← h, List.getElem?_map] at h1
    cases h2 : ws[k]? with
    | none => rw [h2] at h1; cases h1
    | some q0 => rw [h2] at h1; exact ⟨q0, rfl, Option.some.inj h1⟩
  refine ⟨fun i j x z hx hz e => ?_, fun k q hk => ?_⟩
  · obtain ⟨x0, g1, g2⟩ := at' i x hx
    obtain ⟨z0, g3, g4⟩ := at' j z hz
    exact hD.1 i j x0 z0 g1 g3 (by rw [g2, g4]; exact e)
  · obtain ⟨q0, g1, g2⟩ := at' k q hk
    rw [← g2]
    exact hD.2 k q0 g1
theorem cel_addr {E : Shp} {ids : List Id3} {cy : Nat → ClassId} {a : Id3 → Nat} (V V' : Sto) : (cel E ids cy a V).map Prod.fst = (cel E ids cy a V').map Prod.fst := by
  simp only [cel, List.map_map]
  rfl
theorem cy_ex {args : Array Value} {s : State} (h0 : (Cond.arrayClass .int).before args s = true) (h1 : (Cond.arrayClass .boolean).before args s = true) (h2 : (Cond.arrayOver (.object RX0)).before args s = true) (h3 : (Cond.arrayOver (.object RX4)).before args s = true) : ∃ cy : Nat → ClassId, ∀ (k : Nat) (q : ClassId × FieldType), (tysA cy)[k]? = some q → ArrOfT s q.1 q.2 ∧ va_RA s q.1 q.2 := by
  obtain ⟨c0, k0, p0, a1, a2, a3⟩ := Cond.arrayClass_spec h0
  obtain ⟨c1, k1, p1, b1, b2, b3⟩ := Cond.arrayClass_spec h1
  obtain ⟨p2, c2, k2, d1, -, d2, d3, d4⟩ := Cond.arrayOver_spec h2
  obtain ⟨p3, c3, k3, e1, -, e2, e3, e4⟩ := Cond.arrayOver_spec h3
  refine ⟨fun k => match k with | 0 => c0 | 1 => c1 | 2 => c2 | _ => c3, fun k q hq => ?_⟩
  match k, hq with
  | 0, hq => cases hq; exact ⟨fun N z => ⟨(fun k h => by cases h), k0, a2, p0, a3⟩, a1⟩
  | 1, hq => cases hq; exact ⟨fun N z => ⟨(fun k h => by cases h), k1, b2, p1, b3⟩, b1⟩
  | 2, hq => cases hq; exact ⟨fun N z => ⟨(fun k h => by cases h), k2, d2, p2, d3⟩, k2, p2, d2, d3, d1, d4⟩
  | 3, hq => cases hq; exact ⟨fun N z => ⟨(fun k h => by cases h), k3, e2, p3, e3⟩, k3, p3, e2, e3, e1, e4⟩
  | k + 4, hq => simp [tysA] at hq
section RL
variable {p : Program} {l : Launch} {e : Env} {R : Room} {s : State} {m : MethodId} {args : Array Value} {below : List Frame} {meth : Method} {c : Code} {H : Heap} {locs : List Loc} {cells slots : Nat} {Q : State → Prop}
variable {cc : ByteArray} {pc : Nat} {ls : Array Slot} {rest : List Value} {cy : Nat → ClassId} {D : va_G} {A : Nat → Prop} {own : String} {nL : Nat}
theorem L_call (C : CI cy D p s m args c own cc nL) {w1 w2 : va_W} {E : Shp} {ids : List Id3} {a : Id3 → Nat} {V V' : Sto} {r : Int32} (w : WI D A (w1 ++ (cel E ids cy a V ++ w2)) s H locs) {y : MethodName} {bytes : ByteArray} {nLy n : Nat} {ty : FieldType} {rm : Room} {q : Id3} {As : List Value} (hM : MtI l cy D E ids a y bytes nLy ty rm (.ref (a q) :: As) V r V') (hy : Wy y bytes nLy (some ty) n) (hi : Cond.instanceMethod y ∈ wsL_law ∧ Cond.selects y.cls y y ∈ wsL_law) {index : Nat} (hl : Cond.methodLink own index y ∈ wsL_law) (hq : q ∈ ids) {ci : Nat} {fs : List Value} (hE : E cy a V q = .inr (ci, fs)) {T : u_T} {N : Nat} (hc : vwCl[ci]? = some (y.cls, T, N)) (hrc : rm.cells = 0) (hrs : rm.slots = 0) (hR : rm.frames + 1 ≤ R.frames ∧ 8 + (nLy + 11) + rm.locals ≤ R.locals) (hln : As.length = n) (hsz : ls.size = nL) {st0 : List Value} (hst : st0 = As.reverse ++ .ref (a q) :: rest) (hW8 : (rest.map fun v => v.category).sum ≤ 8) (hdg : decode cc pc = .ok (.invokevirtual index, 3)) (hf : cells + 0 ≤ R.cells ∧ slots + 0 ≤ R.slots)
    (kk : ∀ (H1 : Heap) (locs1 : List Loc), WI D A (w1 ++ (cel E ids cy a V' ++ w2)) s H1 locs1 → W p l e R s m args below meth c H1 locs1 cells slots Q (F0 m (pc + 3) ls (.int r :: rest))) : W p l e R s m args below meth c H locs cells slots Q (F0 m pc ls st0) := by
  have hts := C.1.2.2.2.2
  obtain ⟨hP, hD, hS, hA⟩ := w
  have inm : ∀ (k : Nat) (x : Nat × va_E), (cel E ids cy a V)[k]? = some x → (w1 ++ (cel E ids cy a V ++ w2))[w1.length + k]? = some x := fun k x hx => by
    rw [List.getElem?_append_right (Nat.le_add_right _ _), Nat.add_sub_cancel_left, List.getElem?_append_left (List.getElem?_eq_some_iff.mp hx).1]; exact hx
  have hPc : va_P D vwCl (cel E ids cy a V) H := fun k x hx => hP _ x (inm k x hx)
  have hin : ∀ z, inA ids a z → A z := by
    rintro z ⟨d, hd, rfl⟩
    obtain ⟨k, h1, -⟩ := cel_get (E := E) (cy := cy) (a := a) (V := V) hd
    exact hD.2 _ _ (inm k _ h1)
  obtain ⟨k0, h1, -⟩ := cel_get (E := E) (cy := cy) (a := a) (V := V) hq
  rw [hE] at h1
  refine va_calli (va_runV C.1 hM ⟨callB_of n hts hy.good rfl hrc hrs (hts _ hy.2.1) (hts _ hl) hy.2.2 hR, hts _ hi.1, hts _ hi.2⟩ ⟨WPre_blind, va_recv C.2.2.1 hPc hc h1, fun U hU hW => ⟨rfl, by rw [hU]; exact hPc, va_K.moved hW.alike C.2.2.1, fun x hx => nest_warm (nws_nest x hx) hW (C.2.1 x hx)⟩⟩ rfl hln hsz hst (lv_room hW8) hdg hf) hS (fun z _ h => hin z h) hin (fun r' V1 t H1 locs1 ht hvm hp hB hz hk hS1 => ?_)
  obtain ⟨rfl, rfl⟩ := hp
  refine kk H1 locs1 ⟨?_, va_D_addr (by rw [List.map_append, List.map_append, List.map_append, List.map_append, cel_addr V V1]) hD, hS1, hA⟩
  have hB : va_P D vwCl (cel E ids cy a V1) H1 := by rw [← ht]; exact hB
  have out : ∀ (k : Nat) (x : Nat × va_E), (w1 ++ (cel E ids cy a V ++ w2))[k]? = some x → (k < w1.length ∨ w1.length + (cel E ids cy a V).length ≤ k) → va_at D vwCl x H1 := by
    intro k x hx hk2
    refine (hP k x hx).kept (hk x.1 (hP k x hx).lt (fun ⟨d, hd, e9⟩ => ?_))
    obtain ⟨j, g1, -⟩ := cel_get (E := E) (cy := cy) (a := a) (V := V) hd
    have e8 := hD.1 k _ x _ hx (inm j _ g1) e9.symm
    have := (List.getElem?_eq_some_iff.mp g1).1
    omega
  have hlen : (cel E ids cy a V1).length = (cel E ids cy a V).length := by simp only [cel, List.length_map]
  refine va_P.app (fun k x hx => out k x ?_ (Or.inl (List.getElem?_eq_some_iff.mp hx).1)) (va_P.app hB (fun k x hx => out (w1.length + ((cel E ids cy a V).length + k)) x ?_ (Or.inr (by omega))))
  · rw [List.getElem?_append_left (List.getElem?_eq_some_iff.mp hx).1]; exact hx
  · rw [List.getElem?_append_right (Nat.le_add_right _ _), Nat.add_sub_cancel_left, List.getElem?_append_right (Nat.le_add_right _ _), Nat.add_sub_cancel_left]; exact hx
theorem n_callI (C : CI cy D p s m args c own cc nL) {wr : va_W} {q : Nat} {e0 : va_E} (w : WI D A (wr ++ [(q, e0)]) s H locs) {y : MethodName} {bytes : ByteArray} {nLy mc ms : Nat} {rm : Room} {E : Shp} {Vi : Sto} {ids : List Id3} {self : Id3} (hM : MtN l cy D E Vi y bytes nLy rm ids self e0 mc ms q H.size) (hy : Wy y bytes nLy none 0) (hyn : y.name = "<init>") (him : Cond.instanceMethod y ∈ wsL_law) {index : Nat} (hl : Cond.methodLink own index y ∈ wsL_law) (hrc : rm.cells = mc) (hrs : rm.slots = ms) (hR : rm.frames + 1 ≤ R.frames ∧ 8 + (nLy + 11) + rm.locals ≤ R.locals) (hsz : ls.size = nL) (hW8 : (rest.map fun v => v.category).sum ≤ 8) (hdg : decode cc pc = .ok (.invokespecial index, 3)) (hf : cells + mc ≤ R.cells ∧ slots + ms ≤ R.slots)
    (kk : ∀ (b : Id3 → Nat) (H1 : Heap) (locs1 : List Loc), b self = q → WI D A (wr ++ cel E ids cy b Vi) s H1 locs1 → W p l e R s m args below meth c H1 locs1 (cells + mc) (slots + ms) Q (F0 m (pc + 3) ls rest)) : W p l e R s m args below meth c H locs cells slots Q (F0 m pc ls (.ref q :: rest)) := by
  have hts := C.1.2.2.2.2
  have hFc : ∀ z, va_A [(q, e0)] H.size z → A z := by
    intro z hz
    rcases hz with ⟨k, e9, h9⟩ | h9
    · have h8 : (wr ++ [(q, e0)])[wr.length + k]? = some (z, e9) := by
        rw [List.getElem?_append_right (Nat.le_add_right _ _), Nat.add_sub_cancel_left]; exact h9
      exact w.2.1.2 _ _ h8
    · exact w.2.2.2 z (Nat.le_trans w.2.2.1.1 h9)
  have hPc : va_P D vwCl [(q, e0)] H := fun k x hx => w.1 (wr.length + k) x (by rw [List.getElem?_append_right (Nat.le_add_right _ _), Nat.add_sub_cancel_left]; exact hx)
  have hDc : va_D (fun _ => True) [(q, e0)] := by
    refine ⟨fun i j x z hx hz _ => ?_, fun _ _ _ => trivial⟩
    have h1 : i < 1 := (List.getElem?_eq_some_iff.mp hx).1
    have h2 : j < 1 := (List.getElem?_eq_some_iff.mp hz).1
    omega
  refine va_callv (va_runI (As := []) (rest := rest) C.1 hM ⟨callB_of 0 hts hy.good rfl hrc hrs (hts _ hy.2.1) (hts _ hl) hy.2.2 hR, hyn, hts _ him⟩ ⟨CPre_blind, fun U hU hW => ⟨rfl, by rw [hU], by rw [hU]; exact hPc, va_K.moved hW.alike C.2.2.1, fun x hx => nest_warm (nws_nest x hx) hW (C.2.1 x hx), ⟨va_AO.moved hW.alike C.2.2.2.1, va_AO.moved hW.alike C.2.2.2.2⟩, hDc⟩⟩ rfl rfl hsz rfl (lv_room hW8) hdg hf) w.2.2.1 (fun z _ h => hFc z h) hFc (fun b t H1 locs1 ht hvm hb hB hz1 hk1 hS => ?_)
  obtain ⟨hP1, hD1⟩ := hB
  rw [ht] at hP1
  obtain ⟨hP, hD⟩ := va_joinA w.1 w.2.1 hk1 hFc hP1 hD1
  exact kk b H1 locs1 hb ⟨hP, hD, hS, w.2.2.2⟩
end RL
