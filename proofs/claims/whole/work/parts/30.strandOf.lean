section CS
variable {p : Program} {l : Launch} {e : Env} {R : Room} {s : State} {m : MethodId} {args : Array Value} {below : List Frame} {meth : Method} {c : Code} {cy : Nat → ClassId} {D : va_G} {a : Id3 → Nat}
set_option maxHeartbeats 4000000 in
set_option maxRecDepth 100000 in
theorem c_strandOf_none (ok : Wok EC idC a) {V : Sto} {x1 : Int32} (hs : sOf x1 = none) : Met l yX5_strandOf (Cond.code yX5_strandOf cX5_strandOf 2 (some (.object "AtomicThreads$Strand")) :: wsL_law) rm_X5_strandOf (va_Pc [.ref (a (0, 0, 0)), .int x1] (fun U => WPre cy D EC idC a V U)) (QR cy D EC idC a none V) 0 0 (inA idC a) := by
  refine ofM (by decide +kernel) ok (Nat.le_of_ble_eq_true rfl) (fun p e s m args below meth c C hr hlk w ls hl => ?_)
  have hx := C.1.1
  have hb := C.1.2.1
  have nx : ¬ (¬ x1 < 0 ∧ ¬ 4 ≤ x1) := fun q => by
    unfold sOf at hs
    rw [if_neg q.1, if_neg q.2] at hs
    cases hs
  refine lv_iload_n hx hb dX5_strandOf_0 rfl (lv_at hl 1 rfl) ?_
  refine lv_if_lt (tgt := 18) hx hb dX5_strandOf_1 (by decide) (fun c1 => ?_) (fun c1 => ?_)
  · refine lv_null hx hb dX5_strandOf_18 ?_
    exact r_aret (r := none) C hr hlk w dX5_strandOf_19
  · refine lv_iload_n hx hb dX5_strandOf_4 rfl (lv_at hl 1 rfl) ?_
    refine lv_iconst (v := 4) hx hb dX5_strandOf_5 (by decide) ?_
    refine lv_icmp_ge (tgt := 18) hx hb dX5_strandOf_6 (by decide) (fun c2 => ?_) (fun c2 => absurd ⟨c1, c2⟩ nx)
    refine lv_null hx hb dX5_strandOf_18 ?_
    exact r_aret (r := none) C hr hlk w dX5_strandOf_19
set_option maxHeartbeats 4000000 in
set_option maxRecDepth 100000 in
theorem c_strandOf_some (ok : Wok EC idC a) {V : Sto} {x1 : Int32} {t : Nat} (hs : sOf x1 = some t) : Met l yX5_strandOf (Cond.code yX5_strandOf cX5_strandOf 2 (some (.object "AtomicThreads$Strand")) :: wsL_law) rm_X5_strandOf (va_Pc [.ref (a (0, 0, 0)), .int x1] (fun U => WPre cy D EC idC a V U)) (QR cy D EC idC a (some (a (10, t, 0))) V) 0 0 (inA idC a) := by
  refine ofM (by decide +kernel) ok (Nat.le_of_ble_eq_true rfl) (fun p e s m args below meth c C hr hlk w ls hl => ?_)
  have hx := C.1.1
  have hb := C.1.2.1
  obtain ⟨hi, rfl⟩ := sOf_inb hs
  have nx : ¬ x1 < 0 ∧ ¬ 4 ≤ x1 := by
    unfold sOf at hs
    by_cases q : x1 < 0
    · rw [if_pos q] at hs; cases hs
    · by_cases q2 : 4 ≤ x1
      · rw [if_neg q, if_pos q2] at hs; cases hs
      · exact ⟨q, q2⟩
  refine lv_iload_n hx hb dX5_strandOf_0 rfl (lv_at hl 1 rfl) ?_
  refine lv_if_lt (tgt := 18) hx hb dX5_strandOf_1 (by decide) (fun c1 => absurd c1 nx.1) (fun c1 => ?_)
  refine lv_iload_n hx hb dX5_strandOf_4 rfl (lv_at hl 1 rfl) ?_
  refine lv_iconst (v := 4) hx hb dX5_strandOf_5 (by decide) ?_
  refine lv_icmp_ge (tgt := 18) hx hb dX5_strandOf_6 (by decide) (fun c2 => absurd c2 nx.2) (fun c2 => ?_)
  refine lv_aload_n hx hb dX5_strandOf_9 rfl (lv_at hl 0 rfl) ?_
  refine r_get C w iC0 eC0 vc5 inlX5 2 (by decide) w_fl_RX5_25_AtomicThreads_strands_LAtomicThreads_Strand rfl dX5_strandOf_10 ?_
  refine lv_iload_n hx hb dX5_strandOf_13 rfl (lv_at hl 1 rfl) ?_
  refine r_aald C w iC6 qC6 rfl hi dX5_strandOf_14 ?_
  refine lv_goto (tgt := 19) hx hb dX5_strandOf_15 (by decide) ?_
  exact r_aret (r := some _) C hr hlk w dX5_strandOf_19
end CS
