def ob2 {α β γ : Type} (x : Option (α × β)) (f : α → β → Option γ) : Option γ := match x with
  | none => none
  | some z => f z.1 z.2
theorem ob2_some {α β γ : Type} {x : Option (α × β)} {f : α → β → Option γ} {y : γ} (h : ob2 x f = some y) : ∃ u v, x = some (u, v) ∧ f u v = some y := by
  cases x with
  | none => cases h
  | some z => exact ⟨z.1, z.2, rfl, h⟩
def ob3 {α β γ δ : Type} (x : Option (α × β × γ)) (f : α → β → γ → Option δ) : Option δ := match x with
  | none => none
  | some z => f z.1 z.2.1 z.2.2
theorem ob3_some {α β γ δ : Type} {x : Option (α × β × γ)} {f : α → β → γ → Option δ} {y : δ} (h : ob3 x f = some y) : ∃ u v t, x = some (u, v, t) ∧ f u v t = some y := by
  cases x with
  | none => cases h
  | some z => exact ⟨z.1, z.2.1, z.2.2, rfl, h⟩
theorem pd_I : parseFieldDescriptor "I" = some .int := by decide +kernel
theorem sOf_lt {x : Int32} {t : Nat} (h : sOf x = some t) : t < 4 := by
  unfold sOf at h
  split at h
  · cases h
  · rename_i h0
    split at h
    · cases h
    · rename_i h1
      cases h
      obtain ⟨j, hj, rfl⟩ := nI_of h0
      rw [nI_clamp hj]
      have h4 : ¬ nI 4 ≤ nI j := h1
      exact Nat.not_le.mp (fun q => h4 (nI_le q hj))
theorem sOf_inb {x : Int32} {t : Nat} (h : sOf x = some t) : inb x 4 = true ∧ x.toNatClampNeg = t := by
  have h4 := sOf_lt h
  unfold sOf at h
  split at h
  · cases h
  · rename_i h0
    split at h
    · cases h
    · cases h
      exact ⟨decide_eq_true (fun q => q.elim h0 (fun z => by omega)), rfl⟩
abbrev rm_X1_countCommit : Room := { frames := 0, cells := 0, slots := 0, locals := 0 }
abbrev rm_X5_isVariable : Room := { frames := 0, cells := 0, slots := 0, locals := 0 }
abbrev rm_X1_change : Room := { frames := 1, cells := 0, slots := 0, locals := 20 }
abbrev rm_X1_hasChanged : Room := { frames := 0, cells := 0, slots := 0, locals := 0 }
abbrev rm_J9_floorMod_7cf53 : Room := { frames := 0, cells := 0, slots := 0, locals := 0 }
abbrev rm_X2_write : Room := { frames := 1, cells := 0, slots := 0, locals := 22 }
abbrev rm_X2_latest : Room := { frames := 1, cells := 0, slots := 0, locals := 22 }
abbrev rm_X3_at : Room := { frames := 0, cells := 0, slots := 0, locals := 0 }
abbrev rm_X3_isFull : Room := { frames := 0, cells := 0, slots := 0, locals := 0 }
abbrev rm_X3_append : Room := { frames := 1, cells := 0, slots := 0, locals := 20 }
abbrev rm_X3_kindAt : Room := { frames := 1, cells := 0, slots := 0, locals := 21 }
abbrev rm_X3_firstAt : Room := { frames := 1, cells := 0, slots := 0, locals := 21 }
abbrev rm_X3_secondAt : Room := { frames := 1, cells := 0, slots := 0, locals := 21 }
abbrev rm_X3_openerOf : Room := { frames := 1, cells := 0, slots := 0, locals := 21 }
abbrev rm_X3_middleOf : Room := { frames := 1, cells := 0, slots := 0, locals := 21 }
abbrev rm_X3_behindEnd : Room := { frames := 1, cells := 0, slots := 0, locals := 21 }
abbrev rm_X3_secondPart : Room := { frames := 1, cells := 0, slots := 0, locals := 21 }
abbrev rm_X3_elsewhere : Room := { frames := 2, cells := 0, slots := 0, locals := 42 }
abbrev rm_X3_innermost : Room := { frames := 1, cells := 0, slots := 0, locals := 21 }
abbrev rm_X3_lacksMiddle : Room := { frames := 2, cells := 0, slots := 0, locals := 42 }
abbrev rm_X3_isAtomicOpen : Room := { frames := 2, cells := 0, slots := 0, locals := 42 }
abbrev rm_X3_isWrong : Room := { frames := 3, cells := 0, slots := 0, locals := 64 }
abbrev rm_X3_connectOpener : Room := { frames := 0, cells := 0, slots := 0, locals := 0 }
abbrev rm_X3_connectTo : Room := { frames := 2, cells := 0, slots := 0, locals := 41 }
abbrev rm_X3_connect : Room := { frames := 3, cells := 0, slots := 0, locals := 64 }
abbrev rm_X3_goThrough : Room := { frames := 4, cells := 0, slots := 0, locals := 85 }
abbrev rm_X4_isUnderWay : Room := { frames := 0, cells := 0, slots := 0, locals := 0 }
abbrev rm_X4_isInAttempt : Room := { frames := 0, cells := 0, slots := 0, locals := 0 }
abbrev rm_X4_hasWritten : Room := { frames := 0, cells := 0, slots := 0, locals := 0 }
abbrev rm_X4_waitsFor : Room := { frames := 0, cells := 0, slots := 0, locals := 0 }
abbrev rm_X5_isRegister : Room := { frames := 0, cells := 0, slots := 0, locals := 0 }
abbrev rm_X4_registerValue : Room := { frames := 1, cells := 0, slots := 0, locals := 20 }
abbrev rm_X4_setRegister : Room := { frames := 1, cells := 0, slots := 0, locals := 20 }
abbrev rm_X4_goOnTo : Room := { frames := 0, cells := 0, slots := 0, locals := 0 }
abbrev rm_X4_begin : Room := { frames := 1, cells := 0, slots := 0, locals := 21 }
abbrev rm_X4_assign : Room := { frames := 2, cells := 0, slots := 0, locals := 42 }
abbrev rm_X4_write : Room := { frames := 1, cells := 0, slots := 0, locals := 21 }
abbrev rm_X4_noteAndGoOn : Room := { frames := 1, cells := 0, slots := 0, locals := 26 }
abbrev rm_X4_beginAttempt : Room := { frames := 2, cells := 0, slots := 0, locals := 47 }
abbrev rm_X4_endFirstPart : Room := { frames := 2, cells := 0, slots := 0, locals := 42 }
abbrev rm_X4_latestFirstPart : Room := { frames := 2, cells := 0, slots := 0, locals := 42 }
abbrev rm_X4_goBackTo : Room := { frames := 1, cells := 0, slots := 0, locals := 26 }
abbrev rm_X4_handle : Room := { frames := 2, cells := 0, slots := 0, locals := 48 }
abbrev rm_X4_fail : Room := { frames := 2, cells := 0, slots := 0, locals := 42 }
abbrev rm_X4_leaveAttempt : Room := { frames := 1, cells := 0, slots := 0, locals := 20 }
abbrev rm_X4_undoAttempt : Room := { frames := 2, cells := 0, slots := 0, locals := 48 }
abbrev rm_X4_discard : Room := { frames := 3, cells := 0, slots := 0, locals := 68 }
abbrev rm_X4_park : Room := { frames := 3, cells := 0, slots := 0, locals := 68 }
abbrev rm_X4_wakeUp : Room := { frames := 0, cells := 0, slots := 0, locals := 0 }
abbrev rm_X5_isWord : Room := { frames := 1, cells := 0, slots := 0, locals := 20 }
abbrev rm_X5_add : Room := { frames := 2, cells := 0, slots := 0, locals := 43 }
abbrev rm_X5_cut : Room := { frames := 1, cells := 0, slots := 0, locals := 21 }
abbrev rm_X5_check : Room := { frames := 5, cells := 0, slots := 0, locals := 106 }
abbrev rm_X5_start : Room := { frames := 5, cells := 0, slots := 0, locals := 106 }
abbrev rm_X5_stop : Room := { frames := 2, cells := 0, slots := 0, locals := 40 }
abbrev rm_X5_doRead : Room := { frames := 4, cells := 0, slots := 0, locals := 88 }
abbrev rm_X5_hasStaleReads : Room := { frames := 1, cells := 0, slots := 0, locals := 23 }
abbrev rm_X5_doRetry : Room := { frames := 4, cells := 0, slots := 0, locals := 89 }
abbrev rm_X5_doThrow : Room := { frames := 4, cells := 0, slots := 0, locals := 88 }
abbrev rm_X5_wake : Room := { frames := 1, cells := 0, slots := 0, locals := 21 }
abbrev rm_X5_commit : Room := { frames := 2, cells := 0, slots := 0, locals := 43 }
abbrev rm_X5_doEnd : Room := { frames := 4, cells := 0, slots := 0, locals := 88 }
abbrev rm_X5_doWord : Room := { frames := 5, cells := 0, slots := 0, locals := 111 }
abbrev rm_X5_step : Room := { frames := 6, cells := 0, slots := 0, locals := 136 }
abbrev rm_X5_run : Room := { frames := 6, cells := 0, slots := 0, locals := 136 }
abbrev rm_X5_put : Room := { frames := 2, cells := 0, slots := 0, locals := 43 }
abbrev rm_X5_value : Room := { frames := 1, cells := 0, slots := 0, locals := 20 }
abbrev rm_X5_version : Room := { frames := 1, cells := 0, slots := 0, locals := 20 }
abbrev rm_X5_commits : Room := { frames := 0, cells := 0, slots := 0, locals := 0 }
abbrev rm_X5_state : Room := { frames := 1, cells := 0, slots := 0, locals := 21 }
abbrev rm_X5_place : Room := { frames := 1, cells := 0, slots := 0, locals := 21 }
abbrev rm_X5_register : Room := { frames := 2, cells := 0, slots := 0, locals := 41 }
abbrev rm_X5_sees : Room := { frames := 1, cells := 0, slots := 0, locals := 21 }
abbrev rm_X5_log : Room := { frames := 1, cells := 0, slots := 0, locals := 21 }
abbrev rm_X5_waiting : Room := { frames := 1, cells := 0, slots := 0, locals := 21 }
abbrev rm_X5_discards : Room := { frames := 1, cells := 0, slots := 0, locals := 21 }
abbrev rm_X5_outcome : Room := { frames := 0, cells := 0, slots := 0, locals := 0 }
abbrev rm_X5_printed : Room := { frames := 2, cells := 0, slots := 0, locals := 43 }
abbrev rm_X6_out : Room := { frames := 0, cells := 0, slots := 0, locals := 0 }
abbrev rm_X6_busy : Room := { frames := 0, cells := 0, slots := 0, locals := 0 }
abbrev rm_X6_opens : Room := { frames := 0, cells := 0, slots := 0, locals := 0 }
abbrev rm_X6_named : Room := { frames := 1, cells := 0, slots := 0, locals := 21 }
abbrev rm_X6_add : Room := { frames := 2, cells := 0, slots := 0, locals := 44 }
abbrev rm_X6_cut : Room := { frames := 1, cells := 0, slots := 0, locals := 21 }
abbrev rm_X6_halfway : Room := { frames := 0, cells := 0, slots := 0, locals := 0 }
abbrev rm_X6_wrong : Room := { frames := 1, cells := 0, slots := 0, locals := 22 }
abbrev rm_X6_check : Room := { frames := 2, cells := 0, slots := 0, locals := 45 }
abbrev rm_X6_partner : Room := { frames := 1, cells := 0, slots := 0, locals := 20 }
abbrev rm_X6_origin : Room := { frames := 1, cells := 0, slots := 0, locals := 20 }
abbrev rm_X6_endAttempt : Room := { frames := 0, cells := 0, slots := 0, locals := 0 }
abbrev rm_X6_go : Room := { frames := 0, cells := 0, slots := 0, locals := 0 }
abbrev rm_X6_start : Room := { frames := 3, cells := 0, slots := 0, locals := 71 }
abbrev rm_X6_stop : Room := { frames := 1, cells := 0, slots := 0, locals := 22 }
abbrev rm_X6_begin : Room := { frames := 1, cells := 0, slots := 0, locals := 22 }
abbrev rm_X6_undo : Room := { frames := 0, cells := 0, slots := 0, locals := 0 }
abbrev rm_X6_discard : Room := { frames := 1, cells := 0, slots := 0, locals := 22 }
abbrev rm_X6_outOfDate : Room := { frames := 0, cells := 0, slots := 0, locals := 0 }
abbrev rm_X6_changed : Room := { frames := 1, cells := 0, slots := 0, locals := 22 }
abbrev rm_X6_commit : Room := { frames := 2, cells := 0, slots := 0, locals := 45 }
abbrev rm_X6_beginPart : Room := { frames := 1, cells := 0, slots := 0, locals := 22 }
abbrev rm_X6_latest : Room := { frames := 0, cells := 0, slots := 0, locals := 0 }
abbrev rm_X6_back : Room := { frames := 2, cells := 0, slots := 0, locals := 46 }
abbrev rm_X6_retry : Room := { frames := 3, cells := 0, slots := 0, locals := 70 }
abbrev rm_X6_toss : Room := { frames := 3, cells := 0, slots := 0, locals := 70 }
abbrev rm_X6_access : Room := { frames := 2, cells := 0, slots := 0, locals := 43 }
abbrev rm_X6_plain : Room := { frames := 1, cells := 0, slots := 0, locals := 22 }
abbrev rm_X6_branch : Room := { frames := 2, cells := 0, slots := 0, locals := 46 }
abbrev rm_X6_end : Room := { frames := 3, cells := 0, slots := 0, locals := 68 }
abbrev rm_X6_step : Room := { frames := 4, cells := 0, slots := 0, locals := 94 }
abbrev rm_X6_run : Room := { frames := 5, cells := 0, slots := 0, locals := 119 }
abbrev rm_X6_put : Room := { frames := 2, cells := 0, slots := 0, locals := 45 }
abbrev rm_X6_value : Room := { frames := 1, cells := 0, slots := 0, locals := 21 }
abbrev rm_X6_version : Room := { frames := 1, cells := 0, slots := 0, locals := 21 }
abbrev rm_X6_commits : Room := { frames := 0, cells := 0, slots := 0, locals := 0 }
abbrev rm_X6_state : Room := { frames := 1, cells := 0, slots := 0, locals := 21 }
abbrev rm_X6_place : Room := { frames := 1, cells := 0, slots := 0, locals := 21 }
abbrev rm_X6_register : Room := { frames := 1, cells := 0, slots := 0, locals := 21 }
abbrev rm_X6_sees : Room := { frames := 1, cells := 0, slots := 0, locals := 21 }
abbrev rm_X6_log : Room := { frames := 1, cells := 0, slots := 0, locals := 21 }
abbrev rm_X6_waiting : Room := { frames := 1, cells := 0, slots := 0, locals := 21 }
abbrev rm_X6_discards : Room := { frames := 1, cells := 0, slots := 0, locals := 21 }
abbrev rm_X6_outcome : Room := { frames := 0, cells := 0, slots := 0, locals := 0 }
abbrev rm_X6_printed : Room := { frames := 0, cells := 0, slots := 0, locals := 0 }
abbrev rm_X5_strandOf : Room := { frames := 0, cells := 0, slots := 0, locals := 0 }
def fX1_countCommit (V : Sto) : Option (Sto) := bnd (st V 1 0 0 2 ((V 1 0 0 2) + 1)) (fun V1 => some V1)
def fX5_isVariable (V : Sto) (x0 : Int32) : Option (Int32) := if x0 < 0 then some 0 else if 8 ≤ x0 then some 0 else some 1
def fX1_change (V : Sto) (x1 : Int32) (x2 : Int32) : Option (Sto) := ob (fX5_isVariable V x1) (fun r2 => if r2 = 0 then some V else gd (inb x1 8) (bnd (st V 2 0 0 (x1).toNatClampNeg x2) (fun V6 => gd (inb x1 8) (bnd (st V6 3 0 0 (x1).toNatClampNeg (V6 1 0 0 2)) (fun V9 => some V9)))))
def fX1_hasChanged_L2 : Nat → Sto → Int32 → Int32 → Int32 → Option (Int32)
  | 0, _, _, _, _ => none
  | n + 1, V, x1, x2, x3 => if 8 ≤ x3 then some 0 else if (x1 &&& ((1 : Int32) <<< (x3 &&& 31))) = 0 then fX1_hasChanged_L2 n V x1 x2 (x3 + 1) else gd (inb x3 8) (if (V 3 0 0 (x3).toNatClampNeg) ≤ x2 then fX1_hasChanged_L2 n V x1 x2 (x3 + 1) else some 1)
def fX1_hasChanged (V : Sto) (x1 : Int32) (x2 : Int32) : Option (Int32) := fX1_hasChanged_L2 40 V x1 x2 0
def fJ9_floorMod_7cf53 (V : Sto) (x0 : Int32) (x1 : Int32) : Option (Int32) := gd (decide (¬ x1 = 0)) (if 0 ≤ (x0 ^^^ x1) then some (x0 - x0 / x1 * x1) else if (x0 - x0 / x1 * x1) = 0 then some (x0 - x0 / x1 * x1) else some ((x0 - x0 / x1 * x1) + x1))
def fX2_write (V : Sto) (x1 : Int32) : Option (Sto) := ob (fJ9_floorMod_7cf53 V (V 4 0 0 1) 16) (fun r2 => gd (inb r2 16) (bnd (st V 5 0 0 (r2).toNatClampNeg x1) (fun V5 => bnd (st V5 4 0 0 1 ((V5 4 0 0 1) + 1)) (fun V7 => some V7))))
def fX2_latest (V : Sto) (x1 : Int32) : Option (Int32) := if x1 < 0 then some 0 else if 16 ≤ x1 then some 0 else if x1 < (V 4 0 0 1) then ob (fJ9_floorMod_7cf53 V (((V 4 0 0 1) - 1) - x1) 16) (fun r5 => gd (inb r5 16) (some (V 5 0 0 (r5).toNatClampNeg))) else some 0
def fX3_at (V : Sto) (t : Nat) (ca : Nat) (na : Nat) (x1 : Int32) : Option (Int32) := if x1 < 0 then some (-1) else if (nI na) ≤ x1 then some (-1) else gd (inb x1 na) (some (V ca t 0 (x1).toNatClampNeg))
def fX3_isFull (V : Sto) (t : Nat) : Option (Int32) := if (V 11 t 0 8) < 30 then some 0 else some 1
def fX3_append (V : Sto) (t : Nat) (x1 : Int32) (x2 : Int32) (x3 : Int32) : Option (Sto) := ob (fX3_isFull V t) (fun r2 => if r2 = 0 then gd (inb (V 11 t 0 8) 30) (bnd (st V 12 t 0 ((V 11 t 0 8)).toNatClampNeg x1) (fun V6 => gd (inb (V6 11 t 0 8) 30) (bnd (st V6 13 t 0 ((V6 11 t 0 8)).toNatClampNeg x2) (fun V9 => gd (inb (V9 11 t 0 8) 30) (bnd (st V9 14 t 0 ((V9 11 t 0 8)).toNatClampNeg x3) (fun V12 => bnd (st V12 11 t 0 8 ((V12 11 t 0 8) + 1)) (fun V14 => some V14))))))) else some V)
def fX3_kindAt (V : Sto) (t : Nat) (x1 : Int32) : Option (Int32) := ob (fX3_at V t 12 30 x1) (fun r2 => some r2)
def fX3_firstAt (V : Sto) (t : Nat) (x1 : Int32) : Option (Int32) := ob (fX3_at V t 13 30 x1) (fun r2 => some r2)
def fX3_secondAt (V : Sto) (t : Nat) (x1 : Int32) : Option (Int32) := ob (fX3_at V t 14 30 x1) (fun r2 => some r2)
def fX3_openerOf (V : Sto) (t : Nat) (x1 : Int32) : Option (Int32) := ob (fX3_at V t 15 30 x1) (fun r2 => some r2)
def fX3_middleOf (V : Sto) (t : Nat) (x1 : Int32) : Option (Int32) := ob (fX3_at V t 16 30 x1) (fun r2 => some r2)
def fX3_behindEnd (V : Sto) (t : Nat) (x1 : Int32) : Option (Int32) := ob (fX3_at V t 15 30 x1) (fun r2 => ob (fX3_at V t 17 30 r2) (fun r5 => some (r5 + 1)))
def fX3_secondPart (V : Sto) (t : Nat) (x1 : Int32) : Option (Int32) := ob (fX3_at V t 16 30 x1) (fun r2 => some (r2 + 1))
def fX3_elsewhere (V : Sto) (t : Nat) (x1 : Int32) : Option (Int32) := ob (fX3_middleOf V t x1) (fun r2 => if r2 = (-1) then ob (fX3_at V t 17 30 x1) (fun r9 => some (r9 + 1)) else ob (fX3_secondPart V t x1) (fun r6 => some r6))
def fX3_innermost (V : Sto) (t : Nat) : Option (Int32) := ob (fX3_at V t 18 5 ((V 11 t 0 7) - 1)) (fun r2 => some r2)
def fX3_lacksMiddle (V : Sto) (t : Nat) (x1 : Int32) : Option (Int32) := ob (fX3_innermost V t) (fun r2 => ob (fX3_kindAt V t r2) (fun r5 => if r5 = x1 then ob (fX3_middleOf V t r2) (fun r9 => if r9 = (-1) then some 1 else some 0) else some 0))
def fX3_isAtomicOpen_L2 : Nat → Sto → Nat → Int32 → Option (Int32)
  | 0, _, _, _ => none
  | n + 1, V, t, x1 => if (V 11 t 0 7) ≤ x1 then some 0 else ob (fX3_at V t 18 5 x1) (fun r3 => ob (fX3_kindAt V t r3) (fun r6 => if r6 = 6 then some 1 else fX3_isAtomicOpen_L2 n V t (x1 + 1)))
def fX3_isAtomicOpen (V : Sto) (t : Nat) : Option (Int32) := fX3_isAtomicOpen_L2 40 V t 0
def fX3_isWrong (V : Sto) (t : Nat) (x1 : Int32) : Option (Int32) := if x1 = 3 then ob (fX3_isAtomicOpen V t) (fun r3 => if r3 = 0 then some 1 else some 0) else if x1 = 4 then ob (fX3_isAtomicOpen V t) (fun r8 => if r8 = 0 then some 1 else some 0) else if x1 = 5 then ob (fX3_isAtomicOpen V t) (fun r13 => gd (isB r13) (some r13)) else if x1 = 6 then ob (fX3_isAtomicOpen V t) (fun r18 => if r18 = 0 then if (V 11 t 0 7) < 5 then some 0 else some 1 else some 1) else if x1 = 7 then if (V 11 t 0 7) = 0 then some 1 else ob (fX3_lacksMiddle V t 9) (fun r25 => if r25 = 0 then ob (fX3_lacksMiddle V t 15) (fun r29 => if r29 = 0 then some 0 else some 1) else some 1) else if x1 = 8 then ob (fX3_isAtomicOpen V t) (fun r34 => if r34 = 0 then some 1 else some 0) else if x1 = 9 then ob (fX3_isAtomicOpen V t) (fun r39 => if r39 = 0 then some 1 else if (V 11 t 0 7) < 5 then some 0 else some 1) else if x1 = 10 then ob (fX3_lacksMiddle V t 9) (fun r45 => if r45 = 0 then some 1 else some 0) else if x1 = 11 then if (V 11 t 0 7) < 5 then some 0 else some 1 else if x1 = 12 then ob (fX3_lacksMiddle V t 11) (fun r52 => if r52 = 0 then some 1 else some 0) else if x1 = 13 then if (V 11 t 0 7) < 5 then some 0 else some 1 else if x1 = 14 then some 0 else if x1 = 15 then if (V 11 t 0 7) < 5 then some 0 else some 1 else if x1 = 16 then ob (fX3_lacksMiddle V t 15) (fun r62 => if r62 = 0 then some 1 else some 0) else some 0
def fX3_connectOpener (V : Sto) (t : Nat) (x1 : Int32) : Option (Sto) := if 5 ≤ (V 11 t 0 7) then some V else gd (inb x1 30) (bnd (st V 16 t 0 (x1).toNatClampNeg (-1)) (fun V3 => gd (inb (V3 11 t 0 7) 5) (bnd (st V3 18 t 0 ((V3 11 t 0 7)).toNatClampNeg x1) (fun V6 => bnd (st V6 11 t 0 7 ((V6 11 t 0 7) + 1)) (fun V8 => some V8)))))
def fX3_connectTo (V : Sto) (t : Nat) (ca : Nat) (na : Nat) (x2 : Int32) : Option (Sto) := ob (fX3_innermost V t) (fun r2 => if r2 < 0 then some V else if (nI na) ≤ r2 then some V else gd (inb r2 na) (bnd (st V ca t 0 (r2).toNatClampNeg x2) (fun V7 => gd (inb x2 30) (bnd (st V7 15 t 0 (x2).toNatClampNeg r2) (fun V10 => some V10)))))
def fX3_connect (V : Sto) (t : Nat) (x1 : Int32) : Option (Sto) := ob (fX3_kindAt V t x1) (fun r2 => if r2 = 6 then ob (fX3_connectOpener V t x1) (fun V7 => some V7) else if r2 = 7 then ob (fX3_connectTo V t 17 30 x1) (fun V11 => bnd (st V11 11 t 0 7 ((V11 11 t 0 7) - 1)) (fun V12 => some V12)) else if r2 = 8 then some V else if r2 = 9 then ob (fX3_connectOpener V t x1) (fun V18 => some V18) else if r2 = 10 then ob (fX3_connectTo V t 16 30 x1) (fun V22 => some V22) else if r2 = 11 then ob (fX3_connectOpener V t x1) (fun V26 => some V26) else if r2 = 12 then ob (fX3_connectTo V t 16 30 x1) (fun V30 => some V30) else if r2 = 13 then ob (fX3_connectOpener V t x1) (fun V34 => some V34) else if r2 = 14 then some V else if r2 = 15 then ob (fX3_connectOpener V t x1) (fun V39 => some V39) else if r2 = 16 then ob (fX3_connectTo V t 16 30 x1) (fun V43 => some V43) else some V)
def fX3_goThrough_L7 : Nat → Sto → Nat → Int32 → Option (Int32 × Sto)
  | 0, _, _, _ => none
  | n + 1, V, t, x1 => if (V 11 t 0 8) ≤ x1 then if (V 11 t 0 7) = 0 then some ((-1), V) else some ((V 11 t 0 8), V) else ob (fX3_kindAt V t x1) (fun r6 => ob (fX3_isWrong V t r6) (fun r9 => if r9 = 0 then ob (fX3_connect V t x1) (fun V14 => fX3_goThrough_L7 n V14 t (x1 + 1)) else some (x1, V)))
def fX3_goThrough (V : Sto) (t : Nat) : Option (Int32 × Sto) := bnd (st V 11 t 0 7 0) (fun V1 => fX3_goThrough_L7 40 V1 t 0)
def fX4_isUnderWay (V : Sto) (t : Nat) : Option (Int32) := if (V 10 t 0 9) = 1 then some 1 else if (V 10 t 0 9) = 2 then some 1 else some 0
def fX4_isInAttempt (V : Sto) (t : Nat) : Option (Int32) := if (V 10 t 0 5) = (-1) then some 0 else some 1
def fX4_hasWritten (V : Sto) (t : Nat) (x1 : Int32) : Option (Int32) := if ((V 10 t 0 8) &&& ((1 : Int32) <<< (x1 &&& 31))) = 0 then some 0 else some 1
def fX4_waitsFor (V : Sto) (t : Nat) (x1 : Int32) : Option (Int32) := if (V 10 t 0 9) = 2 then if ((V 10 t 0 7) &&& x1) = 0 then some 0 else some 1 else some 0
def fX5_isRegister (V : Sto) (x0 : Int32) : Option (Int32) := if x0 < 0 then some 0 else if 4 ≤ x0 then some 0 else some 1
def fX4_registerValue (V : Sto) (t : Nat) (x1 : Int32) : Option (Int32) := ob (fX5_isRegister V x1) (fun r2 => if r2 = 0 then some 0 else gd (inb x1 4) (some (V 19 t 0 (x1).toNatClampNeg)))
def fX4_setRegister (V : Sto) (t : Nat) (x1 : Int32) (x2 : Int32) : Option (Sto) := ob (fX5_isRegister V x1) (fun r2 => if r2 = 0 then some V else gd (inb x1 4) (bnd (st V 19 t 0 (x1).toNatClampNeg x2) (fun V6 => some V6)))
def fX4_goOnTo (V : Sto) (t : Nat) (x1 : Int32) : Option (Int32 × Sto) := bnd (st V 10 t 0 10 x1) (fun V1 => if x1 < (V1 11 t 0 8) then some (0, V1) else bnd (st V1 10 t 0 9 3) (fun V4 => some (0, V4)))
def fX4_begin_L2 : Nat → Sto → Nat → Int32 → Option (Sto)
  | 0, _, _, _ => none
  | n + 1, V, t, x1 => if 4 ≤ x1 then some (V) else gd (inb x1 4) (bnd (st V 19 t 0 (x1).toNatClampNeg 0) (fun V3 => fX4_begin_L2 n V3 t (x1 + 1)))
def fX4_begin (V : Sto) (t : Nat) : Option (Sto) := ob (fX4_begin_L2 40 V t 0) (fun V6 => bnd (st V6 10 t 0 11 0) (fun V7 => bnd (st V7 10 t 0 4 0) (fun V9 => bnd (st V9 10 t 0 9 1) (fun V11 => ob2 (fX4_goOnTo V11 t 0) (fun r14 V15 => some V15)))))
def fX4_assign (V : Sto) (t : Nat) (x1 : Int32) (x2 : Int32) : Option (Int32 × Sto) := ob (fX4_setRegister V t x1 x2) (fun V3 => ob2 (fX4_goOnTo V3 t ((V3 10 t 0 10) + 1)) (fun r5 V6 => some (r5, V6)))
def fX4_write (V : Sto) (t : Nat) (x1 : Int32) (x2 : Int32) : Option (Int32 × Sto) := ob (fX5_isVariable V x1) (fun r2 => if r2 = 0 then ob2 (fX4_goOnTo V t ((V 10 t 0 10) + 1)) (fun r6 V7 => some (r6, V7)) else gd (inb x1 8) (bnd (st V 20 t 0 (x1).toNatClampNeg x2) (fun V9 => bnd (st V9 10 t 0 8 ((V9 10 t 0 8) ||| ((1 : Int32) <<< (x1 &&& 31)))) (fun V11 => ob2 (fX4_goOnTo V11 t ((V11 10 t 0 10) + 1)) (fun r14 V15 => some (r14, V15))))))
def fX4_noteAndGoOn (V : Sto) (t : Nat) : Option (Int32 × Sto) := if 5 ≤ (V 10 t 0 4) then ob2 (fX4_goOnTo V t ((V 10 t 0 10) + 1)) (fun r3 V4 => some (r3, V4)) else gd (inb (V 10 t 0 4) 5) (bnd (st V 22 t ((V 10 t 0 4)).toNatClampNeg 3 (V 10 t 0 10)) (fun V6 => bnd (st V6 22 t ((V 10 t 0 4)).toNatClampNeg 2 (V6 10 t 0 8)) (fun V8 => bnd (cpS V8 19 t 0 23 t ((V 10 t 0 4)).toNatClampNeg 4) (fun V10 => bnd (cpS V10 20 t 0 24 t ((V 10 t 0 4)).toNatClampNeg 8) (fun V12 => bnd (st V12 10 t 0 4 ((V12 10 t 0 4) + 1)) (fun V14 => ob2 (fX4_goOnTo V14 t ((V14 10 t 0 10) + 1)) (fun r17 V18 => some (r17, V18))))))))
def fX4_beginAttempt (V : Sto) (t : Nat) (x1 : Int32) : Option (Int32 × Sto) := bnd (st V 10 t 0 5 (V 10 t 0 4)) (fun V1 => bnd (st V1 10 t 0 6 x1) (fun V3 => ob2 (fX4_noteAndGoOn V3 t) (fun r6 V7 => some (r6, V7))))
def fX4_endFirstPart (V : Sto) (t : Nat) : Option (Int32 × Sto) := if (V 10 t 0 4) ≤ 0 then ob (fX3_behindEnd V t (V 10 t 0 10)) (fun r3 => ob2 (fX4_goOnTo V t r3) (fun r6 V7 => some (r6, V7))) else bnd (st V 10 t 0 4 ((V 10 t 0 4) - 1)) (fun V8 => ob (fX3_behindEnd V8 t (V8 10 t 0 10)) (fun r11 => ob2 (fX4_goOnTo V8 t r11) (fun r14 V15 => some (r14, V15))))
def fX4_latestFirstPart_L7 : Nat → Sto → Nat → Int32 → Int32 → Option (Int32)
  | 0, _, _, _, _ => none
  | n + 1, V, t, x1, x2 => if x2 ≤ (V 10 t 0 5) then some (-1) else if 5 ≤ x2 then fX4_latestFirstPart_L7 n V t x1 (x2 + (-1)) else gd (inb x2 5) (ob (fX3_kindAt V t (V 22 t (x2).toNatClampNeg 3)) (fun r5 => if r5 = x1 then some x2 else fX4_latestFirstPart_L7 n V t x1 (x2 + (-1))))
def fX4_latestFirstPart (V : Sto) (t : Nat) (x1 : Int32) : Option (Int32) := fX4_latestFirstPart_L7 40 V t x1 ((V 10 t 0 4) - 1)
def fX4_goBackTo (V : Sto) (t : Nat) (x1 : Int32) : Option (Sto) := if x1 < 0 then some V else if 5 ≤ x1 then some V else gd (inb x1 5) (bnd (st V 10 t 0 10 (V 22 t (x1).toNatClampNeg 3)) (fun V4 => bnd (st V4 10 t 0 8 (V4 22 t (x1).toNatClampNeg 2)) (fun V6 => bnd (cpS V6 23 t (x1).toNatClampNeg 19 t 0 4) (fun V8 => bnd (cpS V8 24 t (x1).toNatClampNeg 20 t 0 8) (fun V10 => bnd (st V10 10 t 0 4 x1) (fun V12 => some V12))))))
def fX4_handle (V : Sto) (t : Nat) (x1 : Int32) (x2 : Int32) : Option (Sto) := ob (fX4_goBackTo V t x1) (fun V3 => ob (fX3_middleOf V3 t (V3 10 t 0 10)) (fun r5 => ob (fX3_firstAt V3 t r5) (fun r8 => ob (fX4_setRegister V3 t r8 x2) (fun V12 => ob (fX3_secondPart V12 t (V12 10 t 0 10)) (fun r14 => ob2 (fX4_goOnTo V12 t r14) (fun r17 V18 => some V18))))))
def fX4_fail (V : Sto) (t : Nat) (x1 : Int32) : Option (Sto) := ob (fX4_setRegister V t 0 x1) (fun V3 => bnd (st V3 10 t 0 9 4) (fun V4 => some V4))
def fX4_leaveAttempt (V : Sto) (t : Nat) : Option (Sto) := ob (fX4_isInAttempt V t) (fun r2 => if r2 = 0 then bnd (st V 10 t 0 5 (-1)) (fun V5 => bnd (st V5 10 t 0 7 0) (fun V7 => bnd (st V7 10 t 0 8 0) (fun V9 => some V9))) else bnd (st V 10 t 0 4 (V 10 t 0 5)) (fun V11 => bnd (st V11 10 t 0 5 (-1)) (fun V13 => bnd (st V13 10 t 0 7 0) (fun V15 => bnd (st V15 10 t 0 8 0) (fun V17 => some V17)))))
def fX4_undoAttempt (V : Sto) (t : Nat) : Option (Sto) := ob (fX4_goBackTo V t (V 10 t 0 5)) (fun V3 => ob (fX4_leaveAttempt V3 t) (fun V6 => some V6))
def fX4_discard (V : Sto) (t : Nat) : Option (Int32 × Sto) := ob (fX4_undoAttempt V t) (fun V3 => bnd (st V3 10 t 0 11 ((V3 10 t 0 11) + 1)) (fun V4 => some (2, V4)))
def fX4_park (V : Sto) (t : Nat) : Option (Int32 × Sto) := ob (fX4_undoAttempt V t) (fun V3 => bnd (st V3 10 t 0 7 (V 10 t 0 7)) (fun V4 => bnd (st V4 10 t 0 9 2) (fun V6 => some (3, V6))))
def fX4_wakeUp (V : Sto) (t : Nat) : Option (Sto) := bnd (st V 10 t 0 7 0) (fun V1 => bnd (st V1 10 t 0 9 1) (fun V3 => some V3))
def fX5_isWord (V : Sto) (x0 : Int32) (x1 : Int32) (x2 : Int32) : Option (Int32) := if x0 = 0 then ob (fX5_isRegister V x1) (fun r3 => gd (isB r3) (some r3)) else if x0 = 1 then ob (fX5_isRegister V x1) (fun r8 => if r8 = 0 then some 0 else ob (fX5_isRegister V x2) (fun r12 => if r12 = 0 then some 0 else some 1)) else if x0 = 2 then ob (fX5_isRegister V x1) (fun r17 => if r17 = 0 then some 0 else ob (fX5_isRegister V x2) (fun r21 => if r21 = 0 then some 0 else some 1)) else if x0 = 3 then ob (fX5_isRegister V x1) (fun r26 => if r26 = 0 then some 0 else ob (fX5_isVariable V x2) (fun r30 => if r30 = 0 then some 0 else some 1)) else if x0 = 4 then ob (fX5_isVariable V x1) (fun r35 => if r35 = 0 then some 0 else ob (fX5_isRegister V x2) (fun r39 => if r39 = 0 then some 0 else some 1)) else if x0 = 5 then ob (fX5_isRegister V x1) (fun r44 => gd (isB r44) (some r44)) else if x0 = 6 then if x0 < 0 then some 0 else if 16 < x0 then some 0 else some 1 else if x0 = 7 then if x0 < 0 then some 0 else if 16 < x0 then some 0 else some 1 else if x0 = 8 then if x0 < 0 then some 0 else if 16 < x0 then some 0 else some 1 else if x0 = 9 then if x0 < 0 then some 0 else if 16 < x0 then some 0 else some 1 else if x0 = 10 then if x0 < 0 then some 0 else if 16 < x0 then some 0 else some 1 else if x0 = 11 then ob (fX5_isRegister V x1) (fun r64 => gd (isB r64) (some r64)) else if x0 = 12 then if x0 < 0 then some 0 else if 16 < x0 then some 0 else some 1 else if x0 = 13 then ob (fX5_isRegister V x1) (fun r72 => gd (isB r72) (some r72)) else if x0 = 14 then ob (fX5_isRegister V x1) (fun r77 => gd (isB r77) (some r77)) else if x0 = 15 then if x0 < 0 then some 0 else if 16 < x0 then some 0 else some 1 else if x0 = 16 then ob (fX5_isRegister V x1) (fun r85 => gd (isB r85) (some r85)) else if x0 < 0 then some 0 else if 16 < x0 then some 0 else some 1
def fX5_add (V : Sto) (x1 : Int32) (x2 : Int32) (x3 : Int32) (x4 : Int32) : Option (Int32 × Sto) := om (sOf x1) (some (0, V)) (fun t2 => ob (fX4_isUnderWay V t2) (fun r4 => if r4 = 0 then ob (fX3_isFull V t2) (fun r8 => if r8 = 0 then ob (fX5_isWord V x2 x3 x4) (fun r12 => if r12 = 0 then some (0, V) else ob (fX3_append V t2 x2 x3 x4) (fun V17 => bnd (st V17 10 t2 0 9 0) (fun V18 => some (1, V18)))) else some (0, V)) else some (0, V)))
def fX5_cut (V : Sto) (x1 : Int32) (x2 : Int32) : Option (Int32 × Sto) := om (sOf x1) (some (0, V)) (fun t2 => ob (fX4_isUnderWay V t2) (fun r4 => if r4 = 0 then if x2 < 0 then some (0, V) else if x2 ≤ (V 11 t2 0 8) then bnd (st V 11 t2 0 8 x2) (fun V9 => bnd (st V9 10 t2 0 9 0) (fun V11 => some (1, V11))) else some (0, V) else some (0, V)))
def fX5_check (V : Sto) (x1 : Int32) : Option (Int32 × Sto) := om (sOf x1) (some ((-2), V)) (fun t2 => ob2 (fX3_goThrough V t2) (fun r4 V5 => some (r4, V5)))
def fX5_start (V : Sto) (x1 : Int32) : Option (Int32 × Sto) := om (sOf x1) (some (0, V)) (fun t2 => ob (fX4_isUnderWay V t2) (fun r4 => if r4 = 0 then ob2 (fX3_goThrough V t2) (fun r8 V9 => if r8 = (-1) then ob (fX4_begin V9 t2) (fun V13 => some (1, V13)) else some (0, V9)) else some (0, V)))
def fX5_stop (V : Sto) (x1 : Int32) : Option (Int32 × Sto) := om (sOf x1) (some (0, V)) (fun t2 => ob (fX4_isUnderWay V t2) (fun r4 => if r4 = 0 then some (0, V) else ob (fX4_leaveAttempt V t2) (fun V9 => bnd (st V9 10 t2 0 9 0) (fun V10 => some (1, V10)))))
def fX5_doRead (V : Sto) (t : Nat) (x2 : Int32) (x3 : Int32) : Option (Int32 × Sto) := ob (fX5_isVariable V x3) (fun r2 => if r2 = 0 then some ((-1), V) else ob (fX4_hasWritten V t x3) (fun r6 => if r6 = 0 then ob (fX1_hasChanged V ((1 : Int32) <<< (x3 &&& 31)) (V 10 t 0 6)) (fun r10 => if r10 = 0 then bnd (st V 10 t 0 7 ((V 10 t 0 7) ||| ((1 : Int32) <<< (x3 &&& 31)))) (fun V13 => gd (inb x3 8) (ob2 (fX4_assign V13 t x2 (V13 2 0 0 (x3).toNatClampNeg)) (fun r17 V18 => some (r17, V18)))) else ob2 (fX4_discard V t) (fun r20 V21 => some (r20, V21))) else gd (inb x3 8) (ob2 (fX4_assign V t x2 (V 20 t 0 (x3).toNatClampNeg)) (fun r24 V25 => some (r24, V25)))))
def fX5_hasStaleReads (V : Sto) (t : Nat) : Option (Int32) := ob (fX1_hasChanged V (V 10 t 0 7) (V 10 t 0 6)) (fun r2 => gd (isB r2) (some r2))
def fX5_doRetry (V : Sto) (t : Nat) : Option (Int32 × Sto) := ob (fX4_latestFirstPart V t 9) (fun r2 => if r2 = (-1) then ob (fX5_hasStaleReads V t) (fun r6 => if r6 = 0 then ob2 (fX4_park V t) (fun r10 V11 => some (r10, V11)) else ob2 (fX4_discard V t) (fun r13 V14 => some (r13, V14))) else ob (fX4_goBackTo V t r2) (fun V17 => ob (fX3_secondPart V17 t (V17 10 t 0 10)) (fun r19 => ob2 (fX4_goOnTo V17 t r19) (fun r22 V23 => some (r22, V23)))))
def fX5_doThrow (V : Sto) (t : Nat) (x2 : Int32) : Option (Int32 × Sto) := ob (fX4_isInAttempt V t) (fun r2 => if r2 = 0 then ob (fX4_latestFirstPart V t 15) (fun r6 => if r6 = (-1) then ob (fX4_fail V t x2) (fun V14 => some (4, V14)) else ob (fX4_handle V t r6 x2) (fun V11 => some (4, V11))) else ob (fX4_latestFirstPart V t 15) (fun r16 => if r16 = (-1) then ob (fX5_hasStaleReads V t) (fun r30 => if r30 = 0 then ob (fX4_undoAttempt V t) (fun V35 => ob (fX4_latestFirstPart V35 t 15) (fun r37 => if r37 = (-1) then ob (fX4_fail V35 t x2) (fun V45 => some (4, V45)) else ob (fX4_handle V35 t r37 x2) (fun V42 => some (4, V42)))) else ob2 (fX4_discard V t) (fun r47 V48 => some (r47, V48))) else ob (fX4_latestFirstPart V t 15) (fun r20 => if r20 = (-1) then ob (fX4_fail V t x2) (fun V28 => some (4, V28)) else ob (fX4_handle V t r20 x2) (fun V25 => some (4, V25)))))
def fX5_wake_L2 : Nat → Sto → Int32 → Int32 → Option (Sto)
  | 0, _, _, _ => none
  | n + 1, V, x1, x2 => if 4 ≤ x2 then some (V) else gd (inb x2 4) (ob (fX4_waitsFor V (x2).toNatClampNeg x1) (fun r4 => if r4 = 0 then fX5_wake_L2 n V x1 (x2 + 1) else gd (inb x2 4) (ob (fX4_wakeUp V (x2).toNatClampNeg) (fun V10 => fX5_wake_L2 n V10 x1 (x2 + 1)))))
def fX5_wake (V : Sto) (x1 : Int32) : Option (Sto) := ob (fX5_wake_L2 40 V x1 0) (fun V12 => some V12)
def fX5_commit_L18 : Nat → Sto → Nat → Int32 → Int32 → Option (Sto)
  | 0, _, _, _, _ => none
  | n + 1, V, t, x2, x3 => if 8 ≤ x3 then some (V) else ob (fX4_hasWritten V t x3) (fun r16 => if r16 = 0 then fX5_commit_L18 n V t x2 (x3 + 1) else gd (inb x3 8) (ob (fX1_change V x3 (V 20 t 0 (x3).toNatClampNeg)) (fun V22 => fX5_commit_L18 n V22 t x2 (x3 + 1))))
def fX5_commit (V : Sto) (t : Nat) : Option (Int32 × Sto) := if (V 10 t 0 8) = 0 then ob (fX4_leaveAttempt V t) (fun V4 => ob2 (fX4_goOnTo V4 t ((V4 10 t 0 10) + 1)) (fun r6 V7 => ob (fX5_wake V7 (V 10 t 0 8)) (fun V10 => some (1, V10)))) else ob (fX1_countCommit V) (fun V13 => ob (fX5_commit_L18 40 V13 t (V 10 t 0 8) 0) (fun V24 => ob (fX4_leaveAttempt V24 t) (fun V27 => ob2 (fX4_goOnTo V27 t ((V27 10 t 0 10) + 1)) (fun r29 V30 => ob (fX5_wake V30 (V 10 t 0 8)) (fun V33 => some (1, V33))))))
def fX5_doEnd (V : Sto) (t : Nat) : Option (Int32 × Sto) := ob (fX3_openerOf V t (V 10 t 0 10)) (fun r2 => ob (fX3_kindAt V t r2) (fun r5 => if r5 = 6 then ob (fX5_hasStaleReads V t) (fun r9 => if r9 = 0 then ob2 (fX5_commit V t) (fun r13 V14 => some (r13, V14)) else ob2 (fX4_discard V t) (fun r16 V17 => some (r16, V17))) else if r5 = 13 then ob2 (fX4_goOnTo V t r2) (fun r20 V21 => some (r20, V21)) else ob2 (fX4_goOnTo V t ((V 10 t 0 10) + 1)) (fun r23 V24 => some (r23, V24))))
def fX5_doWord (V : Sto) (t : Nat) : Option (Int32 × Sto) := ob (fX3_firstAt V t (V 10 t 0 10)) (fun r2 => ob (fX3_secondAt V t (V 10 t 0 10)) (fun r5 => ob (fX3_kindAt V t (V 10 t 0 10)) (fun r8 => if r8 = 0 then ob2 (fX4_assign V t r2 r5) (fun r12 V13 => some (r12, V13)) else if r8 = 1 then ob (fX4_registerValue V t r2) (fun r16 => ob (fX4_registerValue V t r5) (fun r19 => ob2 (fX4_assign V t r2 (r16 + r19)) (fun r22 V23 => some (r22, V23)))) else if r8 = 2 then ob (fX4_registerValue V t r2) (fun r26 => ob (fX4_registerValue V t r5) (fun r29 => ob2 (fX4_assign V t r2 (r26 - r29)) (fun r32 V33 => some (r32, V33)))) else if r8 = 3 then ob2 (fX5_doRead V t r2 r5) (fun r36 V37 => some (r36, V37)) else if r8 = 4 then ob (fX4_registerValue V t r5) (fun r40 => ob2 (fX4_write V t r2 r40) (fun r43 V44 => some (r43, V44))) else if r8 = 5 then ob (fX4_registerValue V t r2) (fun r47 => ob (fX2_write V r47) (fun V51 => ob2 (fX4_goOnTo V51 t ((V 10 t 0 10) + 1)) (fun r53 V54 => some (r53, V54)))) else if r8 = 6 then ob2 (fX4_beginAttempt V t (V 1 0 0 2)) (fun r57 V58 => some (r57, V58)) else if r8 = 7 then ob2 (fX5_doEnd V t) (fun r61 V62 => some (r61, V62)) else if r8 = 8 then ob2 (fX5_doRetry V t) (fun r65 V66 => some (r65, V66)) else if r8 = 9 then ob2 (fX4_noteAndGoOn V t) (fun r69 V70 => some (r69, V70)) else if r8 = 10 then ob2 (fX4_endFirstPart V t) (fun r73 V74 => some (r73, V74)) else if r8 = 11 then ob (fX4_registerValue V t r2) (fun r77 => if r77 ≤ 0 then ob (fX3_elsewhere V t (V 10 t 0 10)) (fun r81 => ob2 (fX4_goOnTo V t r81) (fun r84 V85 => some (r84, V85))) else ob2 (fX4_goOnTo V t ((V 10 t 0 10) + 1)) (fun r87 V88 => some (r87, V88))) else if r8 = 12 then ob (fX3_behindEnd V t (V 10 t 0 10)) (fun r91 => ob2 (fX4_goOnTo V t r91) (fun r94 V95 => some (r94, V95))) else if r8 = 13 then ob (fX4_registerValue V t r2) (fun r98 => if r98 ≤ 0 then ob (fX3_elsewhere V t (V 10 t 0 10)) (fun r102 => ob2 (fX4_goOnTo V t r102) (fun r105 V106 => some (r105, V106))) else ob2 (fX4_goOnTo V t ((V 10 t 0 10) + 1)) (fun r108 V109 => some (r108, V109))) else if r8 = 14 then ob (fX4_registerValue V t r2) (fun r112 => ob2 (fX5_doThrow V t r112) (fun r115 V116 => some (r115, V116))) else if r8 = 15 then ob2 (fX4_noteAndGoOn V t) (fun r119 V120 => some (r119, V120)) else if r8 = 16 then ob2 (fX4_endFirstPart V t) (fun r123 V124 => some (r123, V124)) else some ((-1), V))))
def fX5_step (V : Sto) (x1 : Int32) : Option (Int32 × Sto) := om (sOf x1) (some ((-1), V)) (fun t2 => if (V 10 t2 0 9) = 1 then ob2 (fX5_doWord V t2) (fun r5 V6 => some (r5, V6)) else some ((-1), V))
def fX5_run_L17 : Nat → Sto → Int32 → Int32 → Int32 → Int32 → Option (Sto × Int32)
  | 0, _, _, _, _, _ => none
  | n + 1, V, x1, x2, x3, x4 => if x2 ≤ x4 then some (V, x3) else om (sOf ((x1 >>> ((2 * x4) &&& 31)) &&& 3)) (fX5_run_L17 n V x1 x2 x3 (x4 + 1)) (fun t5 => if (V 10 t5 0 9) = 1 then ob2 (fX5_doWord V t5) (fun r8 V9 => fX5_run_L17 n V9 x1 x2 (x3 + 1) (x4 + 1)) else fX5_run_L17 n V x1 x2 x3 (x4 + 1))
def fX5_run (V : Sto) (x1 : Int32) (x2 : Int32) : Option (Int32 × Sto) := if x2 < 0 then some ((-1), V) else if x2 ≤ 16 then ob2 (fX5_run_L17 40 V x1 x2 0 0) (fun V11 z12 => some (z12, V11)) else some ((-1), V)
def fX5_put (V : Sto) (x1 : Int32) (x2 : Int32) : Option (Int32 × Sto) := ob (fX5_isVariable V x1) (fun r2 => if r2 = 0 then some (0, V) else ob (fX1_countCommit V) (fun V7 => ob (fX1_change V7 x1 x2) (fun V10 => ob (fX5_wake V10 ((1 : Int32) <<< (x1 &&& 31))) (fun V13 => some (1, V13)))))
def fX5_value (V : Sto) (x1 : Int32) : Option (Int32) := ob (fX5_isVariable V x1) (fun r2 => if r2 = 0 then some 0 else gd (inb x1 8) (some (V 2 0 0 (x1).toNatClampNeg)))
def fX5_version (V : Sto) (x1 : Int32) : Option (Int32) := ob (fX5_isVariable V x1) (fun r2 => if r2 = 0 then some 0 else gd (inb x1 8) (some (V 3 0 0 (x1).toNatClampNeg)))
def fX5_commits (V : Sto) : Option (Int32) := some (V 1 0 0 2)
def fX5_state (V : Sto) (x1 : Int32) : Option (Int32) := om (sOf x1) (some (-1)) (fun t2 => some (V 10 t2 0 9))
def fX5_place (V : Sto) (x1 : Int32) : Option (Int32) := om (sOf x1) (some (-1)) (fun t2 => ob (fX4_isUnderWay V t2) (fun r4 => if r4 = 0 then some (-1) else some (V 10 t2 0 10)))
def fX5_register (V : Sto) (x1 : Int32) (x2 : Int32) : Option (Int32) := om (sOf x1) (some 0) (fun t2 => ob (fX4_registerValue V t2 x2) (fun r4 => some r4))
def fX5_sees (V : Sto) (x1 : Int32) (x2 : Int32) : Option (Int32) := om (sOf x1) (some 0) (fun t2 => ob (fX5_isVariable V x2) (fun r4 => if r4 = 0 then some 0 else ob (fX4_hasWritten V t2 x2) (fun r8 => if r8 = 0 then gd (inb x2 8) (some (V 2 0 0 (x2).toNatClampNeg)) else gd (inb x2 8) (some (V 20 t2 0 (x2).toNatClampNeg)))))
def fX5_log (V : Sto) (x1 : Int32) : Option (Int32) := om (sOf x1) (some 0) (fun t2 => some ((V 10 t2 0 7) + ((V 10 t2 0 8) <<< ((8 : Int32) &&& 31))))
def fX5_waiting_L13 : Nat → Sto → Int32 → Int32 → Int32 → Option (Int32)
  | 0, _, _, _, _ => none
  | n + 1, V, x1, x2, x3 => if 4 ≤ x3 then some (x2) else gd (inb x3 4) (ob (fX4_waitsFor V (x3).toNatClampNeg ((1 : Int32) <<< (x1 &&& 31))) (fun r8 => if r8 = 0 then fX5_waiting_L13 n V x1 x2 (x3 + 1) else fX5_waiting_L13 n V x1 (x2 + 1) (x3 + 1)))
def fX5_waiting (V : Sto) (x1 : Int32) : Option (Int32) := ob (fX5_isVariable V x1) (fun r2 => if r2 = 0 then some 0 else ob (fX5_waiting_L13 40 V x1 0 0) (fun z12 => some z12))
def fX5_discards (V : Sto) (x1 : Int32) : Option (Int32) := om (sOf x1) (some 0) (fun t2 => some (V 10 t2 0 11))
def fX5_outcome_L4 : Nat → Sto → Int32 → Int32 → Option (Int32)
  | 0, _, _, _ => none
  | n + 1, V, x1, x2 => if 4 ≤ x2 then if x1 = 0 then some 1 else some 2 else gd (inb x2 4) (if (V 10 (x2).toNatClampNeg 0 9) = 1 then some 0 else gd (inb x2 4) (if (V 10 (x2).toNatClampNeg 0 9) = 2 then fX5_outcome_L4 n V 1 (x2 + 1) else fX5_outcome_L4 n V x1 (x2 + 1)))
def fX5_outcome (V : Sto) : Option (Int32) := fX5_outcome_L4 40 V 0 0
def fX5_printed (V : Sto) (x1 : Int32) : Option (Int32) := if x1 = (-1) then some (V 4 0 0 1) else ob (fX2_latest V x1) (fun r3 => some r3)
def fX6_out (V : Sto) (x0 : Int32) (x1 : Int32) : Option (Int32) := if x0 < 0 then some 1 else if x0 < x1 then some 0 else some 1
def fX6_busy (V : Sto) (x1 : Int32) : Option (Int32) := gd (inb x1 4) (if (V 5 0 0 (x1).toNatClampNeg) = 1 then some 1 else gd (inb x1 4) (if (V 5 0 0 (x1).toNatClampNeg) = 2 then some 1 else some 0))
def fX6_opens (V : Sto) (x0 : Int32) : Option (Int32) := if x0 = 6 then some 1 else if x0 = 9 then some 1 else if x0 = 11 then some 1 else if x0 = 13 then some 1 else if x0 = 15 then some 1 else some 0
def fX6_named_J74 (V : Sto) (x0 : Int32) (x1 : Int32) (x2 : Int32) : Option (Int32) := if x0 = 3 then ob (fX6_out V x2 8) (fun r19 => if r19 = 0 then if x0 = 4 then ob (fX6_out V x1 8) (fun r24 => if r24 = 0 then ob (fX6_out V x2 4) (fun r28 => if r28 = 0 then some 1 else some 0) else some 0) else some 1 else some 0) else if x0 = 4 then ob (fX6_out V x1 8) (fun r11 => if r11 = 0 then ob (fX6_out V x2 4) (fun r15 => if r15 = 0 then some 1 else some 0) else some 0) else some 1
def fX6_named_J64 (V : Sto) (x0 : Int32) (x1 : Int32) (x2 : Int32) : Option (Int32) := ob (fX6_out V x2 4) (fun r5 => if r5 = 0 then fX6_named_J74 V x0 x1 x2 else some 0)
def fX6_named_J54 (V : Sto) (x0 : Int32) (x1 : Int32) (x2 : Int32) : Option (Int32) := if x0 = 1 then fX6_named_J64 V x0 x1 x2 else if x0 = 2 then fX6_named_J64 V x0 x1 x2 else fX6_named_J74 V x0 x1 x2
def fX6_named_J39 (V : Sto) (x0 : Int32) (x1 : Int32) (x2 : Int32) (y0 : Int32) : Option (Int32) := if y0 = 0 then fX6_named_J54 V x0 x1 x2 else ob (fX6_out V x1 4) (fun r33 => if r33 = 0 then fX6_named_J54 V x0 x1 x2 else some 0)
def fX6_named_J34 (V : Sto) (x0 : Int32) (x1 : Int32) (x2 : Int32) : Option (Int32) := fX6_named_J39 V x0 x1 x2 1
def fX6_named (V : Sto) (x0 : Int32) (x1 : Int32) (x2 : Int32) : Option (Int32) := if x0 ≤ 3 then fX6_named_J34 V x0 x1 x2 else if x0 = 5 then fX6_named_J34 V x0 x1 x2 else if x0 = 11 then fX6_named_J34 V x0 x1 x2 else if x0 = 13 then fX6_named_J34 V x0 x1 x2 else if x0 = 14 then fX6_named_J34 V x0 x1 x2 else if x0 = 16 then fX6_named_J34 V x0 x1 x2 else fX6_named_J39 V x0 x1 x2 0
def fX6_add (V : Sto) (x1 : Int32) (x2 : Int32) (x3 : Int32) (x4 : Int32) : Option (Int32 × Sto) := ob (fX6_out V x1 4) (fun r2 => if r2 = 0 then ob (fX6_out V x2 17) (fun r6 => if r6 = 0 then ob (fX6_busy V x1) (fun r10 => if r10 = 0 then gd (inb x1 4) (if (V 4 0 0 (x1).toNatClampNeg) = 30 then some (0, V) else ob (fX6_named V x2 x3 x4) (fun r16 => if r16 = 0 then some (0, V) else gd (inb x1 4) (gd (inb ((30 * x1) + (V 4 0 0 (x1).toNatClampNeg)) 120) (bnd (st V 1 0 0 (((30 * x1) + (V 4 0 0 (x1).toNatClampNeg))).toNatClampNeg x2) (fun V21 => gd (inb ((30 * x1) + (V 4 0 0 (x1).toNatClampNeg)) 120) (bnd (st V21 2 0 0 (((30 * x1) + (V 4 0 0 (x1).toNatClampNeg))).toNatClampNeg x3) (fun V24 => gd (inb ((30 * x1) + (V 4 0 0 (x1).toNatClampNeg)) 120) (bnd (st V24 3 0 0 (((30 * x1) + (V 4 0 0 (x1).toNatClampNeg))).toNatClampNeg x4) (fun V27 => gd (inb x1 4) (gd (inb x1 4) (bnd (st V27 4 0 0 (x1).toNatClampNeg ((V27 4 0 0 (x1).toNatClampNeg) + 1)) (fun V31 => gd (inb x1 4) (bnd (st V31 5 0 0 (x1).toNatClampNeg 0) (fun V34 => some (1, V34))))))))))))))) else some (0, V)) else some (0, V)) else some (0, V))
def fX6_cut (V : Sto) (x1 : Int32) (x2 : Int32) : Option (Int32 × Sto) := ob (fX6_out V x1 4) (fun r2 => if r2 = 0 then ob (fX6_busy V x1) (fun r6 => if r6 = 0 then if x2 < 0 then some (0, V) else gd (inb x1 4) (if x2 ≤ (V 4 0 0 (x1).toNatClampNeg) then gd (inb x1 4) (bnd (st V 4 0 0 (x1).toNatClampNeg x2) (fun V13 => gd (inb x1 4) (bnd (st V13 5 0 0 (x1).toNatClampNeg 0) (fun V16 => some (1, V16))))) else some (0, V)) else some (0, V)) else some (0, V))
def fX6_halfway (V : Sto) (x1 : Int32) (x2 : Int32) : Option (Int32) := if x1 ≤ 0 then some 0 else gd (inb (x1 - 1) 6) (if (V 27 0 0 ((x1 - 1)).toNatClampNeg) = x2 then gd (inb (x1 - 1) 6) (if (V 28 0 0 ((x1 - 1)).toNatClampNeg) = 0 then some 1 else some 0) else some 0)
def fX6_wrong (V : Sto) (x1 : Int32) (x2 : Int32) (x3 : Int32) : Option (Int32) := if x1 = 3 then if x3 = 0 then some 1 else some 0 else if x1 = 4 then if x3 = 0 then some 1 else some 0 else if x1 = 5 then gd (isB x3) (some x3) else if x1 = 6 then if x3 = 0 then if x2 = 5 then some 1 else some 0 else some 1 else if x1 = 7 then if x2 = 0 then some 1 else ob (fX6_halfway V x2 9) (fun r13 => if r13 = 0 then ob (fX6_halfway V x2 15) (fun r17 => if r17 = 0 then some 0 else some 1) else some 1) else if x1 = 8 then if x3 = 0 then some 1 else some 0 else if x1 = 9 then if x3 = 0 then some 1 else if x2 = 5 then some 1 else some 0 else if x1 = 10 then ob (fX6_halfway V x2 9) (fun r27 => if r27 = 0 then some 1 else some 0) else if x1 = 11 then ob (fX6_opens V x1) (fun r32 => if r32 = 0 then some 0 else if x2 = 5 then some 1 else some 0) else if x1 = 12 then ob (fX6_halfway V x2 11) (fun r38 => if r38 = 0 then some 1 else some 0) else if x1 = 13 then ob (fX6_opens V x1) (fun r43 => if r43 = 0 then some 0 else if x2 = 5 then some 1 else some 0) else if x1 = 14 then ob (fX6_opens V x1) (fun r49 => if r49 = 0 then some 0 else if x2 = 5 then some 1 else some 0) else if x1 = 15 then ob (fX6_opens V x1) (fun r55 => if r55 = 0 then some 0 else if x2 = 5 then some 1 else some 0) else if x1 = 16 then ob (fX6_halfway V x2 15) (fun r61 => if r61 = 0 then some 1 else some 0) else ob (fX6_opens V x1) (fun r65 => if r65 = 0 then some 0 else if x2 = 5 then some 1 else some 0)
def fX6_check_L44 : Nat → Sto → Int32 → Int32 → Int32 → Int32 → Int32 → Int32 → Option (Int32)
  | 0, _, _, _, _, _, _, _ => none
  | n + 1, V, x1, x2, x3, x4, x5, x6 => if x2 ≤ x6 then some (x5) else if x5 = 0 then gd (inb x6 6) (if (V 27 0 0 (x6).toNatClampNeg) = 6 then fX6_check_L44 n V x1 x2 x3 x4 1 (x6 + 1) else fX6_check_L44 n V x1 x2 x3 x4 0 (x6 + 1)) else fX6_check_L44 n V x1 x2 x3 x4 1 (x6 + 1)
def fX6_check_L15 : Nat → Sto → Int32 → Int32 → Int32 → Option (Int32 × Sto)
  | 0, _, _, _, _ => none
  | n + 1, V, x1, x2, x3 => gd (inb x1 4) (if (V 4 0 0 (x1).toNatClampNeg) ≤ x3 then if x2 ≤ 0 then some ((-1), V) else gd (inb x1 4) (some ((V 4 0 0 (x1).toNatClampNeg), V)) else gd (inb ((30 * x1) + x3) 120) (ob (fX6_check_L44 40 V x1 x2 x3 (V 1 0 0 (((30 * x1) + x3)).toNatClampNeg) 0 0) (fun z15 => ob (fX6_wrong V (V 1 0 0 (((30 * x1) + x3)).toNatClampNeg) x2 z15) (fun r17 => if r17 = 0 then ob (fX6_opens V (V 1 0 0 (((30 * x1) + x3)).toNatClampNeg)) (fun r21 => if r21 = 0 then if (V 1 0 0 (((30 * x1) + x3)).toNatClampNeg) = 7 then fX6_check_L15 n V x1 (x2 + (-1)) (x3 + 1) else if (V 1 0 0 (((30 * x1) + x3)).toNatClampNeg) = 10 then gd (inb (x2 - 1) 6) (bnd (st V 28 0 0 ((x2 - 1)).toNatClampNeg (nb 1)) (fun V27 => fX6_check_L15 n V27 x1 x2 (x3 + 1))) else if (V 1 0 0 (((30 * x1) + x3)).toNatClampNeg) = 12 then gd (inb (x2 - 1) 6) (bnd (st V 28 0 0 ((x2 - 1)).toNatClampNeg (nb 1)) (fun V31 => fX6_check_L15 n V31 x1 x2 (x3 + 1))) else if (V 1 0 0 (((30 * x1) + x3)).toNatClampNeg) = 16 then gd (inb (x2 - 1) 6) (bnd (st V 28 0 0 ((x2 - 1)).toNatClampNeg (nb 1)) (fun V35 => fX6_check_L15 n V35 x1 x2 (x3 + 1))) else fX6_check_L15 n V x1 x2 (x3 + 1) else gd (inb x2 6) (bnd (st V 27 0 0 (x2).toNatClampNeg (V 1 0 0 (((30 * x1) + x3)).toNatClampNeg)) (fun V38 => gd (inb x2 6) (bnd (st V38 28 0 0 (x2).toNatClampNeg (nb 0)) (fun V41 => fX6_check_L15 n V41 x1 (x2 + 1) (x3 + 1)))))) else some (x3, V)))))
def fX6_check (V : Sto) (x1 : Int32) : Option (Int32 × Sto) := ob (fX6_out V x1 4) (fun r2 => if r2 = 0 then fX6_check_L15 40 V x1 0 0 else some ((-2), V))
def fX6_partner_L8 : Nat → Sto → Int32 → Int32 → Int32 → Int32 → Option (Int32)
  | 0, _, _, _, _, _ => none
  | n + 1, V, x1, x3, x4, x5 => gd (inb x1 4) (if (V 4 0 0 (x1).toNatClampNeg) ≤ x5 then gd (inb x1 4) (some ((V 4 0 0 (x1).toNatClampNeg) - 1)) else gd (inb ((30 * x1) + x5) 120) (if x4 = 0 then if (V 1 0 0 (((30 * x1) + x5)).toNatClampNeg) = 7 then some x5 else if x3 = 0 then ob (fX6_opens V (V 1 0 0 (((30 * x1) + x5)).toNatClampNeg)) (fun r14 => if r14 = 0 then if (V 1 0 0 (((30 * x1) + x5)).toNatClampNeg) = 7 then fX6_partner_L8 n V x1 x3 (x4 - 1) (x5 + 1) else fX6_partner_L8 n V x1 x3 x4 (x5 + 1) else fX6_partner_L8 n V x1 x3 (x4 + 1) (x5 + 1)) else if (V 1 0 0 (((30 * x1) + x5)).toNatClampNeg) = 10 then some x5 else if (V 1 0 0 (((30 * x1) + x5)).toNatClampNeg) = 12 then some x5 else if (V 1 0 0 (((30 * x1) + x5)).toNatClampNeg) = 16 then some x5 else ob (fX6_opens V (V 1 0 0 (((30 * x1) + x5)).toNatClampNeg)) (fun r22 => if r22 = 0 then if (V 1 0 0 (((30 * x1) + x5)).toNatClampNeg) = 7 then fX6_partner_L8 n V x1 x3 (x4 - 1) (x5 + 1) else fX6_partner_L8 n V x1 x3 x4 (x5 + 1) else fX6_partner_L8 n V x1 x3 (x4 + 1) (x5 + 1)) else ob (fX6_opens V (V 1 0 0 (((30 * x1) + x5)).toNatClampNeg)) (fun r7 => if r7 = 0 then if (V 1 0 0 (((30 * x1) + x5)).toNatClampNeg) = 7 then fX6_partner_L8 n V x1 x3 (x4 - 1) (x5 + 1) else fX6_partner_L8 n V x1 x3 x4 (x5 + 1) else fX6_partner_L8 n V x1 x3 (x4 + 1) (x5 + 1))))
def fX6_partner (V : Sto) (x1 : Int32) (x2 : Int32) (x3 : Int32) : Option (Int32) := fX6_partner_L8 40 V x1 x3 0 (x2 + 1)
def fX6_origin_L7 : Nat → Sto → Int32 → Int32 → Int32 → Option (Int32)
  | 0, _, _, _, _ => none
  | n + 1, V, x1, x3, x4 => if x4 ≤ 0 then some 0 else gd (inb ((30 * x1) + x4) 120) (if x3 = 0 then ob (fX6_opens V (V 1 0 0 (((30 * x1) + x4)).toNatClampNeg)) (fun r10 => if r10 = 0 then ob (fX6_opens V (V 1 0 0 (((30 * x1) + x4)).toNatClampNeg)) (fun r14 => if r14 = 0 then if (V 1 0 0 (((30 * x1) + x4)).toNatClampNeg) = 7 then fX6_origin_L7 n V x1 (x3 + 1) (x4 + (-1)) else fX6_origin_L7 n V x1 x3 (x4 + (-1)) else fX6_origin_L7 n V x1 (x3 - 1) (x4 + (-1))) else some x4) else ob (fX6_opens V (V 1 0 0 (((30 * x1) + x4)).toNatClampNeg)) (fun r5 => if r5 = 0 then if (V 1 0 0 (((30 * x1) + x4)).toNatClampNeg) = 7 then fX6_origin_L7 n V x1 (x3 + 1) (x4 + (-1)) else fX6_origin_L7 n V x1 x3 (x4 + (-1)) else fX6_origin_L7 n V x1 (x3 - 1) (x4 + (-1))))
def fX6_origin (V : Sto) (x1 : Int32) (x2 : Int32) : Option (Int32) := fX6_origin_L7 40 V x1 0 (x2 - 1)
def fX6_endAttempt_L9 : Nat → Sto → Int32 → Int32 → Option (Sto)
  | 0, _, _, _ => none
  | n + 1, V, x1, x2 => if 8 ≤ x2 then some (V) else gd (inb ((8 * x1) + x2) 32) (bnd (st V 17 0 0 (((8 * x1) + x2)).toNatClampNeg (nb 0)) (fun V6 => gd (inb ((8 * x1) + x2) 32) (bnd (st V6 18 0 0 (((8 * x1) + x2)).toNatClampNeg (nb 0)) (fun V9 => gd (inb ((8 * x1) + x2) 32) (bnd (st V9 16 0 0 (((8 * x1) + x2)).toNatClampNeg (nb 0)) (fun V12 => fX6_endAttempt_L9 n V12 x1 (x2 + 1)))))))
def fX6_endAttempt (V : Sto) (x1 : Int32) : Option (Sto) := gd (inb x1 4) (bnd (st V 13 0 0 (x1).toNatClampNeg (nb 0)) (fun V2 => ob (fX6_endAttempt_L9 40 V2 x1 0) (fun V15 => some V15)))
def fX6_go (V : Sto) (x1 : Int32) (x2 : Int32) : Option (Sto) := gd (inb x1 4) (bnd (st V 6 0 0 (x1).toNatClampNeg x2) (fun V2 => gd (inb x1 4) (if x2 = (V2 4 0 0 (x1).toNatClampNeg) then gd (inb x1 4) (bnd (st V2 5 0 0 (x1).toNatClampNeg 3) (fun V7 => some V7)) else some V2)))
def fX6_start_L31 : Nat → Sto → Int32 → Int32 → Option (Sto)
  | 0, _, _, _ => none
  | n + 1, V, x1, x2 => if 4 ≤ x2 then some (V) else gd (inb ((4 * x1) + x2) 16) (bnd (st V 8 0 0 (((4 * x1) + x2)).toNatClampNeg 0) (fun V15 => fX6_start_L31 n V15 x1 (x2 + 1)))
def fX6_start (V : Sto) (x1 : Int32) : Option (Int32 × Sto) := ob (fX6_out V x1 4) (fun r2 => if r2 = 0 then ob (fX6_busy V x1) (fun r6 => if r6 = 0 then ob2 (fX6_check V x1) (fun r10 V11 => if r10 = (-1) then ob (fX6_start_L31 40 V11 x1 0) (fun V18 => gd (inb x1 4) (bnd (st V18 7 0 0 (x1).toNatClampNeg 0) (fun V20 => gd (inb x1 4) (bnd (st V20 20 0 0 (x1).toNatClampNeg 0) (fun V23 => ob (fX6_endAttempt V23 x1) (fun V27 => gd (inb x1 4) (bnd (st V27 5 0 0 (x1).toNatClampNeg 1) (fun V29 => ob (fX6_go V29 x1 0) (fun V33 => some (1, V33)))))))))) else some (0, V11)) else some (0, V)) else some (0, V))
def fX6_stop (V : Sto) (x1 : Int32) : Option (Int32 × Sto) := ob (fX6_out V x1 4) (fun r2 => if r2 = 0 then ob (fX6_busy V x1) (fun r6 => if r6 = 0 then some (0, V) else ob (fX6_endAttempt V x1) (fun V11 => gd (inb x1 4) (bnd (st V11 20 0 0 (x1).toNatClampNeg 0) (fun V13 => gd (inb x1 4) (bnd (st V13 5 0 0 (x1).toNatClampNeg 0) (fun V16 => some (1, V16))))))) else some (0, V))
def fX6_begin_L38 : Nat → Sto → Int32 → Int32 → Option (Sto)
  | 0, _, _, _ => none
  | n + 1, V, x1, x2 => if 4 ≤ x2 then some (V) else gd (inb ((4 * x1) + x2) 16) (gd (inb ((4 * x1) + x2) 16) (bnd (st V 9 0 0 (((4 * x1) + x2)).toNatClampNeg (V 8 0 0 (((4 * x1) + x2)).toNatClampNeg)) (fun V18 => fX6_begin_L38 n V18 x1 (x2 + 1))))
def fX6_begin (V : Sto) (x1 : Int32) : Option (Sto) := ob (fX6_endAttempt V x1) (fun V3 => gd (inb x1 4) (bnd (st V3 13 0 0 (x1).toNatClampNeg (nb 1)) (fun V5 => gd (inb x1 4) (gd (inb x1 4) (bnd (st V5 14 0 0 (x1).toNatClampNeg (V5 6 0 0 (x1).toNatClampNeg)) (fun V9 => gd (inb x1 4) (gd (inb x1 4) (bnd (st V9 15 0 0 (x1).toNatClampNeg (V9 20 0 0 (x1).toNatClampNeg)) (fun V13 => ob (fX6_begin_L38 40 V13 x1 0) (fun V21 => some V21))))))))))
def fX6_undo_L26 : Nat → Sto → Int32 → Int32 → Option (Sto)
  | 0, _, _, _ => none
  | n + 1, V, x1, x2 => if 4 ≤ x2 then some (V) else gd (inb ((4 * x1) + x2) 16) (gd (inb ((4 * x1) + x2) 16) (bnd (st V 8 0 0 (((4 * x1) + x2)).toNatClampNeg (V 9 0 0 (((4 * x1) + x2)).toNatClampNeg)) (fun V12 => fX6_undo_L26 n V12 x1 (x2 + 1))))
def fX6_undo (V : Sto) (x1 : Int32) : Option (Sto) := gd (inb x1 4) (gd (inb x1 4) (bnd (st V 6 0 0 (x1).toNatClampNeg (V 14 0 0 (x1).toNatClampNeg)) (fun V3 => gd (inb x1 4) (gd (inb x1 4) (bnd (st V3 20 0 0 (x1).toNatClampNeg (V3 15 0 0 (x1).toNatClampNeg)) (fun V7 => ob (fX6_undo_L26 40 V7 x1 0) (fun V15 => gd (inb x1 4) (bnd (st V15 13 0 0 (x1).toNatClampNeg (nb 0)) (fun V17 => some V17)))))))))
def fX6_discard (V : Sto) (x1 : Int32) : Option (Int32 × Sto) := ob (fX6_undo V x1) (fun V3 => ob (fX6_endAttempt V3 x1) (fun V6 => gd (inb x1 4) (gd (inb x1 4) (bnd (st V6 7 0 0 (x1).toNatClampNeg ((V6 7 0 0 (x1).toNatClampNeg) + 1)) (fun V9 => some (2, V9))))))
def fX6_outOfDate_L4 : Nat → Sto → Int32 → Int32 → Int32 → Option (Int32)
  | 0, _, _, _, _ => none
  | n + 1, V, x1, x2, x3 => if 8 ≤ x3 then some (x2) else if x2 = 0 then gd (inb ((8 * x1) + x3) 32) (if (V 17 0 0 (((8 * x1) + x3)).toNatClampNeg) = 0 then fX6_outOfDate_L4 n V x1 0 (x3 + 1) else gd (inb ((8 * x1) + x3) 32) (if (V 16 0 0 (((8 * x1) + x3)).toNatClampNeg) = 0 then fX6_outOfDate_L4 n V x1 0 (x3 + 1) else fX6_outOfDate_L4 n V x1 1 (x3 + 1))) else fX6_outOfDate_L4 n V x1 1 (x3 + 1)
def fX6_outOfDate (V : Sto) (x1 : Int32) : Option (Int32) := ob (fX6_outOfDate_L4 40 V x1 0 0) (fun z8 => gd (isB z8) (some z8))
def fX6_changed_L19 : Nat → Sto → Int32 → Int32 → Option (Sto)
  | 0, _, _, _ => none
  | n + 1, V, x1, x3 => if 4 ≤ x3 then some (V) else gd (inb x3 4) (gd (inb ((8 * x3) + x1) 32) (bnd (st V 16 0 0 (((8 * x3) + x1)).toNatClampNeg (nb (V 13 0 0 (x3).toNatClampNeg))) (fun V10 => gd (inb x3 4) (if (V10 5 0 0 (x3).toNatClampNeg) = 2 then gd (inb ((8 * x3) + x1) 32) (if (V10 17 0 0 (((8 * x3) + x1)).toNatClampNeg) = 0 then fX6_changed_L19 n V10 x1 (x3 + 1) else gd (inb x3 4) (bnd (st V10 5 0 0 (x3).toNatClampNeg 1) (fun V17 => ob (fX6_endAttempt V17 x3) (fun V21 => fX6_changed_L19 n V21 x1 (x3 + 1))))) else fX6_changed_L19 n V10 x1 (x3 + 1)))))
def fX6_changed (V : Sto) (x1 : Int32) (x2 : Int32) : Option (Sto) := gd (inb x1 8) (bnd (st V 10 0 0 (x1).toNatClampNeg x2) (fun V2 => gd (inb x1 8) (bnd (st V2 11 0 0 (x1).toNatClampNeg (V2 0 0 0 11)) (fun V5 => ob (fX6_changed_L19 40 V5 x1 0) (fun V23 => some V23)))))
def fX6_commit_L18 : Nat → Sto → Int32 → Int32 → Int32 → Option (Int32)
  | 0, _, _, _, _ => none
  | n + 1, V, x1, x2, x3 => if 8 ≤ x3 then some (x2) else if x2 = 0 then gd (inb ((8 * x1) + x3) 32) (if (V 18 0 0 (((8 * x1) + x3)).toNatClampNeg) = 0 then fX6_commit_L18 n V x1 0 (x3 + 1) else fX6_commit_L18 n V x1 1 (x3 + 1)) else fX6_commit_L18 n V x1 1 (x3 + 1)
def fX6_commit_L84 : Nat → Sto → Int32 → Int32 → Option (Sto)
  | 0, _, _, _ => none
  | n + 1, V, x1, x3 => if 8 ≤ x3 then some (V) else gd (inb ((8 * x1) + x3) 32) (if (V 18 0 0 (((8 * x1) + x3)).toNatClampNeg) = 0 then fX6_commit_L84 n V x1 (x3 + 1) else gd (inb ((8 * x1) + x3) 32) (ob (fX6_changed V x3 (V 19 0 0 (((8 * x1) + x3)).toNatClampNeg)) (fun V23 => fX6_commit_L84 n V23 x1 (x3 + 1))))
def fX6_commit_J72 (V : Sto) (x1 : Int32) (y1 : Int32) : Option (Int32 × Sto) := bnd (st V 0 0 0 11 y1) (fun V12 => gd (inb x1 4) (bnd (st V12 13 0 0 (x1).toNatClampNeg (nb 0)) (fun V15 => ob (fX6_commit_L84 40 V15 x1 0) (fun V25 => ob (fX6_endAttempt V25 x1) (fun V28 => gd (inb x1 4) (ob (fX6_go V28 x1 ((V28 6 0 0 (x1).toNatClampNeg) + 1)) (fun V32 => some (1, V32))))))))
def fX6_commit (V : Sto) (x1 : Int32) : Option (Int32 × Sto) := ob (fX6_outOfDate V x1) (fun r2 => if r2 = 0 then ob (fX6_commit_L18 40 V x1 0 0) (fun z10 => if z10 = 0 then fX6_commit_J72 V x1 (V 0 0 0 11) else fX6_commit_J72 V x1 ((V 0 0 0 11) + 1)) else ob2 (fX6_discard V x1) (fun r34 V35 => some (r34, V35)))
def fX6_beginPart_L26 : Nat → Sto → Int32 → Int32 → Int32 → Option (Sto)
  | 0, _, _, _, _ => none
  | n + 1, V, x1, x2, x3 => if 4 ≤ x3 then some (V) else gd (inb ((4 * x1) + x3) 16) (gd (inb ((4 * x2) + x3) 96) (bnd (st V 22 0 0 (((4 * x2) + x3)).toNatClampNeg (V 8 0 0 (((4 * x1) + x3)).toNatClampNeg)) (fun V9 => fX6_beginPart_L26 n V9 x1 x2 (x3 + 1))))
def fX6_beginPart_L59 : Nat → Sto → Int32 → Int32 → Int32 → Option (Sto)
  | 0, _, _, _, _ => none
  | n + 1, V, x1, x2, x3 => if 8 ≤ x3 then some (V) else gd (inb ((8 * x1) + x3) 32) (gd (inb ((8 * x2) + x3) 192) (bnd (st V 23 0 0 (((8 * x2) + x3)).toNatClampNeg (nb (V 18 0 0 (((8 * x1) + x3)).toNatClampNeg))) (fun V16 => gd (inb ((8 * x1) + x3) 32) (gd (inb ((8 * x2) + x3) 192) (bnd (st V16 24 0 0 (((8 * x2) + x3)).toNatClampNeg (V16 19 0 0 (((8 * x1) + x3)).toNatClampNeg)) (fun V20 => fX6_beginPart_L59 n V20 x1 x2 (x3 + 1)))))))
def fX6_beginPart (V : Sto) (x1 : Int32) : Option (Sto) := gd (inb x1 4) (gd (inb x1 4) (gd (inb ((6 * x1) + (V 20 0 0 (x1).toNatClampNeg)) 24) (bnd (st V 21 0 0 (((6 * x1) + (V 20 0 0 (x1).toNatClampNeg))).toNatClampNeg (V 6 0 0 (x1).toNatClampNeg)) (fun V4 => ob (fX6_beginPart_L26 40 V4 x1 ((6 * x1) + (V 20 0 0 (x1).toNatClampNeg)) 0) (fun V12 => ob (fX6_beginPart_L59 40 V12 x1 ((6 * x1) + (V 20 0 0 (x1).toNatClampNeg)) 0) (fun V23 => gd (inb x1 4) (gd (inb x1 4) (bnd (st V23 20 0 0 (x1).toNatClampNeg ((V23 20 0 0 (x1).toNatClampNeg) + 1)) (fun V26 => gd (inb x1 4) (ob (fX6_go V26 x1 ((V26 6 0 0 (x1).toNatClampNeg) + 1)) (fun V31 => some V31)))))))))))
def fX6_latest_L6 : Nat → Sto → Int32 → Int32 → Int32 → Int32 → Option (Int32)
  | 0, _, _, _, _, _ => none
  | n + 1, V, x1, x2, x4, x5 => gd (inb x1 4) (if (V 20 0 0 (x1).toNatClampNeg) ≤ x5 then some (x4) else gd (inb ((6 * x1) + x5) 24) (gd (inb ((30 * x1) + (V 21 0 0 (((6 * x1) + x5)).toNatClampNeg)) 120) (if (V 1 0 0 (((30 * x1) + (V 21 0 0 (((6 * x1) + x5)).toNatClampNeg))).toNatClampNeg) = x2 then fX6_latest_L6 n V x1 x2 x5 (x5 + 1) else fX6_latest_L6 n V x1 x2 x4 (x5 + 1))))
def fX6_latest (V : Sto) (x1 : Int32) (x2 : Int32) (x3 : Int32) : Option (Int32) := ob (fX6_latest_L6 40 V x1 x2 (-1) x3) (fun z7 => some z7)
def fX6_back_L10 : Nat → Sto → Int32 → Int32 → Int32 → Int32 → Option (Sto)
  | 0, _, _, _, _, _ => none
  | n + 1, V, x1, x2, x3, x4 => if 4 ≤ x4 then some (V) else gd (inb ((4 * x3) + x4) 96) (gd (inb ((4 * x1) + x4) 16) (bnd (st V 8 0 0 (((4 * x1) + x4)).toNatClampNeg (V 22 0 0 (((4 * x3) + x4)).toNatClampNeg)) (fun V4 => fX6_back_L10 n V4 x1 x2 x3 (x4 + 1))))
def fX6_back_L47 : Nat → Sto → Int32 → Int32 → Int32 → Int32 → Option (Sto)
  | 0, _, _, _, _, _ => none
  | n + 1, V, x1, x2, x3, x4 => if 8 ≤ x4 then some (V) else gd (inb ((8 * x3) + x4) 192) (gd (inb ((8 * x1) + x4) 32) (bnd (st V 18 0 0 (((8 * x1) + x4)).toNatClampNeg (nb (V 23 0 0 (((8 * x3) + x4)).toNatClampNeg))) (fun V11 => gd (inb ((8 * x3) + x4) 192) (gd (inb ((8 * x1) + x4) 32) (bnd (st V11 19 0 0 (((8 * x1) + x4)).toNatClampNeg (V11 24 0 0 (((8 * x3) + x4)).toNatClampNeg)) (fun V15 => fX6_back_L47 n V15 x1 x2 x3 (x4 + 1)))))))
def fX6_back (V : Sto) (x1 : Int32) (x2 : Int32) : Option (Int32 × Sto) := ob (fX6_back_L10 40 V x1 x2 ((6 * x1) + x2) 0) (fun V7 => ob (fX6_back_L47 40 V7 x1 x2 ((6 * x1) + x2) 0) (fun V18 => gd (inb x1 4) (bnd (st V18 20 0 0 (x1).toNatClampNeg x2) (fun V20 => gd (inb ((6 * x1) + x2) 24) (ob (fX6_partner V20 x1 (V20 21 0 0 (((6 * x1) + x2)).toNatClampNeg) 1) (fun r24 => some (r24, V20)))))))
def fX6_retry_L56 : Nat → Sto → Int32 → Int32 → Option (Sto)
  | 0, _, _, _ => none
  | n + 1, V, x1, x3 => if 8 ≤ x3 then some (V) else gd (inb ((8 * x1) + x3) 32) (bnd (st V 18 0 0 (((8 * x1) + x3)).toNatClampNeg (nb 0)) (fun V15 => fX6_retry_L56 n V15 x1 (x3 + 1)))
def fX6_retry (V : Sto) (x1 : Int32) : Option (Int32 × Sto) := gd (inb x1 4) (ob (fX6_latest V x1 9 (V 15 0 0 (x1).toNatClampNeg)) (fun r3 => if r3 < 0 then ob (fX6_outOfDate V x1) (fun r7 => if r7 = 0 then ob (fX6_undo V x1) (fun V12 => ob (fX6_retry_L56 40 V12 x1 0) (fun V18 => gd (inb x1 4) (bnd (st V18 5 0 0 (x1).toNatClampNeg 2) (fun V20 => some (3, V20))))) else ob2 (fX6_discard V x1) (fun r23 V24 => some (r23, V24))) else ob2 (fX6_back V x1 r3) (fun r26 V27 => ob (fX6_go V27 x1 (r26 + 1)) (fun V30 => some (0, V30)))))
def fX6_toss_J73 (V : Sto) (x1 : Int32) (x2 : Int32) (x3 : Int32) : Option (Int32 × Sto) := if 0 ≤ x3 then ob2 (fX6_back V x1 x3) (fun r9 V10 => gd (inb ((30 * x1) + r9) 120) (gd (inb ((4 * x1) + (V10 2 0 0 (((30 * x1) + r9)).toNatClampNeg)) 16) (bnd (st V10 8 0 0 (((4 * x1) + (V10 2 0 0 (((30 * x1) + r9)).toNatClampNeg))).toNatClampNeg x2) (fun V13 => ob (fX6_go V13 x1 (r9 + 1)) (fun V17 => some (4, V17)))))) else gd (inb (4 * x1) 16) (bnd (st V 8 0 0 ((4 * x1)).toNatClampNeg x2) (fun V19 => gd (inb x1 4) (bnd (st V19 5 0 0 (x1).toNatClampNeg 4) (fun V22 => some (4, V22)))))
def fX6_toss_J23 (V : Sto) (x1 : Int32) (x2 : Int32) (y1 : Int32) (y2 : Int32) (y3 : Int32) : Option (Int32 × Sto) := ob (fX6_latest V y1 y2 y3) (fun r4 => if 0 ≤ r4 then fX6_toss_J73 V x1 x2 r4 else gd (inb x1 4) (if (V 13 0 0 (x1).toNatClampNeg) = 0 then fX6_toss_J73 V x1 x2 r4 else ob (fX6_outOfDate V x1) (fun r27 => if r27 = 0 then ob (fX6_undo V x1) (fun V32 => ob (fX6_endAttempt V32 x1) (fun V35 => ob (fX6_latest V35 x1 15 0) (fun r37 => fX6_toss_J73 V35 x1 x2 r37))) else ob2 (fX6_discard V x1) (fun r40 V41 => some (r40, V41)))))
def fX6_toss (V : Sto) (x1 : Int32) (x2 : Int32) : Option (Int32 × Sto) := gd (inb x1 4) (if (V 13 0 0 (x1).toNatClampNeg) = 0 then fX6_toss_J23 V x1 x2 x1 15 0 else gd (inb x1 4) (fX6_toss_J23 V x1 x2 x1 15 (V 15 0 0 (x1).toNatClampNeg)))
def fX6_access_J42 (V : Sto) (x1 : Int32) (x2 : Int32) (x4 : Int32) (x5 : Int32) (y0 : Int32) : Option (Int32 × Sto) := if x2 = 4 then gd (inb x5 32) (bnd (st V 18 0 0 (x5).toNatClampNeg (nb 1)) (fun V31 => gd (inb y0 16) (gd (inb x5 32) (bnd (st V31 19 0 0 (x5).toNatClampNeg (V31 8 0 0 (y0).toNatClampNeg)) (fun V35 => gd (inb x1 4) (ob (fX6_go V35 x1 ((V35 6 0 0 (x1).toNatClampNeg) + 1)) (fun V40 => some (0, V40)))))))) else gd (inb x5 32) (if (V 18 0 0 (x5).toNatClampNeg) = 0 then gd (inb x5 32) (if (V 16 0 0 (x5).toNatClampNeg) = 0 then gd (inb x4 8) (gd (inb y0 16) (bnd (st V 8 0 0 (y0).toNatClampNeg (V 10 0 0 (x4).toNatClampNeg)) (fun V10 => gd (inb x5 32) (bnd (st V10 17 0 0 (x5).toNatClampNeg (nb 1)) (fun V13 => gd (inb x1 4) (ob (fX6_go V13 x1 ((V13 6 0 0 (x1).toNatClampNeg) + 1)) (fun V18 => some (0, V18)))))))) else ob2 (fX6_discard V x1) (fun r20 V21 => some (r20, V21))) else gd (inb x5 32) (gd (inb y0 16) (bnd (st V 8 0 0 (y0).toNatClampNeg (V 19 0 0 (x5).toNatClampNeg)) (fun V24 => gd (inb x1 4) (ob (fX6_go V24 x1 ((V24 6 0 0 (x1).toNatClampNeg) + 1)) (fun V29 => some (0, V29)))))))
def fX6_access_J21 (V : Sto) (x1 : Int32) (x2 : Int32) (x3 : Int32) (x4 : Int32) (y0 : Int32) : Option (Int32 × Sto) := if x2 = 3 then fX6_access_J42 V x1 x2 x4 y0 ((4 * x1) + x3) else fX6_access_J42 V x1 x2 x4 y0 ((4 * x1) + x4)
def fX6_access (V : Sto) (x1 : Int32) (x2 : Int32) (x3 : Int32) (x4 : Int32) : Option (Int32 × Sto) := if x2 = 3 then fX6_access_J21 V x1 x2 x3 x4 ((8 * x1) + x4) else fX6_access_J21 V x1 x2 x3 x4 ((8 * x1) + x3)
def fX6_plain (V : Sto) (x1 : Int32) (x2 : Int32) (x3 : Int32) (x4 : Int32) : Option (Sto) := if x2 = 0 then gd (inb ((4 * x1) + (x3 &&& 3)) 16) (bnd (st V 8 0 0 (((4 * x1) + (x3 &&& 3))).toNatClampNeg x4) (fun V38 => gd (inb x1 4) (ob (fX6_go V38 x1 ((V38 6 0 0 (x1).toNatClampNeg) + 1)) (fun V43 => some V43)))) else if x2 = 1 then gd (inb ((4 * x1) + (x3 &&& 3)) 16) (gd (inb ((4 * x1) + x4) 16) (gd (inb ((4 * x1) + (x3 &&& 3)) 16) (bnd (st V 8 0 0 (((4 * x1) + (x3 &&& 3))).toNatClampNeg ((V 8 0 0 (((4 * x1) + (x3 &&& 3))).toNatClampNeg) + (V 8 0 0 (((4 * x1) + x4)).toNatClampNeg))) (fun V31 => gd (inb x1 4) (ob (fX6_go V31 x1 ((V31 6 0 0 (x1).toNatClampNeg) + 1)) (fun V36 => some V36)))))) else if x2 = 2 then gd (inb ((4 * x1) + (x3 &&& 3)) 16) (gd (inb ((4 * x1) + x4) 16) (gd (inb ((4 * x1) + (x3 &&& 3)) 16) (bnd (st V 8 0 0 (((4 * x1) + (x3 &&& 3))).toNatClampNeg ((V 8 0 0 (((4 * x1) + (x3 &&& 3))).toNatClampNeg) - (V 8 0 0 (((4 * x1) + x4)).toNatClampNeg))) (fun V22 => gd (inb x1 4) (ob (fX6_go V22 x1 ((V22 6 0 0 (x1).toNatClampNeg) + 1)) (fun V27 => some V27)))))) else if x2 = 5 then gd (inb ((4 * x1) + (x3 &&& 3)) 16) (gd (inb ((V 0 0 0 24) - (V 0 0 0 24) / 16 * 16) 16) (bnd (st V 26 0 0 (((V 0 0 0 24) - (V 0 0 0 24) / 16 * 16)).toNatClampNeg (V 8 0 0 (((4 * x1) + (x3 &&& 3))).toNatClampNeg)) (fun V11 => bnd (st V11 0 0 0 24 ((V11 0 0 0 24) + 1)) (fun V13 => gd (inb x1 4) (ob (fX6_go V13 x1 ((V13 6 0 0 (x1).toNatClampNeg) + 1)) (fun V18 => some V18)))))) else gd (inb x1 4) (ob (fX6_go V x1 ((V 6 0 0 (x1).toNatClampNeg) + 1)) (fun V8 => some V8))
def fX6_branch_J45 (V : Sto) (x1 : Int32) (x2 : Int32) (x4 : Int32) : Option (Sto) := if x2 = 11 then ob (fX6_partner V x1 x4 1) (fun r13 => ob (fX6_go V x1 (r13 + 1)) (fun V17 => some V17)) else ob (fX6_partner V x1 x4 0) (fun r7 => ob (fX6_go V x1 (r7 + 1)) (fun V11 => some V11))
def fX6_branch_J20 (V : Sto) (x1 : Int32) (x2 : Int32) (x3 : Int32) (x4 : Int32) : Option (Sto) := gd (inb ((4 * x1) + x3) 16) (if (V 8 0 0 (((4 * x1) + x3)).toNatClampNeg) ≤ 0 then fX6_branch_J45 V x1 x2 x4 else ob (fX6_go V x1 (x4 + 1)) (fun V20 => some V20))
def fX6_branch (V : Sto) (x1 : Int32) (x2 : Int32) (x3 : Int32) : Option (Sto) := gd (inb x1 4) (if x2 = 11 then fX6_branch_J20 V x1 x2 x3 (V 6 0 0 (x1).toNatClampNeg) else if x2 = 13 then fX6_branch_J20 V x1 x2 x3 (V 6 0 0 (x1).toNatClampNeg) else fX6_branch_J45 V x1 x2 (V 6 0 0 (x1).toNatClampNeg))
def fX6_end (V : Sto) (x1 : Int32) : Option (Int32 × Sto) := gd (inb x1 4) (ob (fX6_origin V x1 (V 6 0 0 (x1).toNatClampNeg)) (fun r3 => gd (inb ((30 * x1) + r3) 120) (if (V 1 0 0 (((30 * x1) + r3)).toNatClampNeg) = 6 then ob2 (fX6_commit V x1) (fun r16 V17 => some (r16, V17)) else if (V 1 0 0 (((30 * x1) + r3)).toNatClampNeg) = 13 then ob (fX6_go V x1 r3) (fun V14 => some (0, V14)) else gd (inb x1 4) (ob (fX6_go V x1 ((V 6 0 0 (x1).toNatClampNeg) + 1)) (fun V11 => some (0, V11))))))
def fX6_step_J204 (V : Sto) (x1 : Int32) (x3 : Int32) (x4 : Int32) (x5 : Int32) : Option (Int32 × Sto) := if x3 = 9 then ob (fX6_beginPart V x1) (fun V29 => some (0, V29)) else if x3 = 15 then ob (fX6_beginPart V x1) (fun V40 => some (0, V40)) else if x3 < 10 then ob (fX6_plain V x1 x3 x4 x5) (fun V34 => some (0, V34)) else ob (fX6_branch V x1 x3 x4) (fun V37 => some (0, V37))
def fX6_step_J194 (V : Sto) (x1 : Int32) (x3 : Int32) (x4 : Int32) (x5 : Int32) : Option (Int32 × Sto) := gd (inb x1 4) (gd (inb x1 4) (bnd (st V 20 0 0 (x1).toNatClampNeg ((V 20 0 0 (x1).toNatClampNeg) - 1)) (fun V24 => fX6_step_J204 V24 x1 x3 x4 x5)))
def fX6_step_J182 (V : Sto) (x1 : Int32) (x3 : Int32) (x4 : Int32) (x5 : Int32) : Option (Int32 × Sto) := if x3 = 10 then fX6_step_J194 V x1 x3 x4 x5 else if x3 = 16 then fX6_step_J194 V x1 x3 x4 x5 else fX6_step_J204 V x1 x3 x4 x5
def fX6_step_J171 (V : Sto) (x1 : Int32) (x3 : Int32) (x4 : Int32) (x5 : Int32) : Option (Int32 × Sto) := if x3 = 6 then ob (fX6_begin V x1) (fun V44 => fX6_step_J182 V44 x1 x3 x4 x5) else fX6_step_J182 V x1 x3 x4 x5
def fX6_step (V : Sto) (x1 : Int32) : Option (Int32 × Sto) := ob (fX6_out V x1 4) (fun r2 => if r2 = 0 then gd (inb x1 4) (if (V 5 0 0 (x1).toNatClampNeg) = 1 then gd (inb x1 4) (gd (inb ((30 * x1) + (V 6 0 0 (x1).toNatClampNeg)) 120) (gd (inb ((30 * x1) + (V 6 0 0 (x1).toNatClampNeg)) 120) (gd (inb ((30 * x1) + (V 6 0 0 (x1).toNatClampNeg)) 120) (if (V 1 0 0 (((30 * x1) + (V 6 0 0 (x1).toNatClampNeg))).toNatClampNeg) = 3 then ob2 (fX6_access V x1 (V 1 0 0 (((30 * x1) + (V 6 0 0 (x1).toNatClampNeg))).toNatClampNeg) (V 2 0 0 (((30 * x1) + (V 6 0 0 (x1).toNatClampNeg))).toNatClampNeg) (V 3 0 0 (((30 * x1) + (V 6 0 0 (x1).toNatClampNeg))).toNatClampNeg)) (fun r13 V14 => some (r13, V14)) else if (V 1 0 0 (((30 * x1) + (V 6 0 0 (x1).toNatClampNeg))).toNatClampNeg) = 4 then ob2 (fX6_access V x1 (V 1 0 0 (((30 * x1) + (V 6 0 0 (x1).toNatClampNeg))).toNatClampNeg) (V 2 0 0 (((30 * x1) + (V 6 0 0 (x1).toNatClampNeg))).toNatClampNeg) (V 3 0 0 (((30 * x1) + (V 6 0 0 (x1).toNatClampNeg))).toNatClampNeg)) (fun r17 V18 => some (r17, V18)) else if (V 1 0 0 (((30 * x1) + (V 6 0 0 (x1).toNatClampNeg))).toNatClampNeg) = 5 then fX6_step_J171 V x1 (V 1 0 0 (((30 * x1) + (V 6 0 0 (x1).toNatClampNeg))).toNatClampNeg) (V 2 0 0 (((30 * x1) + (V 6 0 0 (x1).toNatClampNeg))).toNatClampNeg) (V 3 0 0 (((30 * x1) + (V 6 0 0 (x1).toNatClampNeg))).toNatClampNeg) else if (V 1 0 0 (((30 * x1) + (V 6 0 0 (x1).toNatClampNeg))).toNatClampNeg) = 6 then fX6_step_J171 V x1 (V 1 0 0 (((30 * x1) + (V 6 0 0 (x1).toNatClampNeg))).toNatClampNeg) (V 2 0 0 (((30 * x1) + (V 6 0 0 (x1).toNatClampNeg))).toNatClampNeg) (V 3 0 0 (((30 * x1) + (V 6 0 0 (x1).toNatClampNeg))).toNatClampNeg) else if (V 1 0 0 (((30 * x1) + (V 6 0 0 (x1).toNatClampNeg))).toNatClampNeg) = 7 then ob2 (fX6_end V x1) (fun r48 V49 => some (r48, V49)) else if (V 1 0 0 (((30 * x1) + (V 6 0 0 (x1).toNatClampNeg))).toNatClampNeg) = 8 then ob2 (fX6_retry V x1) (fun r52 V53 => some (r52, V53)) else if (V 1 0 0 (((30 * x1) + (V 6 0 0 (x1).toNatClampNeg))).toNatClampNeg) = 9 then fX6_step_J171 V x1 (V 1 0 0 (((30 * x1) + (V 6 0 0 (x1).toNatClampNeg))).toNatClampNeg) (V 2 0 0 (((30 * x1) + (V 6 0 0 (x1).toNatClampNeg))).toNatClampNeg) (V 3 0 0 (((30 * x1) + (V 6 0 0 (x1).toNatClampNeg))).toNatClampNeg) else if (V 1 0 0 (((30 * x1) + (V 6 0 0 (x1).toNatClampNeg))).toNatClampNeg) = 10 then fX6_step_J171 V x1 (V 1 0 0 (((30 * x1) + (V 6 0 0 (x1).toNatClampNeg))).toNatClampNeg) (V 2 0 0 (((30 * x1) + (V 6 0 0 (x1).toNatClampNeg))).toNatClampNeg) (V 3 0 0 (((30 * x1) + (V 6 0 0 (x1).toNatClampNeg))).toNatClampNeg) else if (V 1 0 0 (((30 * x1) + (V 6 0 0 (x1).toNatClampNeg))).toNatClampNeg) = 11 then fX6_step_J171 V x1 (V 1 0 0 (((30 * x1) + (V 6 0 0 (x1).toNatClampNeg))).toNatClampNeg) (V 2 0 0 (((30 * x1) + (V 6 0 0 (x1).toNatClampNeg))).toNatClampNeg) (V 3 0 0 (((30 * x1) + (V 6 0 0 (x1).toNatClampNeg))).toNatClampNeg) else if (V 1 0 0 (((30 * x1) + (V 6 0 0 (x1).toNatClampNeg))).toNatClampNeg) = 12 then fX6_step_J171 V x1 (V 1 0 0 (((30 * x1) + (V 6 0 0 (x1).toNatClampNeg))).toNatClampNeg) (V 2 0 0 (((30 * x1) + (V 6 0 0 (x1).toNatClampNeg))).toNatClampNeg) (V 3 0 0 (((30 * x1) + (V 6 0 0 (x1).toNatClampNeg))).toNatClampNeg) else if (V 1 0 0 (((30 * x1) + (V 6 0 0 (x1).toNatClampNeg))).toNatClampNeg) = 13 then fX6_step_J171 V x1 (V 1 0 0 (((30 * x1) + (V 6 0 0 (x1).toNatClampNeg))).toNatClampNeg) (V 2 0 0 (((30 * x1) + (V 6 0 0 (x1).toNatClampNeg))).toNatClampNeg) (V 3 0 0 (((30 * x1) + (V 6 0 0 (x1).toNatClampNeg))).toNatClampNeg) else if (V 1 0 0 (((30 * x1) + (V 6 0 0 (x1).toNatClampNeg))).toNatClampNeg) = 14 then gd (inb ((4 * x1) + (V 2 0 0 (((30 * x1) + (V 6 0 0 (x1).toNatClampNeg))).toNatClampNeg)) 16) (ob2 (fX6_toss V x1 (V 8 0 0 (((4 * x1) + (V 2 0 0 (((30 * x1) + (V 6 0 0 (x1).toNatClampNeg))).toNatClampNeg))).toNatClampNeg)) (fun r62 V63 => some (r62, V63))) else fX6_step_J171 V x1 (V 1 0 0 (((30 * x1) + (V 6 0 0 (x1).toNatClampNeg))).toNatClampNeg) (V 2 0 0 (((30 * x1) + (V 6 0 0 (x1).toNatClampNeg))).toNatClampNeg) (V 3 0 0 (((30 * x1) + (V 6 0 0 (x1).toNatClampNeg))).toNatClampNeg))))) else some ((-1), V)) else some ((-1), V))
def fX6_run_L17 : Nat → Sto → Int32 → Int32 → Int32 → Int32 → Option (Sto × Int32)
  | 0, _, _, _, _, _ => none
  | n + 1, V, x1, x2, x3, x4 => if x2 ≤ x4 then some (V, x3) else ob2 (fX6_step V ((x1 >>> ((2 * x4) &&& 31)) &&& 3)) (fun r5 V6 => if r5 < 0 then fX6_run_L17 n V6 x1 x2 x3 (x4 + 1) else fX6_run_L17 n V6 x1 x2 (x3 + 1) (x4 + 1))
def fX6_run (V : Sto) (x1 : Int32) (x2 : Int32) : Option (Int32 × Sto) := if x2 < 0 then some ((-1), V) else if x2 ≤ 16 then ob2 (fX6_run_L17 40 V x1 x2 0 0) (fun V9 z10 => some (z10, V9)) else some ((-1), V)
def fX6_put (V : Sto) (x1 : Int32) (x2 : Int32) : Option (Int32 × Sto) := ob (fX6_out V x1 8) (fun r2 => if r2 = 0 then bnd (st V 0 0 0 11 ((V 0 0 0 11) + 1)) (fun V5 => ob (fX6_changed V5 x1 x2) (fun V9 => some (1, V9))) else some (0, V))
def fX6_value (V : Sto) (x1 : Int32) : Option (Int32) := ob (fX6_out V x1 8) (fun r2 => if r2 = 0 then gd (inb x1 8) (some (V 10 0 0 (x1).toNatClampNeg)) else some 0)
def fX6_version (V : Sto) (x1 : Int32) : Option (Int32) := ob (fX6_out V x1 8) (fun r2 => if r2 = 0 then gd (inb x1 8) (some (V 11 0 0 (x1).toNatClampNeg)) else some 0)
def fX6_commits (V : Sto) : Option (Int32) := some (V 0 0 0 11)
def fX6_state (V : Sto) (x1 : Int32) : Option (Int32) := ob (fX6_out V x1 4) (fun r2 => if r2 = 0 then gd (inb x1 4) (some (V 5 0 0 (x1).toNatClampNeg)) else some (-1))
def fX6_place (V : Sto) (x1 : Int32) : Option (Int32) := ob (fX6_out V x1 4) (fun r2 => if r2 = 0 then ob (fX6_busy V x1) (fun r6 => if r6 = 0 then some (-1) else gd (inb x1 4) (some (V 6 0 0 (x1).toNatClampNeg))) else some (-1))
def fX6_register (V : Sto) (x1 : Int32) (x2 : Int32) : Option (Int32) := ob (fX6_out V x1 4) (fun r2 => if r2 = 0 then ob (fX6_out V x2 4) (fun r6 => if r6 = 0 then gd (inb ((4 * x1) + x2) 16) (some (V 8 0 0 (((4 * x1) + x2)).toNatClampNeg)) else some 0) else some 0)
def fX6_sees (V : Sto) (x1 : Int32) (x2 : Int32) : Option (Int32) := ob (fX6_out V x1 4) (fun r2 => if r2 = 0 then ob (fX6_out V x2 8) (fun r6 => if r6 = 0 then gd (inb x1 4) (if (V 13 0 0 (x1).toNatClampNeg) = 0 then gd (inb x2 8) (some (V 10 0 0 (x2).toNatClampNeg)) else gd (inb ((8 * x1) + x2) 32) (if (V 18 0 0 (((8 * x1) + x2)).toNatClampNeg) = 0 then gd (inb x2 8) (some (V 10 0 0 (x2).toNatClampNeg)) else gd (inb ((8 * x1) + x2) 32) (some (V 19 0 0 (((8 * x1) + x2)).toNatClampNeg)))) else some 0) else some 0)
def fX6_log_L14 : Nat → Sto → Int32 → Int32 → Int32 → Option (Int32)
  | 0, _, _, _, _ => none
  | n + 1, V, x1, x2, x3 => if 8 ≤ x3 then some (x2) else gd (inb ((8 * x1) + x3) 32) (if (V 17 0 0 (((8 * x1) + x3)).toNatClampNeg) = 0 then gd (inb x1 4) (if (V 13 0 0 (x1).toNatClampNeg) = 0 then fX6_log_L14 n V x1 x2 (x3 + 1) else gd (inb ((8 * x1) + x3) 32) (if (V 18 0 0 (((8 * x1) + x3)).toNatClampNeg) = 0 then fX6_log_L14 n V x1 x2 (x3 + 1) else fX6_log_L14 n V x1 (x2 + ((256 : Int32) <<< (x3 &&& 31))) (x3 + 1))) else gd (inb x1 4) (if (V 13 0 0 (x1).toNatClampNeg) = 0 then fX6_log_L14 n V x1 (x2 + ((1 : Int32) <<< (x3 &&& 31))) (x3 + 1) else gd (inb ((8 * x1) + x3) 32) (if (V 18 0 0 (((8 * x1) + x3)).toNatClampNeg) = 0 then fX6_log_L14 n V x1 (x2 + ((1 : Int32) <<< (x3 &&& 31))) (x3 + 1) else fX6_log_L14 n V x1 ((x2 + ((1 : Int32) <<< (x3 &&& 31))) + ((256 : Int32) <<< (x3 &&& 31))) (x3 + 1))))
def fX6_log (V : Sto) (x1 : Int32) : Option (Int32) := ob (fX6_out V x1 4) (fun r2 => if r2 = 0 then ob (fX6_log_L14 40 V x1 0 0) (fun z17 => some z17) else some 0)
def fX6_waiting_L15 : Nat → Sto → Int32 → Int32 → Int32 → Option (Int32)
  | 0, _, _, _, _ => none
  | n + 1, V, x1, x2, x3 => if 4 ≤ x3 then some (x2) else gd (inb x3 4) (if (V 5 0 0 (x3).toNatClampNeg) = 2 then gd (inb ((8 * x3) + x1) 32) (if (V 17 0 0 (((8 * x3) + x1)).toNatClampNeg) = 0 then fX6_waiting_L15 n V x1 x2 (x3 + 1) else fX6_waiting_L15 n V x1 (x2 + 1) (x3 + 1)) else fX6_waiting_L15 n V x1 x2 (x3 + 1))
def fX6_waiting (V : Sto) (x1 : Int32) : Option (Int32) := ob (fX6_out V x1 8) (fun r2 => if r2 = 0 then ob (fX6_waiting_L15 40 V x1 0 0) (fun z11 => some z11) else some 0)
def fX6_discards (V : Sto) (x1 : Int32) : Option (Int32) := ob (fX6_out V x1 4) (fun r2 => if r2 = 0 then gd (inb x1 4) (some (V 7 0 0 (x1).toNatClampNeg)) else some 0)
def fX6_outcome_L6 : Nat → Sto → Int32 → Int32 → Int32 → Option (Int32 × Int32)
  | 0, _, _, _, _ => none
  | n + 1, V, x1, x2, x3 => if 4 ≤ x3 then some (x1, x2) else if x1 = 0 then gd (inb x3 4) (if (V 5 0 0 (x3).toNatClampNeg) = 1 then if x2 = 0 then gd (inb x3 4) (if (V 5 0 0 (x3).toNatClampNeg) = 2 then fX6_outcome_L6 n V 1 1 (x3 + 1) else fX6_outcome_L6 n V 1 0 (x3 + 1)) else fX6_outcome_L6 n V 1 1 (x3 + 1) else if x2 = 0 then gd (inb x3 4) (if (V 5 0 0 (x3).toNatClampNeg) = 2 then fX6_outcome_L6 n V 0 1 (x3 + 1) else fX6_outcome_L6 n V 0 0 (x3 + 1)) else fX6_outcome_L6 n V 0 1 (x3 + 1)) else if x2 = 0 then gd (inb x3 4) (if (V 5 0 0 (x3).toNatClampNeg) = 2 then fX6_outcome_L6 n V 1 1 (x3 + 1) else fX6_outcome_L6 n V 1 0 (x3 + 1)) else fX6_outcome_L6 n V 1 1 (x3 + 1)
def fX6_outcome (V : Sto) : Option (Int32) := ob2 (fX6_outcome_L6 40 V 0 0 0) (fun z15 z16 => if z15 = 0 then if z16 = 0 then some 1 else some 2 else some 0)
def fX6_printed (V : Sto) (x1 : Int32) : Option (Int32) := if x1 = (-1) then some (V 0 0 0 24) else if x1 < 0 then some 0 else if 15 < x1 then some 0 else if x1 < (V 0 0 0 24) then gd (inb ((((V 0 0 0 24) - 1) - x1) - (((V 0 0 0 24) - 1) - x1) / 16 * 16) 16) (some (V 26 0 0 (((((V 0 0 0 24) - 1) - x1) - (((V 0 0 0 24) - 1) - x1) / 16 * 16)).toNatClampNeg)) else some 0
