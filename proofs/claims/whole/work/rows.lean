section
-- ===== PART A: goes FIRST, ahead of the names: the tables' words, and 'selects' of the private methods out of them =====
/-- a private method of a class that the tables say can be made, by its rows of tables_1 -/
def lw_okq (q : MethodName × Nat) : Prop := (q.1.cls ≠ "java/lang/invoke/MethodHandle" ∧ q.1.cls ≠ "java/lang/invoke/VarHandle") ∧ Cond.instantiable q.1.cls q.2 ∈ tables_1 ∧ Cond.privateMethod q.1 ∈ tables_1 ∧ Cond.instanceMethod q.1 ∈ tables_1
theorem lw_p0 : lw_okq (⟨"AtomicThreads", "strandOf", "(I)LAtomicThreads$Strand;"⟩, 3) := ⟨⟨by decide +kernel, by decide +kernel⟩, List.mem_of_getElem? (i := 11) (by decide +kernel), List.mem_of_getElem? (i := 177) (by decide +kernel), List.mem_of_getElem? (i := 178) (by decide +kernel)⟩
theorem lw_p1 : lw_okq (⟨"AtomicThreads$Strand", "isUnderWay", "()Z"⟩, 12) := ⟨⟨by decide +kernel, by decide +kernel⟩, List.mem_of_getElem? (i := 54) (by decide +kernel), List.mem_of_getElem? (i := 181) (by decide +kernel), List.mem_of_getElem? (i := 182) (by decide +kernel)⟩
theorem lw_p2 : lw_okq (⟨"AtomicThreads$Program", "isFull", "()Z"⟩, 9) := ⟨⟨by decide +kernel, by decide +kernel⟩, List.mem_of_getElem? (i := 60) (by decide +kernel), List.mem_of_getElem? (i := 185) (by decide +kernel), List.mem_of_getElem? (i := 186) (by decide +kernel)⟩
theorem lw_p3 : lw_okq (⟨"AtomicThreads$Program", "append", "(III)V"⟩, 9) := ⟨⟨by decide +kernel, by decide +kernel⟩, List.mem_of_getElem? (i := 60) (by decide +kernel), List.mem_of_getElem? (i := 198) (by decide +kernel), List.mem_of_getElem? (i := 199) (by decide +kernel)⟩
theorem lw_p4 : lw_okq (⟨"AtomicThreads$Program", "goThrough", "()I"⟩, 9) := ⟨⟨by decide +kernel, by decide +kernel⟩, List.mem_of_getElem? (i := 60) (by decide +kernel), List.mem_of_getElem? (i := 211) (by decide +kernel), List.mem_of_getElem? (i := 212) (by decide +kernel)⟩
theorem lw_p5 : lw_okq (⟨"AtomicThreads$Program", "kindAt", "(I)I"⟩, 9) := ⟨⟨by decide +kernel, by decide +kernel⟩, List.mem_of_getElem? (i := 60) (by decide +kernel), List.mem_of_getElem? (i := 215) (by decide +kernel), List.mem_of_getElem? (i := 216) (by decide +kernel)⟩
theorem lw_p6 : lw_okq (⟨"AtomicThreads$Program", "isWrong", "(I)Z"⟩, 9) := ⟨⟨by decide +kernel, by decide +kernel⟩, List.mem_of_getElem? (i := 60) (by decide +kernel), List.mem_of_getElem? (i := 222) (by decide +kernel), List.mem_of_getElem? (i := 223) (by decide +kernel)⟩
theorem lw_p7 : lw_okq (⟨"AtomicThreads$Program", "lacksMiddle", "(I)Z"⟩, 9) := ⟨⟨by decide +kernel, by decide +kernel⟩, List.mem_of_getElem? (i := 60) (by decide +kernel), List.mem_of_getElem? (i := 226) (by decide +kernel), List.mem_of_getElem? (i := 227) (by decide +kernel)⟩
theorem lw_p8 : lw_okq (⟨"AtomicThreads$Program", "innermost", "()I"⟩, 9) := ⟨⟨by decide +kernel, by decide +kernel⟩, List.mem_of_getElem? (i := 60) (by decide +kernel), List.mem_of_getElem? (i := 230) (by decide +kernel), List.mem_of_getElem? (i := 231) (by decide +kernel)⟩
theorem lw_p9 : lw_okq (⟨"AtomicThreads$Program", "middleOf", "(I)I"⟩, 9) := ⟨⟨by decide +kernel, by decide +kernel⟩, List.mem_of_getElem? (i := 60) (by decide +kernel), List.mem_of_getElem? (i := 234) (by decide +kernel), List.mem_of_getElem? (i := 235) (by decide +kernel)⟩
theorem lw_p10 : lw_okq (⟨"AtomicThreads$Program", "isAtomicOpen", "()Z"⟩, 9) := ⟨⟨by decide +kernel, by decide +kernel⟩, List.mem_of_getElem? (i := 60) (by decide +kernel), List.mem_of_getElem? (i := 238) (by decide +kernel), List.mem_of_getElem? (i := 239) (by decide +kernel)⟩
theorem lw_p11 : lw_okq (⟨"AtomicThreads$Program", "connect", "(I)V"⟩, 9) := ⟨⟨by decide +kernel, by decide +kernel⟩, List.mem_of_getElem? (i := 60) (by decide +kernel), List.mem_of_getElem? (i := 242) (by decide +kernel), List.mem_of_getElem? (i := 243) (by decide +kernel)⟩
theorem lw_p12 : lw_okq (⟨"AtomicThreads$Program", "connectOpener", "(I)V"⟩, 9) := ⟨⟨by decide +kernel, by decide +kernel⟩, List.mem_of_getElem? (i := 60) (by decide +kernel), List.mem_of_getElem? (i := 246) (by decide +kernel), List.mem_of_getElem? (i := 247) (by decide +kernel)⟩
theorem lw_p13 : lw_okq (⟨"AtomicThreads$Program", "connectTo", "([II)V"⟩, 9) := ⟨⟨by decide +kernel, by decide +kernel⟩, List.mem_of_getElem? (i := 60) (by decide +kernel), List.mem_of_getElem? (i := 250) (by decide +kernel), List.mem_of_getElem? (i := 251) (by decide +kernel)⟩
theorem lw_p14 : lw_okq (⟨"AtomicThreads$Strand", "begin", "()V"⟩, 12) := ⟨⟨by decide +kernel, by decide +kernel⟩, List.mem_of_getElem? (i := 54) (by decide +kernel), List.mem_of_getElem? (i := 258) (by decide +kernel), List.mem_of_getElem? (i := 259) (by decide +kernel)⟩
theorem lw_p15 : lw_okq (⟨"AtomicThreads$Strand", "goOnTo", "(I)I"⟩, 12) := ⟨⟨by decide +kernel, by decide +kernel⟩, List.mem_of_getElem? (i := 54) (by decide +kernel), List.mem_of_getElem? (i := 262) (by decide +kernel), List.mem_of_getElem? (i := 263) (by decide +kernel)⟩
def lw_privs_1 : List (MethodName × Nat) := [(⟨"AtomicThreads", "strandOf", "(I)LAtomicThreads$Strand;"⟩, 3), (⟨"AtomicThreads$Strand", "isUnderWay", "()Z"⟩, 12), (⟨"AtomicThreads$Program", "isFull", "()Z"⟩, 9), (⟨"AtomicThreads$Program", "append", "(III)V"⟩, 9), (⟨"AtomicThreads$Program", "goThrough", "()I"⟩, 9), (⟨"AtomicThreads$Program", "kindAt", "(I)I"⟩, 9), (⟨"AtomicThreads$Program", "isWrong", "(I)Z"⟩, 9), (⟨"AtomicThreads$Program", "lacksMiddle", "(I)Z"⟩, 9), (⟨"AtomicThreads$Program", "innermost", "()I"⟩, 9), (⟨"AtomicThreads$Program", "middleOf", "(I)I"⟩, 9), (⟨"AtomicThreads$Program", "isAtomicOpen", "()Z"⟩, 9), (⟨"AtomicThreads$Program", "connect", "(I)V"⟩, 9), (⟨"AtomicThreads$Program", "connectOpener", "(I)V"⟩, 9), (⟨"AtomicThreads$Program", "connectTo", "([II)V"⟩, 9), (⟨"AtomicThreads$Strand", "begin", "()V"⟩, 12), (⟨"AtomicThreads$Strand", "goOnTo", "(I)I"⟩, 12)]
theorem lw_r1 : ∀ q ∈ lw_privs_1, lw_okq q := List.forall_mem_cons.mpr ⟨lw_p0, List.forall_mem_cons.mpr ⟨lw_p1, List.forall_mem_cons.mpr ⟨lw_p2, List.forall_mem_cons.mpr ⟨lw_p3, List.forall_mem_cons.mpr ⟨lw_p4, List.forall_mem_cons.mpr ⟨lw_p5, List.forall_mem_cons.mpr ⟨lw_p6, List.forall_mem_cons.mpr ⟨lw_p7, List.forall_mem_cons.mpr ⟨lw_p8, List.forall_mem_cons.mpr ⟨lw_p9, List.forall_mem_cons.mpr ⟨lw_p10, List.forall_mem_cons.mpr ⟨lw_p11, List.forall_mem_cons.mpr ⟨lw_p12, List.forall_mem_cons.mpr ⟨lw_p13, List.forall_mem_cons.mpr ⟨lw_p14, List.forall_mem_cons.mpr ⟨lw_p15, fun _ h => absurd h List.not_mem_nil⟩⟩⟩⟩⟩⟩⟩⟩⟩⟩⟩⟩⟩⟩⟩⟩
theorem lw_p16 : lw_okq (⟨"AtomicThreads$Strand", "leaveAttempt", "()V"⟩, 12) := ⟨⟨by decide +kernel, by decide +kernel⟩, List.mem_of_getElem? (i := 54) (by decide +kernel), List.mem_of_getElem? (i := 270) (by decide +kernel), List.mem_of_getElem? (i := 271) (by decide +kernel)⟩
theorem lw_p17 : lw_okq (⟨"AtomicThreads$Strand", "isInAttempt", "()Z"⟩, 12) := ⟨⟨by decide +kernel, by decide +kernel⟩, List.mem_of_getElem? (i := 54) (by decide +kernel), List.mem_of_getElem? (i := 274) (by decide +kernel), List.mem_of_getElem? (i := 275) (by decide +kernel)⟩
theorem lw_p18 : lw_okq (⟨"AtomicThreads", "doWord", "(LAtomicThreads$Strand;)I"⟩, 3) := ⟨⟨by decide +kernel, by decide +kernel⟩, List.mem_of_getElem? (i := 11) (by decide +kernel), List.mem_of_getElem? (i := 282) (by decide +kernel), List.mem_of_getElem? (i := 283) (by decide +kernel)⟩
theorem lw_p19 : lw_okq (⟨"AtomicThreads$Program", "firstAt", "(I)I"⟩, 9) := ⟨⟨by decide +kernel, by decide +kernel⟩, List.mem_of_getElem? (i := 60) (by decide +kernel), List.mem_of_getElem? (i := 286) (by decide +kernel), List.mem_of_getElem? (i := 287) (by decide +kernel)⟩
theorem lw_p20 : lw_okq (⟨"AtomicThreads$Program", "secondAt", "(I)I"⟩, 9) := ⟨⟨by decide +kernel, by decide +kernel⟩, List.mem_of_getElem? (i := 60) (by decide +kernel), List.mem_of_getElem? (i := 290) (by decide +kernel), List.mem_of_getElem? (i := 291) (by decide +kernel)⟩
theorem lw_p21 : lw_okq (⟨"AtomicThreads$Strand", "assign", "(II)I"⟩, 12) := ⟨⟨by decide +kernel, by decide +kernel⟩, List.mem_of_getElem? (i := 54) (by decide +kernel), List.mem_of_getElem? (i := 295) (by decide +kernel), List.mem_of_getElem? (i := 296) (by decide +kernel)⟩
theorem lw_p22 : lw_okq (⟨"AtomicThreads$Strand", "setRegister", "(II)V"⟩, 12) := ⟨⟨by decide +kernel, by decide +kernel⟩, List.mem_of_getElem? (i := 54) (by decide +kernel), List.mem_of_getElem? (i := 299) (by decide +kernel), List.mem_of_getElem? (i := 300) (by decide +kernel)⟩
theorem lw_p23 : lw_okq (⟨"AtomicThreads$Strand", "registerValue", "(I)I"⟩, 12) := ⟨⟨by decide +kernel, by decide +kernel⟩, List.mem_of_getElem? (i := 54) (by decide +kernel), List.mem_of_getElem? (i := 304) (by decide +kernel), List.mem_of_getElem? (i := 305) (by decide +kernel)⟩
theorem lw_p24 : lw_okq (⟨"AtomicThreads", "doRead", "(LAtomicThreads$Strand;II)I"⟩, 3) := ⟨⟨by decide +kernel, by decide +kernel⟩, List.mem_of_getElem? (i := 11) (by decide +kernel), List.mem_of_getElem? (i := 308) (by decide +kernel), List.mem_of_getElem? (i := 309) (by decide +kernel)⟩
theorem lw_p25 : lw_okq (⟨"AtomicThreads$Strand", "hasWritten", "(I)Z"⟩, 12) := ⟨⟨by decide +kernel, by decide +kernel⟩, List.mem_of_getElem? (i := 54) (by decide +kernel), List.mem_of_getElem? (i := 312) (by decide +kernel), List.mem_of_getElem? (i := 313) (by decide +kernel)⟩
theorem lw_p26 : lw_okq (⟨"AtomicThreads$Memory", "hasChanged", "(II)Z"⟩, 3) := ⟨⟨by decide +kernel, by decide +kernel⟩, List.mem_of_getElem? (i := 19) (by decide +kernel), List.mem_of_getElem? (i := 316) (by decide +kernel), List.mem_of_getElem? (i := 317) (by decide +kernel)⟩
theorem lw_p27 : lw_okq (⟨"AtomicThreads$Strand", "discard", "()I"⟩, 12) := ⟨⟨by decide +kernel, by decide +kernel⟩, List.mem_of_getElem? (i := 54) (by decide +kernel), List.mem_of_getElem? (i := 320) (by decide +kernel), List.mem_of_getElem? (i := 321) (by decide +kernel)⟩
theorem lw_p28 : lw_okq (⟨"AtomicThreads$Strand", "undoAttempt", "()V"⟩, 12) := ⟨⟨by decide +kernel, by decide +kernel⟩, List.mem_of_getElem? (i := 54) (by decide +kernel), List.mem_of_getElem? (i := 324) (by decide +kernel), List.mem_of_getElem? (i := 325) (by decide +kernel)⟩
theorem lw_p29 : lw_okq (⟨"AtomicThreads$Strand", "goBackTo", "(I)V"⟩, 12) := ⟨⟨by decide +kernel, by decide +kernel⟩, List.mem_of_getElem? (i := 54) (by decide +kernel), List.mem_of_getElem? (i := 328) (by decide +kernel), List.mem_of_getElem? (i := 329) (by decide +kernel)⟩
theorem lw_p30 : lw_okq (⟨"AtomicThreads$Strand", "write", "(II)I"⟩, 12) := ⟨⟨by decide +kernel, by decide +kernel⟩, List.mem_of_getElem? (i := 54) (by decide +kernel), List.mem_of_getElem? (i := 336) (by decide +kernel), List.mem_of_getElem? (i := 337) (by decide +kernel)⟩
theorem lw_p31 : lw_okq (⟨"AtomicThreads$Paper", "write", "(I)V"⟩, 2) := ⟨⟨by decide +kernel, by decide +kernel⟩, List.mem_of_getElem? (i := 39) (by decide +kernel), List.mem_of_getElem? (i := 341) (by decide +kernel), List.mem_of_getElem? (i := 342) (by decide +kernel)⟩
def lw_privs_2 : List (MethodName × Nat) := [(⟨"AtomicThreads$Strand", "leaveAttempt", "()V"⟩, 12), (⟨"AtomicThreads$Strand", "isInAttempt", "()Z"⟩, 12), (⟨"AtomicThreads", "doWord", "(LAtomicThreads$Strand;)I"⟩, 3), (⟨"AtomicThreads$Program", "firstAt", "(I)I"⟩, 9), (⟨"AtomicThreads$Program", "secondAt", "(I)I"⟩, 9), (⟨"AtomicThreads$Strand", "assign", "(II)I"⟩, 12), (⟨"AtomicThreads$Strand", "setRegister", "(II)V"⟩, 12), (⟨"AtomicThreads$Strand", "registerValue", "(I)I"⟩, 12), (⟨"AtomicThreads", "doRead", "(LAtomicThreads$Strand;II)I"⟩, 3), (⟨"AtomicThreads$Strand", "hasWritten", "(I)Z"⟩, 12), (⟨"AtomicThreads$Memory", "hasChanged", "(II)Z"⟩, 3), (⟨"AtomicThreads$Strand", "discard", "()I"⟩, 12), (⟨"AtomicThreads$Strand", "undoAttempt", "()V"⟩, 12), (⟨"AtomicThreads$Strand", "goBackTo", "(I)V"⟩, 12), (⟨"AtomicThreads$Strand", "write", "(II)I"⟩, 12), (⟨"AtomicThreads$Paper", "write", "(I)V"⟩, 2)]
theorem lw_r2 : ∀ q ∈ lw_privs_2, lw_okq q := List.forall_mem_cons.mpr ⟨lw_p16, List.forall_mem_cons.mpr ⟨lw_p17, List.forall_mem_cons.mpr ⟨lw_p18, List.forall_mem_cons.mpr ⟨lw_p19, List.forall_mem_cons.mpr ⟨lw_p20, List.forall_mem_cons.mpr ⟨lw_p21, List.forall_mem_cons.mpr ⟨lw_p22, List.forall_mem_cons.mpr ⟨lw_p23, List.forall_mem_cons.mpr ⟨lw_p24, List.forall_mem_cons.mpr ⟨lw_p25, List.forall_mem_cons.mpr ⟨lw_p26, List.forall_mem_cons.mpr ⟨lw_p27, List.forall_mem_cons.mpr ⟨lw_p28, List.forall_mem_cons.mpr ⟨lw_p29, List.forall_mem_cons.mpr ⟨lw_p30, List.forall_mem_cons.mpr ⟨lw_p31, fun _ h => absurd h List.not_mem_nil⟩⟩⟩⟩⟩⟩⟩⟩⟩⟩⟩⟩⟩⟩⟩⟩
theorem lw_p32 : lw_okq (⟨"AtomicThreads$Strand", "beginAttempt", "(I)I"⟩, 12) := ⟨⟨by decide +kernel, by decide +kernel⟩, List.mem_of_getElem? (i := 54) (by decide +kernel), List.mem_of_getElem? (i := 349) (by decide +kernel), List.mem_of_getElem? (i := 350) (by decide +kernel)⟩
theorem lw_p33 : lw_okq (⟨"AtomicThreads$Strand", "noteAndGoOn", "()I"⟩, 12) := ⟨⟨by decide +kernel, by decide +kernel⟩, List.mem_of_getElem? (i := 54) (by decide +kernel), List.mem_of_getElem? (i := 353) (by decide +kernel), List.mem_of_getElem? (i := 354) (by decide +kernel)⟩
theorem lw_p34 : lw_okq (⟨"AtomicThreads$Strand", "endFirstPart", "()I"⟩, 12) := ⟨⟨by decide +kernel, by decide +kernel⟩, List.mem_of_getElem? (i := 54) (by decide +kernel), List.mem_of_getElem? (i := 358) (by decide +kernel), List.mem_of_getElem? (i := 359) (by decide +kernel)⟩
theorem lw_p35 : lw_okq (⟨"AtomicThreads$Program", "behindEnd", "(I)I"⟩, 9) := ⟨⟨by decide +kernel, by decide +kernel⟩, List.mem_of_getElem? (i := 60) (by decide +kernel), List.mem_of_getElem? (i := 362) (by decide +kernel), List.mem_of_getElem? (i := 363) (by decide +kernel)⟩
theorem lw_p36 : lw_okq (⟨"AtomicThreads$Program", "elsewhere", "(I)I"⟩, 9) := ⟨⟨by decide +kernel, by decide +kernel⟩, List.mem_of_getElem? (i := 60) (by decide +kernel), List.mem_of_getElem? (i := 367) (by decide +kernel), List.mem_of_getElem? (i := 368) (by decide +kernel)⟩
theorem lw_p37 : lw_okq (⟨"AtomicThreads$Program", "secondPart", "(I)I"⟩, 9) := ⟨⟨by decide +kernel, by decide +kernel⟩, List.mem_of_getElem? (i := 60) (by decide +kernel), List.mem_of_getElem? (i := 371) (by decide +kernel), List.mem_of_getElem? (i := 372) (by decide +kernel)⟩
theorem lw_p38 : lw_okq (⟨"AtomicThreads", "doRetry", "(LAtomicThreads$Strand;)I"⟩, 3) := ⟨⟨by decide +kernel, by decide +kernel⟩, List.mem_of_getElem? (i := 11) (by decide +kernel), List.mem_of_getElem? (i := 375) (by decide +kernel), List.mem_of_getElem? (i := 376) (by decide +kernel)⟩
theorem lw_p39 : lw_okq (⟨"AtomicThreads$Strand", "latestFirstPart", "(I)I"⟩, 12) := ⟨⟨by decide +kernel, by decide +kernel⟩, List.mem_of_getElem? (i := 54) (by decide +kernel), List.mem_of_getElem? (i := 379) (by decide +kernel), List.mem_of_getElem? (i := 380) (by decide +kernel)⟩
theorem lw_p40 : lw_okq (⟨"AtomicThreads", "hasStaleReads", "(LAtomicThreads$Strand;)Z"⟩, 3) := ⟨⟨by decide +kernel, by decide +kernel⟩, List.mem_of_getElem? (i := 11) (by decide +kernel), List.mem_of_getElem? (i := 386) (by decide +kernel), List.mem_of_getElem? (i := 387) (by decide +kernel)⟩
theorem lw_p41 : lw_okq (⟨"AtomicThreads$Strand", "park", "()I"⟩, 12) := ⟨⟨by decide +kernel, by decide +kernel⟩, List.mem_of_getElem? (i := 54) (by decide +kernel), List.mem_of_getElem? (i := 390) (by decide +kernel), List.mem_of_getElem? (i := 391) (by decide +kernel)⟩
theorem lw_p42 : lw_okq (⟨"AtomicThreads", "doThrow", "(LAtomicThreads$Strand;I)I"⟩, 3) := ⟨⟨by decide +kernel, by decide +kernel⟩, List.mem_of_getElem? (i := 11) (by decide +kernel), List.mem_of_getElem? (i := 394) (by decide +kernel), List.mem_of_getElem? (i := 395) (by decide +kernel)⟩
theorem lw_p43 : lw_okq (⟨"AtomicThreads$Strand", "fail", "(I)V"⟩, 12) := ⟨⟨by decide +kernel, by decide +kernel⟩, List.mem_of_getElem? (i := 54) (by decide +kernel), List.mem_of_getElem? (i := 400) (by decide +kernel), List.mem_of_getElem? (i := 401) (by decide +kernel)⟩
theorem lw_p44 : lw_okq (⟨"AtomicThreads$Strand", "handle", "(II)V"⟩, 12) := ⟨⟨by decide +kernel, by decide +kernel⟩, List.mem_of_getElem? (i := 54) (by decide +kernel), List.mem_of_getElem? (i := 404) (by decide +kernel), List.mem_of_getElem? (i := 405) (by decide +kernel)⟩
theorem lw_p45 : lw_okq (⟨"AtomicThreads", "doEnd", "(LAtomicThreads$Strand;)I"⟩, 3) := ⟨⟨by decide +kernel, by decide +kernel⟩, List.mem_of_getElem? (i := 11) (by decide +kernel), List.mem_of_getElem? (i := 411) (by decide +kernel), List.mem_of_getElem? (i := 412) (by decide +kernel)⟩
theorem lw_p46 : lw_okq (⟨"AtomicThreads$Program", "openerOf", "(I)I"⟩, 9) := ⟨⟨by decide +kernel, by decide +kernel⟩, List.mem_of_getElem? (i := 60) (by decide +kernel), List.mem_of_getElem? (i := 415) (by decide +kernel), List.mem_of_getElem? (i := 416) (by decide +kernel)⟩
theorem lw_p47 : lw_okq (⟨"AtomicThreads", "commit", "(LAtomicThreads$Strand;)I"⟩, 3) := ⟨⟨by decide +kernel, by decide +kernel⟩, List.mem_of_getElem? (i := 11) (by decide +kernel), List.mem_of_getElem? (i := 419) (by decide +kernel), List.mem_of_getElem? (i := 420) (by decide +kernel)⟩
def lw_privs_3 : List (MethodName × Nat) := [(⟨"AtomicThreads$Strand", "beginAttempt", "(I)I"⟩, 12), (⟨"AtomicThreads$Strand", "noteAndGoOn", "()I"⟩, 12), (⟨"AtomicThreads$Strand", "endFirstPart", "()I"⟩, 12), (⟨"AtomicThreads$Program", "behindEnd", "(I)I"⟩, 9), (⟨"AtomicThreads$Program", "elsewhere", "(I)I"⟩, 9), (⟨"AtomicThreads$Program", "secondPart", "(I)I"⟩, 9), (⟨"AtomicThreads", "doRetry", "(LAtomicThreads$Strand;)I"⟩, 3), (⟨"AtomicThreads$Strand", "latestFirstPart", "(I)I"⟩, 12), (⟨"AtomicThreads", "hasStaleReads", "(LAtomicThreads$Strand;)Z"⟩, 3), (⟨"AtomicThreads$Strand", "park", "()I"⟩, 12), (⟨"AtomicThreads", "doThrow", "(LAtomicThreads$Strand;I)I"⟩, 3), (⟨"AtomicThreads$Strand", "fail", "(I)V"⟩, 12), (⟨"AtomicThreads$Strand", "handle", "(II)V"⟩, 12), (⟨"AtomicThreads", "doEnd", "(LAtomicThreads$Strand;)I"⟩, 3), (⟨"AtomicThreads$Program", "openerOf", "(I)I"⟩, 9), (⟨"AtomicThreads", "commit", "(LAtomicThreads$Strand;)I"⟩, 3)]
theorem lw_r3 : ∀ q ∈ lw_privs_3, lw_okq q := List.forall_mem_cons.mpr ⟨lw_p32, List.forall_mem_cons.mpr ⟨lw_p33, List.forall_mem_cons.mpr ⟨lw_p34, List.forall_mem_cons.mpr ⟨lw_p35, List.forall_mem_cons.mpr ⟨lw_p36, List.forall_mem_cons.mpr ⟨lw_p37, List.forall_mem_cons.mpr ⟨lw_p38, List.forall_mem_cons.mpr ⟨lw_p39, List.forall_mem_cons.mpr ⟨lw_p40, List.forall_mem_cons.mpr ⟨lw_p41, List.forall_mem_cons.mpr ⟨lw_p42, List.forall_mem_cons.mpr ⟨lw_p43, List.forall_mem_cons.mpr ⟨lw_p44, List.forall_mem_cons.mpr ⟨lw_p45, List.forall_mem_cons.mpr ⟨lw_p46, List.forall_mem_cons.mpr ⟨lw_p47, fun _ h => absurd h List.not_mem_nil⟩⟩⟩⟩⟩⟩⟩⟩⟩⟩⟩⟩⟩⟩⟩⟩
theorem lw_p48 : lw_okq (⟨"AtomicThreads$Memory", "countCommit", "()V"⟩, 3) := ⟨⟨by decide +kernel, by decide +kernel⟩, List.mem_of_getElem? (i := 19) (by decide +kernel), List.mem_of_getElem? (i := 423) (by decide +kernel), List.mem_of_getElem? (i := 424) (by decide +kernel)⟩
theorem lw_p49 : lw_okq (⟨"AtomicThreads$Memory", "change", "(II)V"⟩, 3) := ⟨⟨by decide +kernel, by decide +kernel⟩, List.mem_of_getElem? (i := 19) (by decide +kernel), List.mem_of_getElem? (i := 427) (by decide +kernel), List.mem_of_getElem? (i := 428) (by decide +kernel)⟩
theorem lw_p50 : lw_okq (⟨"AtomicThreads", "wake", "(I)V"⟩, 3) := ⟨⟨by decide +kernel, by decide +kernel⟩, List.mem_of_getElem? (i := 11) (by decide +kernel), List.mem_of_getElem? (i := 432) (by decide +kernel), List.mem_of_getElem? (i := 433) (by decide +kernel)⟩
theorem lw_p51 : lw_okq (⟨"AtomicThreads$Strand", "waitsFor", "(I)Z"⟩, 12) := ⟨⟨by decide +kernel, by decide +kernel⟩, List.mem_of_getElem? (i := 54) (by decide +kernel), List.mem_of_getElem? (i := 436) (by decide +kernel), List.mem_of_getElem? (i := 437) (by decide +kernel)⟩
theorem lw_p52 : lw_okq (⟨"AtomicThreads$Strand", "wakeUp", "()V"⟩, 12) := ⟨⟨by decide +kernel, by decide +kernel⟩, List.mem_of_getElem? (i := 54) (by decide +kernel), List.mem_of_getElem? (i := 440) (by decide +kernel), List.mem_of_getElem? (i := 441) (by decide +kernel)⟩
theorem lw_p53 : lw_okq (⟨"AtomicThreads$Paper", "latest", "(I)I"⟩, 2) := ⟨⟨by decide +kernel, by decide +kernel⟩, List.mem_of_getElem? (i := 39) (by decide +kernel), List.mem_of_getElem? (i := 500) (by decide +kernel), List.mem_of_getElem? (i := 501) (by decide +kernel)⟩
theorem lw_p54 : lw_okq (⟨"AtomicThreadsModel", "busy", "(I)Z"⟩, 28) := ⟨⟨by decide +kernel, by decide +kernel⟩, List.mem_of_getElem? (i := 504) (by decide +kernel), List.mem_of_getElem? (i := 603) (by decide +kernel), List.mem_of_getElem? (i := 604) (by decide +kernel)⟩
theorem lw_p55 : lw_okq (⟨"AtomicThreadsModel", "wrong", "(IIZ)Z"⟩, 28) := ⟨⟨by decide +kernel, by decide +kernel⟩, List.mem_of_getElem? (i := 504) (by decide +kernel), List.mem_of_getElem? (i := 618) (by decide +kernel), List.mem_of_getElem? (i := 619) (by decide +kernel)⟩
theorem lw_p56 : lw_okq (⟨"AtomicThreadsModel", "halfway", "(II)Z"⟩, 28) := ⟨⟨by decide +kernel, by decide +kernel⟩, List.mem_of_getElem? (i := 504) (by decide +kernel), List.mem_of_getElem? (i := 622) (by decide +kernel), List.mem_of_getElem? (i := 623) (by decide +kernel)⟩
theorem lw_p57 : lw_okq (⟨"AtomicThreadsModel", "endAttempt", "(I)V"⟩, 28) := ⟨⟨by decide +kernel, by decide +kernel⟩, List.mem_of_getElem? (i := 504) (by decide +kernel), List.mem_of_getElem? (i := 634) (by decide +kernel), List.mem_of_getElem? (i := 635) (by decide +kernel)⟩
theorem lw_p58 : lw_okq (⟨"AtomicThreadsModel", "go", "(II)V"⟩, 28) := ⟨⟨by decide +kernel, by decide +kernel⟩, List.mem_of_getElem? (i := 504) (by decide +kernel), List.mem_of_getElem? (i := 638) (by decide +kernel), List.mem_of_getElem? (i := 639) (by decide +kernel)⟩
theorem lw_p59 : lw_okq (⟨"AtomicThreadsModel", "access", "(IIII)I"⟩, 28) := ⟨⟨by decide +kernel, by decide +kernel⟩, List.mem_of_getElem? (i := 504) (by decide +kernel), List.mem_of_getElem? (i := 650) (by decide +kernel), List.mem_of_getElem? (i := 651) (by decide +kernel)⟩
theorem lw_p60 : lw_okq (⟨"AtomicThreadsModel", "discard", "(I)I"⟩, 28) := ⟨⟨by decide +kernel, by decide +kernel⟩, List.mem_of_getElem? (i := 504) (by decide +kernel), List.mem_of_getElem? (i := 654) (by decide +kernel), List.mem_of_getElem? (i := 655) (by decide +kernel)⟩
theorem lw_p61 : lw_okq (⟨"AtomicThreadsModel", "undo", "(I)V"⟩, 28) := ⟨⟨by decide +kernel, by decide +kernel⟩, List.mem_of_getElem? (i := 504) (by decide +kernel), List.mem_of_getElem? (i := 658) (by decide +kernel), List.mem_of_getElem? (i := 659) (by decide +kernel)⟩
theorem lw_p62 : lw_okq (⟨"AtomicThreadsModel", "end", "(I)I"⟩, 28) := ⟨⟨by decide +kernel, by decide +kernel⟩, List.mem_of_getElem? (i := 504) (by decide +kernel), List.mem_of_getElem? (i := 662) (by decide +kernel), List.mem_of_getElem? (i := 663) (by decide +kernel)⟩
theorem lw_p63 : lw_okq (⟨"AtomicThreadsModel", "origin", "(II)I"⟩, 28) := ⟨⟨by decide +kernel, by decide +kernel⟩, List.mem_of_getElem? (i := 504) (by decide +kernel), List.mem_of_getElem? (i := 666) (by decide +kernel), List.mem_of_getElem? (i := 667) (by decide +kernel)⟩
def lw_privs_4 : List (MethodName × Nat) := [(⟨"AtomicThreads$Memory", "countCommit", "()V"⟩, 3), (⟨"AtomicThreads$Memory", "change", "(II)V"⟩, 3), (⟨"AtomicThreads", "wake", "(I)V"⟩, 3), (⟨"AtomicThreads$Strand", "waitsFor", "(I)Z"⟩, 12), (⟨"AtomicThreads$Strand", "wakeUp", "()V"⟩, 12), (⟨"AtomicThreads$Paper", "latest", "(I)I"⟩, 2), (⟨"AtomicThreadsModel", "busy", "(I)Z"⟩, 28), (⟨"AtomicThreadsModel", "wrong", "(IIZ)Z"⟩, 28), (⟨"AtomicThreadsModel", "halfway", "(II)Z"⟩, 28), (⟨"AtomicThreadsModel", "endAttempt", "(I)V"⟩, 28), (⟨"AtomicThreadsModel", "go", "(II)V"⟩, 28), (⟨"AtomicThreadsModel", "access", "(IIII)I"⟩, 28), (⟨"AtomicThreadsModel", "discard", "(I)I"⟩, 28), (⟨"AtomicThreadsModel", "undo", "(I)V"⟩, 28), (⟨"AtomicThreadsModel", "end", "(I)I"⟩, 28), (⟨"AtomicThreadsModel", "origin", "(II)I"⟩, 28)]
theorem lw_r4 : ∀ q ∈ lw_privs_4, lw_okq q := List.forall_mem_cons.mpr ⟨lw_p48, List.forall_mem_cons.mpr ⟨lw_p49, List.forall_mem_cons.mpr ⟨lw_p50, List.forall_mem_cons.mpr ⟨lw_p51, List.forall_mem_cons.mpr ⟨lw_p52, List.forall_mem_cons.mpr ⟨lw_p53, List.forall_mem_cons.mpr ⟨lw_p54, List.forall_mem_cons.mpr ⟨lw_p55, List.forall_mem_cons.mpr ⟨lw_p56, List.forall_mem_cons.mpr ⟨lw_p57, List.forall_mem_cons.mpr ⟨lw_p58, List.forall_mem_cons.mpr ⟨lw_p59, List.forall_mem_cons.mpr ⟨lw_p60, List.forall_mem_cons.mpr ⟨lw_p61, List.forall_mem_cons.mpr ⟨lw_p62, List.forall_mem_cons.mpr ⟨lw_p63, fun _ h => absurd h List.not_mem_nil⟩⟩⟩⟩⟩⟩⟩⟩⟩⟩⟩⟩⟩⟩⟩⟩
theorem lw_p64 : lw_okq (⟨"AtomicThreadsModel", "commit", "(I)I"⟩, 28) := ⟨⟨by decide +kernel, by decide +kernel⟩, List.mem_of_getElem? (i := 504) (by decide +kernel), List.mem_of_getElem? (i := 670) (by decide +kernel), List.mem_of_getElem? (i := 671) (by decide +kernel)⟩
theorem lw_p65 : lw_okq (⟨"AtomicThreadsModel", "outOfDate", "(I)Z"⟩, 28) := ⟨⟨by decide +kernel, by decide +kernel⟩, List.mem_of_getElem? (i := 504) (by decide +kernel), List.mem_of_getElem? (i := 674) (by decide +kernel), List.mem_of_getElem? (i := 675) (by decide +kernel)⟩
theorem lw_p66 : lw_okq (⟨"AtomicThreadsModel", "changed", "(II)V"⟩, 28) := ⟨⟨by decide +kernel, by decide +kernel⟩, List.mem_of_getElem? (i := 504) (by decide +kernel), List.mem_of_getElem? (i := 678) (by decide +kernel), List.mem_of_getElem? (i := 679) (by decide +kernel)⟩
theorem lw_p67 : lw_okq (⟨"AtomicThreadsModel", "retry", "(I)I"⟩, 28) := ⟨⟨by decide +kernel, by decide +kernel⟩, List.mem_of_getElem? (i := 504) (by decide +kernel), List.mem_of_getElem? (i := 682) (by decide +kernel), List.mem_of_getElem? (i := 683) (by decide +kernel)⟩
theorem lw_p68 : lw_okq (⟨"AtomicThreadsModel", "latest", "(III)I"⟩, 28) := ⟨⟨by decide +kernel, by decide +kernel⟩, List.mem_of_getElem? (i := 504) (by decide +kernel), List.mem_of_getElem? (i := 686) (by decide +kernel), List.mem_of_getElem? (i := 687) (by decide +kernel)⟩
theorem lw_p69 : lw_okq (⟨"AtomicThreadsModel", "back", "(II)I"⟩, 28) := ⟨⟨by decide +kernel, by decide +kernel⟩, List.mem_of_getElem? (i := 504) (by decide +kernel), List.mem_of_getElem? (i := 690) (by decide +kernel), List.mem_of_getElem? (i := 691) (by decide +kernel)⟩
theorem lw_p70 : lw_okq (⟨"AtomicThreadsModel", "partner", "(IIZ)I"⟩, 28) := ⟨⟨by decide +kernel, by decide +kernel⟩, List.mem_of_getElem? (i := 504) (by decide +kernel), List.mem_of_getElem? (i := 694) (by decide +kernel), List.mem_of_getElem? (i := 695) (by decide +kernel)⟩
theorem lw_p71 : lw_okq (⟨"AtomicThreadsModel", "toss", "(II)I"⟩, 28) := ⟨⟨by decide +kernel, by decide +kernel⟩, List.mem_of_getElem? (i := 504) (by decide +kernel), List.mem_of_getElem? (i := 698) (by decide +kernel), List.mem_of_getElem? (i := 699) (by decide +kernel)⟩
theorem lw_p72 : lw_okq (⟨"AtomicThreadsModel", "begin", "(I)V"⟩, 28) := ⟨⟨by decide +kernel, by decide +kernel⟩, List.mem_of_getElem? (i := 504) (by decide +kernel), List.mem_of_getElem? (i := 702) (by decide +kernel), List.mem_of_getElem? (i := 703) (by decide +kernel)⟩
theorem lw_p73 : lw_okq (⟨"AtomicThreadsModel", "beginPart", "(I)V"⟩, 28) := ⟨⟨by decide +kernel, by decide +kernel⟩, List.mem_of_getElem? (i := 504) (by decide +kernel), List.mem_of_getElem? (i := 706) (by decide +kernel), List.mem_of_getElem? (i := 707) (by decide +kernel)⟩
theorem lw_p74 : lw_okq (⟨"AtomicThreadsModel", "branch", "(III)V"⟩, 28) := ⟨⟨by decide +kernel, by decide +kernel⟩, List.mem_of_getElem? (i := 504) (by decide +kernel), List.mem_of_getElem? (i := 710) (by decide +kernel), List.mem_of_getElem? (i := 711) (by decide +kernel)⟩
theorem lw_p75 : lw_okq (⟨"AtomicThreadsModel", "plain", "(IIII)V"⟩, 28) := ⟨⟨by decide +kernel, by decide +kernel⟩, List.mem_of_getElem? (i := 504) (by decide +kernel), List.mem_of_getElem? (i := 714) (by decide +kernel), List.mem_of_getElem? (i := 715) (by decide +kernel)⟩
def lw_privs_5 : List (MethodName × Nat) := [(⟨"AtomicThreadsModel", "commit", "(I)I"⟩, 28), (⟨"AtomicThreadsModel", "outOfDate", "(I)Z"⟩, 28), (⟨"AtomicThreadsModel", "changed", "(II)V"⟩, 28), (⟨"AtomicThreadsModel", "retry", "(I)I"⟩, 28), (⟨"AtomicThreadsModel", "latest", "(III)I"⟩, 28), (⟨"AtomicThreadsModel", "back", "(II)I"⟩, 28), (⟨"AtomicThreadsModel", "partner", "(IIZ)I"⟩, 28), (⟨"AtomicThreadsModel", "toss", "(II)I"⟩, 28), (⟨"AtomicThreadsModel", "begin", "(I)V"⟩, 28), (⟨"AtomicThreadsModel", "beginPart", "(I)V"⟩, 28), (⟨"AtomicThreadsModel", "branch", "(III)V"⟩, 28), (⟨"AtomicThreadsModel", "plain", "(IIII)V"⟩, 28)]
theorem lw_r5 : ∀ q ∈ lw_privs_5, lw_okq q := List.forall_mem_cons.mpr ⟨lw_p64, List.forall_mem_cons.mpr ⟨lw_p65, List.forall_mem_cons.mpr ⟨lw_p66, List.forall_mem_cons.mpr ⟨lw_p67, List.forall_mem_cons.mpr ⟨lw_p68, List.forall_mem_cons.mpr ⟨lw_p69, List.forall_mem_cons.mpr ⟨lw_p70, List.forall_mem_cons.mpr ⟨lw_p71, List.forall_mem_cons.mpr ⟨lw_p72, List.forall_mem_cons.mpr ⟨lw_p73, List.forall_mem_cons.mpr ⟨lw_p74, List.forall_mem_cons.mpr ⟨lw_p75, fun _ h => absurd h List.not_mem_nil⟩⟩⟩⟩⟩⟩⟩⟩⟩⟩⟩⟩
def lw_privs : List (MethodName × Nat) := lw_privs_1 ++ (lw_privs_2 ++ (lw_privs_3 ++ (lw_privs_4 ++ (lw_privs_5))))
def lw_tbl : List Cond := k2_sels lw_privs ++ tables_1
theorem lw_privs_ok : ∀ q ∈ lw_privs, lw_okq q := by
  show ∀ q ∈ lw_privs_1 ++ (lw_privs_2 ++ (lw_privs_3 ++ (lw_privs_4 ++ (lw_privs_5)))), lw_okq q
  exact List.forall_mem_append.mpr ⟨lw_r1, List.forall_mem_append.mpr ⟨lw_r2, List.forall_mem_append.mpr ⟨lw_r3, List.forall_mem_append.mpr ⟨lw_r4, lw_r5⟩⟩⟩⟩
end
section
/-! ===== BEGIN words of one list among another's, by their places ===== -/
theorem goodIn_r {big : List Cond} (ws : List Cond) (ps : List Nat) (hp : ws = ps.filterMap (fun i => big[i]?)) (h : ws.all goodWord = true) : GoodIn big ws := by
  intro w hw
  have h1 := List.all_eq_true.mp h w hw
  rw [hp] at hw
  obtain ⟨i, -, hi⟩ := List.mem_filterMap.mp hw
  have hm : w ∈ big := by first | exact List.mem_of_getElem? hi | exact List.getElem?_mem hi
  exact ⟨hm, good_of_word h1⟩
theorem goodIn_app {big a b : List Cond} (ha : GoodIn big a) (hb : GoodIn big b) : GoodIn big (a ++ b) := fun w h => (List.mem_append.mp h).elim (ha w) (hb w)
theorem goodIn_ca {big a b : List Cond} {c : Cond} (ha : GoodIn big (c :: a)) (hb : GoodIn big b) : GoodIn big (c :: (a ++ b)) := fun w h => (List.mem_cons.mp h).elim (fun e => ha w (List.mem_cons.mpr (Or.inl e))) (fun h => (List.mem_append.mp h).elim (fun h => ha w (List.mem_cons.mpr (Or.inr h))) (hb w))
theorem goodIn_sub {big ws : List Cond} (hm : ∀ w ∈ ws, w ∈ big) (h : ws.all goodWord = true) : GoodIn big ws := fun w hw => ⟨hm w hw, good_of_word (List.all_eq_true.mp h w hw)⟩
/-! ===== END ===== -/
def RX0 : String := "AtomicThreads$Mark"
def TX0 : u_T := fun k => match k with
  | 0 => ("AtomicThreads$Mark", "registers", "[I", true)
  | 1 => ("AtomicThreads$Mark", "writtenValues", "[I", true)
  | 2 => ("AtomicThreads$Mark", "written", "I", false)
  | _ => ("AtomicThreads$Mark", "place", "I", false)
def tyX0 : Nat → FieldType := fun k => match k with
  | 0 => .array .int
  | 1 => .array .int
  | 2 => .int
  | _ => .int
abbrev wsX00 : List Cond := u_ws RX0 TX0 4
theorem nmX0 : ∀ a, a < 4 → ∀ b, b < 4 → a ≠ b → (TX0 a).2.1 ≠ (TX0 b).2.1 := by decide +kernel
theorem tyX0_ok : ∀ k, k < 4 → parseFieldDescriptor (TX0 k).2.2.1 = some (tyX0 k) := by decide +kernel
abbrev cX0_init : ByteArray := prog_2_method_1_code
def yX0_init : MethodName := ⟨RX0, "<init>", "()V"⟩
def RX1 : String := "AtomicThreads$Memory"
def TX1 : u_T := fun k => match k with
  | 0 => ("AtomicThreads$Memory", "values", "[I", true)
  | 1 => ("AtomicThreads$Memory", "versions", "[I", true)
  | _ => ("AtomicThreads$Memory", "commitCount", "I", false)
def tyX1 : Nat → FieldType := fun k => match k with
  | 0 => .array .int
  | 1 => .array .int
  | _ => .int
abbrev wsX10 : List Cond := u_ws RX1 TX1 3
theorem nmX1 : ∀ a, a < 3 → ∀ b, b < 3 → a ≠ b → (TX1 a).2.1 ≠ (TX1 b).2.1 := by decide +kernel
theorem tyX1_ok : ∀ k, k < 3 → parseFieldDescriptor (TX1 k).2.2.1 = some (tyX1 k) := by decide +kernel
abbrev cX1_init : ByteArray := prog_3_method_1_code
def yX1_init : MethodName := ⟨RX1, "<init>", "()V"⟩
abbrev cX1_countCommit : ByteArray := prog_3_method_2_code
def yX1_countCommit : MethodName := ⟨RX1, "countCommit", "()V"⟩
abbrev cX1_change : ByteArray := prog_3_method_3_code
def yX1_change : MethodName := ⟨RX1, "change", "(II)V"⟩
abbrev cX1_hasChanged : ByteArray := prog_3_method_4_code
def yX1_hasChanged : MethodName := ⟨RX1, "hasChanged", "(II)Z"⟩
def RX2 : String := "AtomicThreads$Paper"
def TX2 : u_T := fun k => match k with
  | 0 => ("AtomicThreads$Paper", "ring", "[I", true)
  | _ => ("AtomicThreads$Paper", "count", "I", false)
def tyX2 : Nat → FieldType := fun k => match k with
  | 0 => .array .int
  | _ => .int
abbrev wsX20 : List Cond := u_ws RX2 TX2 2
theorem nmX2 : ∀ a, a < 2 → ∀ b, b < 2 → a ≠ b → (TX2 a).2.1 ≠ (TX2 b).2.1 := by decide +kernel
theorem tyX2_ok : ∀ k, k < 2 → parseFieldDescriptor (TX2 k).2.2.1 = some (tyX2 k) := by decide +kernel
abbrev cX2_init : ByteArray := prog_4_method_1_code
def yX2_init : MethodName := ⟨RX2, "<init>", "()V"⟩
abbrev cX2_write : ByteArray := prog_4_method_2_code
def yX2_write : MethodName := ⟨RX2, "write", "(I)V"⟩
abbrev cX2_latest : ByteArray := prog_4_method_3_code
def yX2_latest : MethodName := ⟨RX2, "latest", "(I)I"⟩
def RX3 : String := "AtomicThreads$Program"
def TX3 : u_T := fun k => match k with
  | 0 => ("AtomicThreads$Program", "kinds", "[I", true)
  | 1 => ("AtomicThreads$Program", "firsts", "[I", true)
  | 2 => ("AtomicThreads$Program", "seconds", "[I", true)
  | 3 => ("AtomicThreads$Program", "openers", "[I", true)
  | 4 => ("AtomicThreads$Program", "middles", "[I", true)
  | 5 => ("AtomicThreads$Program", "ends", "[I", true)
  | 6 => ("AtomicThreads$Program", "open", "[I", true)
  | 7 => ("AtomicThreads$Program", "openCount", "I", false)
  | _ => ("AtomicThreads$Program", "length", "I", false)
def tyX3 : Nat → FieldType := fun k => match k with
  | 0 => .array .int
  | 1 => .array .int
  | 2 => .array .int
  | 3 => .array .int
  | 4 => .array .int
  | 5 => .array .int
  | 6 => .array .int
  | 7 => .int
  | _ => .int
abbrev wsX30 : List Cond := u_ws RX3 TX3 9
theorem nmX3 : ∀ a, a < 9 → ∀ b, b < 9 → a ≠ b → (TX3 a).2.1 ≠ (TX3 b).2.1 := by decide +kernel
theorem tyX3_ok : ∀ k, k < 9 → parseFieldDescriptor (TX3 k).2.2.1 = some (tyX3 k) := by decide +kernel
abbrev cX3_init : ByteArray := prog_5_method_1_code
def yX3_init : MethodName := ⟨RX3, "<init>", "()V"⟩
abbrev cX3_at : ByteArray := prog_5_method_2_code
def yX3_at : MethodName := ⟨RX3, "at", "([II)I"⟩
abbrev cX3_isFull : ByteArray := prog_5_method_3_code
def yX3_isFull : MethodName := ⟨RX3, "isFull", "()Z"⟩
abbrev cX3_append : ByteArray := prog_5_method_4_code
def yX3_append : MethodName := ⟨RX3, "append", "(III)V"⟩
abbrev cX3_kindAt : ByteArray := prog_5_method_5_code
def yX3_kindAt : MethodName := ⟨RX3, "kindAt", "(I)I"⟩
abbrev cX3_firstAt : ByteArray := prog_5_method_6_code
def yX3_firstAt : MethodName := ⟨RX3, "firstAt", "(I)I"⟩
abbrev cX3_secondAt : ByteArray := prog_5_method_7_code
def yX3_secondAt : MethodName := ⟨RX3, "secondAt", "(I)I"⟩
abbrev cX3_openerOf : ByteArray := prog_5_method_8_code
def yX3_openerOf : MethodName := ⟨RX3, "openerOf", "(I)I"⟩
abbrev cX3_middleOf : ByteArray := prog_5_method_9_code
def yX3_middleOf : MethodName := ⟨RX3, "middleOf", "(I)I"⟩
abbrev cX3_behindEnd : ByteArray := prog_5_method_10_code
def yX3_behindEnd : MethodName := ⟨RX3, "behindEnd", "(I)I"⟩
abbrev cX3_secondPart : ByteArray := prog_5_method_11_code
def yX3_secondPart : MethodName := ⟨RX3, "secondPart", "(I)I"⟩
abbrev cX3_elsewhere : ByteArray := prog_5_method_12_code
def yX3_elsewhere : MethodName := ⟨RX3, "elsewhere", "(I)I"⟩
abbrev cX3_goThrough : ByteArray := prog_5_method_13_code
def yX3_goThrough : MethodName := ⟨RX3, "goThrough", "()I"⟩
abbrev cX3_isWrong : ByteArray := prog_5_method_14_code
def yX3_isWrong : MethodName := ⟨RX3, "isWrong", "(I)Z"⟩
abbrev cX3_innermost : ByteArray := prog_5_method_15_code
def yX3_innermost : MethodName := ⟨RX3, "innermost", "()I"⟩
abbrev cX3_lacksMiddle : ByteArray := prog_5_method_16_code
def yX3_lacksMiddle : MethodName := ⟨RX3, "lacksMiddle", "(I)Z"⟩
abbrev cX3_isAtomicOpen : ByteArray := prog_5_method_17_code
def yX3_isAtomicOpen : MethodName := ⟨RX3, "isAtomicOpen", "()Z"⟩
abbrev cX3_connect : ByteArray := prog_5_method_18_code
def yX3_connect : MethodName := ⟨RX3, "connect", "(I)V"⟩
abbrev cX3_connectOpener : ByteArray := prog_5_method_19_code
def yX3_connectOpener : MethodName := ⟨RX3, "connectOpener", "(I)V"⟩
abbrev cX3_connectTo : ByteArray := prog_5_method_20_code
def yX3_connectTo : MethodName := ⟨RX3, "connectTo", "([II)V"⟩
def RX4 : String := "AtomicThreads$Strand"
def TX4 : u_T := fun k => match k with
  | 0 => ("AtomicThreads$Strand", "program", "LAtomicThreads$Program;", true)
  | 1 => ("AtomicThreads$Strand", "registers", "[I", true)
  | 2 => ("AtomicThreads$Strand", "writtenValues", "[I", true)
  | 3 => ("AtomicThreads$Strand", "marks", "[LAtomicThreads$Mark;", true)
  | 4 => ("AtomicThreads$Strand", "markCount", "I", false)
  | 5 => ("AtomicThreads$Strand", "attemptMark", "I", false)
  | 6 => ("AtomicThreads$Strand", "attemptSince", "I", false)
  | 7 => ("AtomicThreads$Strand", "readSet", "I", false)
  | 8 => ("AtomicThreads$Strand", "written", "I", false)
  | 9 => ("AtomicThreads$Strand", "state", "I", false)
  | 10 => ("AtomicThreads$Strand", "place", "I", false)
  | _ => ("AtomicThreads$Strand", "discarded", "I", false)
def tyX4 : Nat → FieldType := fun k => match k with
  | 0 => .object "AtomicThreads$Program"
  | 1 => .array .int
  | 2 => .array .int
  | 3 => .array (.object "AtomicThreads$Mark")
  | 4 => .int
  | 5 => .int
  | 6 => .int
  | 7 => .int
  | 8 => .int
  | 9 => .int
  | 10 => .int
  | _ => .int
abbrev wsX40 : List Cond := u_ws RX4 TX4 12
theorem nmX4 : ∀ a, a < 12 → ∀ b, b < 12 → a ≠ b → (TX4 a).2.1 ≠ (TX4 b).2.1 := by decide +kernel
theorem tyX4_ok : ∀ k, k < 12 → parseFieldDescriptor (TX4 k).2.2.1 = some (tyX4 k) := by decide +kernel
abbrev cX4_init : ByteArray := prog_6_method_1_code
def yX4_init : MethodName := ⟨RX4, "<init>", "()V"⟩
abbrev cX4_isUnderWay : ByteArray := prog_6_method_2_code
def yX4_isUnderWay : MethodName := ⟨RX4, "isUnderWay", "()Z"⟩
abbrev cX4_isInAttempt : ByteArray := prog_6_method_3_code
def yX4_isInAttempt : MethodName := ⟨RX4, "isInAttempt", "()Z"⟩
abbrev cX4_hasWritten : ByteArray := prog_6_method_4_code
def yX4_hasWritten : MethodName := ⟨RX4, "hasWritten", "(I)Z"⟩
abbrev cX4_waitsFor : ByteArray := prog_6_method_5_code
def yX4_waitsFor : MethodName := ⟨RX4, "waitsFor", "(I)Z"⟩
abbrev cX4_registerValue : ByteArray := prog_6_method_6_code
def yX4_registerValue : MethodName := ⟨RX4, "registerValue", "(I)I"⟩
abbrev cX4_setRegister : ByteArray := prog_6_method_7_code
def yX4_setRegister : MethodName := ⟨RX4, "setRegister", "(II)V"⟩
abbrev cX4_begin : ByteArray := prog_6_method_8_code
def yX4_begin : MethodName := ⟨RX4, "begin", "()V"⟩
abbrev cX4_goOnTo : ByteArray := prog_6_method_9_code
def yX4_goOnTo : MethodName := ⟨RX4, "goOnTo", "(I)I"⟩
abbrev cX4_assign : ByteArray := prog_6_method_10_code
def yX4_assign : MethodName := ⟨RX4, "assign", "(II)I"⟩
abbrev cX4_write : ByteArray := prog_6_method_11_code
def yX4_write : MethodName := ⟨RX4, "write", "(II)I"⟩
abbrev cX4_beginAttempt : ByteArray := prog_6_method_12_code
def yX4_beginAttempt : MethodName := ⟨RX4, "beginAttempt", "(I)I"⟩
abbrev cX4_noteAndGoOn : ByteArray := prog_6_method_13_code
def yX4_noteAndGoOn : MethodName := ⟨RX4, "noteAndGoOn", "()I"⟩
abbrev cX4_endFirstPart : ByteArray := prog_6_method_14_code
def yX4_endFirstPart : MethodName := ⟨RX4, "endFirstPart", "()I"⟩
abbrev cX4_latestFirstPart : ByteArray := prog_6_method_15_code
def yX4_latestFirstPart : MethodName := ⟨RX4, "latestFirstPart", "(I)I"⟩
abbrev cX4_goBackTo : ByteArray := prog_6_method_16_code
def yX4_goBackTo : MethodName := ⟨RX4, "goBackTo", "(I)V"⟩
abbrev cX4_handle : ByteArray := prog_6_method_17_code
def yX4_handle : MethodName := ⟨RX4, "handle", "(II)V"⟩
abbrev cX4_fail : ByteArray := prog_6_method_18_code
def yX4_fail : MethodName := ⟨RX4, "fail", "(I)V"⟩
abbrev cX4_leaveAttempt : ByteArray := prog_6_method_19_code
def yX4_leaveAttempt : MethodName := ⟨RX4, "leaveAttempt", "()V"⟩
abbrev cX4_undoAttempt : ByteArray := prog_6_method_20_code
def yX4_undoAttempt : MethodName := ⟨RX4, "undoAttempt", "()V"⟩
abbrev cX4_discard : ByteArray := prog_6_method_21_code
def yX4_discard : MethodName := ⟨RX4, "discard", "()I"⟩
abbrev cX4_park : ByteArray := prog_6_method_22_code
def yX4_park : MethodName := ⟨RX4, "park", "()I"⟩
abbrev cX4_wakeUp : ByteArray := prog_6_method_23_code
def yX4_wakeUp : MethodName := ⟨RX4, "wakeUp", "()V"⟩
def RX5 : String := "AtomicThreads"
def TX5 : u_T := fun k => match k with
  | 0 => ("AtomicThreads", "memory", "LAtomicThreads$Memory;", true)
  | 1 => ("AtomicThreads", "paper", "LAtomicThreads$Paper;", true)
  | _ => ("AtomicThreads", "strands", "[LAtomicThreads$Strand;", true)
def tyX5 : Nat → FieldType := fun k => match k with
  | 0 => .object "AtomicThreads$Memory"
  | 1 => .object "AtomicThreads$Paper"
  | _ => .array (.object "AtomicThreads$Strand")
abbrev wsX50 : List Cond := u_ws RX5 TX5 3
theorem nmX5 : ∀ a, a < 3 → ∀ b, b < 3 → a ≠ b → (TX5 a).2.1 ≠ (TX5 b).2.1 := by decide +kernel
theorem tyX5_ok : ∀ k, k < 3 → parseFieldDescriptor (TX5 k).2.2.1 = some (tyX5 k) := by decide +kernel
abbrev cX5_init : ByteArray := prog_1_method_1_code
def yX5_init : MethodName := ⟨RX5, "<init>", "()V"⟩
abbrev cX5_add : ByteArray := prog_1_method_2_code
def yX5_add : MethodName := ⟨RX5, "add", "(IIII)Z"⟩
abbrev cX5_cut : ByteArray := prog_1_method_3_code
def yX5_cut : MethodName := ⟨RX5, "cut", "(II)Z"⟩
abbrev cX5_check : ByteArray := prog_1_method_4_code
def yX5_check : MethodName := ⟨RX5, "check", "(I)I"⟩
abbrev cX5_start : ByteArray := prog_1_method_5_code
def yX5_start : MethodName := ⟨RX5, "start", "(I)Z"⟩
abbrev cX5_stop : ByteArray := prog_1_method_6_code
def yX5_stop : MethodName := ⟨RX5, "stop", "(I)Z"⟩
abbrev cX5_step : ByteArray := prog_1_method_7_code
def yX5_step : MethodName := ⟨RX5, "step", "(I)I"⟩
abbrev cX5_run : ByteArray := prog_1_method_8_code
def yX5_run : MethodName := ⟨RX5, "run", "(II)I"⟩
abbrev cX5_put : ByteArray := prog_1_method_9_code
def yX5_put : MethodName := ⟨RX5, "put", "(II)Z"⟩
abbrev cX5_value : ByteArray := prog_1_method_10_code
def yX5_value : MethodName := ⟨RX5, "value", "(I)I"⟩
abbrev cX5_version : ByteArray := prog_1_method_11_code
def yX5_version : MethodName := ⟨RX5, "version", "(I)I"⟩
abbrev cX5_commits : ByteArray := prog_1_method_12_code
def yX5_commits : MethodName := ⟨RX5, "commits", "()I"⟩
abbrev cX5_state : ByteArray := prog_1_method_13_code
def yX5_state : MethodName := ⟨RX5, "state", "(I)I"⟩
abbrev cX5_place : ByteArray := prog_1_method_14_code
def yX5_place : MethodName := ⟨RX5, "place", "(I)I"⟩
abbrev cX5_register : ByteArray := prog_1_method_15_code
def yX5_register : MethodName := ⟨RX5, "register", "(II)I"⟩
abbrev cX5_sees : ByteArray := prog_1_method_16_code
def yX5_sees : MethodName := ⟨RX5, "sees", "(II)I"⟩
abbrev cX5_log : ByteArray := prog_1_method_17_code
def yX5_log : MethodName := ⟨RX5, "log", "(I)I"⟩
abbrev cX5_waiting : ByteArray := prog_1_method_18_code
def yX5_waiting : MethodName := ⟨RX5, "waiting", "(I)I"⟩
abbrev cX5_discards : ByteArray := prog_1_method_19_code
def yX5_discards : MethodName := ⟨RX5, "discards", "(I)I"⟩
abbrev cX5_outcome : ByteArray := prog_1_method_20_code
def yX5_outcome : MethodName := ⟨RX5, "outcome", "()I"⟩
abbrev cX5_printed : ByteArray := prog_1_method_21_code
def yX5_printed : MethodName := ⟨RX5, "printed", "(I)I"⟩
abbrev cX5_strandOf : ByteArray := prog_1_method_22_code
def yX5_strandOf : MethodName := ⟨RX5, "strandOf", "(I)LAtomicThreads$Strand;"⟩
abbrev cX5_isRegister : ByteArray := prog_1_method_23_code
def yX5_isRegister : MethodName := ⟨RX5, "isRegister", "(I)Z"⟩
abbrev cX5_isVariable : ByteArray := prog_1_method_24_code
def yX5_isVariable : MethodName := ⟨RX5, "isVariable", "(I)Z"⟩
abbrev cX5_isWord : ByteArray := prog_1_method_25_code
def yX5_isWord : MethodName := ⟨RX5, "isWord", "(III)Z"⟩
abbrev cX5_doWord : ByteArray := prog_1_method_26_code
def yX5_doWord : MethodName := ⟨RX5, "doWord", "(LAtomicThreads$Strand;)I"⟩
abbrev cX5_doRead : ByteArray := prog_1_method_27_code
def yX5_doRead : MethodName := ⟨RX5, "doRead", "(LAtomicThreads$Strand;II)I"⟩
abbrev cX5_doRetry : ByteArray := prog_1_method_28_code
def yX5_doRetry : MethodName := ⟨RX5, "doRetry", "(LAtomicThreads$Strand;)I"⟩
abbrev cX5_doThrow : ByteArray := prog_1_method_29_code
def yX5_doThrow : MethodName := ⟨RX5, "doThrow", "(LAtomicThreads$Strand;I)I"⟩
abbrev cX5_doEnd : ByteArray := prog_1_method_30_code
def yX5_doEnd : MethodName := ⟨RX5, "doEnd", "(LAtomicThreads$Strand;)I"⟩
abbrev cX5_hasStaleReads : ByteArray := prog_1_method_31_code
def yX5_hasStaleReads : MethodName := ⟨RX5, "hasStaleReads", "(LAtomicThreads$Strand;)Z"⟩
abbrev cX5_commit : ByteArray := prog_1_method_32_code
def yX5_commit : MethodName := ⟨RX5, "commit", "(LAtomicThreads$Strand;)I"⟩
abbrev cX5_wake : ByteArray := prog_1_method_33_code
def yX5_wake : MethodName := ⟨RX5, "wake", "(I)V"⟩
def RX6 : String := "AtomicThreadsModel"
def TX6 : u_T := fun k => match k with
  | 0 => ("AtomicThreadsModel", "kind", "[I", false)
  | 1 => ("AtomicThreadsModel", "first", "[I", false)
  | 2 => ("AtomicThreadsModel", "second", "[I", false)
  | 3 => ("AtomicThreadsModel", "size", "[I", false)
  | 4 => ("AtomicThreadsModel", "state", "[I", false)
  | 5 => ("AtomicThreadsModel", "place", "[I", false)
  | 6 => ("AtomicThreadsModel", "discarded", "[I", false)
  | 7 => ("AtomicThreadsModel", "register", "[I", false)
  | 8 => ("AtomicThreadsModel", "noted", "[I", false)
  | 9 => ("AtomicThreadsModel", "value", "[I", false)
  | 10 => ("AtomicThreadsModel", "version", "[I", false)
  | 11 => ("AtomicThreadsModel", "commits", "I", false)
  | 12 => ("AtomicThreadsModel", "attempt", "[Z", false)
  | 13 => ("AtomicThreadsModel", "atomic", "[I", false)
  | 14 => ("AtomicThreadsModel", "before", "[I", false)
  | 15 => ("AtomicThreadsModel", "stale", "[Z", false)
  | 16 => ("AtomicThreadsModel", "read", "[Z", false)
  | 17 => ("AtomicThreadsModel", "written", "[Z", false)
  | 18 => ("AtomicThreadsModel", "wrote", "[I", false)
  | 19 => ("AtomicThreadsModel", "parts", "[I", false)
  | 20 => ("AtomicThreadsModel", "opener", "[I", false)
  | 21 => ("AtomicThreadsModel", "partRegister", "[I", false)
  | 22 => ("AtomicThreadsModel", "partWritten", "[Z", false)
  | 23 => ("AtomicThreadsModel", "partWrote", "[I", false)
  | 24 => ("AtomicThreadsModel", "prints", "I", false)
  | 25 => ("AtomicThreadsModel", "print", "[I", false)
  | 26 => ("AtomicThreadsModel", "open", "[I", false)
  | _ => ("AtomicThreadsModel", "middle", "[Z", false)
def tyX6 : Nat → FieldType := fun k => match k with
  | 0 => .array .int
  | 1 => .array .int
  | 2 => .array .int
  | 3 => .array .int
  | 4 => .array .int
  | 5 => .array .int
  | 6 => .array .int
  | 7 => .array .int
  | 8 => .array .int
  | 9 => .array .int
  | 10 => .array .int
  | 11 => .int
  | 12 => .array .boolean
  | 13 => .array .int
  | 14 => .array .int
  | 15 => .array .boolean
  | 16 => .array .boolean
  | 17 => .array .boolean
  | 18 => .array .int
  | 19 => .array .int
  | 20 => .array .int
  | 21 => .array .int
  | 22 => .array .boolean
  | 23 => .array .int
  | 24 => .int
  | 25 => .array .int
  | 26 => .array .int
  | _ => .array .boolean
abbrev wsX60 : List Cond := u_ws RX6 TX6 28
theorem nmX6 : ∀ a, a < 28 → ∀ b, b < 28 → a ≠ b → (TX6 a).2.1 ≠ (TX6 b).2.1 := by decide +kernel
theorem tyX6_ok : ∀ k, k < 28 → parseFieldDescriptor (TX6 k).2.2.1 = some (tyX6 k) := by decide +kernel
abbrev cX6_init : ByteArray := prog_8_method_1_code
def yX6_init : MethodName := ⟨RX6, "<init>", "()V"⟩
abbrev cX6_out : ByteArray := prog_8_method_2_code
def yX6_out : MethodName := ⟨RX6, "out", "(II)Z"⟩
abbrev cX6_busy : ByteArray := prog_8_method_3_code
def yX6_busy : MethodName := ⟨RX6, "busy", "(I)Z"⟩
abbrev cX6_opens : ByteArray := prog_8_method_4_code
def yX6_opens : MethodName := ⟨RX6, "opens", "(I)Z"⟩
abbrev cX6_named : ByteArray := prog_8_method_5_code
def yX6_named : MethodName := ⟨RX6, "named", "(III)Z"⟩
abbrev cX6_add : ByteArray := prog_8_method_6_code
def yX6_add : MethodName := ⟨RX6, "add", "(IIII)Z"⟩
abbrev cX6_cut : ByteArray := prog_8_method_7_code
def yX6_cut : MethodName := ⟨RX6, "cut", "(II)Z"⟩
abbrev cX6_halfway : ByteArray := prog_8_method_8_code
def yX6_halfway : MethodName := ⟨RX6, "halfway", "(II)Z"⟩
abbrev cX6_wrong : ByteArray := prog_8_method_9_code
def yX6_wrong : MethodName := ⟨RX6, "wrong", "(IIZ)Z"⟩
abbrev cX6_check : ByteArray := prog_8_method_10_code
def yX6_check : MethodName := ⟨RX6, "check", "(I)I"⟩
abbrev cX6_partner : ByteArray := prog_8_method_11_code
def yX6_partner : MethodName := ⟨RX6, "partner", "(IIZ)I"⟩
abbrev cX6_origin : ByteArray := prog_8_method_12_code
def yX6_origin : MethodName := ⟨RX6, "origin", "(II)I"⟩
abbrev cX6_start : ByteArray := prog_8_method_13_code
def yX6_start : MethodName := ⟨RX6, "start", "(I)Z"⟩
abbrev cX6_stop : ByteArray := prog_8_method_14_code
def yX6_stop : MethodName := ⟨RX6, "stop", "(I)Z"⟩
abbrev cX6_go : ByteArray := prog_8_method_15_code
def yX6_go : MethodName := ⟨RX6, "go", "(II)V"⟩
abbrev cX6_endAttempt : ByteArray := prog_8_method_16_code
def yX6_endAttempt : MethodName := ⟨RX6, "endAttempt", "(I)V"⟩
abbrev cX6_begin : ByteArray := prog_8_method_17_code
def yX6_begin : MethodName := ⟨RX6, "begin", "(I)V"⟩
abbrev cX6_undo : ByteArray := prog_8_method_18_code
def yX6_undo : MethodName := ⟨RX6, "undo", "(I)V"⟩
abbrev cX6_discard : ByteArray := prog_8_method_19_code
def yX6_discard : MethodName := ⟨RX6, "discard", "(I)I"⟩
abbrev cX6_outOfDate : ByteArray := prog_8_method_20_code
def yX6_outOfDate : MethodName := ⟨RX6, "outOfDate", "(I)Z"⟩
abbrev cX6_changed : ByteArray := prog_8_method_21_code
def yX6_changed : MethodName := ⟨RX6, "changed", "(II)V"⟩
abbrev cX6_commit : ByteArray := prog_8_method_22_code
def yX6_commit : MethodName := ⟨RX6, "commit", "(I)I"⟩
abbrev cX6_beginPart : ByteArray := prog_8_method_23_code
def yX6_beginPart : MethodName := ⟨RX6, "beginPart", "(I)V"⟩
abbrev cX6_latest : ByteArray := prog_8_method_24_code
def yX6_latest : MethodName := ⟨RX6, "latest", "(III)I"⟩
abbrev cX6_back : ByteArray := prog_8_method_25_code
def yX6_back : MethodName := ⟨RX6, "back", "(II)I"⟩
abbrev cX6_retry : ByteArray := prog_8_method_26_code
def yX6_retry : MethodName := ⟨RX6, "retry", "(I)I"⟩
abbrev cX6_toss : ByteArray := prog_8_method_27_code
def yX6_toss : MethodName := ⟨RX6, "toss", "(II)I"⟩
abbrev cX6_access : ByteArray := prog_8_method_28_code
def yX6_access : MethodName := ⟨RX6, "access", "(IIII)I"⟩
abbrev cX6_plain : ByteArray := prog_8_method_29_code
def yX6_plain : MethodName := ⟨RX6, "plain", "(IIII)V"⟩
abbrev cX6_branch : ByteArray := prog_8_method_30_code
def yX6_branch : MethodName := ⟨RX6, "branch", "(III)V"⟩
abbrev cX6_end : ByteArray := prog_8_method_31_code
def yX6_end : MethodName := ⟨RX6, "end", "(I)I"⟩
abbrev cX6_step : ByteArray := prog_8_method_32_code
def yX6_step : MethodName := ⟨RX6, "step", "(I)I"⟩
abbrev cX6_run : ByteArray := prog_8_method_33_code
def yX6_run : MethodName := ⟨RX6, "run", "(II)I"⟩
abbrev cX6_put : ByteArray := prog_8_method_34_code
def yX6_put : MethodName := ⟨RX6, "put", "(II)Z"⟩
abbrev cX6_value : ByteArray := prog_8_method_35_code
def yX6_value : MethodName := ⟨RX6, "value", "(I)I"⟩
abbrev cX6_version : ByteArray := prog_8_method_36_code
def yX6_version : MethodName := ⟨RX6, "version", "(I)I"⟩
abbrev cX6_commits : ByteArray := prog_8_method_37_code
def yX6_commits : MethodName := ⟨RX6, "commits", "()I"⟩
abbrev cX6_state : ByteArray := prog_8_method_38_code
def yX6_state : MethodName := ⟨RX6, "state", "(I)I"⟩
abbrev cX6_place : ByteArray := prog_8_method_39_code
def yX6_place : MethodName := ⟨RX6, "place", "(I)I"⟩
abbrev cX6_register : ByteArray := prog_8_method_40_code
def yX6_register : MethodName := ⟨RX6, "register", "(II)I"⟩
abbrev cX6_sees : ByteArray := prog_8_method_41_code
def yX6_sees : MethodName := ⟨RX6, "sees", "(II)I"⟩
abbrev cX6_log : ByteArray := prog_8_method_42_code
def yX6_log : MethodName := ⟨RX6, "log", "(I)I"⟩
abbrev cX6_waiting : ByteArray := prog_8_method_43_code
def yX6_waiting : MethodName := ⟨RX6, "waiting", "(I)I"⟩
abbrev cX6_discards : ByteArray := prog_8_method_44_code
def yX6_discards : MethodName := ⟨RX6, "discards", "(I)I"⟩
abbrev cX6_outcome : ByteArray := prog_8_method_45_code
def yX6_outcome : MethodName := ⟨RX6, "outcome", "()I"⟩
abbrev cX6_printed : ByteArray := prog_8_method_46_code
def yX6_printed : MethodName := ⟨RX6, "printed", "(I)I"⟩
def RJ9 : String := "java/lang/Math"
abbrev cJ9_floorMod_7cf53 : ByteArray := prog_9_method_50_code
def yJ9_floorMod_7cf53 : MethodName := ⟨RJ9, "floorMod", "(II)I"⟩
def RL : String := "AtomicThreadsLaw"
abbrev cL_law : ByteArray := code
def yL_law : MethodName := ⟨RL, "law", "([I)Z"⟩
def wsL_law_r1 : List Cond := [Cond.classLink RL 7 RX5, Cond.instantiable RX5 3, Cond.initialized RX5, Cond.classLink RL 10 RX6, Cond.instantiable RX6 28, Cond.initialized RX6, Cond.methodLink RL 9 yX5_init, Cond.instanceMethod yX5_init, Cond.code yX5_init cX5_init 2 none, Cond.methodLink RX5 1 objectInit, Cond.instanceMethod objectInit, Cond.code objectInit ⟨#[0xb1]⟩ 1 none, Cond.classLink RX5 7 RX1, Cond.instantiable RX1 3, Cond.initialized RX1, Cond.fieldLink RX5 10 "AtomicThreads" "memory" "LAtomicThreads$Memory;", Cond.classLink RX5 16 RX2, Cond.instantiable RX2 2, Cond.initialized RX2, Cond.fieldLink RX5 19 "AtomicThreads" "paper" "LAtomicThreads$Paper;", Cond.classLink RX5 23 RX4, Cond.fieldLink RX5 25 "AtomicThreads" "strands" "[LAtomicThreads$Strand;", Cond.instantiable RX4 12, Cond.initialized RX4]
def wsL_law_r2 : List Cond := [Cond.instanceMethod yX1_init, Cond.code yX1_init cX1_init 1 none, Cond.methodLink RX1 3 objectInit, Cond.arrayClass .int, Cond.fieldLink RX1 9 "AtomicThreads$Memory" "values" "[I", Cond.fieldLink RX1 15 "AtomicThreads$Memory" "versions" "[I", Cond.instanceMethod yX2_init, Cond.code yX2_init cX2_init 1 none, Cond.methodLink RX2 3 objectInit, Cond.fieldLink RX2 9 "AtomicThreads$Paper" "ring" "[I", Cond.instanceMethod yX4_init, Cond.code yX4_init cX4_init 2 none, Cond.methodLink RX4 3 objectInit, Cond.classLink RX4 9 RX3, Cond.instantiable RX3 9, Cond.initialized RX3, Cond.fieldLink RX4 12 "AtomicThreads$Strand" "program" "LAtomicThreads$Program;", Cond.fieldLink RX4 18 "AtomicThreads$Strand" "registers" "[I", Cond.fieldLink RX4 22 "AtomicThreads$Strand" "writtenValues" "[I", Cond.classLink RX4 25 RX0, Cond.fieldLink RX4 27 "AtomicThreads$Strand" "marks" "[LAtomicThreads$Mark;", Cond.fieldLink RX4 31 "AtomicThreads$Strand" "attemptMark" "I", Cond.fieldLink RX4 35 "AtomicThreads$Strand" "state" "I", Cond.instantiable RX0 4]
def wsL_law_r3 : List Cond := [Cond.initialized RX0, Cond.instanceMethod yX3_init, Cond.code yX3_init cX3_init 1 none, Cond.methodLink RX3 3 objectInit, Cond.fieldLink RX3 9 "AtomicThreads$Program" "kinds" "[I", Cond.fieldLink RX3 15 "AtomicThreads$Program" "firsts" "[I", Cond.fieldLink RX3 18 "AtomicThreads$Program" "seconds" "[I", Cond.fieldLink RX3 21 "AtomicThreads$Program" "openers" "[I", Cond.fieldLink RX3 24 "AtomicThreads$Program" "middles" "[I", Cond.fieldLink RX3 27 "AtomicThreads$Program" "ends" "[I", Cond.fieldLink RX3 30 "AtomicThreads$Program" "open" "[I", Cond.instanceMethod yX0_init, Cond.code yX0_init cX0_init 1 none, Cond.methodLink RX0 3 objectInit, Cond.fieldLink RX0 9 "AtomicThreads$Mark" "registers" "[I", Cond.fieldLink RX0 15 "AtomicThreads$Mark" "writtenValues" "[I", Cond.methodLink RL 12 yX6_init, Cond.instanceMethod yX6_init, Cond.code yX6_init cX6_init 1 none, Cond.methodLink RX6 1 objectInit, Cond.fieldLink RX6 7 "AtomicThreadsModel" "kind" "[I", Cond.fieldLink RX6 13 "AtomicThreadsModel" "first" "[I", Cond.fieldLink RX6 16 "AtomicThreadsModel" "second" "[I", Cond.fieldLink RX6 19 "AtomicThreadsModel" "size" "[I"]
def wsL_law_r4 : List Cond := [Cond.fieldLink RX6 22 "AtomicThreadsModel" "state" "[I", Cond.fieldLink RX6 25 "AtomicThreadsModel" "place" "[I", Cond.fieldLink RX6 28 "AtomicThreadsModel" "discarded" "[I", Cond.fieldLink RX6 31 "AtomicThreadsModel" "register" "[I", Cond.fieldLink RX6 34 "AtomicThreadsModel" "noted" "[I", Cond.fieldLink RX6 37 "AtomicThreadsModel" "value" "[I", Cond.fieldLink RX6 40 "AtomicThreadsModel" "version" "[I", Cond.arrayClass .boolean, Cond.fieldLink RX6 43 "AtomicThreadsModel" "attempt" "[Z", Cond.fieldLink RX6 47 "AtomicThreadsModel" "atomic" "[I", Cond.fieldLink RX6 50 "AtomicThreadsModel" "before" "[I", Cond.fieldLink RX6 53 "AtomicThreadsModel" "stale" "[Z", Cond.fieldLink RX6 56 "AtomicThreadsModel" "read" "[Z", Cond.fieldLink RX6 59 "AtomicThreadsModel" "written" "[Z", Cond.fieldLink RX6 62 "AtomicThreadsModel" "wrote" "[I", Cond.fieldLink RX6 65 "AtomicThreadsModel" "parts" "[I", Cond.fieldLink RX6 68 "AtomicThreadsModel" "opener" "[I", Cond.fieldLink RX6 71 "AtomicThreadsModel" "partRegister" "[I", Cond.fieldLink RX6 74 "AtomicThreadsModel" "partWritten" "[Z", Cond.fieldLink RX6 77 "AtomicThreadsModel" "partWrote" "[I", Cond.fieldLink RX6 80 "AtomicThreadsModel" "print" "[I", Cond.fieldLink RX6 83 "AtomicThreadsModel" "open" "[I", Cond.fieldLink RX6 86 "AtomicThreadsModel" "middle" "[Z", Cond.methodLink RL 13 yX5_add]
def wsL_law_r5 : List Cond := [Cond.instanceMethod yX5_add, Cond.selects RX5 yX5_add yX5_add, Cond.code yX5_add cX5_add 6 (some .boolean), Cond.methodLink RX5 30 yX5_strandOf, Cond.instanceMethod yX5_strandOf, Cond.selects RX5 yX5_strandOf yX5_strandOf, Cond.code yX5_strandOf cX5_strandOf 2 (some (.object "AtomicThreads$Strand")), Cond.instanceMethod yX4_isUnderWay, Cond.selects RX4 yX4_isUnderWay yX4_isUnderWay, Cond.code yX4_isUnderWay cX4_isUnderWay 1 (some .boolean), Cond.instanceMethod yX3_isFull, Cond.selects RX3 yX3_isFull yX3_isFull, Cond.code yX3_isFull cX3_isFull 1 (some .boolean), Cond.fieldLink RX3 33 "AtomicThreads$Program" "length" "I", Cond.methodLink RX5 47 yX5_isWord, Cond.static yX5_isWord, Cond.code yX5_isWord cX5_isWord 3 (some .boolean), Cond.methodLink RX5 132 yX5_isRegister, Cond.static yX5_isRegister, Cond.code yX5_isRegister cX5_isRegister 1 (some .boolean), Cond.methodLink RX5 76 yX5_isVariable, Cond.static yX5_isVariable, Cond.code yX5_isVariable cX5_isVariable 1 (some .boolean), Cond.instanceMethod yX3_append]
def wsL_law_r6 : List Cond := [Cond.selects RX3 yX3_append yX3_append, Cond.code yX3_append cX3_append 4 none, Cond.methodLink RX3 37 yX3_isFull, Cond.methodLink RL 17 yX6_add, Cond.instanceMethod yX6_add, Cond.selects RX6 yX6_add yX6_add, Cond.code yX6_add cX6_add 6 (some .boolean), Cond.methodLink RX6 89 yX6_out, Cond.static yX6_out, Cond.code yX6_out cX6_out 2 (some .boolean), Cond.methodLink RX6 93 yX6_busy, Cond.instanceMethod yX6_busy, Cond.selects RX6 yX6_busy yX6_busy, Cond.code yX6_busy cX6_busy 2 (some .boolean), Cond.methodLink RX6 97 yX6_named, Cond.static yX6_named, Cond.code yX6_named cX6_named 4 (some .boolean), Cond.methodLink RL 18 yX5_cut, Cond.instanceMethod yX5_cut, Cond.selects RX5 yX5_cut yX5_cut, Cond.code yX5_cut cX5_cut 4 (some .boolean), Cond.methodLink RL 22 yX6_cut, Cond.instanceMethod yX6_cut, Cond.selects RX6 yX6_cut yX6_cut]
def wsL_law_r7 : List Cond := [Cond.code yX6_cut cX6_cut 3 (some .boolean), Cond.methodLink RL 23 yX5_check, Cond.instanceMethod yX5_check, Cond.selects RX5 yX5_check yX5_check, Cond.code yX5_check cX5_check 3 (some .int), Cond.instanceMethod yX3_goThrough, Cond.selects RX3 yX3_goThrough yX3_goThrough, Cond.code yX3_goThrough cX3_goThrough 2 (some .int), Cond.fieldLink RX3 52 "AtomicThreads$Program" "openCount" "I", Cond.methodLink RX3 55 yX3_kindAt, Cond.instanceMethod yX3_kindAt, Cond.selects RX3 yX3_kindAt yX3_kindAt, Cond.code yX3_kindAt cX3_kindAt 2 (some .int), Cond.methodLink RX3 41 yX3_at, Cond.static yX3_at, Cond.code yX3_at cX3_at 2 (some .int), Cond.methodLink RX3 58 yX3_isWrong, Cond.instanceMethod yX3_isWrong, Cond.selects RX3 yX3_isWrong yX3_isWrong, Cond.code yX3_isWrong cX3_isWrong 2 (some .boolean), Cond.methodLink RX3 66 yX3_lacksMiddle, Cond.instanceMethod yX3_lacksMiddle, Cond.selects RX3 yX3_lacksMiddle yX3_lacksMiddle, Cond.code yX3_lacksMiddle cX3_lacksMiddle 3 (some .boolean)]
def wsL_law_r8 : List Cond := [Cond.methodLink RX3 72 yX3_innermost, Cond.instanceMethod yX3_innermost, Cond.selects RX3 yX3_innermost yX3_innermost, Cond.code yX3_innermost cX3_innermost 1 (some .int), Cond.methodLink RX3 45 yX3_middleOf, Cond.instanceMethod yX3_middleOf, Cond.selects RX3 yX3_middleOf yX3_middleOf, Cond.code yX3_middleOf cX3_middleOf 2 (some .int), Cond.methodLink RX3 69 yX3_isAtomicOpen, Cond.instanceMethod yX3_isAtomicOpen, Cond.selects RX3 yX3_isAtomicOpen yX3_isAtomicOpen, Cond.code yX3_isAtomicOpen cX3_isAtomicOpen 2 (some .boolean), Cond.methodLink RX3 62 yX3_connect, Cond.instanceMethod yX3_connect, Cond.selects RX3 yX3_connect yX3_connect, Cond.code yX3_connect cX3_connect 2 none, Cond.methodLink RX3 76 yX3_connectOpener, Cond.instanceMethod yX3_connectOpener, Cond.selects RX3 yX3_connectOpener yX3_connectOpener, Cond.code yX3_connectOpener cX3_connectOpener 2 none, Cond.methodLink RX3 79 yX3_connectTo, Cond.instanceMethod yX3_connectTo, Cond.selects RX3 yX3_connectTo yX3_connectTo, Cond.code yX3_connectTo cX3_connectTo 4 none]
def wsL_law_r9 : List Cond := [Cond.methodLink RL 27 yX6_check, Cond.instanceMethod yX6_check, Cond.selects RX6 yX6_check yX6_check, Cond.code yX6_check cX6_check 7 (some .int), Cond.methodLink RX6 107 yX6_wrong, Cond.instanceMethod yX6_wrong, Cond.selects RX6 yX6_wrong yX6_wrong, Cond.code yX6_wrong cX6_wrong 4 (some .boolean), Cond.methodLink RX6 101 yX6_halfway, Cond.instanceMethod yX6_halfway, Cond.selects RX6 yX6_halfway yX6_halfway, Cond.code yX6_halfway cX6_halfway 3 (some .boolean), Cond.methodLink RX6 104 yX6_opens, Cond.static yX6_opens, Cond.code yX6_opens cX6_opens 1 (some .boolean), Cond.methodLink RL 28 yX5_start, Cond.instanceMethod yX5_start, Cond.selects RX5 yX5_start yX5_start, Cond.code yX5_start cX5_start 3 (some .boolean), Cond.instanceMethod yX4_begin, Cond.selects RX4 yX4_begin yX4_begin, Cond.code yX4_begin cX4_begin 2 none, Cond.fieldLink RX4 49 "AtomicThreads$Strand" "discarded" "I", Cond.fieldLink RX4 52 "AtomicThreads$Strand" "markCount" "I"]
def wsL_law_r10 : List Cond := [Cond.methodLink RX4 55 yX4_goOnTo, Cond.instanceMethod yX4_goOnTo, Cond.selects RX4 yX4_goOnTo yX4_goOnTo, Cond.code yX4_goOnTo cX4_goOnTo 2 (some .int), Cond.fieldLink RX4 59 "AtomicThreads$Strand" "place" "I", Cond.methodLink RL 32 yX6_start, Cond.instanceMethod yX6_start, Cond.selects RX6 yX6_start yX6_start, Cond.code yX6_start cX6_start 3 (some .boolean), Cond.methodLink RX6 111 yX6_check, Cond.methodLink RX6 115 yX6_endAttempt, Cond.instanceMethod yX6_endAttempt, Cond.selects RX6 yX6_endAttempt yX6_endAttempt, Cond.code yX6_endAttempt cX6_endAttempt 3 none, Cond.methodLink RX6 119 yX6_go, Cond.instanceMethod yX6_go, Cond.selects RX6 yX6_go yX6_go, Cond.code yX6_go cX6_go 3 none, Cond.methodLink RL 33 yX5_stop, Cond.instanceMethod yX5_stop, Cond.selects RX5 yX5_stop yX5_stop, Cond.code yX5_stop cX5_stop 3 (some .boolean), Cond.instanceMethod yX4_leaveAttempt, Cond.selects RX4 yX4_leaveAttempt yX4_leaveAttempt]
def wsL_law_r11 : List Cond := [Cond.code yX4_leaveAttempt cX4_leaveAttempt 1 none, Cond.fieldLink RX4 42 "AtomicThreads$Strand" "readSet" "I", Cond.fieldLink RX4 39 "AtomicThreads$Strand" "written" "I", Cond.methodLink RX4 108 yX4_isInAttempt, Cond.instanceMethod yX4_isInAttempt, Cond.selects RX4 yX4_isInAttempt yX4_isInAttempt, Cond.code yX4_isInAttempt cX4_isInAttempt 1 (some .boolean), Cond.methodLink RL 36 yX6_stop, Cond.instanceMethod yX6_stop, Cond.selects RX6 yX6_stop yX6_stop, Cond.code yX6_stop cX6_stop 2 (some .boolean), Cond.methodLink RL 37 yX5_step, Cond.instanceMethod yX5_step, Cond.selects RX5 yX5_step yX5_step, Cond.code yX5_step cX5_step 3 (some .int), Cond.methodLink RX5 72 yX5_doWord, Cond.instanceMethod yX5_doWord, Cond.selects RX5 yX5_doWord yX5_doWord, Cond.code yX5_doWord cX5_doWord 6 (some .int), Cond.instanceMethod yX3_firstAt, Cond.selects RX3 yX3_firstAt yX3_firstAt, Cond.code yX3_firstAt cX3_firstAt 2 (some .int), Cond.instanceMethod yX3_secondAt, Cond.selects RX3 yX3_secondAt yX3_secondAt]
def wsL_law_r12 : List Cond := [Cond.code yX3_secondAt cX3_secondAt 2 (some .int), Cond.instanceMethod yX4_assign, Cond.selects RX4 yX4_assign yX4_assign, Cond.code yX4_assign cX4_assign 3 (some .int), Cond.methodLink RX4 65 yX4_setRegister, Cond.instanceMethod yX4_setRegister, Cond.selects RX4 yX4_setRegister yX4_setRegister, Cond.code yX4_setRegister cX4_setRegister 3 none, Cond.instanceMethod yX4_registerValue, Cond.selects RX4 yX4_registerValue yX4_registerValue, Cond.code yX4_registerValue cX4_registerValue 2 (some .int), Cond.methodLink RX5 148 yX5_doRead, Cond.instanceMethod yX5_doRead, Cond.selects RX5 yX5_doRead yX5_doRead, Cond.code yX5_doRead cX5_doRead 4 (some .int), Cond.instanceMethod yX4_hasWritten, Cond.selects RX4 yX4_hasWritten yX4_hasWritten, Cond.code yX4_hasWritten cX4_hasWritten 2 (some .boolean), Cond.instanceMethod yX1_hasChanged, Cond.selects RX1 yX1_hasChanged yX1_hasChanged, Cond.code yX1_hasChanged cX1_hasChanged 4 (some .boolean), Cond.instanceMethod yX4_discard, Cond.selects RX4 yX4_discard yX4_discard, Cond.code yX4_discard cX4_discard 1 (some .int)]
def wsL_law_r13 : List Cond := [Cond.methodLink RX4 115 yX4_undoAttempt, Cond.instanceMethod yX4_undoAttempt, Cond.selects RX4 yX4_undoAttempt yX4_undoAttempt, Cond.code yX4_undoAttempt cX4_undoAttempt 1 none, Cond.methodLink RX4 95 yX4_goBackTo, Cond.instanceMethod yX4_goBackTo, Cond.selects RX4 yX4_goBackTo yX4_goBackTo, Cond.code yX4_goBackTo cX4_goBackTo 3 none, Cond.methodLink RX4 82 arraycopyName, Cond.native arraycopyName, Cond.static arraycopyName, Cond.initialized "java/lang/System", Cond.methodLink RX4 112 yX4_leaveAttempt, Cond.instanceMethod yX4_write, Cond.selects RX4 yX4_write yX4_write, Cond.code yX4_write cX4_write 3 (some .int), Cond.instanceMethod yX2_write, Cond.selects RX2 yX2_write yX2_write, Cond.code yX2_write cX2_write 2 none, Cond.fieldLink RX2 15 "AtomicThreads$Paper" "count" "I", Cond.methodLink RX2 19 yJ9_floorMod_7cf53, Cond.static yJ9_floorMod_7cf53, Cond.initialized RJ9, Cond.code yJ9_floorMod_7cf53 cJ9_floorMod_7cf53 3 (some .int)]
def wsL_law_r14 : List Cond := [Cond.instanceMethod yX4_beginAttempt, Cond.selects RX4 yX4_beginAttempt yX4_beginAttempt, Cond.code yX4_beginAttempt cX4_beginAttempt 2 (some .int), Cond.fieldLink RX4 72 "AtomicThreads$Strand" "attemptSince" "I", Cond.methodLink RX4 75 yX4_noteAndGoOn, Cond.instanceMethod yX4_noteAndGoOn, Cond.selects RX4 yX4_noteAndGoOn yX4_noteAndGoOn, Cond.code yX4_noteAndGoOn cX4_noteAndGoOn 2 (some .int), Cond.instanceMethod yX4_endFirstPart, Cond.selects RX4 yX4_endFirstPart yX4_endFirstPart, Cond.code yX4_endFirstPart cX4_endFirstPart 1 (some .int), Cond.instanceMethod yX3_behindEnd, Cond.selects RX3 yX3_behindEnd yX3_behindEnd, Cond.code yX3_behindEnd cX3_behindEnd 2 (some .int), Cond.instanceMethod yX3_elsewhere, Cond.selects RX3 yX3_elsewhere yX3_elsewhere, Cond.code yX3_elsewhere cX3_elsewhere 2 (some .int), Cond.methodLink RX3 49 yX3_secondPart, Cond.instanceMethod yX3_secondPart, Cond.selects RX3 yX3_secondPart yX3_secondPart, Cond.code yX3_secondPart cX3_secondPart 2 (some .int), Cond.methodLink RX5 175 yX5_doRetry, Cond.instanceMethod yX5_doRetry, Cond.selects RX5 yX5_doRetry yX5_doRetry]
def wsL_law_r15 : List Cond := [Cond.code yX5_doRetry cX5_doRetry 3 (some .int), Cond.instanceMethod yX4_latestFirstPart, Cond.selects RX4 yX4_latestFirstPart yX4_latestFirstPart, Cond.code yX4_latestFirstPart cX4_latestFirstPart 3 (some .int), Cond.methodLink RX5 204 yX5_hasStaleReads, Cond.instanceMethod yX5_hasStaleReads, Cond.selects RX5 yX5_hasStaleReads yX5_hasStaleReads, Cond.code yX5_hasStaleReads cX5_hasStaleReads 2 (some .boolean), Cond.instanceMethod yX4_park, Cond.selects RX4 yX4_park yX4_park, Cond.code yX4_park cX4_park 2 (some .int), Cond.methodLink RX5 178 yX5_doThrow, Cond.instanceMethod yX5_doThrow, Cond.selects RX5 yX5_doThrow yX5_doThrow, Cond.code yX5_doThrow cX5_doThrow 4 (some .int), Cond.instanceMethod yX4_fail, Cond.selects RX4 yX4_fail yX4_fail, Cond.code yX4_fail cX4_fail 2 none, Cond.instanceMethod yX4_handle, Cond.selects RX4 yX4_handle yX4_handle, Cond.code yX4_handle cX4_handle 3 none, Cond.methodLink RX5 182 yX5_doEnd, Cond.instanceMethod yX5_doEnd, Cond.selects RX5 yX5_doEnd yX5_doEnd]
def wsL_law_r16 : List Cond := [Cond.code yX5_doEnd cX5_doEnd 3 (some .int), Cond.instanceMethod yX3_openerOf, Cond.selects RX3 yX3_openerOf yX3_openerOf, Cond.code yX3_openerOf cX3_openerOf 2 (some .int), Cond.methodLink RX5 226 yX5_commit, Cond.instanceMethod yX5_commit, Cond.selects RX5 yX5_commit yX5_commit, Cond.code yX5_commit cX5_commit 4 (some .int), Cond.instanceMethod yX1_countCommit, Cond.selects RX1 yX1_countCommit yX1_countCommit, Cond.code yX1_countCommit cX1_countCommit 1 none, Cond.fieldLink RX1 18 "AtomicThreads$Memory" "commitCount" "I", Cond.instanceMethod yX1_change, Cond.selects RX1 yX1_change yX1_change, Cond.code yX1_change cX1_change 3 none, Cond.methodLink RX5 87 yX5_wake, Cond.instanceMethod yX5_wake, Cond.selects RX5 yX5_wake yX5_wake, Cond.code yX5_wake cX5_wake 3 none, Cond.instanceMethod yX4_waitsFor, Cond.selects RX4 yX4_waitsFor yX4_waitsFor, Cond.code yX4_waitsFor cX4_waitsFor 2 (some .boolean), Cond.instanceMethod yX4_wakeUp, Cond.selects RX4 yX4_wakeUp yX4_wakeUp]
def wsL_law_r17 : List Cond := [Cond.code yX4_wakeUp cX4_wakeUp 1 none, Cond.methodLink RL 40 yX6_step, Cond.instanceMethod yX6_step, Cond.selects RX6 yX6_step yX6_step, Cond.code yX6_step cX6_step 6 (some .int), Cond.methodLink RX6 160 yX6_access, Cond.instanceMethod yX6_access, Cond.selects RX6 yX6_access yX6_access, Cond.code yX6_access cX6_access 7 (some .int), Cond.methodLink RX6 133 yX6_discard, Cond.instanceMethod yX6_discard, Cond.selects RX6 yX6_discard yX6_discard, Cond.code yX6_discard cX6_discard 2 (some .int), Cond.methodLink RX6 123 yX6_undo, Cond.instanceMethod yX6_undo, Cond.selects RX6 yX6_undo yX6_undo, Cond.code yX6_undo cX6_undo 3 none, Cond.methodLink RX6 164 yX6_end, Cond.instanceMethod yX6_end, Cond.selects RX6 yX6_end yX6_end, Cond.code yX6_end cX6_end 4 (some .int), Cond.methodLink RX6 154 yX6_origin, Cond.instanceMethod yX6_origin, Cond.selects RX6 yX6_origin yX6_origin]
def wsL_law_r18 : List Cond := [Cond.code yX6_origin cX6_origin 6 (some .int), Cond.methodLink RX6 157 yX6_commit, Cond.instanceMethod yX6_commit, Cond.selects RX6 yX6_commit yX6_commit, Cond.code yX6_commit cX6_commit 4 (some .int), Cond.fieldLink RX6 126 "AtomicThreadsModel" "commits" "I", Cond.methodLink RX6 130 yX6_outOfDate, Cond.instanceMethod yX6_outOfDate, Cond.selects RX6 yX6_outOfDate yX6_outOfDate, Cond.code yX6_outOfDate cX6_outOfDate 4 (some .boolean), Cond.methodLink RX6 136 yX6_changed, Cond.instanceMethod yX6_changed, Cond.selects RX6 yX6_changed yX6_changed, Cond.code yX6_changed cX6_changed 4 none, Cond.methodLink RX6 167 yX6_retry, Cond.instanceMethod yX6_retry, Cond.selects RX6 yX6_retry yX6_retry, Cond.code yX6_retry cX6_retry 4 (some .int), Cond.methodLink RX6 143 yX6_latest, Cond.instanceMethod yX6_latest, Cond.selects RX6 yX6_latest yX6_latest, Cond.code yX6_latest cX6_latest 7 (some .int), Cond.methodLink RX6 147 yX6_back, Cond.instanceMethod yX6_back]
def wsL_law_r19 : List Cond := [Cond.selects RX6 yX6_back yX6_back, Cond.code yX6_back cX6_back 5 (some .int), Cond.methodLink RX6 139 yX6_partner, Cond.instanceMethod yX6_partner, Cond.selects RX6 yX6_partner yX6_partner, Cond.code yX6_partner cX6_partner 7 (some .int), Cond.methodLink RX6 170 yX6_toss, Cond.instanceMethod yX6_toss, Cond.selects RX6 yX6_toss yX6_toss, Cond.code yX6_toss cX6_toss 5 (some .int), Cond.methodLink RX6 173 yX6_begin, Cond.instanceMethod yX6_begin, Cond.selects RX6 yX6_begin yX6_begin, Cond.code yX6_begin cX6_begin 3 none, Cond.methodLink RX6 176 yX6_beginPart, Cond.instanceMethod yX6_beginPart, Cond.selects RX6 yX6_beginPart yX6_beginPart, Cond.code yX6_beginPart cX6_beginPart 4 none, Cond.methodLink RX6 179 yX6_branch, Cond.instanceMethod yX6_branch, Cond.selects RX6 yX6_branch yX6_branch, Cond.code yX6_branch cX6_branch 6 none, Cond.methodLink RX6 183 yX6_plain, Cond.instanceMethod yX6_plain]
def wsL_law_r20 : List Cond := [Cond.selects RX6 yX6_plain yX6_plain, Cond.code yX6_plain cX6_plain 6 none, Cond.fieldLink RX6 151 "AtomicThreadsModel" "prints" "I", Cond.methodLink RL 41 yX5_run, Cond.instanceMethod yX5_run, Cond.selects RX5 yX5_run yX5_run, Cond.code yX5_run cX5_run 6 (some .int), Cond.methodLink RL 45 yX6_run, Cond.instanceMethod yX6_run, Cond.selects RX6 yX6_run yX6_run, Cond.code yX6_run cX6_run 6 (some .int), Cond.methodLink RX6 187 yX6_step, Cond.methodLink RL 46 yX5_put, Cond.instanceMethod yX5_put, Cond.selects RX5 yX5_put yX5_put, Cond.code yX5_put cX5_put 3 (some .boolean), Cond.methodLink RL 49 yX6_put, Cond.instanceMethod yX6_put, Cond.selects RX6 yX6_put yX6_put, Cond.code yX6_put cX6_put 3 (some .boolean), Cond.methodLink RL 50 yX5_value, Cond.instanceMethod yX5_value, Cond.selects RX5 yX5_value yX5_value, Cond.code yX5_value cX5_value 2 (some .int)]
def wsL_law_r21 : List Cond := [Cond.methodLink RL 53 yX6_value, Cond.instanceMethod yX6_value, Cond.selects RX6 yX6_value yX6_value, Cond.code yX6_value cX6_value 2 (some .int), Cond.methodLink RL 54 yX5_version, Cond.instanceMethod yX5_version, Cond.selects RX5 yX5_version yX5_version, Cond.code yX5_version cX5_version 2 (some .int), Cond.methodLink RL 57 yX6_version, Cond.instanceMethod yX6_version, Cond.selects RX6 yX6_version yX6_version, Cond.code yX6_version cX6_version 2 (some .int), Cond.methodLink RL 58 yX5_commits, Cond.instanceMethod yX5_commits, Cond.selects RX5 yX5_commits yX5_commits, Cond.code yX5_commits cX5_commits 1 (some .int), Cond.methodLink RL 62 yX6_commits, Cond.instanceMethod yX6_commits, Cond.selects RX6 yX6_commits yX6_commits, Cond.code yX6_commits cX6_commits 1 (some .int), Cond.methodLink RL 63 yX5_state, Cond.instanceMethod yX5_state, Cond.selects RX5 yX5_state yX5_state, Cond.code yX5_state cX5_state 3 (some .int)]
def wsL_law_r22 : List Cond := [Cond.methodLink RL 66 yX6_state, Cond.instanceMethod yX6_state, Cond.selects RX6 yX6_state yX6_state, Cond.code yX6_state cX6_state 2 (some .int), Cond.methodLink RL 67 yX5_place, Cond.instanceMethod yX5_place, Cond.selects RX5 yX5_place yX5_place, Cond.code yX5_place cX5_place 3 (some .int), Cond.methodLink RL 70 yX6_place, Cond.instanceMethod yX6_place, Cond.selects RX6 yX6_place yX6_place, Cond.code yX6_place cX6_place 2 (some .int), Cond.methodLink RL 71 yX5_register, Cond.instanceMethod yX5_register, Cond.selects RX5 yX5_register yX5_register, Cond.code yX5_register cX5_register 4 (some .int), Cond.methodLink RL 74 yX6_register, Cond.instanceMethod yX6_register, Cond.selects RX6 yX6_register yX6_register, Cond.code yX6_register cX6_register 3 (some .int), Cond.methodLink RL 75 yX5_sees, Cond.instanceMethod yX5_sees, Cond.selects RX5 yX5_sees yX5_sees, Cond.code yX5_sees cX5_sees 4 (some .int)]
def wsL_law_r23 : List Cond := [Cond.methodLink RL 78 yX6_sees, Cond.instanceMethod yX6_sees, Cond.selects RX6 yX6_sees yX6_sees, Cond.code yX6_sees cX6_sees 3 (some .int), Cond.methodLink RL 79 yX5_log, Cond.instanceMethod yX5_log, Cond.selects RX5 yX5_log yX5_log, Cond.code yX5_log cX5_log 3 (some .int), Cond.methodLink RL 82 yX6_log, Cond.instanceMethod yX6_log, Cond.selects RX6 yX6_log yX6_log, Cond.code yX6_log cX6_log 4 (some .int), Cond.methodLink RL 83 yX5_waiting, Cond.instanceMethod yX5_waiting, Cond.selects RX5 yX5_waiting yX5_waiting, Cond.code yX5_waiting cX5_waiting 4 (some .int), Cond.methodLink RL 86 yX6_waiting, Cond.instanceMethod yX6_waiting, Cond.selects RX6 yX6_waiting yX6_waiting, Cond.code yX6_waiting cX6_waiting 4 (some .int), Cond.methodLink RL 87 yX5_discards, Cond.instanceMethod yX5_discards, Cond.selects RX5 yX5_discards yX5_discards, Cond.code yX5_discards cX5_discards 3 (some .int)]
def wsL_law_r24 : List Cond := [Cond.methodLink RL 90 yX6_discards, Cond.instanceMethod yX6_discards, Cond.selects RX6 yX6_discards yX6_discards, Cond.code yX6_discards cX6_discards 2 (some .int), Cond.methodLink RL 91 yX5_outcome, Cond.instanceMethod yX5_outcome, Cond.selects RX5 yX5_outcome yX5_outcome, Cond.code yX5_outcome cX5_outcome 3 (some .int), Cond.methodLink RL 94 yX6_outcome, Cond.instanceMethod yX6_outcome, Cond.selects RX6 yX6_outcome yX6_outcome, Cond.code yX6_outcome cX6_outcome 4 (some .int), Cond.methodLink RL 95 yX5_printed, Cond.instanceMethod yX5_printed, Cond.selects RX5 yX5_printed yX5_printed, Cond.code yX5_printed cX5_printed 2 (some .int), Cond.instanceMethod yX2_latest, Cond.selects RX2 yX2_latest yX2_latest, Cond.code yX2_latest cX2_latest 2 (some .int), Cond.methodLink RL 98 yX6_printed, Cond.instanceMethod yX6_printed, Cond.selects RX6 yX6_printed yX6_printed, Cond.code yX6_printed cX6_printed 2 (some .int)]
def wsL_law : List Cond := (wsL_law_r1 ++ (wsL_law_r2 ++ (wsL_law_r3 ++ (wsL_law_r4 ++ (wsL_law_r5 ++ (wsL_law_r6 ++ (wsL_law_r7 ++ (wsL_law_r8 ++ (wsL_law_r9 ++ (wsL_law_r10 ++ (wsL_law_r11 ++ (wsL_law_r12 ++ (wsL_law_r13 ++ (wsL_law_r14 ++ (wsL_law_r15 ++ (wsL_law_r16 ++ (wsL_law_r17 ++ (wsL_law_r18 ++ (wsL_law_r19 ++ (wsL_law_r20 ++ (wsL_law_r21 ++ (wsL_law_r22 ++ (wsL_law_r23 ++ wsL_law_r24))))))))))))))))))))))) ++ wsX50 ++ wsX60 ++ wsX10 ++ wsX20 ++ wsX40 ++ wsX30 ++ wsX00 ++ ([] : List Cond)
theorem inlX0 : ∀ w ∈ wsX00, w ∈ wsL_law := fun _ h => List.mem_append_left _ (List.mem_append_right _ h)
theorem inlX1 : ∀ w ∈ wsX10, w ∈ wsL_law := fun _ h => List.mem_append_left _ (List.mem_append_left _ (List.mem_append_left _ (List.mem_append_left _ (List.mem_append_left _ (List.mem_append_right _ h)))))
theorem inlX2 : ∀ w ∈ wsX20, w ∈ wsL_law := fun _ h => List.mem_append_left _ (List.mem_append_left _ (List.mem_append_left _ (List.mem_append_left _ (List.mem_append_right _ h))))
theorem inlX3 : ∀ w ∈ wsX30, w ∈ wsL_law := fun _ h => List.mem_append_left _ (List.mem_append_left _ (List.mem_append_right _ h))
theorem inlX4 : ∀ w ∈ wsX40, w ∈ wsL_law := fun _ h => List.mem_append_left _ (List.mem_append_left _ (List.mem_append_left _ (List.mem_append_right _ h)))
theorem inlX5 : ∀ w ∈ wsX50, w ∈ wsL_law := fun _ h => List.mem_append_left _ (List.mem_append_left _ (List.mem_append_left _ (List.mem_append_left _ (List.mem_append_left _ (List.mem_append_left _ (List.mem_append_left _ (List.mem_append_right _ h)))))))
theorem inlX6 : ∀ w ∈ wsX60, w ∈ wsL_law := fun _ h => List.mem_append_left _ (List.mem_append_left _ (List.mem_append_left _ (List.mem_append_left _ (List.mem_append_left _ (List.mem_append_left _ (List.mem_append_right _ h))))))
abbrev vwCl : List vw_C := [(RX0, TX0, 4), (RX1, TX1, 3), (RX2, TX2, 2), (RX3, TX3, 9), (RX4, TX4, 12), (RX5, TX5, 3), (RX6, TX6, 28)]
end
section
theorem mr_1 {w : Cond} (h : w ∈ wsL_law_r1) : w ∈ wsL_law := List.mem_append_left _ (List.mem_append_left _ (List.mem_append_left _ (List.mem_append_left _ (List.mem_append_left _ (List.mem_append_left _ (List.mem_append_left _ (List.mem_append_left _ (List.mem_append_left _ h))))))))
theorem mr_2 {w : Cond} (h : w ∈ wsL_law_r2) : w ∈ wsL_law := List.mem_append_left _ (List.mem_append_left _ (List.mem_append_left _ (List.mem_append_left _ (List.mem_append_left _ (List.mem_append_left _ (List.mem_append_left _ (List.mem_append_left _ (List.mem_append_right _ (List.mem_append_left _ h)))))))))
theorem mr_3 {w : Cond} (h : w ∈ wsL_law_r3) : w ∈ wsL_law := List.mem_append_left _ (List.mem_append_left _ (List.mem_append_left _ (List.mem_append_left _ (List.mem_append_left _ (List.mem_append_left _ (List.mem_append_left _ (List.mem_append_left _ (List.mem_append_right _ (List.mem_append_right _ (List.mem_append_left _ h))))))))))
theorem mr_4 {w : Cond} (h : w ∈ wsL_law_r4) : w ∈ wsL_law := List.mem_append_left _ (List.mem_append_left _ (List.mem_append_left _ (List.mem_append_left _ (List.mem_append_left _ (List.mem_append_left _ (List.mem_append_left _ (List.mem_append_left _ (List.mem_append_right _ (List.mem_append_right _ (List.mem_append_right _ (List.mem_append_left _ h)))))))))))
theorem mr_5 {w : Cond} (h : w ∈ wsL_law_r5) : w ∈ wsL_law := List.mem_append_left _ (List.mem_append_left _ (List.mem_append_left _ (List.mem_append_left _ (List.mem_append_left _ (List.mem_append_left _ (List.mem_append_left _ (List.mem_append_left _ (List.mem_append_right _ (List.mem_append_right _ (List.mem_append_right _ (List.mem_append_right _ (List.mem_append_left _ h))))))))))))
theorem mr_6 {w : Cond} (h : w ∈ wsL_law_r6) : w ∈ wsL_law := List.mem_append_left _ (List.mem_append_left _ (List.mem_append_left _ (List.mem_append_left _ (List.mem_append_left _ (List.mem_append_left _ (List.mem_append_left _ (List.mem_append_left _ (List.mem_append_right _ (List.mem_append_right _ (List.mem_append_right _ (List.mem_append_right _ (List.mem_append_right _ (List.mem_append_left _ h)))))))))))))
theorem mr_7 {w : Cond} (h : w ∈ wsL_law_r7) : w ∈ wsL_law := List.mem_append_left _ (List.mem_append_left _ (List.mem_append_left _ (List.mem_append_left _ (List.mem_append_left _ (List.mem_append_left _ (List.mem_append_left _ (List.mem_append_left _ (List.mem_append_right _ (List.mem_append_right _ (List.mem_append_right _ (List.mem_append_right _ (List.mem_append_right _ (List.mem_append_right _ (List.mem_append_left _ h))))))))))))))
theorem mr_8 {w : Cond} (h : w ∈ wsL_law_r8) : w ∈ wsL_law := List.mem_append_left _ (List.mem_append_left _ (List.mem_append_left _ (List.mem_append_left _ (List.mem_append_left _ (List.mem_append_left _ (List.mem_append_left _ (List.mem_append_left _ (List.mem_append_right _ (List.mem_append_right _ (List.mem_append_right _ (List.mem_append_right _ (List.mem_append_right _ (List.mem_append_right _ (List.mem_append_right _ (List.mem_append_left _ h)))))))))))))))
theorem mr_9 {w : Cond} (h : w ∈ wsL_law_r9) : w ∈ wsL_law := List.mem_append_left _ (List.mem_append_left _ (List.mem_append_left _ (List.mem_append_left _ (List.mem_append_left _ (List.mem_append_left _ (List.mem_append_left _ (List.mem_append_left _ (List.mem_append_right _ (List.mem_append_right _ (List.mem_append_right _ (List.mem_append_right _ (List.mem_append_right _ (List.mem_append_right _ (List.mem_append_right _ (List.mem_append_right _ (List.mem_append_left _ h))))))))))))))))
theorem mr_10 {w : Cond} (h : w ∈ wsL_law_r10) : w ∈ wsL_law := List.mem_append_left _ (List.mem_append_left _ (List.mem_append_left _ (List.mem_append_left _ (List.mem_append_left _ (List.mem_append_left _ (List.mem_append_left _ (List.mem_append_left _ (List.mem_append_right _ (List.mem_append_right _ (List.mem_append_right _ (List.mem_append_right _ (List.mem_append_right _ (List.mem_append_right _ (List.mem_append_right _ (List.mem_append_right _ (List.mem_append_right _ (List.mem_append_left _ h)))))))))))))))))
theorem mr_11 {w : Cond} (h : w ∈ wsL_law_r11) : w ∈ wsL_law := List.mem_append_left _ (List.mem_append_left _ (List.mem_append_left _ (List.mem_append_left _ (List.mem_append_left _ (List.mem_append_left _ (List.mem_append_left _ (List.mem_append_left _ (List.mem_append_right _ (List.mem_append_right _ (List.mem_append_right _ (List.mem_append_right _ (List.mem_append_right _ (List.mem_append_right _ (List.mem_append_right _ (List.mem_append_right _ (List.mem_append_right _ (List.mem_append_right _ (List.mem_append_left _ h))))))))))))))))))
theorem mr_12 {w : Cond} (h : w ∈ wsL_law_r12) : w ∈ wsL_law := List.mem_append_left _ (List.mem_append_left _ (List.mem_append_left _ (List.mem_append_left _ (List.mem_append_left _ (List.mem_append_left _ (List.mem_append_left _ (List.mem_append_left _ (List.mem_append_right _ (List.mem_append_right _ (List.mem_append_right _ (List.mem_append_right _ (List.mem_append_right _ (List.mem_append_right _ (List.mem_append_right _ (List.mem_append_right _ (List.mem_append_right _ (List.mem_append_right _ (List.mem_append_right _ (List.mem_append_left _ h)))))))))))))))))))
theorem mr_13 {w : Cond} (h : w ∈ wsL_law_r13) : w ∈ wsL_law := List.mem_append_left _ (List.mem_append_left _ (List.mem_append_left _ (List.mem_append_left _ (List.mem_append_left _ (List.mem_append_left _ (List.mem_append_left _ (List.mem_append_left _ (List.mem_append_right _ (List.mem_append_right _ (List.mem_append_right _ (List.mem_append_right _ (List.mem_append_right _ (List.mem_append_right _ (List.mem_append_right _ (List.mem_append_right _ (List.mem_append_right _ (List.mem_append_right _ (List.mem_append_right _ (List.mem_append_right _ (List.mem_append_left _ h))))))))))))))))))))
theorem mr_14 {w : Cond} (h : w ∈ wsL_law_r14) : w ∈ wsL_law := List.mem_append_left _ (List.mem_append_left _ (List.mem_append_left _ (List.mem_append_left _ (List.mem_append_left _ (List.mem_append_left _ (List.mem_append_left _ (List.mem_append_left _ (List.mem_append_right _ (List.mem_append_right _ (List.mem_append_right _ (List.mem_append_right _ (List.mem_append_right _ (List.mem_append_right _ (List.mem_append_right _ (List.mem_append_right _ (List.mem_append_right _ (List.mem_append_right _ (List.mem_append_right _ (List.mem_append_right _ (List.mem_append_right _ (List.mem_append_left _ h)))))))))))))))))))))
theorem mr_15 {w : Cond} (h : w ∈ wsL_law_r15) : w ∈ wsL_law := List.mem_append_left _ (List.mem_append_left _ (List.mem_append_left _ (List.mem_append_left _ (List.mem_append_left _ (List.mem_append_left _ (List.mem_append_left _ (List.mem_append_left _ (List.mem_append_right _ (List.mem_append_right _ (List.mem_append_right _ (List.mem_append_right _ (List.mem_append_right _ (List.mem_append_right _ (List.mem_append_right _ (List.mem_append_right _ (List.mem_append_right _ (List.mem_append_right _ (List.mem_append_right _ (List.mem_append_right _ (List.mem_append_right _ (List.mem_append_right _ (List.mem_append_left _ h))))))))))))))))))))))
theorem mr_16 {w : Cond} (h : w ∈ wsL_law_r16) : w ∈ wsL_law := List.mem_append_left _ (List.mem_append_left _ (List.mem_append_left _ (List.mem_append_left _ (List.mem_append_left _ (List.mem_append_left _ (List.mem_append_left _ (List.mem_append_left _ (List.mem_append_right _ (List.mem_append_right _ (List.mem_append_right _ (List.mem_append_right _ (List.mem_append_right _ (List.mem_append_right _ (List.mem_append_right _ (List.mem_append_right _ (List.mem_append_right _ (List.mem_append_right _ (List.mem_append_right _ (List.mem_append_right _ (List.mem_append_right _ (List.mem_append_right _ (List.mem_append_right _ (List.mem_append_left _ h)))))))))))))))))))))))
theorem mr_17 {w : Cond} (h : w ∈ wsL_law_r17) : w ∈ wsL_law := List.mem_append_left _ (List.mem_append_left _ (List.mem_append_left _ (List.mem_append_left _ (List.mem_append_left _ (List.mem_append_left _ (List.mem_append_left _ (List.mem_append_left _ (List.mem_append_right _ (List.mem_append_right _ (List.mem_append_right _ (List.mem_append_right _ (List.mem_append_right _ (List.mem_append_right _ (List.mem_append_right _ (List.mem_append_right _ (List.mem_append_right _ (List.mem_append_right _ (List.mem_append_right _ (List.mem_append_right _ (List.mem_append_right _ (List.mem_append_right _ (List.mem_append_right _ (List.mem_append_right _ (List.mem_append_left _ h))))))))))))))))))))))))
theorem mr_18 {w : Cond} (h : w ∈ wsL_law_r18) : w ∈ wsL_law := List.mem_append_left _ (List.mem_append_left _ (List.mem_append_left _ (List.mem_append_left _ (List.mem_append_left _ (List.mem_append_left _ (List.mem_append_left _ (List.mem_append_left _ (List.mem_append_right _ (List.mem_append_right _ (List.mem_append_right _ (List.mem_append_right _ (List.mem_append_right _ (List.mem_append_right _ (List.mem_append_right _ (List.mem_append_right _ (List.mem_append_right _ (List.mem_append_right _ (List.mem_append_right _ (List.mem_append_right _ (List.mem_append_right _ (List.mem_append_right _ (List.mem_append_right _ (List.mem_append_right _ (List.mem_append_right _ (List.mem_append_left _ h)))))))))))))))))))))))))
theorem mr_19 {w : Cond} (h : w ∈ wsL_law_r19) : w ∈ wsL_law := List.mem_append_left _ (List.mem_append_left _ (List.mem_append_left _ (List.mem_append_left _ (List.mem_append_left _ (List.mem_append_left _ (List.mem_append_left _ (List.mem_append_left _ (List.mem_append_right _ (List.mem_append_right _ (List.mem_append_right _ (List.mem_append_right _ (List.mem_append_right _ (List.mem_append_right _ (List.mem_append_right _ (List.mem_append_right _ (List.mem_append_right _ (List.mem_append_right _ (List.mem_append_right _ (List.mem_append_right _ (List.mem_append_right _ (List.mem_append_right _ (List.mem_append_right _ (List.mem_append_right _ (List.mem_append_right _ (List.mem_append_right _ (List.mem_append_left _ h))))))))))))))))))))))))))
theorem mr_20 {w : Cond} (h : w ∈ wsL_law_r20) : w ∈ wsL_law := List.mem_append_left _ (List.mem_append_left _ (List.mem_append_left _ (List.mem_append_left _ (List.mem_append_left _ (List.mem_append_left _ (List.mem_append_left _ (List.mem_append_left _ (List.mem_append_right _ (List.mem_append_right _ (List.mem_append_right _ (List.mem_append_right _ (List.mem_append_right _ (List.mem_append_right _ (List.mem_append_right _ (List.mem_append_right _ (List.mem_append_right _ (List.mem_append_right _ (List.mem_append_right _ (List.mem_append_right _ (List.mem_append_right _ (List.mem_append_right _ (List.mem_append_right _ (List.mem_append_right _ (List.mem_append_right _ (List.mem_append_right _ (List.mem_append_right _ (List.mem_append_left _ h)))))))))))))))))))))))))))
theorem mr_21 {w : Cond} (h : w ∈ wsL_law_r21) : w ∈ wsL_law := List.mem_append_left _ (List.mem_append_left _ (List.mem_append_left _ (List.mem_append_left _ (List.mem_append_left _ (List.mem_append_left _ (List.mem_append_left _ (List.mem_append_left _ (List.mem_append_right _ (List.mem_append_right _ (List.mem_append_right _ (List.mem_append_right _ (List.mem_append_right _ (List.mem_append_right _ (List.mem_append_right _ (List.mem_append_right _ (List.mem_append_right _ (List.mem_append_right _ (List.mem_append_right _ (List.mem_append_right _ (List.mem_append_right _ (List.mem_append_right _ (List.mem_append_right _ (List.mem_append_right _ (List.mem_append_right _ (List.mem_append_right _ (List.mem_append_right _ (List.mem_append_right _ (List.mem_append_left _ h))))))))))))))))))))))))))))
theorem mr_22 {w : Cond} (h : w ∈ wsL_law_r22) : w ∈ wsL_law := List.mem_append_left _ (List.mem_append_left _ (List.mem_append_left _ (List.mem_append_left _ (List.mem_append_left _ (List.mem_append_left _ (List.mem_append_left _ (List.mem_append_left _ (List.mem_append_right _ (List.mem_append_right _ (List.mem_append_right _ (List.mem_append_right _ (List.mem_append_right _ (List.mem_append_right _ (List.mem_append_right _ (List.mem_append_right _ (List.mem_append_right _ (List.mem_append_right _ (List.mem_append_right _ (List.mem_append_right _ (List.mem_append_right _ (List.mem_append_right _ (List.mem_append_right _ (List.mem_append_right _ (List.mem_append_right _ (List.mem_append_right _ (List.mem_append_right _ (List.mem_append_right _ (List.mem_append_right _ (List.mem_append_left _ h)))))))))))))))))))))))))))))
theorem mr_23 {w : Cond} (h : w ∈ wsL_law_r23) : w ∈ wsL_law := List.mem_append_left _ (List.mem_append_left _ (List.mem_append_left _ (List.mem_append_left _ (List.mem_append_left _ (List.mem_append_left _ (List.mem_append_left _ (List.mem_append_left _ (List.mem_append_right _ (List.mem_append_right _ (List.mem_append_right _ (List.mem_append_right _ (List.mem_append_right _ (List.mem_append_right _ (List.mem_append_right _ (List.mem_append_right _ (List.mem_append_right _ (List.mem_append_right _ (List.mem_append_right _ (List.mem_append_right _ (List.mem_append_right _ (List.mem_append_right _ (List.mem_append_right _ (List.mem_append_right _ (List.mem_append_right _ (List.mem_append_right _ (List.mem_append_right _ (List.mem_append_right _ (List.mem_append_right _ (List.mem_append_right _ (List.mem_append_left _ h))))))))))))))))))))))))))))))
theorem mr_24 {w : Cond} (h : w ∈ wsL_law_r24) : w ∈ wsL_law := List.mem_append_left _ (List.mem_append_left _ (List.mem_append_left _ (List.mem_append_left _ (List.mem_append_left _ (List.mem_append_left _ (List.mem_append_left _ (List.mem_append_left _ (List.mem_append_right _ (List.mem_append_right _ (List.mem_append_right _ (List.mem_append_right _ (List.mem_append_right _ (List.mem_append_right _ (List.mem_append_right _ (List.mem_append_right _ (List.mem_append_right _ (List.mem_append_right _ (List.mem_append_right _ (List.mem_append_right _ (List.mem_append_right _ (List.mem_append_right _ (List.mem_append_right _ (List.mem_append_right _ (List.mem_append_right _ (List.mem_append_right _ (List.mem_append_right _ (List.mem_append_right _ (List.mem_append_right _ (List.mem_append_right _ (List.mem_append_right _ (h)))))))))))))))))))))))))))))))
theorem w_cl_RL_7_RX5 : Cond.classLink RL 7 RX5 ∈ wsL_law := mr_1 (List.mem_of_getElem? (i := 0) rfl)
theorem w_inst_RX5_3 : Cond.instantiable RX5 3 ∈ wsL_law := mr_1 (List.mem_of_getElem? (i := 1) rfl)
theorem w_ini_RX5 : Cond.initialized RX5 ∈ wsL_law := mr_1 (List.mem_of_getElem? (i := 2) rfl)
theorem w_cl_RL_10_RX6 : Cond.classLink RL 10 RX6 ∈ wsL_law := mr_1 (List.mem_of_getElem? (i := 3) rfl)
theorem w_inst_RX6_28 : Cond.instantiable RX6 28 ∈ wsL_law := mr_1 (List.mem_of_getElem? (i := 4) rfl)
theorem w_ini_RX6 : Cond.initialized RX6 ∈ wsL_law := mr_1 (List.mem_of_getElem? (i := 5) rfl)
theorem w_ml_RL_9_yX5_init : Cond.methodLink RL 9 yX5_init ∈ wsL_law := mr_1 (List.mem_of_getElem? (i := 6) rfl)
theorem w_im_yX5_init : Cond.instanceMethod yX5_init ∈ wsL_law := mr_1 (List.mem_of_getElem? (i := 7) rfl)
theorem w_co_yX5_init_cX5_init_2_none : Cond.code yX5_init cX5_init 2 none ∈ wsL_law := mr_1 (List.mem_of_getElem? (i := 8) rfl)
theorem w_ml_RX5_1_objectInit : Cond.methodLink RX5 1 objectInit ∈ wsL_law := mr_1 (List.mem_of_getElem? (i := 9) rfl)
theorem w_im_objectInit : Cond.instanceMethod objectInit ∈ wsL_law := mr_1 (List.mem_of_getElem? (i := 10) rfl)
theorem w_co_objectInit_b_1_none : Cond.code objectInit ⟨#[0xb1]⟩ 1 none ∈ wsL_law := mr_1 (List.mem_of_getElem? (i := 11) rfl)
theorem w_cl_RX5_7_RX1 : Cond.classLink RX5 7 RX1 ∈ wsL_law := mr_1 (List.mem_of_getElem? (i := 12) rfl)
theorem w_inst_RX1_3 : Cond.instantiable RX1 3 ∈ wsL_law := mr_1 (List.mem_of_getElem? (i := 13) rfl)
theorem w_ini_RX1 : Cond.initialized RX1 ∈ wsL_law := mr_1 (List.mem_of_getElem? (i := 14) rfl)
theorem w_fl_RX5_10_AtomicThreads_memory_LAtomicThreads_Memory : Cond.fieldLink RX5 10 "AtomicThreads" "memory" "LAtomicThreads$Memory;" ∈ wsL_law := mr_1 (List.mem_of_getElem? (i := 15) rfl)
theorem w_cl_RX5_16_RX2 : Cond.classLink RX5 16 RX2 ∈ wsL_law := mr_1 (List.mem_of_getElem? (i := 16) rfl)
theorem w_inst_RX2_2 : Cond.instantiable RX2 2 ∈ wsL_law := mr_1 (List.mem_of_getElem? (i := 17) rfl)
theorem w_ini_RX2 : Cond.initialized RX2 ∈ wsL_law := mr_1 (List.mem_of_getElem? (i := 18) rfl)
theorem w_fl_RX5_19_AtomicThreads_paper_LAtomicThreads_Paper : Cond.fieldLink RX5 19 "AtomicThreads" "paper" "LAtomicThreads$Paper;" ∈ wsL_law := mr_1 (List.mem_of_getElem? (i := 19) rfl)
theorem w_cl_RX5_23_RX4 : Cond.classLink RX5 23 RX4 ∈ wsL_law := mr_1 (List.mem_of_getElem? (i := 20) rfl)
theorem w_fl_RX5_25_AtomicThreads_strands_LAtomicThreads_Strand : Cond.fieldLink RX5 25 "AtomicThreads" "strands" "[LAtomicThreads$Strand;" ∈ wsL_law := mr_1 (List.mem_of_getElem? (i := 21) rfl)
theorem w_inst_RX4_12 : Cond.instantiable RX4 12 ∈ wsL_law := mr_1 (List.mem_of_getElem? (i := 22) rfl)
theorem w_ini_RX4 : Cond.initialized RX4 ∈ wsL_law := mr_1 (List.mem_of_getElem? (i := 23) rfl)
theorem w_im_yX1_init : Cond.instanceMethod yX1_init ∈ wsL_law := mr_2 (List.mem_of_getElem? (i := 0) rfl)
theorem w_co_yX1_init_cX1_init_1_none : Cond.code yX1_init cX1_init 1 none ∈ wsL_law := mr_2 (List.mem_of_getElem? (i := 1) rfl)
theorem w_ml_RX1_3_objectInit : Cond.methodLink RX1 3 objectInit ∈ wsL_law := mr_2 (List.mem_of_getElem? (i := 2) rfl)
theorem w_ac_int : Cond.arrayClass .int ∈ wsL_law := mr_2 (List.mem_of_getElem? (i := 3) rfl)
theorem w_fl_RX1_9_Memory_values_I : Cond.fieldLink RX1 9 "AtomicThreads$Memory" "values" "[I" ∈ wsL_law := mr_2 (List.mem_of_getElem? (i := 4) rfl)
theorem w_fl_RX1_15_Memory_versions_I : Cond.fieldLink RX1 15 "AtomicThreads$Memory" "versions" "[I" ∈ wsL_law := mr_2 (List.mem_of_getElem? (i := 5) rfl)
theorem w_im_yX2_init : Cond.instanceMethod yX2_init ∈ wsL_law := mr_2 (List.mem_of_getElem? (i := 6) rfl)
theorem w_co_yX2_init_cX2_init_1_none : Cond.code yX2_init cX2_init 1 none ∈ wsL_law := mr_2 (List.mem_of_getElem? (i := 7) rfl)
theorem w_ml_RX2_3_objectInit : Cond.methodLink RX2 3 objectInit ∈ wsL_law := mr_2 (List.mem_of_getElem? (i := 8) rfl)
theorem w_fl_RX2_9_Paper_ring_I : Cond.fieldLink RX2 9 "AtomicThreads$Paper" "ring" "[I" ∈ wsL_law := mr_2 (List.mem_of_getElem? (i := 9) rfl)
theorem w_im_yX4_init : Cond.instanceMethod yX4_init ∈ wsL_law := mr_2 (List.mem_of_getElem? (i := 10) rfl)
theorem w_co_yX4_init_cX4_init_2_none : Cond.code yX4_init cX4_init 2 none ∈ wsL_law := mr_2 (List.mem_of_getElem? (i := 11) rfl)
theorem w_ml_RX4_3_objectInit : Cond.methodLink RX4 3 objectInit ∈ wsL_law := mr_2 (List.mem_of_getElem? (i := 12) rfl)
theorem w_cl_RX4_9_RX3 : Cond.classLink RX4 9 RX3 ∈ wsL_law := mr_2 (List.mem_of_getElem? (i := 13) rfl)
theorem w_inst_RX3_9 : Cond.instantiable RX3 9 ∈ wsL_law := mr_2 (List.mem_of_getElem? (i := 14) rfl)
theorem w_ini_RX3 : Cond.initialized RX3 ∈ wsL_law := mr_2 (List.mem_of_getElem? (i := 15) rfl)
theorem w_fl_RX4_12_Strand_program_LAtomicThreads_Program : Cond.fieldLink RX4 12 "AtomicThreads$Strand" "program" "LAtomicThreads$Program;" ∈ wsL_law := mr_2 (List.mem_of_getElem? (i := 16) rfl)
theorem w_fl_RX4_18_Strand_registers_I : Cond.fieldLink RX4 18 "AtomicThreads$Strand" "registers" "[I" ∈ wsL_law := mr_2 (List.mem_of_getElem? (i := 17) rfl)
theorem w_fl_RX4_22_Strand_writtenValues_I : Cond.fieldLink RX4 22 "AtomicThreads$Strand" "writtenValues" "[I" ∈ wsL_law := mr_2 (List.mem_of_getElem? (i := 18) rfl)
theorem w_cl_RX4_25_RX0 : Cond.classLink RX4 25 RX0 ∈ wsL_law := mr_2 (List.mem_of_getElem? (i := 19) rfl)
theorem w_fl_RX4_27_Strand_marks_LAtomicThreads_Mark : Cond.fieldLink RX4 27 "AtomicThreads$Strand" "marks" "[LAtomicThreads$Mark;" ∈ wsL_law := mr_2 (List.mem_of_getElem? (i := 20) rfl)
theorem w_fl_RX4_31_Strand_attemptMark_I : Cond.fieldLink RX4 31 "AtomicThreads$Strand" "attemptMark" "I" ∈ wsL_law := mr_2 (List.mem_of_getElem? (i := 21) rfl)
theorem w_fl_RX4_35_Strand_state_I : Cond.fieldLink RX4 35 "AtomicThreads$Strand" "state" "I" ∈ wsL_law := mr_2 (List.mem_of_getElem? (i := 22) rfl)
theorem w_inst_RX0_4 : Cond.instantiable RX0 4 ∈ wsL_law := mr_2 (List.mem_of_getElem? (i := 23) rfl)
theorem w_ini_RX0 : Cond.initialized RX0 ∈ wsL_law := mr_3 (List.mem_of_getElem? (i := 0) rfl)
theorem w_im_yX3_init : Cond.instanceMethod yX3_init ∈ wsL_law := mr_3 (List.mem_of_getElem? (i := 1) rfl)
theorem w_co_yX3_init_cX3_init_1_none : Cond.code yX3_init cX3_init 1 none ∈ wsL_law := mr_3 (List.mem_of_getElem? (i := 2) rfl)
theorem w_ml_RX3_3_objectInit : Cond.methodLink RX3 3 objectInit ∈ wsL_law := mr_3 (List.mem_of_getElem? (i := 3) rfl)
theorem w_fl_RX3_9_Program_kinds_I : Cond.fieldLink RX3 9 "AtomicThreads$Program" "kinds" "[I" ∈ wsL_law := mr_3 (List.mem_of_getElem? (i := 4) rfl)
theorem w_fl_RX3_15_Program_firsts_I : Cond.fieldLink RX3 15 "AtomicThreads$Program" "firsts" "[I" ∈ wsL_law := mr_3 (List.mem_of_getElem? (i := 5) rfl)
theorem w_fl_RX3_18_Program_seconds_I : Cond.fieldLink RX3 18 "AtomicThreads$Program" "seconds" "[I" ∈ wsL_law := mr_3 (List.mem_of_getElem? (i := 6) rfl)
theorem w_fl_RX3_21_Program_openers_I : Cond.fieldLink RX3 21 "AtomicThreads$Program" "openers" "[I" ∈ wsL_law := mr_3 (List.mem_of_getElem? (i := 7) rfl)
theorem w_fl_RX3_24_Program_middles_I : Cond.fieldLink RX3 24 "AtomicThreads$Program" "middles" "[I" ∈ wsL_law := mr_3 (List.mem_of_getElem? (i := 8) rfl)
theorem w_fl_RX3_27_Program_ends_I : Cond.fieldLink RX3 27 "AtomicThreads$Program" "ends" "[I" ∈ wsL_law := mr_3 (List.mem_of_getElem? (i := 9) rfl)
theorem w_fl_RX3_30_Program_open_I : Cond.fieldLink RX3 30 "AtomicThreads$Program" "open" "[I" ∈ wsL_law := mr_3 (List.mem_of_getElem? (i := 10) rfl)
theorem w_im_yX0_init : Cond.instanceMethod yX0_init ∈ wsL_law := mr_3 (List.mem_of_getElem? (i := 11) rfl)
theorem w_co_yX0_init_cX0_init_1_none : Cond.code yX0_init cX0_init 1 none ∈ wsL_law := mr_3 (List.mem_of_getElem? (i := 12) rfl)
theorem w_ml_RX0_3_objectInit : Cond.methodLink RX0 3 objectInit ∈ wsL_law := mr_3 (List.mem_of_getElem? (i := 13) rfl)
theorem w_fl_RX0_9_Mark_registers_I : Cond.fieldLink RX0 9 "AtomicThreads$Mark" "registers" "[I" ∈ wsL_law := mr_3 (List.mem_of_getElem? (i := 14) rfl)
theorem w_fl_RX0_15_Mark_writtenValues_I : Cond.fieldLink RX0 15 "AtomicThreads$Mark" "writtenValues" "[I" ∈ wsL_law := mr_3 (List.mem_of_getElem? (i := 15) rfl)
theorem w_ml_RL_12_yX6_init : Cond.methodLink RL 12 yX6_init ∈ wsL_law := mr_3 (List.mem_of_getElem? (i := 16) rfl)
theorem w_im_yX6_init : Cond.instanceMethod yX6_init ∈ wsL_law := mr_3 (List.mem_of_getElem? (i := 17) rfl)
theorem w_co_yX6_init_cX6_init_1_none : Cond.code yX6_init cX6_init 1 none ∈ wsL_law := mr_3 (List.mem_of_getElem? (i := 18) rfl)
theorem w_ml_RX6_1_objectInit : Cond.methodLink RX6 1 objectInit ∈ wsL_law := mr_3 (List.mem_of_getElem? (i := 19) rfl)
theorem w_fl_RX6_7_AtomicThreadsModel_kind_I : Cond.fieldLink RX6 7 "AtomicThreadsModel" "kind" "[I" ∈ wsL_law := mr_3 (List.mem_of_getElem? (i := 20) rfl)
theorem w_fl_RX6_13_AtomicThreadsModel_first_I : Cond.fieldLink RX6 13 "AtomicThreadsModel" "first" "[I" ∈ wsL_law := mr_3 (List.mem_of_getElem? (i := 21) rfl)
theorem w_fl_RX6_16_AtomicThreadsModel_second_I : Cond.fieldLink RX6 16 "AtomicThreadsModel" "second" "[I" ∈ wsL_law := mr_3 (List.mem_of_getElem? (i := 22) rfl)
theorem w_fl_RX6_19_AtomicThreadsModel_size_I : Cond.fieldLink RX6 19 "AtomicThreadsModel" "size" "[I" ∈ wsL_law := mr_3 (List.mem_of_getElem? (i := 23) rfl)
theorem w_fl_RX6_22_AtomicThreadsModel_state_I : Cond.fieldLink RX6 22 "AtomicThreadsModel" "state" "[I" ∈ wsL_law := mr_4 (List.mem_of_getElem? (i := 0) rfl)
theorem w_fl_RX6_25_AtomicThreadsModel_place_I : Cond.fieldLink RX6 25 "AtomicThreadsModel" "place" "[I" ∈ wsL_law := mr_4 (List.mem_of_getElem? (i := 1) rfl)
theorem w_fl_RX6_28_AtomicThreadsModel_discarded_I : Cond.fieldLink RX6 28 "AtomicThreadsModel" "discarded" "[I" ∈ wsL_law := mr_4 (List.mem_of_getElem? (i := 2) rfl)
theorem w_fl_RX6_31_AtomicThreadsModel_register_I : Cond.fieldLink RX6 31 "AtomicThreadsModel" "register" "[I" ∈ wsL_law := mr_4 (List.mem_of_getElem? (i := 3) rfl)
theorem w_fl_RX6_34_AtomicThreadsModel_noted_I : Cond.fieldLink RX6 34 "AtomicThreadsModel" "noted" "[I" ∈ wsL_law := mr_4 (List.mem_of_getElem? (i := 4) rfl)
theorem w_fl_RX6_37_AtomicThreadsModel_value_I : Cond.fieldLink RX6 37 "AtomicThreadsModel" "value" "[I" ∈ wsL_law := mr_4 (List.mem_of_getElem? (i := 5) rfl)
theorem w_fl_RX6_40_AtomicThreadsModel_version_I : Cond.fieldLink RX6 40 "AtomicThreadsModel" "version" "[I" ∈ wsL_law := mr_4 (List.mem_of_getElem? (i := 6) rfl)
theorem w_ac_boolean : Cond.arrayClass .boolean ∈ wsL_law := mr_4 (List.mem_of_getElem? (i := 7) rfl)
theorem w_fl_RX6_43_AtomicThreadsModel_attempt_Z : Cond.fieldLink RX6 43 "AtomicThreadsModel" "attempt" "[Z" ∈ wsL_law := mr_4 (List.mem_of_getElem? (i := 8) rfl)
theorem w_fl_RX6_47_AtomicThreadsModel_atomic_I : Cond.fieldLink RX6 47 "AtomicThreadsModel" "atomic" "[I" ∈ wsL_law := mr_4 (List.mem_of_getElem? (i := 9) rfl)
theorem w_fl_RX6_50_AtomicThreadsModel_before_I : Cond.fieldLink RX6 50 "AtomicThreadsModel" "before" "[I" ∈ wsL_law := mr_4 (List.mem_of_getElem? (i := 10) rfl)
theorem w_fl_RX6_53_AtomicThreadsModel_stale_Z : Cond.fieldLink RX6 53 "AtomicThreadsModel" "stale" "[Z" ∈ wsL_law := mr_4 (List.mem_of_getElem? (i := 11) rfl)
theorem w_fl_RX6_56_AtomicThreadsModel_read_Z : Cond.fieldLink RX6 56 "AtomicThreadsModel" "read" "[Z" ∈ wsL_law := mr_4 (List.mem_of_getElem? (i := 12) rfl)
theorem w_fl_RX6_59_AtomicThreadsModel_written_Z : Cond.fieldLink RX6 59 "AtomicThreadsModel" "written" "[Z" ∈ wsL_law := mr_4 (List.mem_of_getElem? (i := 13) rfl)
theorem w_fl_RX6_62_AtomicThreadsModel_wrote_I : Cond.fieldLink RX6 62 "AtomicThreadsModel" "wrote" "[I" ∈ wsL_law := mr_4 (List.mem_of_getElem? (i := 14) rfl)
theorem w_fl_RX6_65_AtomicThreadsModel_parts_I : Cond.fieldLink RX6 65 "AtomicThreadsModel" "parts" "[I" ∈ wsL_law := mr_4 (List.mem_of_getElem? (i := 15) rfl)
theorem w_fl_RX6_68_AtomicThreadsModel_opener_I : Cond.fieldLink RX6 68 "AtomicThreadsModel" "opener" "[I" ∈ wsL_law := mr_4 (List.mem_of_getElem? (i := 16) rfl)
theorem w_fl_RX6_71_AtomicThreadsModel_partRegister_I : Cond.fieldLink RX6 71 "AtomicThreadsModel" "partRegister" "[I" ∈ wsL_law := mr_4 (List.mem_of_getElem? (i := 17) rfl)
theorem w_fl_RX6_74_AtomicThreadsModel_partWritten_Z : Cond.fieldLink RX6 74 "AtomicThreadsModel" "partWritten" "[Z" ∈ wsL_law := mr_4 (List.mem_of_getElem? (i := 18) rfl)
theorem w_fl_RX6_77_AtomicThreadsModel_partWrote_I : Cond.fieldLink RX6 77 "AtomicThreadsModel" "partWrote" "[I" ∈ wsL_law := mr_4 (List.mem_of_getElem? (i := 19) rfl)
theorem w_fl_RX6_80_AtomicThreadsModel_print_I : Cond.fieldLink RX6 80 "AtomicThreadsModel" "print" "[I" ∈ wsL_law := mr_4 (List.mem_of_getElem? (i := 20) rfl)
theorem w_fl_RX6_83_AtomicThreadsModel_open_I : Cond.fieldLink RX6 83 "AtomicThreadsModel" "open" "[I" ∈ wsL_law := mr_4 (List.mem_of_getElem? (i := 21) rfl)
theorem w_fl_RX6_86_AtomicThreadsModel_middle_Z : Cond.fieldLink RX6 86 "AtomicThreadsModel" "middle" "[Z" ∈ wsL_law := mr_4 (List.mem_of_getElem? (i := 22) rfl)
theorem w_ml_RL_13_yX5_add : Cond.methodLink RL 13 yX5_add ∈ wsL_law := mr_4 (List.mem_of_getElem? (i := 23) rfl)
theorem w_im_yX5_add : Cond.instanceMethod yX5_add ∈ wsL_law := mr_5 (List.mem_of_getElem? (i := 0) rfl)
theorem w_se_RX5_yX5_add_yX5_add : Cond.selects RX5 yX5_add yX5_add ∈ wsL_law := mr_5 (List.mem_of_getElem? (i := 1) rfl)
theorem w_co_yX5_add_cX5_add_6_some_boolean : Cond.code yX5_add cX5_add 6 (some .boolean) ∈ wsL_law := mr_5 (List.mem_of_getElem? (i := 2) rfl)
theorem w_ml_RX5_30_yX5_strandOf : Cond.methodLink RX5 30 yX5_strandOf ∈ wsL_law := mr_5 (List.mem_of_getElem? (i := 3) rfl)
theorem w_im_yX5_strandOf : Cond.instanceMethod yX5_strandOf ∈ wsL_law := mr_5 (List.mem_of_getElem? (i := 4) rfl)
theorem w_se_RX5_yX5_strandOf_yX5_strandOf : Cond.selects RX5 yX5_strandOf yX5_strandOf ∈ wsL_law := mr_5 (List.mem_of_getElem? (i := 5) rfl)
theorem w_co_yX5_strandOf_cX5_strandOf_2_some_object_Strand : Cond.code yX5_strandOf cX5_strandOf 2 (some (.object "AtomicThreads$Strand")) ∈ wsL_law := mr_5 (List.mem_of_getElem? (i := 6) rfl)
theorem w_im_yX4_isUnderWay : Cond.instanceMethod yX4_isUnderWay ∈ wsL_law := mr_5 (List.mem_of_getElem? (i := 7) rfl)
theorem w_se_RX4_yX4_isUnderWay_yX4_isUnderWay : Cond.selects RX4 yX4_isUnderWay yX4_isUnderWay ∈ wsL_law := mr_5 (List.mem_of_getElem? (i := 8) rfl)
theorem w_co_yX4_isUnderWay_cX4_isUnderWay_1_some_boolean : Cond.code yX4_isUnderWay cX4_isUnderWay 1 (some .boolean) ∈ wsL_law := mr_5 (List.mem_of_getElem? (i := 9) rfl)
theorem w_im_yX3_isFull : Cond.instanceMethod yX3_isFull ∈ wsL_law := mr_5 (List.mem_of_getElem? (i := 10) rfl)
theorem w_se_RX3_yX3_isFull_yX3_isFull : Cond.selects RX3 yX3_isFull yX3_isFull ∈ wsL_law := mr_5 (List.mem_of_getElem? (i := 11) rfl)
theorem w_co_yX3_isFull_cX3_isFull_1_some_boolean : Cond.code yX3_isFull cX3_isFull 1 (some .boolean) ∈ wsL_law := mr_5 (List.mem_of_getElem? (i := 12) rfl)
theorem w_fl_RX3_33_Program_length_I : Cond.fieldLink RX3 33 "AtomicThreads$Program" "length" "I" ∈ wsL_law := mr_5 (List.mem_of_getElem? (i := 13) rfl)
theorem w_ml_RX5_47_yX5_isWord : Cond.methodLink RX5 47 yX5_isWord ∈ wsL_law := mr_5 (List.mem_of_getElem? (i := 14) rfl)
theorem w_sta_yX5_isWord : Cond.static yX5_isWord ∈ wsL_law := mr_5 (List.mem_of_getElem? (i := 15) rfl)
theorem w_co_yX5_isWord_cX5_isWord_3_some_boolean : Cond.code yX5_isWord cX5_isWord 3 (some .boolean) ∈ wsL_law := mr_5 (List.mem_of_getElem? (i := 16) rfl)
theorem w_ml_RX5_132_yX5_isRegister : Cond.methodLink RX5 132 yX5_isRegister ∈ wsL_law := mr_5 (List.mem_of_getElem? (i := 17) rfl)
theorem w_sta_yX5_isRegister : Cond.static yX5_isRegister ∈ wsL_law := mr_5 (List.mem_of_getElem? (i := 18) rfl)
theorem w_co_yX5_isRegister_cX5_isRegister_1_some_boolean : Cond.code yX5_isRegister cX5_isRegister 1 (some .boolean) ∈ wsL_law := mr_5 (List.mem_of_getElem? (i := 19) rfl)
theorem w_ml_RX5_76_yX5_isVariable : Cond.methodLink RX5 76 yX5_isVariable ∈ wsL_law := mr_5 (List.mem_of_getElem? (i := 20) rfl)
theorem w_sta_yX5_isVariable : Cond.static yX5_isVariable ∈ wsL_law := mr_5 (List.mem_of_getElem? (i := 21) rfl)
theorem w_co_yX5_isVariable_cX5_isVariable_1_some_boolean : Cond.code yX5_isVariable cX5_isVariable 1 (some .boolean) ∈ wsL_law := mr_5 (List.mem_of_getElem? (i := 22) rfl)
theorem w_im_yX3_append : Cond.instanceMethod yX3_append ∈ wsL_law := mr_5 (List.mem_of_getElem? (i := 23) rfl)
theorem w_se_RX3_yX3_append_yX3_append : Cond.selects RX3 yX3_append yX3_append ∈ wsL_law := mr_6 (List.mem_of_getElem? (i := 0) rfl)
theorem w_co_yX3_append_cX3_append_4_none : Cond.code yX3_append cX3_append 4 none ∈ wsL_law := mr_6 (List.mem_of_getElem? (i := 1) rfl)
theorem w_ml_RX3_37_yX3_isFull : Cond.methodLink RX3 37 yX3_isFull ∈ wsL_law := mr_6 (List.mem_of_getElem? (i := 2) rfl)
theorem w_ml_RL_17_yX6_add : Cond.methodLink RL 17 yX6_add ∈ wsL_law := mr_6 (List.mem_of_getElem? (i := 3) rfl)
theorem w_im_yX6_add : Cond.instanceMethod yX6_add ∈ wsL_law := mr_6 (List.mem_of_getElem? (i := 4) rfl)
theorem w_se_RX6_yX6_add_yX6_add : Cond.selects RX6 yX6_add yX6_add ∈ wsL_law := mr_6 (List.mem_of_getElem? (i := 5) rfl)
theorem w_co_yX6_add_cX6_add_6_some_boolean : Cond.code yX6_add cX6_add 6 (some .boolean) ∈ wsL_law := mr_6 (List.mem_of_getElem? (i := 6) rfl)
theorem w_ml_RX6_89_yX6_out : Cond.methodLink RX6 89 yX6_out ∈ wsL_law := mr_6 (List.mem_of_getElem? (i := 7) rfl)
theorem w_sta_yX6_out : Cond.static yX6_out ∈ wsL_law := mr_6 (List.mem_of_getElem? (i := 8) rfl)
theorem w_co_yX6_out_cX6_out_2_some_boolean : Cond.code yX6_out cX6_out 2 (some .boolean) ∈ wsL_law := mr_6 (List.mem_of_getElem? (i := 9) rfl)
theorem w_ml_RX6_93_yX6_busy : Cond.methodLink RX6 93 yX6_busy ∈ wsL_law := mr_6 (List.mem_of_getElem? (i := 10) rfl)
theorem w_im_yX6_busy : Cond.instanceMethod yX6_busy ∈ wsL_law := mr_6 (List.mem_of_getElem? (i := 11) rfl)
theorem w_se_RX6_yX6_busy_yX6_busy : Cond.selects RX6 yX6_busy yX6_busy ∈ wsL_law := mr_6 (List.mem_of_getElem? (i := 12) rfl)
theorem w_co_yX6_busy_cX6_busy_2_some_boolean : Cond.code yX6_busy cX6_busy 2 (some .boolean) ∈ wsL_law := mr_6 (List.mem_of_getElem? (i := 13) rfl)
theorem w_ml_RX6_97_yX6_named : Cond.methodLink RX6 97 yX6_named ∈ wsL_law := mr_6 (List.mem_of_getElem? (i := 14) rfl)
theorem w_sta_yX6_named : Cond.static yX6_named ∈ wsL_law := mr_6 (List.mem_of_getElem? (i := 15) rfl)
theorem w_co_yX6_named_cX6_named_4_some_boolean : Cond.code yX6_named cX6_named 4 (some .boolean) ∈ wsL_law := mr_6 (List.mem_of_getElem? (i := 16) rfl)
theorem w_ml_RL_18_yX5_cut : Cond.methodLink RL 18 yX5_cut ∈ wsL_law := mr_6 (List.mem_of_getElem? (i := 17) rfl)
theorem w_im_yX5_cut : Cond.instanceMethod yX5_cut ∈ wsL_law := mr_6 (List.mem_of_getElem? (i := 18) rfl)
theorem w_se_RX5_yX5_cut_yX5_cut : Cond.selects RX5 yX5_cut yX5_cut ∈ wsL_law := mr_6 (List.mem_of_getElem? (i := 19) rfl)
theorem w_co_yX5_cut_cX5_cut_4_some_boolean : Cond.code yX5_cut cX5_cut 4 (some .boolean) ∈ wsL_law := mr_6 (List.mem_of_getElem? (i := 20) rfl)
theorem w_ml_RL_22_yX6_cut : Cond.methodLink RL 22 yX6_cut ∈ wsL_law := mr_6 (List.mem_of_getElem? (i := 21) rfl)
theorem w_im_yX6_cut : Cond.instanceMethod yX6_cut ∈ wsL_law := mr_6 (List.mem_of_getElem? (i := 22) rfl)
theorem w_se_RX6_yX6_cut_yX6_cut : Cond.selects RX6 yX6_cut yX6_cut ∈ wsL_law := mr_6 (List.mem_of_getElem? (i := 23) rfl)
theorem w_co_yX6_cut_cX6_cut_3_some_boolean : Cond.code yX6_cut cX6_cut 3 (some .boolean) ∈ wsL_law := mr_7 (List.mem_of_getElem? (i := 0) rfl)
theorem w_ml_RL_23_yX5_check : Cond.methodLink RL 23 yX5_check ∈ wsL_law := mr_7 (List.mem_of_getElem? (i := 1) rfl)
theorem w_im_yX5_check : Cond.instanceMethod yX5_check ∈ wsL_law := mr_7 (List.mem_of_getElem? (i := 2) rfl)
theorem w_se_RX5_yX5_check_yX5_check : Cond.selects RX5 yX5_check yX5_check ∈ wsL_law := mr_7 (List.mem_of_getElem? (i := 3) rfl)
theorem w_co_yX5_check_cX5_check_3_some_int : Cond.code yX5_check cX5_check 3 (some .int) ∈ wsL_law := mr_7 (List.mem_of_getElem? (i := 4) rfl)
theorem w_im_yX3_goThrough : Cond.instanceMethod yX3_goThrough ∈ wsL_law := mr_7 (List.mem_of_getElem? (i := 5) rfl)
theorem w_se_RX3_yX3_goThrough_yX3_goThrough : Cond.selects RX3 yX3_goThrough yX3_goThrough ∈ wsL_law := mr_7 (List.mem_of_getElem? (i := 6) rfl)
theorem w_co_yX3_goThrough_cX3_goThrough_2_some_int : Cond.code yX3_goThrough cX3_goThrough 2 (some .int) ∈ wsL_law := mr_7 (List.mem_of_getElem? (i := 7) rfl)
theorem w_fl_RX3_52_Program_openCount_I : Cond.fieldLink RX3 52 "AtomicThreads$Program" "openCount" "I" ∈ wsL_law := mr_7 (List.mem_of_getElem? (i := 8) rfl)
theorem w_ml_RX3_55_yX3_kindAt : Cond.methodLink RX3 55 yX3_kindAt ∈ wsL_law := mr_7 (List.mem_of_getElem? (i := 9) rfl)
theorem w_im_yX3_kindAt : Cond.instanceMethod yX3_kindAt ∈ wsL_law := mr_7 (List.mem_of_getElem? (i := 10) rfl)
theorem w_se_RX3_yX3_kindAt_yX3_kindAt : Cond.selects RX3 yX3_kindAt yX3_kindAt ∈ wsL_law := mr_7 (List.mem_of_getElem? (i := 11) rfl)
theorem w_co_yX3_kindAt_cX3_kindAt_2_some_int : Cond.code yX3_kindAt cX3_kindAt 2 (some .int) ∈ wsL_law := mr_7 (List.mem_of_getElem? (i := 12) rfl)
theorem w_ml_RX3_41_yX3_at : Cond.methodLink RX3 41 yX3_at ∈ wsL_law := mr_7 (List.mem_of_getElem? (i := 13) rfl)
theorem w_sta_yX3_at : Cond.static yX3_at ∈ wsL_law := mr_7 (List.mem_of_getElem? (i := 14) rfl)
theorem w_co_yX3_at_cX3_at_2_some_int : Cond.code yX3_at cX3_at 2 (some .int) ∈ wsL_law := mr_7 (List.mem_of_getElem? (i := 15) rfl)
theorem w_ml_RX3_58_yX3_isWrong : Cond.methodLink RX3 58 yX3_isWrong ∈ wsL_law := mr_7 (List.mem_of_getElem? (i := 16) rfl)
theorem w_im_yX3_isWrong : Cond.instanceMethod yX3_isWrong ∈ wsL_law := mr_7 (List.mem_of_getElem? (i := 17) rfl)
theorem w_se_RX3_yX3_isWrong_yX3_isWrong : Cond.selects RX3 yX3_isWrong yX3_isWrong ∈ wsL_law := mr_7 (List.mem_of_getElem? (i := 18) rfl)
theorem w_co_yX3_isWrong_cX3_isWrong_2_some_boolean : Cond.code yX3_isWrong cX3_isWrong 2 (some .boolean) ∈ wsL_law := mr_7 (List.mem_of_getElem? (i := 19) rfl)
theorem w_ml_RX3_66_yX3_lacksMiddle : Cond.methodLink RX3 66 yX3_lacksMiddle ∈ wsL_law := mr_7 (List.mem_of_getElem? (i := 20) rfl)
theorem w_im_yX3_lacksMiddle : Cond.instanceMethod yX3_lacksMiddle ∈ wsL_law := mr_7 (List.mem_of_getElem? (i := 21) rfl)
theorem w_se_RX3_yX3_lacksMiddle_yX3_lacksMiddle : Cond.selects RX3 yX3_lacksMiddle yX3_lacksMiddle ∈ wsL_law := mr_7 (List.mem_of_getElem? (i := 22) rfl)
theorem w_co_yX3_lacksMiddle_cX3_lacksMiddle_3_some_boolean : Cond.code yX3_lacksMiddle cX3_lacksMiddle 3 (some .boolean) ∈ wsL_law := mr_7 (List.mem_of_getElem? (i := 23) rfl)
theorem w_ml_RX3_72_yX3_innermost : Cond.methodLink RX3 72 yX3_innermost ∈ wsL_law := mr_8 (List.mem_of_getElem? (i := 0) rfl)
theorem w_im_yX3_innermost : Cond.instanceMethod yX3_innermost ∈ wsL_law := mr_8 (List.mem_of_getElem? (i := 1) rfl)
theorem w_se_RX3_yX3_innermost_yX3_innermost : Cond.selects RX3 yX3_innermost yX3_innermost ∈ wsL_law := mr_8 (List.mem_of_getElem? (i := 2) rfl)
theorem w_co_yX3_innermost_cX3_innermost_1_some_int : Cond.code yX3_innermost cX3_innermost 1 (some .int) ∈ wsL_law := mr_8 (List.mem_of_getElem? (i := 3) rfl)
theorem w_ml_RX3_45_yX3_middleOf : Cond.methodLink RX3 45 yX3_middleOf ∈ wsL_law := mr_8 (List.mem_of_getElem? (i := 4) rfl)
theorem w_im_yX3_middleOf : Cond.instanceMethod yX3_middleOf ∈ wsL_law := mr_8 (List.mem_of_getElem? (i := 5) rfl)
theorem w_se_RX3_yX3_middleOf_yX3_middleOf : Cond.selects RX3 yX3_middleOf yX3_middleOf ∈ wsL_law := mr_8 (List.mem_of_getElem? (i := 6) rfl)
theorem w_co_yX3_middleOf_cX3_middleOf_2_some_int : Cond.code yX3_middleOf cX3_middleOf 2 (some .int) ∈ wsL_law := mr_8 (List.mem_of_getElem? (i := 7) rfl)
theorem w_ml_RX3_69_yX3_isAtomicOpen : Cond.methodLink RX3 69 yX3_isAtomicOpen ∈ wsL_law := mr_8 (List.mem_of_getElem? (i := 8) rfl)
theorem w_im_yX3_isAtomicOpen : Cond.instanceMethod yX3_isAtomicOpen ∈ wsL_law := mr_8 (List.mem_of_getElem? (i := 9) rfl)
theorem w_se_RX3_yX3_isAtomicOpen_yX3_isAtomicOpen : Cond.selects RX3 yX3_isAtomicOpen yX3_isAtomicOpen ∈ wsL_law := mr_8 (List.mem_of_getElem? (i := 10) rfl)
theorem w_co_yX3_isAtomicOpen_cX3_isAtomicOpen_2_some_boolean : Cond.code yX3_isAtomicOpen cX3_isAtomicOpen 2 (some .boolean) ∈ wsL_law := mr_8 (List.mem_of_getElem? (i := 11) rfl)
theorem w_ml_RX3_62_yX3_connect : Cond.methodLink RX3 62 yX3_connect ∈ wsL_law := mr_8 (List.mem_of_getElem? (i := 12) rfl)
theorem w_im_yX3_connect : Cond.instanceMethod yX3_connect ∈ wsL_law := mr_8 (List.mem_of_getElem? (i := 13) rfl)
theorem w_se_RX3_yX3_connect_yX3_connect : Cond.selects RX3 yX3_connect yX3_connect ∈ wsL_law := mr_8 (List.mem_of_getElem? (i := 14) rfl)
theorem w_co_yX3_connect_cX3_connect_2_none : Cond.code yX3_connect cX3_connect 2 none ∈ wsL_law := mr_8 (List.mem_of_getElem? (i := 15) rfl)
theorem w_ml_RX3_76_yX3_connectOpener : Cond.methodLink RX3 76 yX3_connectOpener ∈ wsL_law := mr_8 (List.mem_of_getElem? (i := 16) rfl)
theorem w_im_yX3_connectOpener : Cond.instanceMethod yX3_connectOpener ∈ wsL_law := mr_8 (List.mem_of_getElem? (i := 17) rfl)
theorem w_se_RX3_yX3_connectOpener_yX3_connectOpener : Cond.selects RX3 yX3_connectOpener yX3_connectOpener ∈ wsL_law := mr_8 (List.mem_of_getElem? (i := 18) rfl)
theorem w_co_yX3_connectOpener_cX3_connectOpener_2_none : Cond.code yX3_connectOpener cX3_connectOpener 2 none ∈ wsL_law := mr_8 (List.mem_of_getElem? (i := 19) rfl)
theorem w_ml_RX3_79_yX3_connectTo : Cond.methodLink RX3 79 yX3_connectTo ∈ wsL_law := mr_8 (List.mem_of_getElem? (i := 20) rfl)
theorem w_im_yX3_connectTo : Cond.instanceMethod yX3_connectTo ∈ wsL_law := mr_8 (List.mem_of_getElem? (i := 21) rfl)
theorem w_se_RX3_yX3_connectTo_yX3_connectTo : Cond.selects RX3 yX3_connectTo yX3_connectTo ∈ wsL_law := mr_8 (List.mem_of_getElem? (i := 22) rfl)
theorem w_co_yX3_connectTo_cX3_connectTo_4_none : Cond.code yX3_connectTo cX3_connectTo 4 none ∈ wsL_law := mr_8 (List.mem_of_getElem? (i := 23) rfl)
theorem w_ml_RL_27_yX6_check : Cond.methodLink RL 27 yX6_check ∈ wsL_law := mr_9 (List.mem_of_getElem? (i := 0) rfl)
theorem w_im_yX6_check : Cond.instanceMethod yX6_check ∈ wsL_law := mr_9 (List.mem_of_getElem? (i := 1) rfl)
theorem w_se_RX6_yX6_check_yX6_check : Cond.selects RX6 yX6_check yX6_check ∈ wsL_law := mr_9 (List.mem_of_getElem? (i := 2) rfl)
theorem w_co_yX6_check_cX6_check_7_some_int : Cond.code yX6_check cX6_check 7 (some .int) ∈ wsL_law := mr_9 (List.mem_of_getElem? (i := 3) rfl)
theorem w_ml_RX6_107_yX6_wrong : Cond.methodLink RX6 107 yX6_wrong ∈ wsL_law := mr_9 (List.mem_of_getElem? (i := 4) rfl)
theorem w_im_yX6_wrong : Cond.instanceMethod yX6_wrong ∈ wsL_law := mr_9 (List.mem_of_getElem? (i := 5) rfl)
theorem w_se_RX6_yX6_wrong_yX6_wrong : Cond.selects RX6 yX6_wrong yX6_wrong ∈ wsL_law := mr_9 (List.mem_of_getElem? (i := 6) rfl)
theorem w_co_yX6_wrong_cX6_wrong_4_some_boolean : Cond.code yX6_wrong cX6_wrong 4 (some .boolean) ∈ wsL_law := mr_9 (List.mem_of_getElem? (i := 7) rfl)
theorem w_ml_RX6_101_yX6_halfway : Cond.methodLink RX6 101 yX6_halfway ∈ wsL_law := mr_9 (List.mem_of_getElem? (i := 8) rfl)
theorem w_im_yX6_halfway : Cond.instanceMethod yX6_halfway ∈ wsL_law := mr_9 (List.mem_of_getElem? (i := 9) rfl)
theorem w_se_RX6_yX6_halfway_yX6_halfway : Cond.selects RX6 yX6_halfway yX6_halfway ∈ wsL_law := mr_9 (List.mem_of_getElem? (i := 10) rfl)
theorem w_co_yX6_halfway_cX6_halfway_3_some_boolean : Cond.code yX6_halfway cX6_halfway 3 (some .boolean) ∈ wsL_law := mr_9 (List.mem_of_getElem? (i := 11) rfl)
theorem w_ml_RX6_104_yX6_opens : Cond.methodLink RX6 104 yX6_opens ∈ wsL_law := mr_9 (List.mem_of_getElem? (i := 12) rfl)
theorem w_sta_yX6_opens : Cond.static yX6_opens ∈ wsL_law := mr_9 (List.mem_of_getElem? (i := 13) rfl)
theorem w_co_yX6_opens_cX6_opens_1_some_boolean : Cond.code yX6_opens cX6_opens 1 (some .boolean) ∈ wsL_law := mr_9 (List.mem_of_getElem? (i := 14) rfl)
theorem w_ml_RL_28_yX5_start : Cond.methodLink RL 28 yX5_start ∈ wsL_law := mr_9 (List.mem_of_getElem? (i := 15) rfl)
theorem w_im_yX5_start : Cond.instanceMethod yX5_start ∈ wsL_law := mr_9 (List.mem_of_getElem? (i := 16) rfl)
theorem w_se_RX5_yX5_start_yX5_start : Cond.selects RX5 yX5_start yX5_start ∈ wsL_law := mr_9 (List.mem_of_getElem? (i := 17) rfl)
theorem w_co_yX5_start_cX5_start_3_some_boolean : Cond.code yX5_start cX5_start 3 (some .boolean) ∈ wsL_law := mr_9 (List.mem_of_getElem? (i := 18) rfl)
theorem w_im_yX4_begin : Cond.instanceMethod yX4_begin ∈ wsL_law := mr_9 (List.mem_of_getElem? (i := 19) rfl)
theorem w_se_RX4_yX4_begin_yX4_begin : Cond.selects RX4 yX4_begin yX4_begin ∈ wsL_law := mr_9 (List.mem_of_getElem? (i := 20) rfl)
theorem w_co_yX4_begin_cX4_begin_2_none : Cond.code yX4_begin cX4_begin 2 none ∈ wsL_law := mr_9 (List.mem_of_getElem? (i := 21) rfl)
theorem w_fl_RX4_49_Strand_discarded_I : Cond.fieldLink RX4 49 "AtomicThreads$Strand" "discarded" "I" ∈ wsL_law := mr_9 (List.mem_of_getElem? (i := 22) rfl)
theorem w_fl_RX4_52_Strand_markCount_I : Cond.fieldLink RX4 52 "AtomicThreads$Strand" "markCount" "I" ∈ wsL_law := mr_9 (List.mem_of_getElem? (i := 23) rfl)
theorem w_ml_RX4_55_yX4_goOnTo : Cond.methodLink RX4 55 yX4_goOnTo ∈ wsL_law := mr_10 (List.mem_of_getElem? (i := 0) rfl)
theorem w_im_yX4_goOnTo : Cond.instanceMethod yX4_goOnTo ∈ wsL_law := mr_10 (List.mem_of_getElem? (i := 1) rfl)
theorem w_se_RX4_yX4_goOnTo_yX4_goOnTo : Cond.selects RX4 yX4_goOnTo yX4_goOnTo ∈ wsL_law := mr_10 (List.mem_of_getElem? (i := 2) rfl)
theorem w_co_yX4_goOnTo_cX4_goOnTo_2_some_int : Cond.code yX4_goOnTo cX4_goOnTo 2 (some .int) ∈ wsL_law := mr_10 (List.mem_of_getElem? (i := 3) rfl)
theorem w_fl_RX4_59_Strand_place_I : Cond.fieldLink RX4 59 "AtomicThreads$Strand" "place" "I" ∈ wsL_law := mr_10 (List.mem_of_getElem? (i := 4) rfl)
theorem w_ml_RL_32_yX6_start : Cond.methodLink RL 32 yX6_start ∈ wsL_law := mr_10 (List.mem_of_getElem? (i := 5) rfl)
theorem w_im_yX6_start : Cond.instanceMethod yX6_start ∈ wsL_law := mr_10 (List.mem_of_getElem? (i := 6) rfl)
theorem w_se_RX6_yX6_start_yX6_start : Cond.selects RX6 yX6_start yX6_start ∈ wsL_law := mr_10 (List.mem_of_getElem? (i := 7) rfl)
theorem w_co_yX6_start_cX6_start_3_some_boolean : Cond.code yX6_start cX6_start 3 (some .boolean) ∈ wsL_law := mr_10 (List.mem_of_getElem? (i := 8) rfl)
theorem w_ml_RX6_111_yX6_check : Cond.methodLink RX6 111 yX6_check ∈ wsL_law := mr_10 (List.mem_of_getElem? (i := 9) rfl)
theorem w_ml_RX6_115_yX6_endAttempt : Cond.methodLink RX6 115 yX6_endAttempt ∈ wsL_law := mr_10 (List.mem_of_getElem? (i := 10) rfl)
theorem w_im_yX6_endAttempt : Cond.instanceMethod yX6_endAttempt ∈ wsL_law := mr_10 (List.mem_of_getElem? (i := 11) rfl)
theorem w_se_RX6_yX6_endAttempt_yX6_endAttempt : Cond.selects RX6 yX6_endAttempt yX6_endAttempt ∈ wsL_law := mr_10 (List.mem_of_getElem? (i := 12) rfl)
theorem w_co_yX6_endAttempt_cX6_endAttempt_3_none : Cond.code yX6_endAttempt cX6_endAttempt 3 none ∈ wsL_law := mr_10 (List.mem_of_getElem? (i := 13) rfl)
theorem w_ml_RX6_119_yX6_go : Cond.methodLink RX6 119 yX6_go ∈ wsL_law := mr_10 (List.mem_of_getElem? (i := 14) rfl)
theorem w_im_yX6_go : Cond.instanceMethod yX6_go ∈ wsL_law := mr_10 (List.mem_of_getElem? (i := 15) rfl)
theorem w_se_RX6_yX6_go_yX6_go : Cond.selects RX6 yX6_go yX6_go ∈ wsL_law := mr_10 (List.mem_of_getElem? (i := 16) rfl)
theorem w_co_yX6_go_cX6_go_3_none : Cond.code yX6_go cX6_go 3 none ∈ wsL_law := mr_10 (List.mem_of_getElem? (i := 17) rfl)
theorem w_ml_RL_33_yX5_stop : Cond.methodLink RL 33 yX5_stop ∈ wsL_law := mr_10 (List.mem_of_getElem? (i := 18) rfl)
theorem w_im_yX5_stop : Cond.instanceMethod yX5_stop ∈ wsL_law := mr_10 (List.mem_of_getElem? (i := 19) rfl)
theorem w_se_RX5_yX5_stop_yX5_stop : Cond.selects RX5 yX5_stop yX5_stop ∈ wsL_law := mr_10 (List.mem_of_getElem? (i := 20) rfl)
theorem w_co_yX5_stop_cX5_stop_3_some_boolean : Cond.code yX5_stop cX5_stop 3 (some .boolean) ∈ wsL_law := mr_10 (List.mem_of_getElem? (i := 21) rfl)
theorem w_im_yX4_leaveAttempt : Cond.instanceMethod yX4_leaveAttempt ∈ wsL_law := mr_10 (List.mem_of_getElem? (i := 22) rfl)
theorem w_se_RX4_yX4_leaveAttempt_yX4_leaveAttempt : Cond.selects RX4 yX4_leaveAttempt yX4_leaveAttempt ∈ wsL_law := mr_10 (List.mem_of_getElem? (i := 23) rfl)
theorem w_co_yX4_leaveAttempt_cX4_leaveAttempt_1_none : Cond.code yX4_leaveAttempt cX4_leaveAttempt 1 none ∈ wsL_law := mr_11 (List.mem_of_getElem? (i := 0) rfl)
theorem w_fl_RX4_42_Strand_readSet_I : Cond.fieldLink RX4 42 "AtomicThreads$Strand" "readSet" "I" ∈ wsL_law := mr_11 (List.mem_of_getElem? (i := 1) rfl)
theorem w_fl_RX4_39_Strand_written_I : Cond.fieldLink RX4 39 "AtomicThreads$Strand" "written" "I" ∈ wsL_law := mr_11 (List.mem_of_getElem? (i := 2) rfl)
theorem w_ml_RX4_108_yX4_isInAttempt : Cond.methodLink RX4 108 yX4_isInAttempt ∈ wsL_law := mr_11 (List.mem_of_getElem? (i := 3) rfl)
theorem w_im_yX4_isInAttempt : Cond.instanceMethod yX4_isInAttempt ∈ wsL_law := mr_11 (List.mem_of_getElem? (i := 4) rfl)
theorem w_se_RX4_yX4_isInAttempt_yX4_isInAttempt : Cond.selects RX4 yX4_isInAttempt yX4_isInAttempt ∈ wsL_law := mr_11 (List.mem_of_getElem? (i := 5) rfl)
theorem w_co_yX4_isInAttempt_cX4_isInAttempt_1_some_boolean : Cond.code yX4_isInAttempt cX4_isInAttempt 1 (some .boolean) ∈ wsL_law := mr_11 (List.mem_of_getElem? (i := 6) rfl)
theorem w_ml_RL_36_yX6_stop : Cond.methodLink RL 36 yX6_stop ∈ wsL_law := mr_11 (List.mem_of_getElem? (i := 7) rfl)
theorem w_im_yX6_stop : Cond.instanceMethod yX6_stop ∈ wsL_law := mr_11 (List.mem_of_getElem? (i := 8) rfl)
theorem w_se_RX6_yX6_stop_yX6_stop : Cond.selects RX6 yX6_stop yX6_stop ∈ wsL_law := mr_11 (List.mem_of_getElem? (i := 9) rfl)
theorem w_co_yX6_stop_cX6_stop_2_some_boolean : Cond.code yX6_stop cX6_stop 2 (some .boolean) ∈ wsL_law := mr_11 (List.mem_of_getElem? (i := 10) rfl)
theorem w_ml_RL_37_yX5_step : Cond.methodLink RL 37 yX5_step ∈ wsL_law := mr_11 (List.mem_of_getElem? (i := 11) rfl)
theorem w_im_yX5_step : Cond.instanceMethod yX5_step ∈ wsL_law := mr_11 (List.mem_of_getElem? (i := 12) rfl)
theorem w_se_RX5_yX5_step_yX5_step : Cond.selects RX5 yX5_step yX5_step ∈ wsL_law := mr_11 (List.mem_of_getElem? (i := 13) rfl)
theorem w_co_yX5_step_cX5_step_3_some_int : Cond.code yX5_step cX5_step 3 (some .int) ∈ wsL_law := mr_11 (List.mem_of_getElem? (i := 14) rfl)
theorem w_ml_RX5_72_yX5_doWord : Cond.methodLink RX5 72 yX5_doWord ∈ wsL_law := mr_11 (List.mem_of_getElem? (i := 15) rfl)
theorem w_im_yX5_doWord : Cond.instanceMethod yX5_doWord ∈ wsL_law := mr_11 (List.mem_of_getElem? (i := 16) rfl)
theorem w_se_RX5_yX5_doWord_yX5_doWord : Cond.selects RX5 yX5_doWord yX5_doWord ∈ wsL_law := mr_11 (List.mem_of_getElem? (i := 17) rfl)
theorem w_co_yX5_doWord_cX5_doWord_6_some_int : Cond.code yX5_doWord cX5_doWord 6 (some .int) ∈ wsL_law := mr_11 (List.mem_of_getElem? (i := 18) rfl)
theorem w_im_yX3_firstAt : Cond.instanceMethod yX3_firstAt ∈ wsL_law := mr_11 (List.mem_of_getElem? (i := 19) rfl)
theorem w_se_RX3_yX3_firstAt_yX3_firstAt : Cond.selects RX3 yX3_firstAt yX3_firstAt ∈ wsL_law := mr_11 (List.mem_of_getElem? (i := 20) rfl)
theorem w_co_yX3_firstAt_cX3_firstAt_2_some_int : Cond.code yX3_firstAt cX3_firstAt 2 (some .int) ∈ wsL_law := mr_11 (List.mem_of_getElem? (i := 21) rfl)
theorem w_im_yX3_secondAt : Cond.instanceMethod yX3_secondAt ∈ wsL_law := mr_11 (List.mem_of_getElem? (i := 22) rfl)
theorem w_se_RX3_yX3_secondAt_yX3_secondAt : Cond.selects RX3 yX3_secondAt yX3_secondAt ∈ wsL_law := mr_11 (List.mem_of_getElem? (i := 23) rfl)
theorem w_co_yX3_secondAt_cX3_secondAt_2_some_int : Cond.code yX3_secondAt cX3_secondAt 2 (some .int) ∈ wsL_law := mr_12 (List.mem_of_getElem? (i := 0) rfl)
theorem w_im_yX4_assign : Cond.instanceMethod yX4_assign ∈ wsL_law := mr_12 (List.mem_of_getElem? (i := 1) rfl)
theorem w_se_RX4_yX4_assign_yX4_assign : Cond.selects RX4 yX4_assign yX4_assign ∈ wsL_law := mr_12 (List.mem_of_getElem? (i := 2) rfl)
theorem w_co_yX4_assign_cX4_assign_3_some_int : Cond.code yX4_assign cX4_assign 3 (some .int) ∈ wsL_law := mr_12 (List.mem_of_getElem? (i := 3) rfl)
theorem w_ml_RX4_65_yX4_setRegister : Cond.methodLink RX4 65 yX4_setRegister ∈ wsL_law := mr_12 (List.mem_of_getElem? (i := 4) rfl)
theorem w_im_yX4_setRegister : Cond.instanceMethod yX4_setRegister ∈ wsL_law := mr_12 (List.mem_of_getElem? (i := 5) rfl)
theorem w_se_RX4_yX4_setRegister_yX4_setRegister : Cond.selects RX4 yX4_setRegister yX4_setRegister ∈ wsL_law := mr_12 (List.mem_of_getElem? (i := 6) rfl)
theorem w_co_yX4_setRegister_cX4_setRegister_3_none : Cond.code yX4_setRegister cX4_setRegister 3 none ∈ wsL_law := mr_12 (List.mem_of_getElem? (i := 7) rfl)
theorem w_im_yX4_registerValue : Cond.instanceMethod yX4_registerValue ∈ wsL_law := mr_12 (List.mem_of_getElem? (i := 8) rfl)
theorem w_se_RX4_yX4_registerValue_yX4_registerValue : Cond.selects RX4 yX4_registerValue yX4_registerValue ∈ wsL_law := mr_12 (List.mem_of_getElem? (i := 9) rfl)
theorem w_co_yX4_registerValue_cX4_registerValue_2_some_int : Cond.code yX4_registerValue cX4_registerValue 2 (some .int) ∈ wsL_law := mr_12 (List.mem_of_getElem? (i := 10) rfl)
theorem w_ml_RX5_148_yX5_doRead : Cond.methodLink RX5 148 yX5_doRead ∈ wsL_law := mr_12 (List.mem_of_getElem? (i := 11) rfl)
theorem w_im_yX5_doRead : Cond.instanceMethod yX5_doRead ∈ wsL_law := mr_12 (List.mem_of_getElem? (i := 12) rfl)
theorem w_se_RX5_yX5_doRead_yX5_doRead : Cond.selects RX5 yX5_doRead yX5_doRead ∈ wsL_law := mr_12 (List.mem_of_getElem? (i := 13) rfl)
theorem w_co_yX5_doRead_cX5_doRead_4_some_int : Cond.code yX5_doRead cX5_doRead 4 (some .int) ∈ wsL_law := mr_12 (List.mem_of_getElem? (i := 14) rfl)
theorem w_im_yX4_hasWritten : Cond.instanceMethod yX4_hasWritten ∈ wsL_law := mr_12 (List.mem_of_getElem? (i := 15) rfl)
theorem w_se_RX4_yX4_hasWritten_yX4_hasWritten : Cond.selects RX4 yX4_hasWritten yX4_hasWritten ∈ wsL_law := mr_12 (List.mem_of_getElem? (i := 16) rfl)
theorem w_co_yX4_hasWritten_cX4_hasWritten_2_some_boolean : Cond.code yX4_hasWritten cX4_hasWritten 2 (some .boolean) ∈ wsL_law := mr_12 (List.mem_of_getElem? (i := 17) rfl)
theorem w_im_yX1_hasChanged : Cond.instanceMethod yX1_hasChanged ∈ wsL_law := mr_12 (List.mem_of_getElem? (i := 18) rfl)
theorem w_se_RX1_yX1_hasChanged_yX1_hasChanged : Cond.selects RX1 yX1_hasChanged yX1_hasChanged ∈ wsL_law := mr_12 (List.mem_of_getElem? (i := 19) rfl)
theorem w_co_yX1_hasChanged_cX1_hasChanged_4_some_boolean : Cond.code yX1_hasChanged cX1_hasChanged 4 (some .boolean) ∈ wsL_law := mr_12 (List.mem_of_getElem? (i := 20) rfl)
theorem w_im_yX4_discard : Cond.instanceMethod yX4_discard ∈ wsL_law := mr_12 (List.mem_of_getElem? (i := 21) rfl)
theorem w_se_RX4_yX4_discard_yX4_discard : Cond.selects RX4 yX4_discard yX4_discard ∈ wsL_law := mr_12 (List.mem_of_getElem? (i := 22) rfl)
theorem w_co_yX4_discard_cX4_discard_1_some_int : Cond.code yX4_discard cX4_discard 1 (some .int) ∈ wsL_law := mr_12 (List.mem_of_getElem? (i := 23) rfl)
theorem w_ml_RX4_115_yX4_undoAttempt : Cond.methodLink RX4 115 yX4_undoAttempt ∈ wsL_law := mr_13 (List.mem_of_getElem? (i := 0) rfl)
theorem w_im_yX4_undoAttempt : Cond.instanceMethod yX4_undoAttempt ∈ wsL_law := mr_13 (List.mem_of_getElem? (i := 1) rfl)
theorem w_se_RX4_yX4_undoAttempt_yX4_undoAttempt : Cond.selects RX4 yX4_undoAttempt yX4_undoAttempt ∈ wsL_law := mr_13 (List.mem_of_getElem? (i := 2) rfl)
theorem w_co_yX4_undoAttempt_cX4_undoAttempt_1_none : Cond.code yX4_undoAttempt cX4_undoAttempt 1 none ∈ wsL_law := mr_13 (List.mem_of_getElem? (i := 3) rfl)
theorem w_ml_RX4_95_yX4_goBackTo : Cond.methodLink RX4 95 yX4_goBackTo ∈ wsL_law := mr_13 (List.mem_of_getElem? (i := 4) rfl)
theorem w_im_yX4_goBackTo : Cond.instanceMethod yX4_goBackTo ∈ wsL_law := mr_13 (List.mem_of_getElem? (i := 5) rfl)
theorem w_se_RX4_yX4_goBackTo_yX4_goBackTo : Cond.selects RX4 yX4_goBackTo yX4_goBackTo ∈ wsL_law := mr_13 (List.mem_of_getElem? (i := 6) rfl)
theorem w_co_yX4_goBackTo_cX4_goBackTo_3_none : Cond.code yX4_goBackTo cX4_goBackTo 3 none ∈ wsL_law := mr_13 (List.mem_of_getElem? (i := 7) rfl)
theorem w_ml_RX4_82_arraycopyName : Cond.methodLink RX4 82 arraycopyName ∈ wsL_law := mr_13 (List.mem_of_getElem? (i := 8) rfl)
theorem w_nat_arraycopyName : Cond.native arraycopyName ∈ wsL_law := mr_13 (List.mem_of_getElem? (i := 9) rfl)
theorem w_sta_arraycopyName : Cond.static arraycopyName ∈ wsL_law := mr_13 (List.mem_of_getElem? (i := 10) rfl)
theorem w_ini_System : Cond.initialized "java/lang/System" ∈ wsL_law := mr_13 (List.mem_of_getElem? (i := 11) rfl)
theorem w_ml_RX4_112_yX4_leaveAttempt : Cond.methodLink RX4 112 yX4_leaveAttempt ∈ wsL_law := mr_13 (List.mem_of_getElem? (i := 12) rfl)
theorem w_im_yX4_write : Cond.instanceMethod yX4_write ∈ wsL_law := mr_13 (List.mem_of_getElem? (i := 13) rfl)
theorem w_se_RX4_yX4_write_yX4_write : Cond.selects RX4 yX4_write yX4_write ∈ wsL_law := mr_13 (List.mem_of_getElem? (i := 14) rfl)
theorem w_co_yX4_write_cX4_write_3_some_int : Cond.code yX4_write cX4_write 3 (some .int) ∈ wsL_law := mr_13 (List.mem_of_getElem? (i := 15) rfl)
theorem w_im_yX2_write : Cond.instanceMethod yX2_write ∈ wsL_law := mr_13 (List.mem_of_getElem? (i := 16) rfl)
theorem w_se_RX2_yX2_write_yX2_write : Cond.selects RX2 yX2_write yX2_write ∈ wsL_law := mr_13 (List.mem_of_getElem? (i := 17) rfl)
theorem w_co_yX2_write_cX2_write_2_none : Cond.code yX2_write cX2_write 2 none ∈ wsL_law := mr_13 (List.mem_of_getElem? (i := 18) rfl)
theorem w_fl_RX2_15_Paper_count_I : Cond.fieldLink RX2 15 "AtomicThreads$Paper" "count" "I" ∈ wsL_law := mr_13 (List.mem_of_getElem? (i := 19) rfl)
theorem w_ml_RX2_19_yJ9_floorMod_7cf53 : Cond.methodLink RX2 19 yJ9_floorMod_7cf53 ∈ wsL_law := mr_13 (List.mem_of_getElem? (i := 20) rfl)
theorem w_sta_yJ9_floorMod_7cf53 : Cond.static yJ9_floorMod_7cf53 ∈ wsL_law := mr_13 (List.mem_of_getElem? (i := 21) rfl)
theorem w_ini_RJ9 : Cond.initialized RJ9 ∈ wsL_law := mr_13 (List.mem_of_getElem? (i := 22) rfl)
theorem w_co_yJ9_floorMod_7cf53_cJ9_floorMod_7cf53_3_some_int : Cond.code yJ9_floorMod_7cf53 cJ9_floorMod_7cf53 3 (some .int) ∈ wsL_law := mr_13 (List.mem_of_getElem? (i := 23) rfl)
theorem w_im_yX4_beginAttempt : Cond.instanceMethod yX4_beginAttempt ∈ wsL_law := mr_14 (List.mem_of_getElem? (i := 0) rfl)
theorem w_se_RX4_yX4_beginAttempt_yX4_beginAttempt : Cond.selects RX4 yX4_beginAttempt yX4_beginAttempt ∈ wsL_law := mr_14 (List.mem_of_getElem? (i := 1) rfl)
theorem w_co_yX4_beginAttempt_cX4_beginAttempt_2_some_int : Cond.code yX4_beginAttempt cX4_beginAttempt 2 (some .int) ∈ wsL_law := mr_14 (List.mem_of_getElem? (i := 2) rfl)
theorem w_fl_RX4_72_Strand_attemptSince_I : Cond.fieldLink RX4 72 "AtomicThreads$Strand" "attemptSince" "I" ∈ wsL_law := mr_14 (List.mem_of_getElem? (i := 3) rfl)
theorem w_ml_RX4_75_yX4_noteAndGoOn : Cond.methodLink RX4 75 yX4_noteAndGoOn ∈ wsL_law := mr_14 (List.mem_of_getElem? (i := 4) rfl)
theorem w_im_yX4_noteAndGoOn : Cond.instanceMethod yX4_noteAndGoOn ∈ wsL_law := mr_14 (List.mem_of_getElem? (i := 5) rfl)
theorem w_se_RX4_yX4_noteAndGoOn_yX4_noteAndGoOn : Cond.selects RX4 yX4_noteAndGoOn yX4_noteAndGoOn ∈ wsL_law := mr_14 (List.mem_of_getElem? (i := 6) rfl)
theorem w_co_yX4_noteAndGoOn_cX4_noteAndGoOn_2_some_int : Cond.code yX4_noteAndGoOn cX4_noteAndGoOn 2 (some .int) ∈ wsL_law := mr_14 (List.mem_of_getElem? (i := 7) rfl)
theorem w_im_yX4_endFirstPart : Cond.instanceMethod yX4_endFirstPart ∈ wsL_law := mr_14 (List.mem_of_getElem? (i := 8) rfl)
theorem w_se_RX4_yX4_endFirstPart_yX4_endFirstPart : Cond.selects RX4 yX4_endFirstPart yX4_endFirstPart ∈ wsL_law := mr_14 (List.mem_of_getElem? (i := 9) rfl)
theorem w_co_yX4_endFirstPart_cX4_endFirstPart_1_some_int : Cond.code yX4_endFirstPart cX4_endFirstPart 1 (some .int) ∈ wsL_law := mr_14 (List.mem_of_getElem? (i := 10) rfl)
theorem w_im_yX3_behindEnd : Cond.instanceMethod yX3_behindEnd ∈ wsL_law := mr_14 (List.mem_of_getElem? (i := 11) rfl)
theorem w_se_RX3_yX3_behindEnd_yX3_behindEnd : Cond.selects RX3 yX3_behindEnd yX3_behindEnd ∈ wsL_law := mr_14 (List.mem_of_getElem? (i := 12) rfl)
theorem w_co_yX3_behindEnd_cX3_behindEnd_2_some_int : Cond.code yX3_behindEnd cX3_behindEnd 2 (some .int) ∈ wsL_law := mr_14 (List.mem_of_getElem? (i := 13) rfl)
theorem w_im_yX3_elsewhere : Cond.instanceMethod yX3_elsewhere ∈ wsL_law := mr_14 (List.mem_of_getElem? (i := 14) rfl)
theorem w_se_RX3_yX3_elsewhere_yX3_elsewhere : Cond.selects RX3 yX3_elsewhere yX3_elsewhere ∈ wsL_law := mr_14 (List.mem_of_getElem? (i := 15) rfl)
theorem w_co_yX3_elsewhere_cX3_elsewhere_2_some_int : Cond.code yX3_elsewhere cX3_elsewhere 2 (some .int) ∈ wsL_law := mr_14 (List.mem_of_getElem? (i := 16) rfl)
theorem w_ml_RX3_49_yX3_secondPart : Cond.methodLink RX3 49 yX3_secondPart ∈ wsL_law := mr_14 (List.mem_of_getElem? (i := 17) rfl)
theorem w_im_yX3_secondPart : Cond.instanceMethod yX3_secondPart ∈ wsL_law := mr_14 (List.mem_of_getElem? (i := 18) rfl)
theorem w_se_RX3_yX3_secondPart_yX3_secondPart : Cond.selects RX3 yX3_secondPart yX3_secondPart ∈ wsL_law := mr_14 (List.mem_of_getElem? (i := 19) rfl)
theorem w_co_yX3_secondPart_cX3_secondPart_2_some_int : Cond.code yX3_secondPart cX3_secondPart 2 (some .int) ∈ wsL_law := mr_14 (List.mem_of_getElem? (i := 20) rfl)
theorem w_ml_RX5_175_yX5_doRetry : Cond.methodLink RX5 175 yX5_doRetry ∈ wsL_law := mr_14 (List.mem_of_getElem? (i := 21) rfl)
theorem w_im_yX5_doRetry : Cond.instanceMethod yX5_doRetry ∈ wsL_law := mr_14 (List.mem_of_getElem? (i := 22) rfl)
theorem w_se_RX5_yX5_doRetry_yX5_doRetry : Cond.selects RX5 yX5_doRetry yX5_doRetry ∈ wsL_law := mr_14 (List.mem_of_getElem? (i := 23) rfl)
theorem w_co_yX5_doRetry_cX5_doRetry_3_some_int : Cond.code yX5_doRetry cX5_doRetry 3 (some .int) ∈ wsL_law := mr_15 (List.mem_of_getElem? (i := 0) rfl)
theorem w_im_yX4_latestFirstPart : Cond.instanceMethod yX4_latestFirstPart ∈ wsL_law := mr_15 (List.mem_of_getElem? (i := 1) rfl)
theorem w_se_RX4_yX4_latestFirstPart_yX4_latestFirstPart : Cond.selects RX4 yX4_latestFirstPart yX4_latestFirstPart ∈ wsL_law := mr_15 (List.mem_of_getElem? (i := 2) rfl)
theorem w_co_yX4_latestFirstPart_cX4_latestFirstPart_3_some_int : Cond.code yX4_latestFirstPart cX4_latestFirstPart 3 (some .int) ∈ wsL_law := mr_15 (List.mem_of_getElem? (i := 3) rfl)
theorem w_ml_RX5_204_yX5_hasStaleReads : Cond.methodLink RX5 204 yX5_hasStaleReads ∈ wsL_law := mr_15 (List.mem_of_getElem? (i := 4) rfl)
theorem w_im_yX5_hasStaleReads : Cond.instanceMethod yX5_hasStaleReads ∈ wsL_law := mr_15 (List.mem_of_getElem? (i := 5) rfl)
theorem w_se_RX5_yX5_hasStaleReads_yX5_hasStaleReads : Cond.selects RX5 yX5_hasStaleReads yX5_hasStaleReads ∈ wsL_law := mr_15 (List.mem_of_getElem? (i := 6) rfl)
theorem w_co_yX5_hasStaleReads_cX5_hasStaleReads_2_some_boolean : Cond.code yX5_hasStaleReads cX5_hasStaleReads 2 (some .boolean) ∈ wsL_law := mr_15 (List.mem_of_getElem? (i := 7) rfl)
theorem w_im_yX4_park : Cond.instanceMethod yX4_park ∈ wsL_law := mr_15 (List.mem_of_getElem? (i := 8) rfl)
theorem w_se_RX4_yX4_park_yX4_park : Cond.selects RX4 yX4_park yX4_park ∈ wsL_law := mr_15 (List.mem_of_getElem? (i := 9) rfl)
theorem w_co_yX4_park_cX4_park_2_some_int : Cond.code yX4_park cX4_park 2 (some .int) ∈ wsL_law := mr_15 (List.mem_of_getElem? (i := 10) rfl)
theorem w_ml_RX5_178_yX5_doThrow : Cond.methodLink RX5 178 yX5_doThrow ∈ wsL_law := mr_15 (List.mem_of_getElem? (i := 11) rfl)
theorem w_im_yX5_doThrow : Cond.instanceMethod yX5_doThrow ∈ wsL_law := mr_15 (List.mem_of_getElem? (i := 12) rfl)
theorem w_se_RX5_yX5_doThrow_yX5_doThrow : Cond.selects RX5 yX5_doThrow yX5_doThrow ∈ wsL_law := mr_15 (List.mem_of_getElem? (i := 13) rfl)
theorem w_co_yX5_doThrow_cX5_doThrow_4_some_int : Cond.code yX5_doThrow cX5_doThrow 4 (some .int) ∈ wsL_law := mr_15 (List.mem_of_getElem? (i := 14) rfl)
theorem w_im_yX4_fail : Cond.instanceMethod yX4_fail ∈ wsL_law := mr_15 (List.mem_of_getElem? (i := 15) rfl)
theorem w_se_RX4_yX4_fail_yX4_fail : Cond.selects RX4 yX4_fail yX4_fail ∈ wsL_law := mr_15 (List.mem_of_getElem? (i := 16) rfl)
theorem w_co_yX4_fail_cX4_fail_2_none : Cond.code yX4_fail cX4_fail 2 none ∈ wsL_law := mr_15 (List.mem_of_getElem? (i := 17) rfl)
theorem w_im_yX4_handle : Cond.instanceMethod yX4_handle ∈ wsL_law := mr_15 (List.mem_of_getElem? (i := 18) rfl)
theorem w_se_RX4_yX4_handle_yX4_handle : Cond.selects RX4 yX4_handle yX4_handle ∈ wsL_law := mr_15 (List.mem_of_getElem? (i := 19) rfl)
theorem w_co_yX4_handle_cX4_handle_3_none : Cond.code yX4_handle cX4_handle 3 none ∈ wsL_law := mr_15 (List.mem_of_getElem? (i := 20) rfl)
theorem w_ml_RX5_182_yX5_doEnd : Cond.methodLink RX5 182 yX5_doEnd ∈ wsL_law := mr_15 (List.mem_of_getElem? (i := 21) rfl)
theorem w_im_yX5_doEnd : Cond.instanceMethod yX5_doEnd ∈ wsL_law := mr_15 (List.mem_of_getElem? (i := 22) rfl)
theorem w_se_RX5_yX5_doEnd_yX5_doEnd : Cond.selects RX5 yX5_doEnd yX5_doEnd ∈ wsL_law := mr_15 (List.mem_of_getElem? (i := 23) rfl)
theorem w_co_yX5_doEnd_cX5_doEnd_3_some_int : Cond.code yX5_doEnd cX5_doEnd 3 (some .int) ∈ wsL_law := mr_16 (List.mem_of_getElem? (i := 0) rfl)
theorem w_im_yX3_openerOf : Cond.instanceMethod yX3_openerOf ∈ wsL_law := mr_16 (List.mem_of_getElem? (i := 1) rfl)
theorem w_se_RX3_yX3_openerOf_yX3_openerOf : Cond.selects RX3 yX3_openerOf yX3_openerOf ∈ wsL_law := mr_16 (List.mem_of_getElem? (i := 2) rfl)
theorem w_co_yX3_openerOf_cX3_openerOf_2_some_int : Cond.code yX3_openerOf cX3_openerOf 2 (some .int) ∈ wsL_law := mr_16 (List.mem_of_getElem? (i := 3) rfl)
theorem w_ml_RX5_226_yX5_commit : Cond.methodLink RX5 226 yX5_commit ∈ wsL_law := mr_16 (List.mem_of_getElem? (i := 4) rfl)
theorem w_im_yX5_commit : Cond.instanceMethod yX5_commit ∈ wsL_law := mr_16 (List.mem_of_getElem? (i := 5) rfl)
theorem w_se_RX5_yX5_commit_yX5_commit : Cond.selects RX5 yX5_commit yX5_commit ∈ wsL_law := mr_16 (List.mem_of_getElem? (i := 6) rfl)
theorem w_co_yX5_commit_cX5_commit_4_some_int : Cond.code yX5_commit cX5_commit 4 (some .int) ∈ wsL_law := mr_16 (List.mem_of_getElem? (i := 7) rfl)
theorem w_im_yX1_countCommit : Cond.instanceMethod yX1_countCommit ∈ wsL_law := mr_16 (List.mem_of_getElem? (i := 8) rfl)
theorem w_se_RX1_yX1_countCommit_yX1_countCommit : Cond.selects RX1 yX1_countCommit yX1_countCommit ∈ wsL_law := mr_16 (List.mem_of_getElem? (i := 9) rfl)
theorem w_co_yX1_countCommit_cX1_countCommit_1_none : Cond.code yX1_countCommit cX1_countCommit 1 none ∈ wsL_law := mr_16 (List.mem_of_getElem? (i := 10) rfl)
theorem w_fl_RX1_18_Memory_commitCount_I : Cond.fieldLink RX1 18 "AtomicThreads$Memory" "commitCount" "I" ∈ wsL_law := mr_16 (List.mem_of_getElem? (i := 11) rfl)
theorem w_im_yX1_change : Cond.instanceMethod yX1_change ∈ wsL_law := mr_16 (List.mem_of_getElem? (i := 12) rfl)
theorem w_se_RX1_yX1_change_yX1_change : Cond.selects RX1 yX1_change yX1_change ∈ wsL_law := mr_16 (List.mem_of_getElem? (i := 13) rfl)
theorem w_co_yX1_change_cX1_change_3_none : Cond.code yX1_change cX1_change 3 none ∈ wsL_law := mr_16 (List.mem_of_getElem? (i := 14) rfl)
theorem w_ml_RX5_87_yX5_wake : Cond.methodLink RX5 87 yX5_wake ∈ wsL_law := mr_16 (List.mem_of_getElem? (i := 15) rfl)
theorem w_im_yX5_wake : Cond.instanceMethod yX5_wake ∈ wsL_law := mr_16 (List.mem_of_getElem? (i := 16) rfl)
theorem w_se_RX5_yX5_wake_yX5_wake : Cond.selects RX5 yX5_wake yX5_wake ∈ wsL_law := mr_16 (List.mem_of_getElem? (i := 17) rfl)
theorem w_co_yX5_wake_cX5_wake_3_none : Cond.code yX5_wake cX5_wake 3 none ∈ wsL_law := mr_16 (List.mem_of_getElem? (i := 18) rfl)
theorem w_im_yX4_waitsFor : Cond.instanceMethod yX4_waitsFor ∈ wsL_law := mr_16 (List.mem_of_getElem? (i := 19) rfl)
theorem w_se_RX4_yX4_waitsFor_yX4_waitsFor : Cond.selects RX4 yX4_waitsFor yX4_waitsFor ∈ wsL_law := mr_16 (List.mem_of_getElem? (i := 20) rfl)
theorem w_co_yX4_waitsFor_cX4_waitsFor_2_some_boolean : Cond.code yX4_waitsFor cX4_waitsFor 2 (some .boolean) ∈ wsL_law := mr_16 (List.mem_of_getElem? (i := 21) rfl)
theorem w_im_yX4_wakeUp : Cond.instanceMethod yX4_wakeUp ∈ wsL_law := mr_16 (List.mem_of_getElem? (i := 22) rfl)
theorem w_se_RX4_yX4_wakeUp_yX4_wakeUp : Cond.selects RX4 yX4_wakeUp yX4_wakeUp ∈ wsL_law := mr_16 (List.mem_of_getElem? (i := 23) rfl)
theorem w_co_yX4_wakeUp_cX4_wakeUp_1_none : Cond.code yX4_wakeUp cX4_wakeUp 1 none ∈ wsL_law := mr_17 (List.mem_of_getElem? (i := 0) rfl)
theorem w_ml_RL_40_yX6_step : Cond.methodLink RL 40 yX6_step ∈ wsL_law := mr_17 (List.mem_of_getElem? (i := 1) rfl)
theorem w_im_yX6_step : Cond.instanceMethod yX6_step ∈ wsL_law := mr_17 (List.mem_of_getElem? (i := 2) rfl)
theorem w_se_RX6_yX6_step_yX6_step : Cond.selects RX6 yX6_step yX6_step ∈ wsL_law := mr_17 (List.mem_of_getElem? (i := 3) rfl)
theorem w_co_yX6_step_cX6_step_6_some_int : Cond.code yX6_step cX6_step 6 (some .int) ∈ wsL_law := mr_17 (List.mem_of_getElem? (i := 4) rfl)
theorem w_ml_RX6_160_yX6_access : Cond.methodLink RX6 160 yX6_access ∈ wsL_law := mr_17 (List.mem_of_getElem? (i := 5) rfl)
theorem w_im_yX6_access : Cond.instanceMethod yX6_access ∈ wsL_law := mr_17 (List.mem_of_getElem? (i := 6) rfl)
theorem w_se_RX6_yX6_access_yX6_access : Cond.selects RX6 yX6_access yX6_access ∈ wsL_law := mr_17 (List.mem_of_getElem? (i := 7) rfl)
theorem w_co_yX6_access_cX6_access_7_some_int : Cond.code yX6_access cX6_access 7 (some .int) ∈ wsL_law := mr_17 (List.mem_of_getElem? (i := 8) rfl)
theorem w_ml_RX6_133_yX6_discard : Cond.methodLink RX6 133 yX6_discard ∈ wsL_law := mr_17 (List.mem_of_getElem? (i := 9) rfl)
theorem w_im_yX6_discard : Cond.instanceMethod yX6_discard ∈ wsL_law := mr_17 (List.mem_of_getElem? (i := 10) rfl)
theorem w_se_RX6_yX6_discard_yX6_discard : Cond.selects RX6 yX6_discard yX6_discard ∈ wsL_law := mr_17 (List.mem_of_getElem? (i := 11) rfl)
theorem w_co_yX6_discard_cX6_discard_2_some_int : Cond.code yX6_discard cX6_discard 2 (some .int) ∈ wsL_law := mr_17 (List.mem_of_getElem? (i := 12) rfl)
theorem w_ml_RX6_123_yX6_undo : Cond.methodLink RX6 123 yX6_undo ∈ wsL_law := mr_17 (List.mem_of_getElem? (i := 13) rfl)
theorem w_im_yX6_undo : Cond.instanceMethod yX6_undo ∈ wsL_law := mr_17 (List.mem_of_getElem? (i := 14) rfl)
theorem w_se_RX6_yX6_undo_yX6_undo : Cond.selects RX6 yX6_undo yX6_undo ∈ wsL_law := mr_17 (List.mem_of_getElem? (i := 15) rfl)
theorem w_co_yX6_undo_cX6_undo_3_none : Cond.code yX6_undo cX6_undo 3 none ∈ wsL_law := mr_17 (List.mem_of_getElem? (i := 16) rfl)
theorem w_ml_RX6_164_yX6_end : Cond.methodLink RX6 164 yX6_end ∈ wsL_law := mr_17 (List.mem_of_getElem? (i := 17) rfl)
theorem w_im_yX6_end : Cond.instanceMethod yX6_end ∈ wsL_law := mr_17 (List.mem_of_getElem? (i := 18) rfl)
theorem w_se_RX6_yX6_end_yX6_end : Cond.selects RX6 yX6_end yX6_end ∈ wsL_law := mr_17 (List.mem_of_getElem? (i := 19) rfl)
theorem w_co_yX6_end_cX6_end_4_some_int : Cond.code yX6_end cX6_end 4 (some .int) ∈ wsL_law := mr_17 (List.mem_of_getElem? (i := 20) rfl)
theorem w_ml_RX6_154_yX6_origin : Cond.methodLink RX6 154 yX6_origin ∈ wsL_law := mr_17 (List.mem_of_getElem? (i := 21) rfl)
theorem w_im_yX6_origin : Cond.instanceMethod yX6_origin ∈ wsL_law := mr_17 (List.mem_of_getElem? (i := 22) rfl)
theorem w_se_RX6_yX6_origin_yX6_origin : Cond.selects RX6 yX6_origin yX6_origin ∈ wsL_law := mr_17 (List.mem_of_getElem? (i := 23) rfl)
theorem w_co_yX6_origin_cX6_origin_6_some_int : Cond.code yX6_origin cX6_origin 6 (some .int) ∈ wsL_law := mr_18 (List.mem_of_getElem? (i := 0) rfl)
theorem w_ml_RX6_157_yX6_commit : Cond.methodLink RX6 157 yX6_commit ∈ wsL_law := mr_18 (List.mem_of_getElem? (i := 1) rfl)
theorem w_im_yX6_commit : Cond.instanceMethod yX6_commit ∈ wsL_law := mr_18 (List.mem_of_getElem? (i := 2) rfl)
theorem w_se_RX6_yX6_commit_yX6_commit : Cond.selects RX6 yX6_commit yX6_commit ∈ wsL_law := mr_18 (List.mem_of_getElem? (i := 3) rfl)
theorem w_co_yX6_commit_cX6_commit_4_some_int : Cond.code yX6_commit cX6_commit 4 (some .int) ∈ wsL_law := mr_18 (List.mem_of_getElem? (i := 4) rfl)
theorem w_fl_RX6_126_AtomicThreadsModel_commits_I : Cond.fieldLink RX6 126 "AtomicThreadsModel" "commits" "I" ∈ wsL_law := mr_18 (List.mem_of_getElem? (i := 5) rfl)
theorem w_ml_RX6_130_yX6_outOfDate : Cond.methodLink RX6 130 yX6_outOfDate ∈ wsL_law := mr_18 (List.mem_of_getElem? (i := 6) rfl)
theorem w_im_yX6_outOfDate : Cond.instanceMethod yX6_outOfDate ∈ wsL_law := mr_18 (List.mem_of_getElem? (i := 7) rfl)
theorem w_se_RX6_yX6_outOfDate_yX6_outOfDate : Cond.selects RX6 yX6_outOfDate yX6_outOfDate ∈ wsL_law := mr_18 (List.mem_of_getElem? (i := 8) rfl)
theorem w_co_yX6_outOfDate_cX6_outOfDate_4_some_boolean : Cond.code yX6_outOfDate cX6_outOfDate 4 (some .boolean) ∈ wsL_law := mr_18 (List.mem_of_getElem? (i := 9) rfl)
theorem w_ml_RX6_136_yX6_changed : Cond.methodLink RX6 136 yX6_changed ∈ wsL_law := mr_18 (List.mem_of_getElem? (i := 10) rfl)
theorem w_im_yX6_changed : Cond.instanceMethod yX6_changed ∈ wsL_law := mr_18 (List.mem_of_getElem? (i := 11) rfl)
theorem w_se_RX6_yX6_changed_yX6_changed : Cond.selects RX6 yX6_changed yX6_changed ∈ wsL_law := mr_18 (List.mem_of_getElem? (i := 12) rfl)
theorem w_co_yX6_changed_cX6_changed_4_none : Cond.code yX6_changed cX6_changed 4 none ∈ wsL_law := mr_18 (List.mem_of_getElem? (i := 13) rfl)
theorem w_ml_RX6_167_yX6_retry : Cond.methodLink RX6 167 yX6_retry ∈ wsL_law := mr_18 (List.mem_of_getElem? (i := 14) rfl)
theorem w_im_yX6_retry : Cond.instanceMethod yX6_retry ∈ wsL_law := mr_18 (List.mem_of_getElem? (i := 15) rfl)
theorem w_se_RX6_yX6_retry_yX6_retry : Cond.selects RX6 yX6_retry yX6_retry ∈ wsL_law := mr_18 (List.mem_of_getElem? (i := 16) rfl)
theorem w_co_yX6_retry_cX6_retry_4_some_int : Cond.code yX6_retry cX6_retry 4 (some .int) ∈ wsL_law := mr_18 (List.mem_of_getElem? (i := 17) rfl)
theorem w_ml_RX6_143_yX6_latest : Cond.methodLink RX6 143 yX6_latest ∈ wsL_law := mr_18 (List.mem_of_getElem? (i := 18) rfl)
theorem w_im_yX6_latest : Cond.instanceMethod yX6_latest ∈ wsL_law := mr_18 (List.mem_of_getElem? (i := 19) rfl)
theorem w_se_RX6_yX6_latest_yX6_latest : Cond.selects RX6 yX6_latest yX6_latest ∈ wsL_law := mr_18 (List.mem_of_getElem? (i := 20) rfl)
theorem w_co_yX6_latest_cX6_latest_7_some_int : Cond.code yX6_latest cX6_latest 7 (some .int) ∈ wsL_law := mr_18 (List.mem_of_getElem? (i := 21) rfl)
theorem w_ml_RX6_147_yX6_back : Cond.methodLink RX6 147 yX6_back ∈ wsL_law := mr_18 (List.mem_of_getElem? (i := 22) rfl)
theorem w_im_yX6_back : Cond.instanceMethod yX6_back ∈ wsL_law := mr_18 (List.mem_of_getElem? (i := 23) rfl)
theorem w_se_RX6_yX6_back_yX6_back : Cond.selects RX6 yX6_back yX6_back ∈ wsL_law := mr_19 (List.mem_of_getElem? (i := 0) rfl)
theorem w_co_yX6_back_cX6_back_5_some_int : Cond.code yX6_back cX6_back 5 (some .int) ∈ wsL_law := mr_19 (List.mem_of_getElem? (i := 1) rfl)
theorem w_ml_RX6_139_yX6_partner : Cond.methodLink RX6 139 yX6_partner ∈ wsL_law := mr_19 (List.mem_of_getElem? (i := 2) rfl)
theorem w_im_yX6_partner : Cond.instanceMethod yX6_partner ∈ wsL_law := mr_19 (List.mem_of_getElem? (i := 3) rfl)
theorem w_se_RX6_yX6_partner_yX6_partner : Cond.selects RX6 yX6_partner yX6_partner ∈ wsL_law := mr_19 (List.mem_of_getElem? (i := 4) rfl)
theorem w_co_yX6_partner_cX6_partner_7_some_int : Cond.code yX6_partner cX6_partner 7 (some .int) ∈ wsL_law := mr_19 (List.mem_of_getElem? (i := 5) rfl)
theorem w_ml_RX6_170_yX6_toss : Cond.methodLink RX6 170 yX6_toss ∈ wsL_law := mr_19 (List.mem_of_getElem? (i := 6) rfl)
theorem w_im_yX6_toss : Cond.instanceMethod yX6_toss ∈ wsL_law := mr_19 (List.mem_of_getElem? (i := 7) rfl)
theorem w_se_RX6_yX6_toss_yX6_toss : Cond.selects RX6 yX6_toss yX6_toss ∈ wsL_law := mr_19 (List.mem_of_getElem? (i := 8) rfl)
theorem w_co_yX6_toss_cX6_toss_5_some_int : Cond.code yX6_toss cX6_toss 5 (some .int) ∈ wsL_law := mr_19 (List.mem_of_getElem? (i := 9) rfl)
theorem w_ml_RX6_173_yX6_begin : Cond.methodLink RX6 173 yX6_begin ∈ wsL_law := mr_19 (List.mem_of_getElem? (i := 10) rfl)
theorem w_im_yX6_begin : Cond.instanceMethod yX6_begin ∈ wsL_law := mr_19 (List.mem_of_getElem? (i := 11) rfl)
theorem w_se_RX6_yX6_begin_yX6_begin : Cond.selects RX6 yX6_begin yX6_begin ∈ wsL_law := mr_19 (List.mem_of_getElem? (i := 12) rfl)
theorem w_co_yX6_begin_cX6_begin_3_none : Cond.code yX6_begin cX6_begin 3 none ∈ wsL_law := mr_19 (List.mem_of_getElem? (i := 13) rfl)
theorem w_ml_RX6_176_yX6_beginPart : Cond.methodLink RX6 176 yX6_beginPart ∈ wsL_law := mr_19 (List.mem_of_getElem? (i := 14) rfl)
theorem w_im_yX6_beginPart : Cond.instanceMethod yX6_beginPart ∈ wsL_law := mr_19 (List.mem_of_getElem? (i := 15) rfl)
theorem w_se_RX6_yX6_beginPart_yX6_beginPart : Cond.selects RX6 yX6_beginPart yX6_beginPart ∈ wsL_law := mr_19 (List.mem_of_getElem? (i := 16) rfl)
theorem w_co_yX6_beginPart_cX6_beginPart_4_none : Cond.code yX6_beginPart cX6_beginPart 4 none ∈ wsL_law := mr_19 (List.mem_of_getElem? (i := 17) rfl)
theorem w_ml_RX6_179_yX6_branch : Cond.methodLink RX6 179 yX6_branch ∈ wsL_law := mr_19 (List.mem_of_getElem? (i := 18) rfl)
theorem w_im_yX6_branch : Cond.instanceMethod yX6_branch ∈ wsL_law := mr_19 (List.mem_of_getElem? (i := 19) rfl)
theorem w_se_RX6_yX6_branch_yX6_branch : Cond.selects RX6 yX6_branch yX6_branch ∈ wsL_law := mr_19 (List.mem_of_getElem? (i := 20) rfl)
theorem w_co_yX6_branch_cX6_branch_6_none : Cond.code yX6_branch cX6_branch 6 none ∈ wsL_law := mr_19 (List.mem_of_getElem? (i := 21) rfl)
theorem w_ml_RX6_183_yX6_plain : Cond.methodLink RX6 183 yX6_plain ∈ wsL_law := mr_19 (List.mem_of_getElem? (i := 22) rfl)
theorem w_im_yX6_plain : Cond.instanceMethod yX6_plain ∈ wsL_law := mr_19 (List.mem_of_getElem? (i := 23) rfl)
theorem w_se_RX6_yX6_plain_yX6_plain : Cond.selects RX6 yX6_plain yX6_plain ∈ wsL_law := mr_20 (List.mem_of_getElem? (i := 0) rfl)
theorem w_co_yX6_plain_cX6_plain_6_none : Cond.code yX6_plain cX6_plain 6 none ∈ wsL_law := mr_20 (List.mem_of_getElem? (i := 1) rfl)
theorem w_fl_RX6_151_AtomicThreadsModel_prints_I : Cond.fieldLink RX6 151 "AtomicThreadsModel" "prints" "I" ∈ wsL_law := mr_20 (List.mem_of_getElem? (i := 2) rfl)
theorem w_ml_RL_41_yX5_run : Cond.methodLink RL 41 yX5_run ∈ wsL_law := mr_20 (List.mem_of_getElem? (i := 3) rfl)
theorem w_im_yX5_run : Cond.instanceMethod yX5_run ∈ wsL_law := mr_20 (List.mem_of_getElem? (i := 4) rfl)
theorem w_se_RX5_yX5_run_yX5_run : Cond.selects RX5 yX5_run yX5_run ∈ wsL_law := mr_20 (List.mem_of_getElem? (i := 5) rfl)
theorem w_co_yX5_run_cX5_run_6_some_int : Cond.code yX5_run cX5_run 6 (some .int) ∈ wsL_law := mr_20 (List.mem_of_getElem? (i := 6) rfl)
theorem w_ml_RL_45_yX6_run : Cond.methodLink RL 45 yX6_run ∈ wsL_law := mr_20 (List.mem_of_getElem? (i := 7) rfl)
theorem w_im_yX6_run : Cond.instanceMethod yX6_run ∈ wsL_law := mr_20 (List.mem_of_getElem? (i := 8) rfl)
theorem w_se_RX6_yX6_run_yX6_run : Cond.selects RX6 yX6_run yX6_run ∈ wsL_law := mr_20 (List.mem_of_getElem? (i := 9) rfl)
theorem w_co_yX6_run_cX6_run_6_some_int : Cond.code yX6_run cX6_run 6 (some .int) ∈ wsL_law := mr_20 (List.mem_of_getElem? (i := 10) rfl)
theorem w_ml_RX6_187_yX6_step : Cond.methodLink RX6 187 yX6_step ∈ wsL_law := mr_20 (List.mem_of_getElem? (i := 11) rfl)
theorem w_ml_RL_46_yX5_put : Cond.methodLink RL 46 yX5_put ∈ wsL_law := mr_20 (List.mem_of_getElem? (i := 12) rfl)
theorem w_im_yX5_put : Cond.instanceMethod yX5_put ∈ wsL_law := mr_20 (List.mem_of_getElem? (i := 13) rfl)
theorem w_se_RX5_yX5_put_yX5_put : Cond.selects RX5 yX5_put yX5_put ∈ wsL_law := mr_20 (List.mem_of_getElem? (i := 14) rfl)
theorem w_co_yX5_put_cX5_put_3_some_boolean : Cond.code yX5_put cX5_put 3 (some .boolean) ∈ wsL_law := mr_20 (List.mem_of_getElem? (i := 15) rfl)
theorem w_ml_RL_49_yX6_put : Cond.methodLink RL 49 yX6_put ∈ wsL_law := mr_20 (List.mem_of_getElem? (i := 16) rfl)
theorem w_im_yX6_put : Cond.instanceMethod yX6_put ∈ wsL_law := mr_20 (List.mem_of_getElem? (i := 17) rfl)
theorem w_se_RX6_yX6_put_yX6_put : Cond.selects RX6 yX6_put yX6_put ∈ wsL_law := mr_20 (List.mem_of_getElem? (i := 18) rfl)
theorem w_co_yX6_put_cX6_put_3_some_boolean : Cond.code yX6_put cX6_put 3 (some .boolean) ∈ wsL_law := mr_20 (List.mem_of_getElem? (i := 19) rfl)
theorem w_ml_RL_50_yX5_value : Cond.methodLink RL 50 yX5_value ∈ wsL_law := mr_20 (List.mem_of_getElem? (i := 20) rfl)
theorem w_im_yX5_value : Cond.instanceMethod yX5_value ∈ wsL_law := mr_20 (List.mem_of_getElem? (i := 21) rfl)
theorem w_se_RX5_yX5_value_yX5_value : Cond.selects RX5 yX5_value yX5_value ∈ wsL_law := mr_20 (List.mem_of_getElem? (i := 22) rfl)
theorem w_co_yX5_value_cX5_value_2_some_int : Cond.code yX5_value cX5_value 2 (some .int) ∈ wsL_law := mr_20 (List.mem_of_getElem? (i := 23) rfl)
theorem w_ml_RL_53_yX6_value : Cond.methodLink RL 53 yX6_value ∈ wsL_law := mr_21 (List.mem_of_getElem? (i := 0) rfl)
theorem w_im_yX6_value : Cond.instanceMethod yX6_value ∈ wsL_law := mr_21 (List.mem_of_getElem? (i := 1) rfl)
theorem w_se_RX6_yX6_value_yX6_value : Cond.selects RX6 yX6_value yX6_value ∈ wsL_law := mr_21 (List.mem_of_getElem? (i := 2) rfl)
theorem w_co_yX6_value_cX6_value_2_some_int : Cond.code yX6_value cX6_value 2 (some .int) ∈ wsL_law := mr_21 (List.mem_of_getElem? (i := 3) rfl)
theorem w_ml_RL_54_yX5_version : Cond.methodLink RL 54 yX5_version ∈ wsL_law := mr_21 (List.mem_of_getElem? (i := 4) rfl)
theorem w_im_yX5_version : Cond.instanceMethod yX5_version ∈ wsL_law := mr_21 (List.mem_of_getElem? (i := 5) rfl)
theorem w_se_RX5_yX5_version_yX5_version : Cond.selects RX5 yX5_version yX5_version ∈ wsL_law := mr_21 (List.mem_of_getElem? (i := 6) rfl)
theorem w_co_yX5_version_cX5_version_2_some_int : Cond.code yX5_version cX5_version 2 (some .int) ∈ wsL_law := mr_21 (List.mem_of_getElem? (i := 7) rfl)
theorem w_ml_RL_57_yX6_version : Cond.methodLink RL 57 yX6_version ∈ wsL_law := mr_21 (List.mem_of_getElem? (i := 8) rfl)
theorem w_im_yX6_version : Cond.instanceMethod yX6_version ∈ wsL_law := mr_21 (List.mem_of_getElem? (i := 9) rfl)
theorem w_se_RX6_yX6_version_yX6_version : Cond.selects RX6 yX6_version yX6_version ∈ wsL_law := mr_21 (List.mem_of_getElem? (i := 10) rfl)
theorem w_co_yX6_version_cX6_version_2_some_int : Cond.code yX6_version cX6_version 2 (some .int) ∈ wsL_law := mr_21 (List.mem_of_getElem? (i := 11) rfl)
theorem w_ml_RL_58_yX5_commits : Cond.methodLink RL 58 yX5_commits ∈ wsL_law := mr_21 (List.mem_of_getElem? (i := 12) rfl)
theorem w_im_yX5_commits : Cond.instanceMethod yX5_commits ∈ wsL_law := mr_21 (List.mem_of_getElem? (i := 13) rfl)
theorem w_se_RX5_yX5_commits_yX5_commits : Cond.selects RX5 yX5_commits yX5_commits ∈ wsL_law := mr_21 (List.mem_of_getElem? (i := 14) rfl)
theorem w_co_yX5_commits_cX5_commits_1_some_int : Cond.code yX5_commits cX5_commits 1 (some .int) ∈ wsL_law := mr_21 (List.mem_of_getElem? (i := 15) rfl)
theorem w_ml_RL_62_yX6_commits : Cond.methodLink RL 62 yX6_commits ∈ wsL_law := mr_21 (List.mem_of_getElem? (i := 16) rfl)
theorem w_im_yX6_commits : Cond.instanceMethod yX6_commits ∈ wsL_law := mr_21 (List.mem_of_getElem? (i := 17) rfl)
theorem w_se_RX6_yX6_commits_yX6_commits : Cond.selects RX6 yX6_commits yX6_commits ∈ wsL_law := mr_21 (List.mem_of_getElem? (i := 18) rfl)
theorem w_co_yX6_commits_cX6_commits_1_some_int : Cond.code yX6_commits cX6_commits 1 (some .int) ∈ wsL_law := mr_21 (List.mem_of_getElem? (i := 19) rfl)
theorem w_ml_RL_63_yX5_state : Cond.methodLink RL 63 yX5_state ∈ wsL_law := mr_21 (List.mem_of_getElem? (i := 20) rfl)
theorem w_im_yX5_state : Cond.instanceMethod yX5_state ∈ wsL_law := mr_21 (List.mem_of_getElem? (i := 21) rfl)
theorem w_se_RX5_yX5_state_yX5_state : Cond.selects RX5 yX5_state yX5_state ∈ wsL_law := mr_21 (List.mem_of_getElem? (i := 22) rfl)
theorem w_co_yX5_state_cX5_state_3_some_int : Cond.code yX5_state cX5_state 3 (some .int) ∈ wsL_law := mr_21 (List.mem_of_getElem? (i := 23) rfl)
theorem w_ml_RL_66_yX6_state : Cond.methodLink RL 66 yX6_state ∈ wsL_law := mr_22 (List.mem_of_getElem? (i := 0) rfl)
theorem w_im_yX6_state : Cond.instanceMethod yX6_state ∈ wsL_law := mr_22 (List.mem_of_getElem? (i := 1) rfl)
theorem w_se_RX6_yX6_state_yX6_state : Cond.selects RX6 yX6_state yX6_state ∈ wsL_law := mr_22 (List.mem_of_getElem? (i := 2) rfl)
theorem w_co_yX6_state_cX6_state_2_some_int : Cond.code yX6_state cX6_state 2 (some .int) ∈ wsL_law := mr_22 (List.mem_of_getElem? (i := 3) rfl)
theorem w_ml_RL_67_yX5_place : Cond.methodLink RL 67 yX5_place ∈ wsL_law := mr_22 (List.mem_of_getElem? (i := 4) rfl)
theorem w_im_yX5_place : Cond.instanceMethod yX5_place ∈ wsL_law := mr_22 (List.mem_of_getElem? (i := 5) rfl)
theorem w_se_RX5_yX5_place_yX5_place : Cond.selects RX5 yX5_place yX5_place ∈ wsL_law := mr_22 (List.mem_of_getElem? (i := 6) rfl)
theorem w_co_yX5_place_cX5_place_3_some_int : Cond.code yX5_place cX5_place 3 (some .int) ∈ wsL_law := mr_22 (List.mem_of_getElem? (i := 7) rfl)
theorem w_ml_RL_70_yX6_place : Cond.methodLink RL 70 yX6_place ∈ wsL_law := mr_22 (List.mem_of_getElem? (i := 8) rfl)
theorem w_im_yX6_place : Cond.instanceMethod yX6_place ∈ wsL_law := mr_22 (List.mem_of_getElem? (i := 9) rfl)
theorem w_se_RX6_yX6_place_yX6_place : Cond.selects RX6 yX6_place yX6_place ∈ wsL_law := mr_22 (List.mem_of_getElem? (i := 10) rfl)
theorem w_co_yX6_place_cX6_place_2_some_int : Cond.code yX6_place cX6_place 2 (some .int) ∈ wsL_law := mr_22 (List.mem_of_getElem? (i := 11) rfl)
theorem w_ml_RL_71_yX5_register : Cond.methodLink RL 71 yX5_register ∈ wsL_law := mr_22 (List.mem_of_getElem? (i := 12) rfl)
theorem w_im_yX5_register : Cond.instanceMethod yX5_register ∈ wsL_law := mr_22 (List.mem_of_getElem? (i := 13) rfl)
theorem w_se_RX5_yX5_register_yX5_register : Cond.selects RX5 yX5_register yX5_register ∈ wsL_law := mr_22 (List.mem_of_getElem? (i := 14) rfl)
theorem w_co_yX5_register_cX5_register_4_some_int : Cond.code yX5_register cX5_register 4 (some .int) ∈ wsL_law := mr_22 (List.mem_of_getElem? (i := 15) rfl)
theorem w_ml_RL_74_yX6_register : Cond.methodLink RL 74 yX6_register ∈ wsL_law := mr_22 (List.mem_of_getElem? (i := 16) rfl)
theorem w_im_yX6_register : Cond.instanceMethod yX6_register ∈ wsL_law := mr_22 (List.mem_of_getElem? (i := 17) rfl)
theorem w_se_RX6_yX6_register_yX6_register : Cond.selects RX6 yX6_register yX6_register ∈ wsL_law := mr_22 (List.mem_of_getElem? (i := 18) rfl)
theorem w_co_yX6_register_cX6_register_3_some_int : Cond.code yX6_register cX6_register 3 (some .int) ∈ wsL_law := mr_22 (List.mem_of_getElem? (i := 19) rfl)
theorem w_ml_RL_75_yX5_sees : Cond.methodLink RL 75 yX5_sees ∈ wsL_law := mr_22 (List.mem_of_getElem? (i := 20) rfl)
theorem w_im_yX5_sees : Cond.instanceMethod yX5_sees ∈ wsL_law := mr_22 (List.mem_of_getElem? (i := 21) rfl)
theorem w_se_RX5_yX5_sees_yX5_sees : Cond.selects RX5 yX5_sees yX5_sees ∈ wsL_law := mr_22 (List.mem_of_getElem? (i := 22) rfl)
theorem w_co_yX5_sees_cX5_sees_4_some_int : Cond.code yX5_sees cX5_sees 4 (some .int) ∈ wsL_law := mr_22 (List.mem_of_getElem? (i := 23) rfl)
theorem w_ml_RL_78_yX6_sees : Cond.methodLink RL 78 yX6_sees ∈ wsL_law := mr_23 (List.mem_of_getElem? (i := 0) rfl)
theorem w_im_yX6_sees : Cond.instanceMethod yX6_sees ∈ wsL_law := mr_23 (List.mem_of_getElem? (i := 1) rfl)
theorem w_se_RX6_yX6_sees_yX6_sees : Cond.selects RX6 yX6_sees yX6_sees ∈ wsL_law := mr_23 (List.mem_of_getElem? (i := 2) rfl)
theorem w_co_yX6_sees_cX6_sees_3_some_int : Cond.code yX6_sees cX6_sees 3 (some .int) ∈ wsL_law := mr_23 (List.mem_of_getElem? (i := 3) rfl)
theorem w_ml_RL_79_yX5_log : Cond.methodLink RL 79 yX5_log ∈ wsL_law := mr_23 (List.mem_of_getElem? (i := 4) rfl)
theorem w_im_yX5_log : Cond.instanceMethod yX5_log ∈ wsL_law := mr_23 (List.mem_of_getElem? (i := 5) rfl)
theorem w_se_RX5_yX5_log_yX5_log : Cond.selects RX5 yX5_log yX5_log ∈ wsL_law := mr_23 (List.mem_of_getElem? (i := 6) rfl)
theorem w_co_yX5_log_cX5_log_3_some_int : Cond.code yX5_log cX5_log 3 (some .int) ∈ wsL_law := mr_23 (List.mem_of_getElem? (i := 7) rfl)
theorem w_ml_RL_82_yX6_log : Cond.methodLink RL 82 yX6_log ∈ wsL_law := mr_23 (List.mem_of_getElem? (i := 8) rfl)
theorem w_im_yX6_log : Cond.instanceMethod yX6_log ∈ wsL_law := mr_23 (List.mem_of_getElem? (i := 9) rfl)
theorem w_se_RX6_yX6_log_yX6_log : Cond.selects RX6 yX6_log yX6_log ∈ wsL_law := mr_23 (List.mem_of_getElem? (i := 10) rfl)
theorem w_co_yX6_log_cX6_log_4_some_int : Cond.code yX6_log cX6_log 4 (some .int) ∈ wsL_law := mr_23 (List.mem_of_getElem? (i := 11) rfl)
theorem w_ml_RL_83_yX5_waiting : Cond.methodLink RL 83 yX5_waiting ∈ wsL_law := mr_23 (List.mem_of_getElem? (i := 12) rfl)
theorem w_im_yX5_waiting : Cond.instanceMethod yX5_waiting ∈ wsL_law := mr_23 (List.mem_of_getElem? (i := 13) rfl)
theorem w_se_RX5_yX5_waiting_yX5_waiting : Cond.selects RX5 yX5_waiting yX5_waiting ∈ wsL_law := mr_23 (List.mem_of_getElem? (i := 14) rfl)
theorem w_co_yX5_waiting_cX5_waiting_4_some_int : Cond.code yX5_waiting cX5_waiting 4 (some .int) ∈ wsL_law := mr_23 (List.mem_of_getElem? (i := 15) rfl)
theorem w_ml_RL_86_yX6_waiting : Cond.methodLink RL 86 yX6_waiting ∈ wsL_law := mr_23 (List.mem_of_getElem? (i := 16) rfl)
theorem w_im_yX6_waiting : Cond.instanceMethod yX6_waiting ∈ wsL_law := mr_23 (List.mem_of_getElem? (i := 17) rfl)
theorem w_se_RX6_yX6_waiting_yX6_waiting : Cond.selects RX6 yX6_waiting yX6_waiting ∈ wsL_law := mr_23 (List.mem_of_getElem? (i := 18) rfl)
theorem w_co_yX6_waiting_cX6_waiting_4_some_int : Cond.code yX6_waiting cX6_waiting 4 (some .int) ∈ wsL_law := mr_23 (List.mem_of_getElem? (i := 19) rfl)
theorem w_ml_RL_87_yX5_discards : Cond.methodLink RL 87 yX5_discards ∈ wsL_law := mr_23 (List.mem_of_getElem? (i := 20) rfl)
theorem w_im_yX5_discards : Cond.instanceMethod yX5_discards ∈ wsL_law := mr_23 (List.mem_of_getElem? (i := 21) rfl)
theorem w_se_RX5_yX5_discards_yX5_discards : Cond.selects RX5 yX5_discards yX5_discards ∈ wsL_law := mr_23 (List.mem_of_getElem? (i := 22) rfl)
theorem w_co_yX5_discards_cX5_discards_3_some_int : Cond.code yX5_discards cX5_discards 3 (some .int) ∈ wsL_law := mr_23 (List.mem_of_getElem? (i := 23) rfl)
theorem w_ml_RL_90_yX6_discards : Cond.methodLink RL 90 yX6_discards ∈ wsL_law := mr_24 (List.mem_of_getElem? (i := 0) rfl)
theorem w_im_yX6_discards : Cond.instanceMethod yX6_discards ∈ wsL_law := mr_24 (List.mem_of_getElem? (i := 1) rfl)
theorem w_se_RX6_yX6_discards_yX6_discards : Cond.selects RX6 yX6_discards yX6_discards ∈ wsL_law := mr_24 (List.mem_of_getElem? (i := 2) rfl)
theorem w_co_yX6_discards_cX6_discards_2_some_int : Cond.code yX6_discards cX6_discards 2 (some .int) ∈ wsL_law := mr_24 (List.mem_of_getElem? (i := 3) rfl)
theorem w_ml_RL_91_yX5_outcome : Cond.methodLink RL 91 yX5_outcome ∈ wsL_law := mr_24 (List.mem_of_getElem? (i := 4) rfl)
theorem w_im_yX5_outcome : Cond.instanceMethod yX5_outcome ∈ wsL_law := mr_24 (List.mem_of_getElem? (i := 5) rfl)
theorem w_se_RX5_yX5_outcome_yX5_outcome : Cond.selects RX5 yX5_outcome yX5_outcome ∈ wsL_law := mr_24 (List.mem_of_getElem? (i := 6) rfl)
theorem w_co_yX5_outcome_cX5_outcome_3_some_int : Cond.code yX5_outcome cX5_outcome 3 (some .int) ∈ wsL_law := mr_24 (List.mem_of_getElem? (i := 7) rfl)
theorem w_ml_RL_94_yX6_outcome : Cond.methodLink RL 94 yX6_outcome ∈ wsL_law := mr_24 (List.mem_of_getElem? (i := 8) rfl)
theorem w_im_yX6_outcome : Cond.instanceMethod yX6_outcome ∈ wsL_law := mr_24 (List.mem_of_getElem? (i := 9) rfl)
theorem w_se_RX6_yX6_outcome_yX6_outcome : Cond.selects RX6 yX6_outcome yX6_outcome ∈ wsL_law := mr_24 (List.mem_of_getElem? (i := 10) rfl)
theorem w_co_yX6_outcome_cX6_outcome_4_some_int : Cond.code yX6_outcome cX6_outcome 4 (some .int) ∈ wsL_law := mr_24 (List.mem_of_getElem? (i := 11) rfl)
theorem w_ml_RL_95_yX5_printed : Cond.methodLink RL 95 yX5_printed ∈ wsL_law := mr_24 (List.mem_of_getElem? (i := 12) rfl)
theorem w_im_yX5_printed : Cond.instanceMethod yX5_printed ∈ wsL_law := mr_24 (List.mem_of_getElem? (i := 13) rfl)
theorem w_se_RX5_yX5_printed_yX5_printed : Cond.selects RX5 yX5_printed yX5_printed ∈ wsL_law := mr_24 (List.mem_of_getElem? (i := 14) rfl)
theorem w_co_yX5_printed_cX5_printed_2_some_int : Cond.code yX5_printed cX5_printed 2 (some .int) ∈ wsL_law := mr_24 (List.mem_of_getElem? (i := 15) rfl)
theorem w_im_yX2_latest : Cond.instanceMethod yX2_latest ∈ wsL_law := mr_24 (List.mem_of_getElem? (i := 16) rfl)
theorem w_se_RX2_yX2_latest_yX2_latest : Cond.selects RX2 yX2_latest yX2_latest ∈ wsL_law := mr_24 (List.mem_of_getElem? (i := 17) rfl)
theorem w_co_yX2_latest_cX2_latest_2_some_int : Cond.code yX2_latest cX2_latest 2 (some .int) ∈ wsL_law := mr_24 (List.mem_of_getElem? (i := 18) rfl)
theorem w_ml_RL_98_yX6_printed : Cond.methodLink RL 98 yX6_printed ∈ wsL_law := mr_24 (List.mem_of_getElem? (i := 19) rfl)
theorem w_im_yX6_printed : Cond.instanceMethod yX6_printed ∈ wsL_law := mr_24 (List.mem_of_getElem? (i := 20) rfl)
theorem w_se_RX6_yX6_printed_yX6_printed : Cond.selects RX6 yX6_printed yX6_printed ∈ wsL_law := mr_24 (List.mem_of_getElem? (i := 21) rfl)
theorem w_co_yX6_printed_cX6_printed_2_some_int : Cond.code yX6_printed cX6_printed 2 (some .int) ∈ wsL_law := mr_24 (List.mem_of_getElem? (i := 22) rfl)
theorem tb_1 {w : Cond} (h : w ∈ tables_1_1) : w ∈ lw_tbl := List.mem_append_right _ (show w ∈ tables_1_1 ++ (tables_1_2 ++ (tables_1_3 ++ tables_1_4)) from List.mem_append_left _ h)
theorem tb_2 {w : Cond} (h : w ∈ tables_1_2) : w ∈ lw_tbl := List.mem_append_right _ (show w ∈ tables_1_1 ++ (tables_1_2 ++ (tables_1_3 ++ tables_1_4)) from List.mem_append_right _ (List.mem_append_left _ h))
theorem tb_3 {w : Cond} (h : w ∈ tables_1_3) : w ∈ lw_tbl := List.mem_append_right _ (show w ∈ tables_1_1 ++ (tables_1_2 ++ (tables_1_3 ++ tables_1_4)) from List.mem_append_right _ (List.mem_append_right _ (List.mem_append_left _ h)))
theorem tb_4 {w : Cond} (h : w ∈ tables_1_4) : w ∈ lw_tbl := List.mem_append_right _ (show w ∈ tables_1_1 ++ (tables_1_2 ++ (tables_1_3 ++ tables_1_4)) from List.mem_append_right _ (List.mem_append_right _ (List.mem_append_right _ (h))))
theorem pv_1 {y : MethodName} {n : Nat} (h : (y, n) ∈ lw_privs_1) : Cond.selects y.cls y y ∈ lw_tbl := List.mem_append_left _ (List.mem_map.mpr ⟨(y, n), (show (y, n) ∈ lw_privs_1 ++ (lw_privs_2 ++ (lw_privs_3 ++ (lw_privs_4 ++ lw_privs_5))) from List.mem_append_left _ h), rfl⟩)
theorem pv_2 {y : MethodName} {n : Nat} (h : (y, n) ∈ lw_privs_2) : Cond.selects y.cls y y ∈ lw_tbl := List.mem_append_left _ (List.mem_map.mpr ⟨(y, n), (show (y, n) ∈ lw_privs_1 ++ (lw_privs_2 ++ (lw_privs_3 ++ (lw_privs_4 ++ lw_privs_5))) from List.mem_append_right _ (List.mem_append_left _ h)), rfl⟩)
theorem pv_3 {y : MethodName} {n : Nat} (h : (y, n) ∈ lw_privs_3) : Cond.selects y.cls y y ∈ lw_tbl := List.mem_append_left _ (List.mem_map.mpr ⟨(y, n), (show (y, n) ∈ lw_privs_1 ++ (lw_privs_2 ++ (lw_privs_3 ++ (lw_privs_4 ++ lw_privs_5))) from List.mem_append_right _ (List.mem_append_right _ (List.mem_append_left _ h))), rfl⟩)
theorem pv_4 {y : MethodName} {n : Nat} (h : (y, n) ∈ lw_privs_4) : Cond.selects y.cls y y ∈ lw_tbl := List.mem_append_left _ (List.mem_map.mpr ⟨(y, n), (show (y, n) ∈ lw_privs_1 ++ (lw_privs_2 ++ (lw_privs_3 ++ (lw_privs_4 ++ lw_privs_5))) from List.mem_append_right _ (List.mem_append_right _ (List.mem_append_right _ (List.mem_append_left _ h)))), rfl⟩)
theorem pv_5 {y : MethodName} {n : Nat} (h : (y, n) ∈ lw_privs_5) : Cond.selects y.cls y y ∈ lw_tbl := List.mem_append_left _ (List.mem_map.mpr ⟨(y, n), (show (y, n) ∈ lw_privs_1 ++ (lw_privs_2 ++ (lw_privs_3 ++ (lw_privs_4 ++ lw_privs_5))) from List.mem_append_right _ (List.mem_append_right _ (List.mem_append_right _ (List.mem_append_right _ (h))))), rfl⟩)
theorem ri_1 : ∀ w ∈ wsL_law_r1, w ∈ lw_tbl := List.forall_mem_cons.mpr ⟨tb_1 (List.mem_of_getElem? (i := 10) rfl), List.forall_mem_cons.mpr ⟨tb_1 (List.mem_of_getElem? (i := 11) rfl), List.forall_mem_cons.mpr ⟨tb_1 (List.mem_of_getElem? (i := 1) rfl), List.forall_mem_cons.mpr ⟨tb_3 (List.mem_of_getElem? (i := 23) rfl), List.forall_mem_cons.mpr ⟨tb_3 (List.mem_of_getElem? (i := 24) rfl), List.forall_mem_cons.mpr ⟨tb_1 (List.mem_of_getElem? (i := 7) rfl), List.forall_mem_cons.mpr ⟨tb_1 (List.mem_of_getElem? (i := 12) rfl), List.forall_mem_cons.mpr ⟨tb_1 (List.mem_of_getElem? (i := 13) rfl), List.forall_mem_cons.mpr ⟨tb_1 (List.mem_of_getElem? (i := 14) rfl), List.forall_mem_cons.mpr ⟨tb_1 (List.mem_of_getElem? (i := 15) rfl), List.forall_mem_cons.mpr ⟨tb_1 (List.mem_of_getElem? (i := 16) rfl), List.forall_mem_cons.mpr ⟨tb_1 (List.mem_of_getElem? (i := 17) rfl), List.forall_mem_cons.mpr ⟨tb_1 (List.mem_of_getElem? (i := 18) rfl), List.forall_mem_cons.mpr ⟨tb_1 (List.mem_of_getElem? (i := 19) rfl), List.forall_mem_cons.mpr ⟨tb_1 (List.mem_of_getElem? (i := 2) rfl), List.forall_mem_cons.mpr ⟨tb_1 (List.mem_of_getElem? (i := 162) rfl), List.forall_mem_cons.mpr ⟨tb_1 (List.mem_of_getElem? (i := 38) rfl), List.forall_mem_cons.mpr ⟨tb_1 (List.mem_of_getElem? (i := 39) rfl), List.forall_mem_cons.mpr ⟨tb_1 (List.mem_of_getElem? (i := 3) rfl), List.forall_mem_cons.mpr ⟨tb_1 (List.mem_of_getElem? (i := 163) rfl), List.forall_mem_cons.mpr ⟨tb_1 (List.mem_of_getElem? (i := 52) rfl), List.forall_mem_cons.mpr ⟨tb_1 (List.mem_of_getElem? (i := 164) rfl), List.forall_mem_cons.mpr ⟨tb_1 (List.mem_of_getElem? (i := 54) rfl), List.forall_mem_cons.mpr ⟨tb_1 (List.mem_of_getElem? (i := 4) rfl), (fun _ h => absurd h List.not_mem_nil)⟩⟩⟩⟩⟩⟩⟩⟩⟩⟩⟩⟩⟩⟩⟩⟩⟩⟩⟩⟩⟩⟩⟩⟩
theorem ri_2 : ∀ w ∈ wsL_law_r2, w ∈ lw_tbl := List.forall_mem_cons.mpr ⟨tb_1 (List.mem_of_getElem? (i := 21) rfl), List.forall_mem_cons.mpr ⟨tb_1 (List.mem_of_getElem? (i := 22) rfl), List.forall_mem_cons.mpr ⟨tb_1 (List.mem_of_getElem? (i := 23) rfl), List.forall_mem_cons.mpr ⟨tb_1 (List.mem_of_getElem? (i := 37) rfl), List.forall_mem_cons.mpr ⟨tb_1 (List.mem_of_getElem? (i := 24) rfl), List.forall_mem_cons.mpr ⟨tb_1 (List.mem_of_getElem? (i := 26) rfl), List.forall_mem_cons.mpr ⟨tb_1 (List.mem_of_getElem? (i := 41) rfl), List.forall_mem_cons.mpr ⟨tb_1 (List.mem_of_getElem? (i := 42) rfl), List.forall_mem_cons.mpr ⟨tb_1 (List.mem_of_getElem? (i := 43) rfl), List.forall_mem_cons.mpr ⟨tb_1 (List.mem_of_getElem? (i := 44) rfl), List.forall_mem_cons.mpr ⟨tb_1 (List.mem_of_getElem? (i := 56) rfl), List.forall_mem_cons.mpr ⟨tb_1 (List.mem_of_getElem? (i := 57) rfl), List.forall_mem_cons.mpr ⟨tb_1 (List.mem_of_getElem? (i := 58) rfl), List.forall_mem_cons.mpr ⟨tb_1 (List.mem_of_getElem? (i := 59) rfl), List.forall_mem_cons.mpr ⟨tb_1 (List.mem_of_getElem? (i := 60) rfl), List.forall_mem_cons.mpr ⟨tb_1 (List.mem_of_getElem? (i := 5) rfl), List.forall_mem_cons.mpr ⟨tb_1 (List.mem_of_getElem? (i := 117) rfl), List.forall_mem_cons.mpr ⟨tb_1 (List.mem_of_getElem? (i := 119) rfl), List.forall_mem_cons.mpr ⟨tb_1 (List.mem_of_getElem? (i := 120) rfl), List.forall_mem_cons.mpr ⟨tb_1 (List.mem_of_getElem? (i := 95) rfl), List.forall_mem_cons.mpr ⟨tb_1 (List.mem_of_getElem? (i := 122) rfl), List.forall_mem_cons.mpr ⟨tb_1 (List.mem_of_getElem? (i := 124) rfl), List.forall_mem_cons.mpr ⟨tb_1 (List.mem_of_getElem? (i := 131) rfl), List.forall_mem_cons.mpr ⟨tb_1 (List.mem_of_getElem? (i := 97) rfl), (fun _ h => absurd h List.not_mem_nil)⟩⟩⟩⟩⟩⟩⟩⟩⟩⟩⟩⟩⟩⟩⟩⟩⟩⟩⟩⟩⟩⟩⟩⟩
theorem ri_3 : ∀ w ∈ wsL_law_r3, w ∈ lw_tbl := List.forall_mem_cons.mpr ⟨tb_1 (List.mem_of_getElem? (i := 6) rfl), List.forall_mem_cons.mpr ⟨tb_1 (List.mem_of_getElem? (i := 62) rfl), List.forall_mem_cons.mpr ⟨tb_1 (List.mem_of_getElem? (i := 63) rfl), List.forall_mem_cons.mpr ⟨tb_1 (List.mem_of_getElem? (i := 64) rfl), List.forall_mem_cons.mpr ⟨tb_1 (List.mem_of_getElem? (i := 65) rfl), List.forall_mem_cons.mpr ⟨tb_1 (List.mem_of_getElem? (i := 66) rfl), List.forall_mem_cons.mpr ⟨tb_1 (List.mem_of_getElem? (i := 67) rfl), List.forall_mem_cons.mpr ⟨tb_1 (List.mem_of_getElem? (i := 68) rfl), List.forall_mem_cons.mpr ⟨tb_1 (List.mem_of_getElem? (i := 69) rfl), List.forall_mem_cons.mpr ⟨tb_1 (List.mem_of_getElem? (i := 70) rfl), List.forall_mem_cons.mpr ⟨tb_1 (List.mem_of_getElem? (i := 71) rfl), List.forall_mem_cons.mpr ⟨tb_1 (List.mem_of_getElem? (i := 99) rfl), List.forall_mem_cons.mpr ⟨tb_1 (List.mem_of_getElem? (i := 100) rfl), List.forall_mem_cons.mpr ⟨tb_1 (List.mem_of_getElem? (i := 101) rfl), List.forall_mem_cons.mpr ⟨tb_1 (List.mem_of_getElem? (i := 102) rfl), List.forall_mem_cons.mpr ⟨tb_1 (List.mem_of_getElem? (i := 104) rfl), List.forall_mem_cons.mpr ⟨tb_3 (List.mem_of_getElem? (i := 25) rfl), List.forall_mem_cons.mpr ⟨tb_3 (List.mem_of_getElem? (i := 26) rfl), List.forall_mem_cons.mpr ⟨tb_3 (List.mem_of_getElem? (i := 27) rfl), List.forall_mem_cons.mpr ⟨tb_3 (List.mem_of_getElem? (i := 28) rfl), List.forall_mem_cons.mpr ⟨tb_3 (List.mem_of_getElem? (i := 29) rfl), List.forall_mem_cons.mpr ⟨tb_3 (List.mem_of_getElem? (i := 30) rfl), List.forall_mem_cons.mpr ⟨tb_3 (List.mem_of_getElem? (i := 31) rfl), List.forall_mem_cons.mpr ⟨tb_3 (List.mem_of_getElem? (i := 32) rfl), (fun _ h => absurd h List.not_mem_nil)⟩⟩⟩⟩⟩⟩⟩⟩⟩⟩⟩⟩⟩⟩⟩⟩⟩⟩⟩⟩⟩⟩⟩⟩
theorem ri_4 : ∀ w ∈ wsL_law_r4, w ∈ lw_tbl := List.forall_mem_cons.mpr ⟨tb_3 (List.mem_of_getElem? (i := 33) rfl), List.forall_mem_cons.mpr ⟨tb_3 (List.mem_of_getElem? (i := 34) rfl), List.forall_mem_cons.mpr ⟨tb_3 (List.mem_of_getElem? (i := 35) rfl), List.forall_mem_cons.mpr ⟨tb_3 (List.mem_of_getElem? (i := 36) rfl), List.forall_mem_cons.mpr ⟨tb_3 (List.mem_of_getElem? (i := 37) rfl), List.forall_mem_cons.mpr ⟨tb_3 (List.mem_of_getElem? (i := 38) rfl), List.forall_mem_cons.mpr ⟨tb_3 (List.mem_of_getElem? (i := 39) rfl), List.forall_mem_cons.mpr ⟨tb_3 (List.mem_of_getElem? (i := 114) rfl), List.forall_mem_cons.mpr ⟨tb_3 (List.mem_of_getElem? (i := 41) rfl), List.forall_mem_cons.mpr ⟨tb_3 (List.mem_of_getElem? (i := 42) rfl), List.forall_mem_cons.mpr ⟨tb_3 (List.mem_of_getElem? (i := 43) rfl), List.forall_mem_cons.mpr ⟨tb_3 (List.mem_of_getElem? (i := 44) rfl), List.forall_mem_cons.mpr ⟨tb_3 (List.mem_of_getElem? (i := 45) rfl), List.forall_mem_cons.mpr ⟨tb_3 (List.mem_of_getElem? (i := 46) rfl), List.forall_mem_cons.mpr ⟨tb_3 (List.mem_of_getElem? (i := 47) rfl), List.forall_mem_cons.mpr ⟨tb_3 (List.mem_of_getElem? (i := 48) rfl), List.forall_mem_cons.mpr ⟨tb_3 (List.mem_of_getElem? (i := 49) rfl), List.forall_mem_cons.mpr ⟨tb_3 (List.mem_of_getElem? (i := 50) rfl), List.forall_mem_cons.mpr ⟨tb_3 (List.mem_of_getElem? (i := 51) rfl), List.forall_mem_cons.mpr ⟨tb_3 (List.mem_of_getElem? (i := 52) rfl), List.forall_mem_cons.mpr ⟨tb_3 (List.mem_of_getElem? (i := 54) rfl), List.forall_mem_cons.mpr ⟨tb_3 (List.mem_of_getElem? (i := 55) rfl), List.forall_mem_cons.mpr ⟨tb_3 (List.mem_of_getElem? (i := 56) rfl), List.forall_mem_cons.mpr ⟨tb_1 (List.mem_of_getElem? (i := 172) rfl), (fun _ h => absurd h List.not_mem_nil)⟩⟩⟩⟩⟩⟩⟩⟩⟩⟩⟩⟩⟩⟩⟩⟩⟩⟩⟩⟩⟩⟩⟩⟩
theorem ri_5 : ∀ w ∈ wsL_law_r5, w ∈ lw_tbl := List.forall_mem_cons.mpr ⟨tb_1 (List.mem_of_getElem? (i := 173) rfl), List.forall_mem_cons.mpr ⟨tb_1 (List.mem_of_getElem? (i := 174) rfl), List.forall_mem_cons.mpr ⟨tb_1 (List.mem_of_getElem? (i := 175) rfl), List.forall_mem_cons.mpr ⟨tb_1 (List.mem_of_getElem? (i := 176) rfl), List.forall_mem_cons.mpr ⟨tb_1 (List.mem_of_getElem? (i := 178) rfl), List.forall_mem_cons.mpr ⟨pv_1 (y := yX5_strandOf) (n := 3) (List.mem_of_getElem? (i := 0) rfl), List.forall_mem_cons.mpr ⟨tb_1 (List.mem_of_getElem? (i := 179) rfl), List.forall_mem_cons.mpr ⟨tb_1 (List.mem_of_getElem? (i := 182) rfl), List.forall_mem_cons.mpr ⟨pv_1 (y := yX4_isUnderWay) (n := 12) (List.mem_of_getElem? (i := 1) rfl), List.forall_mem_cons.mpr ⟨tb_1 (List.mem_of_getElem? (i := 183) rfl), List.forall_mem_cons.mpr ⟨tb_1 (List.mem_of_getElem? (i := 186) rfl), List.forall_mem_cons.mpr ⟨pv_1 (y := yX3_isFull) (n := 9) (List.mem_of_getElem? (i := 2) rfl), List.forall_mem_cons.mpr ⟨tb_1 (List.mem_of_getElem? (i := 187) rfl), List.forall_mem_cons.mpr ⟨tb_1 (List.mem_of_getElem? (i := 73) rfl), List.forall_mem_cons.mpr ⟨tb_1 (List.mem_of_getElem? (i := 188) rfl), List.forall_mem_cons.mpr ⟨tb_1 (List.mem_of_getElem? (i := 189) rfl), List.forall_mem_cons.mpr ⟨tb_1 (List.mem_of_getElem? (i := 190) rfl), List.forall_mem_cons.mpr ⟨tb_1 (List.mem_of_getElem? (i := 191) rfl), List.forall_mem_cons.mpr ⟨tb_1 (List.mem_of_getElem? (i := 192) rfl), List.forall_mem_cons.mpr ⟨tb_1 (List.mem_of_getElem? (i := 193) rfl), List.forall_mem_cons.mpr ⟨tb_1 (List.mem_of_getElem? (i := 194) rfl), List.forall_mem_cons.mpr ⟨tb_1 (List.mem_of_getElem? (i := 195) rfl), List.forall_mem_cons.mpr ⟨tb_1 (List.mem_of_getElem? (i := 196) rfl), List.forall_mem_cons.mpr ⟨tb_1 (List.mem_of_getElem? (i := 199) rfl), (fun _ h => absurd h List.not_mem_nil)⟩⟩⟩⟩⟩⟩⟩⟩⟩⟩⟩⟩⟩⟩⟩⟩⟩⟩⟩⟩⟩⟩⟩⟩
theorem ri_6 : ∀ w ∈ wsL_law_r6, w ∈ lw_tbl := List.forall_mem_cons.mpr ⟨pv_1 (y := yX3_append) (n := 9) (List.mem_of_getElem? (i := 3) rfl), List.forall_mem_cons.mpr ⟨tb_1 (List.mem_of_getElem? (i := 200) rfl), List.forall_mem_cons.mpr ⟨tb_1 (List.mem_of_getElem? (i := 201) rfl), List.forall_mem_cons.mpr ⟨tb_3 (List.mem_of_getElem? (i := 115) rfl), List.forall_mem_cons.mpr ⟨tb_3 (List.mem_of_getElem? (i := 116) rfl), List.forall_mem_cons.mpr ⟨tb_3 (List.mem_of_getElem? (i := 117) rfl), List.forall_mem_cons.mpr ⟨tb_3 (List.mem_of_getElem? (i := 118) rfl), List.forall_mem_cons.mpr ⟨tb_3 (List.mem_of_getElem? (i := 119) rfl), List.forall_mem_cons.mpr ⟨tb_3 (List.mem_of_getElem? (i := 120) rfl), List.forall_mem_cons.mpr ⟨tb_3 (List.mem_of_getElem? (i := 121) rfl), List.forall_mem_cons.mpr ⟨tb_3 (List.mem_of_getElem? (i := 122) rfl), List.forall_mem_cons.mpr ⟨tb_3 (List.mem_of_getElem? (i := 124) rfl), List.forall_mem_cons.mpr ⟨pv_4 (y := yX6_busy) (n := 28) (List.mem_of_getElem? (i := 6) rfl), List.forall_mem_cons.mpr ⟨tb_3 (List.mem_of_getElem? (i := 125) rfl), List.forall_mem_cons.mpr ⟨tb_3 (List.mem_of_getElem? (i := 126) rfl), List.forall_mem_cons.mpr ⟨tb_3 (List.mem_of_getElem? (i := 127) rfl), List.forall_mem_cons.mpr ⟨tb_3 (List.mem_of_getElem? (i := 128) rfl), List.forall_mem_cons.mpr ⟨tb_1 (List.mem_of_getElem? (i := 202) rfl), List.forall_mem_cons.mpr ⟨tb_1 (List.mem_of_getElem? (i := 203) rfl), List.forall_mem_cons.mpr ⟨tb_1 (List.mem_of_getElem? (i := 204) rfl), List.forall_mem_cons.mpr ⟨tb_1 (List.mem_of_getElem? (i := 205) rfl), List.forall_mem_cons.mpr ⟨tb_3 (List.mem_of_getElem? (i := 129) rfl), List.forall_mem_cons.mpr ⟨tb_3 (List.mem_of_getElem? (i := 130) rfl), List.forall_mem_cons.mpr ⟨tb_3 (List.mem_of_getElem? (i := 131) rfl), (fun _ h => absurd h List.not_mem_nil)⟩⟩⟩⟩⟩⟩⟩⟩⟩⟩⟩⟩⟩⟩⟩⟩⟩⟩⟩⟩⟩⟩⟩⟩
theorem ri_7 : ∀ w ∈ wsL_law_r7, w ∈ lw_tbl := List.forall_mem_cons.mpr ⟨tb_3 (List.mem_of_getElem? (i := 132) rfl), List.forall_mem_cons.mpr ⟨tb_1 (List.mem_of_getElem? (i := 206) rfl), List.forall_mem_cons.mpr ⟨tb_1 (List.mem_of_getElem? (i := 207) rfl), List.forall_mem_cons.mpr ⟨tb_1 (List.mem_of_getElem? (i := 208) rfl), List.forall_mem_cons.mpr ⟨tb_1 (List.mem_of_getElem? (i := 209) rfl), List.forall_mem_cons.mpr ⟨tb_1 (List.mem_of_getElem? (i := 212) rfl), List.forall_mem_cons.mpr ⟨pv_1 (y := yX3_goThrough) (n := 9) (List.mem_of_getElem? (i := 4) rfl), List.forall_mem_cons.mpr ⟨tb_1 (List.mem_of_getElem? (i := 213) rfl), List.forall_mem_cons.mpr ⟨tb_1 (List.mem_of_getElem? (i := 72) rfl), List.forall_mem_cons.mpr ⟨tb_1 (List.mem_of_getElem? (i := 214) rfl), List.forall_mem_cons.mpr ⟨tb_1 (List.mem_of_getElem? (i := 216) rfl), List.forall_mem_cons.mpr ⟨pv_1 (y := yX3_kindAt) (n := 9) (List.mem_of_getElem? (i := 5) rfl), List.forall_mem_cons.mpr ⟨tb_1 (List.mem_of_getElem? (i := 217) rfl), List.forall_mem_cons.mpr ⟨tb_1 (List.mem_of_getElem? (i := 218) rfl), List.forall_mem_cons.mpr ⟨tb_1 (List.mem_of_getElem? (i := 219) rfl), List.forall_mem_cons.mpr ⟨tb_1 (List.mem_of_getElem? (i := 220) rfl), List.forall_mem_cons.mpr ⟨tb_1 (List.mem_of_getElem? (i := 221) rfl), List.forall_mem_cons.mpr ⟨tb_1 (List.mem_of_getElem? (i := 223) rfl), List.forall_mem_cons.mpr ⟨pv_1 (y := yX3_isWrong) (n := 9) (List.mem_of_getElem? (i := 6) rfl), List.forall_mem_cons.mpr ⟨tb_1 (List.mem_of_getElem? (i := 224) rfl), List.forall_mem_cons.mpr ⟨tb_1 (List.mem_of_getElem? (i := 225) rfl), List.forall_mem_cons.mpr ⟨tb_1 (List.mem_of_getElem? (i := 227) rfl), List.forall_mem_cons.mpr ⟨pv_1 (y := yX3_lacksMiddle) (n := 9) (List.mem_of_getElem? (i := 7) rfl), List.forall_mem_cons.mpr ⟨tb_1 (List.mem_of_getElem? (i := 228) rfl), (fun _ h => absurd h List.not_mem_nil)⟩⟩⟩⟩⟩⟩⟩⟩⟩⟩⟩⟩⟩⟩⟩⟩⟩⟩⟩⟩⟩⟩⟩⟩
theorem ri_8 : ∀ w ∈ wsL_law_r8, w ∈ lw_tbl := List.forall_mem_cons.mpr ⟨tb_1 (List.mem_of_getElem? (i := 229) rfl), List.forall_mem_cons.mpr ⟨tb_1 (List.mem_of_getElem? (i := 231) rfl), List.forall_mem_cons.mpr ⟨pv_1 (y := yX3_innermost) (n := 9) (List.mem_of_getElem? (i := 8) rfl), List.forall_mem_cons.mpr ⟨tb_1 (List.mem_of_getElem? (i := 232) rfl), List.forall_mem_cons.mpr ⟨tb_1 (List.mem_of_getElem? (i := 233) rfl), List.forall_mem_cons.mpr ⟨tb_1 (List.mem_of_getElem? (i := 235) rfl), List.forall_mem_cons.mpr ⟨pv_1 (y := yX3_middleOf) (n := 9) (List.mem_of_getElem? (i := 9) rfl), List.forall_mem_cons.mpr ⟨tb_1 (List.mem_of_getElem? (i := 236) rfl), List.forall_mem_cons.mpr ⟨tb_1 (List.mem_of_getElem? (i := 237) rfl), List.forall_mem_cons.mpr ⟨tb_1 (List.mem_of_getElem? (i := 239) rfl), List.forall_mem_cons.mpr ⟨pv_1 (y := yX3_isAtomicOpen) (n := 9) (List.mem_of_getElem? (i := 10) rfl), List.forall_mem_cons.mpr ⟨tb_2 (List.mem_of_getElem? (i := 0) rfl), List.forall_mem_cons.mpr ⟨tb_2 (List.mem_of_getElem? (i := 1) rfl), List.forall_mem_cons.mpr ⟨tb_2 (List.mem_of_getElem? (i := 3) rfl), List.forall_mem_cons.mpr ⟨pv_1 (y := yX3_connect) (n := 9) (List.mem_of_getElem? (i := 11) rfl), List.forall_mem_cons.mpr ⟨tb_2 (List.mem_of_getElem? (i := 4) rfl), List.forall_mem_cons.mpr ⟨tb_2 (List.mem_of_getElem? (i := 5) rfl), List.forall_mem_cons.mpr ⟨tb_2 (List.mem_of_getElem? (i := 7) rfl), List.forall_mem_cons.mpr ⟨pv_1 (y := yX3_connectOpener) (n := 9) (List.mem_of_getElem? (i := 12) rfl), List.forall_mem_cons.mpr ⟨tb_2 (List.mem_of_getElem? (i := 8) rfl), List.forall_mem_cons.mpr ⟨tb_2 (List.mem_of_getElem? (i := 9) rfl), List.forall_mem_cons.mpr ⟨tb_2 (List.mem_of_getElem? (i := 11) rfl), List.forall_mem_cons.mpr ⟨pv_1 (y := yX3_connectTo) (n := 9) (List.mem_of_getElem? (i := 13) rfl), List.forall_mem_cons.mpr ⟨tb_2 (List.mem_of_getElem? (i := 12) rfl), (fun _ h => absurd h List.not_mem_nil)⟩⟩⟩⟩⟩⟩⟩⟩⟩⟩⟩⟩⟩⟩⟩⟩⟩⟩⟩⟩⟩⟩⟩⟩
theorem ri_9 : ∀ w ∈ wsL_law_r9, w ∈ lw_tbl := List.forall_mem_cons.mpr ⟨tb_3 (List.mem_of_getElem? (i := 133) rfl), List.forall_mem_cons.mpr ⟨tb_3 (List.mem_of_getElem? (i := 134) rfl), List.forall_mem_cons.mpr ⟨tb_3 (List.mem_of_getElem? (i := 135) rfl), List.forall_mem_cons.mpr ⟨tb_3 (List.mem_of_getElem? (i := 136) rfl), List.forall_mem_cons.mpr ⟨tb_3 (List.mem_of_getElem? (i := 137) rfl), List.forall_mem_cons.mpr ⟨tb_3 (List.mem_of_getElem? (i := 139) rfl), List.forall_mem_cons.mpr ⟨pv_4 (y := yX6_wrong) (n := 28) (List.mem_of_getElem? (i := 7) rfl), List.forall_mem_cons.mpr ⟨tb_3 (List.mem_of_getElem? (i := 140) rfl), List.forall_mem_cons.mpr ⟨tb_3 (List.mem_of_getElem? (i := 141) rfl), List.forall_mem_cons.mpr ⟨tb_3 (List.mem_of_getElem? (i := 143) rfl), List.forall_mem_cons.mpr ⟨pv_4 (y := yX6_halfway) (n := 28) (List.mem_of_getElem? (i := 8) rfl), List.forall_mem_cons.mpr ⟨tb_3 (List.mem_of_getElem? (i := 144) rfl), List.forall_mem_cons.mpr ⟨tb_3 (List.mem_of_getElem? (i := 145) rfl), List.forall_mem_cons.mpr ⟨tb_3 (List.mem_of_getElem? (i := 146) rfl), List.forall_mem_cons.mpr ⟨tb_3 (List.mem_of_getElem? (i := 147) rfl), List.forall_mem_cons.mpr ⟨tb_2 (List.mem_of_getElem? (i := 13) rfl), List.forall_mem_cons.mpr ⟨tb_2 (List.mem_of_getElem? (i := 14) rfl), List.forall_mem_cons.mpr ⟨tb_2 (List.mem_of_getElem? (i := 15) rfl), List.forall_mem_cons.mpr ⟨tb_2 (List.mem_of_getElem? (i := 16) rfl), List.forall_mem_cons.mpr ⟨tb_2 (List.mem_of_getElem? (i := 19) rfl), List.forall_mem_cons.mpr ⟨pv_1 (y := yX4_begin) (n := 12) (List.mem_of_getElem? (i := 14) rfl), List.forall_mem_cons.mpr ⟨tb_2 (List.mem_of_getElem? (i := 20) rfl), List.forall_mem_cons.mpr ⟨tb_1 (List.mem_of_getElem? (i := 135) rfl), List.forall_mem_cons.mpr ⟨tb_1 (List.mem_of_getElem? (i := 123) rfl), (fun _ h => absurd h List.not_mem_nil)⟩⟩⟩⟩⟩⟩⟩⟩⟩⟩⟩⟩⟩⟩⟩⟩⟩⟩⟩⟩⟩⟩⟩⟩
theorem ri_10 : ∀ w ∈ wsL_law_r10, w ∈ lw_tbl := List.forall_mem_cons.mpr ⟨tb_2 (List.mem_of_getElem? (i := 21) rfl), List.forall_mem_cons.mpr ⟨tb_2 (List.mem_of_getElem? (i := 23) rfl), List.forall_mem_cons.mpr ⟨pv_1 (y := yX4_goOnTo) (n := 12) (List.mem_of_getElem? (i := 15) rfl), List.forall_mem_cons.mpr ⟨tb_2 (List.mem_of_getElem? (i := 24) rfl), List.forall_mem_cons.mpr ⟨tb_1 (List.mem_of_getElem? (i := 133) rfl), List.forall_mem_cons.mpr ⟨tb_3 (List.mem_of_getElem? (i := 148) rfl), List.forall_mem_cons.mpr ⟨tb_3 (List.mem_of_getElem? (i := 149) rfl), List.forall_mem_cons.mpr ⟨tb_3 (List.mem_of_getElem? (i := 150) rfl), List.forall_mem_cons.mpr ⟨tb_3 (List.mem_of_getElem? (i := 151) rfl), List.forall_mem_cons.mpr ⟨tb_3 (List.mem_of_getElem? (i := 152) rfl), List.forall_mem_cons.mpr ⟨tb_3 (List.mem_of_getElem? (i := 153) rfl), List.forall_mem_cons.mpr ⟨tb_3 (List.mem_of_getElem? (i := 155) rfl), List.forall_mem_cons.mpr ⟨pv_4 (y := yX6_endAttempt) (n := 28) (List.mem_of_getElem? (i := 9) rfl), List.forall_mem_cons.mpr ⟨tb_3 (List.mem_of_getElem? (i := 156) rfl), List.forall_mem_cons.mpr ⟨tb_3 (List.mem_of_getElem? (i := 157) rfl), List.forall_mem_cons.mpr ⟨tb_3 (List.mem_of_getElem? (i := 159) rfl), List.forall_mem_cons.mpr ⟨pv_4 (y := yX6_go) (n := 28) (List.mem_of_getElem? (i := 10) rfl), List.forall_mem_cons.mpr ⟨tb_3 (List.mem_of_getElem? (i := 160) rfl), List.forall_mem_cons.mpr ⟨tb_2 (List.mem_of_getElem? (i := 25) rfl), List.forall_mem_cons.mpr ⟨tb_2 (List.mem_of_getElem? (i := 26) rfl), List.forall_mem_cons.mpr ⟨tb_2 (List.mem_of_getElem? (i := 27) rfl), List.forall_mem_cons.mpr ⟨tb_2 (List.mem_of_getElem? (i := 28) rfl), List.forall_mem_cons.mpr ⟨tb_2 (List.mem_of_getElem? (i := 31) rfl), List.forall_mem_cons.mpr ⟨pv_2 (y := yX4_leaveAttempt) (n := 12) (List.mem_of_getElem? (i := 0) rfl), (fun _ h => absurd h List.not_mem_nil)⟩⟩⟩⟩⟩⟩⟩⟩⟩⟩⟩⟩⟩⟩⟩⟩⟩⟩⟩⟩⟩⟩⟩⟩
theorem ri_11 : ∀ w ∈ wsL_law_r11, w ∈ lw_tbl := List.forall_mem_cons.mpr ⟨tb_2 (List.mem_of_getElem? (i := 32) rfl), List.forall_mem_cons.mpr ⟨tb_1 (List.mem_of_getElem? (i := 127) rfl), List.forall_mem_cons.mpr ⟨tb_1 (List.mem_of_getElem? (i := 129) rfl), List.forall_mem_cons.mpr ⟨tb_2 (List.mem_of_getElem? (i := 33) rfl), List.forall_mem_cons.mpr ⟨tb_2 (List.mem_of_getElem? (i := 35) rfl), List.forall_mem_cons.mpr ⟨pv_2 (y := yX4_isInAttempt) (n := 12) (List.mem_of_getElem? (i := 1) rfl), List.forall_mem_cons.mpr ⟨tb_2 (List.mem_of_getElem? (i := 36) rfl), List.forall_mem_cons.mpr ⟨tb_3 (List.mem_of_getElem? (i := 161) rfl), List.forall_mem_cons.mpr ⟨tb_3 (List.mem_of_getElem? (i := 162) rfl), List.forall_mem_cons.mpr ⟨tb_3 (List.mem_of_getElem? (i := 163) rfl), List.forall_mem_cons.mpr ⟨tb_3 (List.mem_of_getElem? (i := 164) rfl), List.forall_mem_cons.mpr ⟨tb_2 (List.mem_of_getElem? (i := 37) rfl), List.forall_mem_cons.mpr ⟨tb_2 (List.mem_of_getElem? (i := 38) rfl), List.forall_mem_cons.mpr ⟨tb_2 (List.mem_of_getElem? (i := 39) rfl), List.forall_mem_cons.mpr ⟨tb_2 (List.mem_of_getElem? (i := 40) rfl), List.forall_mem_cons.mpr ⟨tb_2 (List.mem_of_getElem? (i := 41) rfl), List.forall_mem_cons.mpr ⟨tb_2 (List.mem_of_getElem? (i := 43) rfl), List.forall_mem_cons.mpr ⟨pv_2 (y := yX5_doWord) (n := 3) (List.mem_of_getElem? (i := 2) rfl), List.forall_mem_cons.mpr ⟨tb_2 (List.mem_of_getElem? (i := 44) rfl), List.forall_mem_cons.mpr ⟨tb_2 (List.mem_of_getElem? (i := 47) rfl), List.forall_mem_cons.mpr ⟨pv_2 (y := yX3_firstAt) (n := 9) (List.mem_of_getElem? (i := 3) rfl), List.forall_mem_cons.mpr ⟨tb_2 (List.mem_of_getElem? (i := 48) rfl), List.forall_mem_cons.mpr ⟨tb_2 (List.mem_of_getElem? (i := 51) rfl), List.forall_mem_cons.mpr ⟨pv_2 (y := yX3_secondAt) (n := 9) (List.mem_of_getElem? (i := 4) rfl), (fun _ h => absurd h List.not_mem_nil)⟩⟩⟩⟩⟩⟩⟩⟩⟩⟩⟩⟩⟩⟩⟩⟩⟩⟩⟩⟩⟩⟩⟩⟩
theorem ri_12 : ∀ w ∈ wsL_law_r12, w ∈ lw_tbl := List.forall_mem_cons.mpr ⟨tb_2 (List.mem_of_getElem? (i := 52) rfl), List.forall_mem_cons.mpr ⟨tb_2 (List.mem_of_getElem? (i := 56) rfl), List.forall_mem_cons.mpr ⟨pv_2 (y := yX4_assign) (n := 12) (List.mem_of_getElem? (i := 5) rfl), List.forall_mem_cons.mpr ⟨tb_2 (List.mem_of_getElem? (i := 57) rfl), List.forall_mem_cons.mpr ⟨tb_2 (List.mem_of_getElem? (i := 58) rfl), List.forall_mem_cons.mpr ⟨tb_2 (List.mem_of_getElem? (i := 60) rfl), List.forall_mem_cons.mpr ⟨pv_2 (y := yX4_setRegister) (n := 12) (List.mem_of_getElem? (i := 6) rfl), List.forall_mem_cons.mpr ⟨tb_2 (List.mem_of_getElem? (i := 61) rfl), List.forall_mem_cons.mpr ⟨tb_2 (List.mem_of_getElem? (i := 65) rfl), List.forall_mem_cons.mpr ⟨pv_2 (y := yX4_registerValue) (n := 12) (List.mem_of_getElem? (i := 7) rfl), List.forall_mem_cons.mpr ⟨tb_2 (List.mem_of_getElem? (i := 66) rfl), List.forall_mem_cons.mpr ⟨tb_2 (List.mem_of_getElem? (i := 67) rfl), List.forall_mem_cons.mpr ⟨tb_2 (List.mem_of_getElem? (i := 69) rfl), List.forall_mem_cons.mpr ⟨pv_2 (y := yX5_doRead) (n := 3) (List.mem_of_getElem? (i := 8) rfl), List.forall_mem_cons.mpr ⟨tb_2 (List.mem_of_getElem? (i := 70) rfl), List.forall_mem_cons.mpr ⟨tb_2 (List.mem_of_getElem? (i := 73) rfl), List.forall_mem_cons.mpr ⟨pv_2 (y := yX4_hasWritten) (n := 12) (List.mem_of_getElem? (i := 9) rfl), List.forall_mem_cons.mpr ⟨tb_2 (List.mem_of_getElem? (i := 74) rfl), List.forall_mem_cons.mpr ⟨tb_2 (List.mem_of_getElem? (i := 77) rfl), List.forall_mem_cons.mpr ⟨pv_2 (y := yX1_hasChanged) (n := 3) (List.mem_of_getElem? (i := 10) rfl), List.forall_mem_cons.mpr ⟨tb_2 (List.mem_of_getElem? (i := 78) rfl), List.forall_mem_cons.mpr ⟨tb_2 (List.mem_of_getElem? (i := 81) rfl), List.forall_mem_cons.mpr ⟨pv_2 (y := yX4_discard) (n := 12) (List.mem_of_getElem? (i := 11) rfl), List.forall_mem_cons.mpr ⟨tb_2 (List.mem_of_getElem? (i := 82) rfl), (fun _ h => absurd h List.not_mem_nil)⟩⟩⟩⟩⟩⟩⟩⟩⟩⟩⟩⟩⟩⟩⟩⟩⟩⟩⟩⟩⟩⟩⟩⟩
theorem ri_13 : ∀ w ∈ wsL_law_r13, w ∈ lw_tbl := List.forall_mem_cons.mpr ⟨tb_2 (List.mem_of_getElem? (i := 83) rfl), List.forall_mem_cons.mpr ⟨tb_2 (List.mem_of_getElem? (i := 85) rfl), List.forall_mem_cons.mpr ⟨pv_2 (y := yX4_undoAttempt) (n := 12) (List.mem_of_getElem? (i := 12) rfl), List.forall_mem_cons.mpr ⟨tb_2 (List.mem_of_getElem? (i := 86) rfl), List.forall_mem_cons.mpr ⟨tb_2 (List.mem_of_getElem? (i := 87) rfl), List.forall_mem_cons.mpr ⟨tb_2 (List.mem_of_getElem? (i := 89) rfl), List.forall_mem_cons.mpr ⟨pv_2 (y := yX4_goBackTo) (n := 12) (List.mem_of_getElem? (i := 13) rfl), List.forall_mem_cons.mpr ⟨tb_2 (List.mem_of_getElem? (i := 90) rfl), List.forall_mem_cons.mpr ⟨tb_2 (List.mem_of_getElem? (i := 91) rfl), List.forall_mem_cons.mpr ⟨tb_2 (List.mem_of_getElem? (i := 93) rfl), List.forall_mem_cons.mpr ⟨tb_2 (List.mem_of_getElem? (i := 92) rfl), List.forall_mem_cons.mpr ⟨tb_1 (List.mem_of_getElem? (i := 8) rfl), List.forall_mem_cons.mpr ⟨tb_2 (List.mem_of_getElem? (i := 94) rfl), List.forall_mem_cons.mpr ⟨tb_2 (List.mem_of_getElem? (i := 97) rfl), List.forall_mem_cons.mpr ⟨pv_2 (y := yX4_write) (n := 12) (List.mem_of_getElem? (i := 14) rfl), List.forall_mem_cons.mpr ⟨tb_2 (List.mem_of_getElem? (i := 98) rfl), List.forall_mem_cons.mpr ⟨tb_2 (List.mem_of_getElem? (i := 102) rfl), List.forall_mem_cons.mpr ⟨pv_2 (y := yX2_write) (n := 2) (List.mem_of_getElem? (i := 15) rfl), List.forall_mem_cons.mpr ⟨tb_2 (List.mem_of_getElem? (i := 103) rfl), List.forall_mem_cons.mpr ⟨tb_1 (List.mem_of_getElem? (i := 45) rfl), List.forall_mem_cons.mpr ⟨tb_2 (List.mem_of_getElem? (i := 104) rfl), List.forall_mem_cons.mpr ⟨tb_2 (List.mem_of_getElem? (i := 105) rfl), List.forall_mem_cons.mpr ⟨tb_1 (List.mem_of_getElem? (i := 9) rfl), List.forall_mem_cons.mpr ⟨tb_2 (List.mem_of_getElem? (i := 106) rfl), (fun _ h => absurd h List.not_mem_nil)⟩⟩⟩⟩⟩⟩⟩⟩⟩⟩⟩⟩⟩⟩⟩⟩⟩⟩⟩⟩⟩⟩⟩⟩
theorem ri_14 : ∀ w ∈ wsL_law_r14, w ∈ lw_tbl := List.forall_mem_cons.mpr ⟨tb_2 (List.mem_of_getElem? (i := 110) rfl), List.forall_mem_cons.mpr ⟨pv_3 (y := yX4_beginAttempt) (n := 12) (List.mem_of_getElem? (i := 0) rfl), List.forall_mem_cons.mpr ⟨tb_2 (List.mem_of_getElem? (i := 111) rfl), List.forall_mem_cons.mpr ⟨tb_1 (List.mem_of_getElem? (i := 125) rfl), List.forall_mem_cons.mpr ⟨tb_2 (List.mem_of_getElem? (i := 112) rfl), List.forall_mem_cons.mpr ⟨tb_2 (List.mem_of_getElem? (i := 114) rfl), List.forall_mem_cons.mpr ⟨pv_3 (y := yX4_noteAndGoOn) (n := 12) (List.mem_of_getElem? (i := 1) rfl), List.forall_mem_cons.mpr ⟨tb_2 (List.mem_of_getElem? (i := 115) rfl), List.forall_mem_cons.mpr ⟨tb_2 (List.mem_of_getElem? (i := 119) rfl), List.forall_mem_cons.mpr ⟨pv_3 (y := yX4_endFirstPart) (n := 12) (List.mem_of_getElem? (i := 2) rfl), List.forall_mem_cons.mpr ⟨tb_2 (List.mem_of_getElem? (i := 120) rfl), List.forall_mem_cons.mpr ⟨tb_2 (List.mem_of_getElem? (i := 123) rfl), List.forall_mem_cons.mpr ⟨pv_3 (y := yX3_behindEnd) (n := 9) (List.mem_of_getElem? (i := 3) rfl), List.forall_mem_cons.mpr ⟨tb_2 (List.mem_of_getElem? (i := 124) rfl), List.forall_mem_cons.mpr ⟨tb_2 (List.mem_of_getElem? (i := 128) rfl), List.forall_mem_cons.mpr ⟨pv_3 (y := yX3_elsewhere) (n := 9) (List.mem_of_getElem? (i := 4) rfl), List.forall_mem_cons.mpr ⟨tb_2 (List.mem_of_getElem? (i := 129) rfl), List.forall_mem_cons.mpr ⟨tb_2 (List.mem_of_getElem? (i := 130) rfl), List.forall_mem_cons.mpr ⟨tb_2 (List.mem_of_getElem? (i := 132) rfl), List.forall_mem_cons.mpr ⟨pv_3 (y := yX3_secondPart) (n := 9) (List.mem_of_getElem? (i := 5) rfl), List.forall_mem_cons.mpr ⟨tb_2 (List.mem_of_getElem? (i := 133) rfl), List.forall_mem_cons.mpr ⟨tb_2 (List.mem_of_getElem? (i := 134) rfl), List.forall_mem_cons.mpr ⟨tb_2 (List.mem_of_getElem? (i := 136) rfl), List.forall_mem_cons.mpr ⟨pv_3 (y := yX5_doRetry) (n := 3) (List.mem_of_getElem? (i := 6) rfl), (fun _ h => absurd h List.not_mem_nil)⟩⟩⟩⟩⟩⟩⟩⟩⟩⟩⟩⟩⟩⟩⟩⟩⟩⟩⟩⟩⟩⟩⟩⟩
theorem ri_15 : ∀ w ∈ wsL_law_r15, w ∈ lw_tbl := List.forall_mem_cons.mpr ⟨tb_2 (List.mem_of_getElem? (i := 137) rfl), List.forall_mem_cons.mpr ⟨tb_2 (List.mem_of_getElem? (i := 140) rfl), List.forall_mem_cons.mpr ⟨pv_3 (y := yX4_latestFirstPart) (n := 12) (List.mem_of_getElem? (i := 7) rfl), List.forall_mem_cons.mpr ⟨tb_2 (List.mem_of_getElem? (i := 141) rfl), List.forall_mem_cons.mpr ⟨tb_2 (List.mem_of_getElem? (i := 145) rfl), List.forall_mem_cons.mpr ⟨tb_2 (List.mem_of_getElem? (i := 147) rfl), List.forall_mem_cons.mpr ⟨pv_3 (y := yX5_hasStaleReads) (n := 3) (List.mem_of_getElem? (i := 8) rfl), List.forall_mem_cons.mpr ⟨tb_2 (List.mem_of_getElem? (i := 148) rfl), List.forall_mem_cons.mpr ⟨tb_2 (List.mem_of_getElem? (i := 151) rfl), List.forall_mem_cons.mpr ⟨pv_3 (y := yX4_park) (n := 12) (List.mem_of_getElem? (i := 9) rfl), List.forall_mem_cons.mpr ⟨tb_2 (List.mem_of_getElem? (i := 152) rfl), List.forall_mem_cons.mpr ⟨tb_2 (List.mem_of_getElem? (i := 153) rfl), List.forall_mem_cons.mpr ⟨tb_2 (List.mem_of_getElem? (i := 155) rfl), List.forall_mem_cons.mpr ⟨pv_3 (y := yX5_doThrow) (n := 3) (List.mem_of_getElem? (i := 10) rfl), List.forall_mem_cons.mpr ⟨tb_2 (List.mem_of_getElem? (i := 156) rfl), List.forall_mem_cons.mpr ⟨tb_2 (List.mem_of_getElem? (i := 161) rfl), List.forall_mem_cons.mpr ⟨pv_3 (y := yX4_fail) (n := 12) (List.mem_of_getElem? (i := 11) rfl), List.forall_mem_cons.mpr ⟨tb_2 (List.mem_of_getElem? (i := 162) rfl), List.forall_mem_cons.mpr ⟨tb_2 (List.mem_of_getElem? (i := 165) rfl), List.forall_mem_cons.mpr ⟨pv_3 (y := yX4_handle) (n := 12) (List.mem_of_getElem? (i := 12) rfl), List.forall_mem_cons.mpr ⟨tb_2 (List.mem_of_getElem? (i := 166) rfl), List.forall_mem_cons.mpr ⟨tb_2 (List.mem_of_getElem? (i := 170) rfl), List.forall_mem_cons.mpr ⟨tb_2 (List.mem_of_getElem? (i := 172) rfl), List.forall_mem_cons.mpr ⟨pv_3 (y := yX5_doEnd) (n := 3) (List.mem_of_getElem? (i := 13) rfl), (fun _ h => absurd h List.not_mem_nil)⟩⟩⟩⟩⟩⟩⟩⟩⟩⟩⟩⟩⟩⟩⟩⟩⟩⟩⟩⟩⟩⟩⟩⟩
theorem ri_16 : ∀ w ∈ wsL_law_r16, w ∈ lw_tbl := List.forall_mem_cons.mpr ⟨tb_2 (List.mem_of_getElem? (i := 173) rfl), List.forall_mem_cons.mpr ⟨tb_2 (List.mem_of_getElem? (i := 176) rfl), List.forall_mem_cons.mpr ⟨pv_3 (y := yX3_openerOf) (n := 9) (List.mem_of_getElem? (i := 14) rfl), List.forall_mem_cons.mpr ⟨tb_2 (List.mem_of_getElem? (i := 177) rfl), List.forall_mem_cons.mpr ⟨tb_2 (List.mem_of_getElem? (i := 178) rfl), List.forall_mem_cons.mpr ⟨tb_2 (List.mem_of_getElem? (i := 180) rfl), List.forall_mem_cons.mpr ⟨pv_3 (y := yX5_commit) (n := 3) (List.mem_of_getElem? (i := 15) rfl), List.forall_mem_cons.mpr ⟨tb_2 (List.mem_of_getElem? (i := 181) rfl), List.forall_mem_cons.mpr ⟨tb_2 (List.mem_of_getElem? (i := 184) rfl), List.forall_mem_cons.mpr ⟨pv_4 (y := yX1_countCommit) (n := 3) (List.mem_of_getElem? (i := 0) rfl), List.forall_mem_cons.mpr ⟨tb_2 (List.mem_of_getElem? (i := 185) rfl), List.forall_mem_cons.mpr ⟨tb_1 (List.mem_of_getElem? (i := 28) rfl), List.forall_mem_cons.mpr ⟨tb_2 (List.mem_of_getElem? (i := 188) rfl), List.forall_mem_cons.mpr ⟨pv_4 (y := yX1_change) (n := 3) (List.mem_of_getElem? (i := 1) rfl), List.forall_mem_cons.mpr ⟨tb_2 (List.mem_of_getElem? (i := 189) rfl), List.forall_mem_cons.mpr ⟨tb_2 (List.mem_of_getElem? (i := 191) rfl), List.forall_mem_cons.mpr ⟨tb_2 (List.mem_of_getElem? (i := 193) rfl), List.forall_mem_cons.mpr ⟨pv_4 (y := yX5_wake) (n := 3) (List.mem_of_getElem? (i := 2) rfl), List.forall_mem_cons.mpr ⟨tb_2 (List.mem_of_getElem? (i := 194) rfl), List.forall_mem_cons.mpr ⟨tb_2 (List.mem_of_getElem? (i := 197) rfl), List.forall_mem_cons.mpr ⟨pv_4 (y := yX4_waitsFor) (n := 12) (List.mem_of_getElem? (i := 3) rfl), List.forall_mem_cons.mpr ⟨tb_2 (List.mem_of_getElem? (i := 198) rfl), List.forall_mem_cons.mpr ⟨tb_2 (List.mem_of_getElem? (i := 201) rfl), List.forall_mem_cons.mpr ⟨pv_4 (y := yX4_wakeUp) (n := 12) (List.mem_of_getElem? (i := 4) rfl), (fun _ h => absurd h List.not_mem_nil)⟩⟩⟩⟩⟩⟩⟩⟩⟩⟩⟩⟩⟩⟩⟩⟩⟩⟩⟩⟩⟩⟩⟩⟩
theorem ri_17 : ∀ w ∈ wsL_law_r17, w ∈ lw_tbl := List.forall_mem_cons.mpr ⟨tb_2 (List.mem_of_getElem? (i := 202) rfl), List.forall_mem_cons.mpr ⟨tb_3 (List.mem_of_getElem? (i := 165) rfl), List.forall_mem_cons.mpr ⟨tb_3 (List.mem_of_getElem? (i := 166) rfl), List.forall_mem_cons.mpr ⟨tb_3 (List.mem_of_getElem? (i := 167) rfl), List.forall_mem_cons.mpr ⟨tb_3 (List.mem_of_getElem? (i := 168) rfl), List.forall_mem_cons.mpr ⟨tb_3 (List.mem_of_getElem? (i := 169) rfl), List.forall_mem_cons.mpr ⟨tb_3 (List.mem_of_getElem? (i := 171) rfl), List.forall_mem_cons.mpr ⟨pv_4 (y := yX6_access) (n := 28) (List.mem_of_getElem? (i := 11) rfl), List.forall_mem_cons.mpr ⟨tb_3 (List.mem_of_getElem? (i := 172) rfl), List.forall_mem_cons.mpr ⟨tb_3 (List.mem_of_getElem? (i := 173) rfl), List.forall_mem_cons.mpr ⟨tb_3 (List.mem_of_getElem? (i := 175) rfl), List.forall_mem_cons.mpr ⟨pv_4 (y := yX6_discard) (n := 28) (List.mem_of_getElem? (i := 12) rfl), List.forall_mem_cons.mpr ⟨tb_3 (List.mem_of_getElem? (i := 176) rfl), List.forall_mem_cons.mpr ⟨tb_3 (List.mem_of_getElem? (i := 177) rfl), List.forall_mem_cons.mpr ⟨tb_3 (List.mem_of_getElem? (i := 179) rfl), List.forall_mem_cons.mpr ⟨pv_4 (y := yX6_undo) (n := 28) (List.mem_of_getElem? (i := 13) rfl), List.forall_mem_cons.mpr ⟨tb_3 (List.mem_of_getElem? (i := 180) rfl), List.forall_mem_cons.mpr ⟨tb_3 (List.mem_of_getElem? (i := 181) rfl), List.forall_mem_cons.mpr ⟨tb_3 (List.mem_of_getElem? (i := 183) rfl), List.forall_mem_cons.mpr ⟨pv_4 (y := yX6_end) (n := 28) (List.mem_of_getElem? (i := 14) rfl), List.forall_mem_cons.mpr ⟨tb_3 (List.mem_of_getElem? (i := 184) rfl), List.forall_mem_cons.mpr ⟨tb_3 (List.mem_of_getElem? (i := 185) rfl), List.forall_mem_cons.mpr ⟨tb_3 (List.mem_of_getElem? (i := 187) rfl), List.forall_mem_cons.mpr ⟨pv_4 (y := yX6_origin) (n := 28) (List.mem_of_getElem? (i := 15) rfl), (fun _ h => absurd h List.not_mem_nil)⟩⟩⟩⟩⟩⟩⟩⟩⟩⟩⟩⟩⟩⟩⟩⟩⟩⟩⟩⟩⟩⟩⟩⟩
theorem ri_18 : ∀ w ∈ wsL_law_r18, w ∈ lw_tbl := List.forall_mem_cons.mpr ⟨tb_3 (List.mem_of_getElem? (i := 188) rfl), List.forall_mem_cons.mpr ⟨tb_3 (List.mem_of_getElem? (i := 189) rfl), List.forall_mem_cons.mpr ⟨tb_3 (List.mem_of_getElem? (i := 191) rfl), List.forall_mem_cons.mpr ⟨pv_5 (y := yX6_commit) (n := 28) (List.mem_of_getElem? (i := 0) rfl), List.forall_mem_cons.mpr ⟨tb_3 (List.mem_of_getElem? (i := 192) rfl), List.forall_mem_cons.mpr ⟨tb_3 (List.mem_of_getElem? (i := 40) rfl), List.forall_mem_cons.mpr ⟨tb_3 (List.mem_of_getElem? (i := 193) rfl), List.forall_mem_cons.mpr ⟨tb_3 (List.mem_of_getElem? (i := 195) rfl), List.forall_mem_cons.mpr ⟨pv_5 (y := yX6_outOfDate) (n := 28) (List.mem_of_getElem? (i := 1) rfl), List.forall_mem_cons.mpr ⟨tb_3 (List.mem_of_getElem? (i := 196) rfl), List.forall_mem_cons.mpr ⟨tb_3 (List.mem_of_getElem? (i := 197) rfl), List.forall_mem_cons.mpr ⟨tb_3 (List.mem_of_getElem? (i := 199) rfl), List.forall_mem_cons.mpr ⟨pv_5 (y := yX6_changed) (n := 28) (List.mem_of_getElem? (i := 2) rfl), List.forall_mem_cons.mpr ⟨tb_3 (List.mem_of_getElem? (i := 200) rfl), List.forall_mem_cons.mpr ⟨tb_3 (List.mem_of_getElem? (i := 201) rfl), List.forall_mem_cons.mpr ⟨tb_3 (List.mem_of_getElem? (i := 203) rfl), List.forall_mem_cons.mpr ⟨pv_5 (y := yX6_retry) (n := 28) (List.mem_of_getElem? (i := 3) rfl), List.forall_mem_cons.mpr ⟨tb_3 (List.mem_of_getElem? (i := 204) rfl), List.forall_mem_cons.mpr ⟨tb_3 (List.mem_of_getElem? (i := 205) rfl), List.forall_mem_cons.mpr ⟨tb_3 (List.mem_of_getElem? (i := 207) rfl), List.forall_mem_cons.mpr ⟨pv_5 (y := yX6_latest) (n := 28) (List.mem_of_getElem? (i := 4) rfl), List.forall_mem_cons.mpr ⟨tb_3 (List.mem_of_getElem? (i := 208) rfl), List.forall_mem_cons.mpr ⟨tb_3 (List.mem_of_getElem? (i := 209) rfl), List.forall_mem_cons.mpr ⟨tb_3 (List.mem_of_getElem? (i := 211) rfl), (fun _ h => absurd h List.not_mem_nil)⟩⟩⟩⟩⟩⟩⟩⟩⟩⟩⟩⟩⟩⟩⟩⟩⟩⟩⟩⟩⟩⟩⟩⟩
theorem ri_19 : ∀ w ∈ wsL_law_r19, w ∈ lw_tbl := List.forall_mem_cons.mpr ⟨pv_5 (y := yX6_back) (n := 28) (List.mem_of_getElem? (i := 5) rfl), List.forall_mem_cons.mpr ⟨tb_3 (List.mem_of_getElem? (i := 212) rfl), List.forall_mem_cons.mpr ⟨tb_3 (List.mem_of_getElem? (i := 213) rfl), List.forall_mem_cons.mpr ⟨tb_3 (List.mem_of_getElem? (i := 215) rfl), List.forall_mem_cons.mpr ⟨pv_5 (y := yX6_partner) (n := 28) (List.mem_of_getElem? (i := 6) rfl), List.forall_mem_cons.mpr ⟨tb_3 (List.mem_of_getElem? (i := 216) rfl), List.forall_mem_cons.mpr ⟨tb_3 (List.mem_of_getElem? (i := 217) rfl), List.forall_mem_cons.mpr ⟨tb_3 (List.mem_of_getElem? (i := 219) rfl), List.forall_mem_cons.mpr ⟨pv_5 (y := yX6_toss) (n := 28) (List.mem_of_getElem? (i := 7) rfl), List.forall_mem_cons.mpr ⟨tb_3 (List.mem_of_getElem? (i := 220) rfl), List.forall_mem_cons.mpr ⟨tb_3 (List.mem_of_getElem? (i := 221) rfl), List.forall_mem_cons.mpr ⟨tb_3 (List.mem_of_getElem? (i := 223) rfl), List.forall_mem_cons.mpr ⟨pv_5 (y := yX6_begin) (n := 28) (List.mem_of_getElem? (i := 8) rfl), List.forall_mem_cons.mpr ⟨tb_3 (List.mem_of_getElem? (i := 224) rfl), List.forall_mem_cons.mpr ⟨tb_3 (List.mem_of_getElem? (i := 225) rfl), List.forall_mem_cons.mpr ⟨tb_3 (List.mem_of_getElem? (i := 227) rfl), List.forall_mem_cons.mpr ⟨pv_5 (y := yX6_beginPart) (n := 28) (List.mem_of_getElem? (i := 9) rfl), List.forall_mem_cons.mpr ⟨tb_3 (List.mem_of_getElem? (i := 228) rfl), List.forall_mem_cons.mpr ⟨tb_3 (List.mem_of_getElem? (i := 229) rfl), List.forall_mem_cons.mpr ⟨tb_3 (List.mem_of_getElem? (i := 231) rfl), List.forall_mem_cons.mpr ⟨pv_5 (y := yX6_branch) (n := 28) (List.mem_of_getElem? (i := 10) rfl), List.forall_mem_cons.mpr ⟨tb_3 (List.mem_of_getElem? (i := 232) rfl), List.forall_mem_cons.mpr ⟨tb_3 (List.mem_of_getElem? (i := 233) rfl), List.forall_mem_cons.mpr ⟨tb_3 (List.mem_of_getElem? (i := 235) rfl), (fun _ h => absurd h List.not_mem_nil)⟩⟩⟩⟩⟩⟩⟩⟩⟩⟩⟩⟩⟩⟩⟩⟩⟩⟩⟩⟩⟩⟩⟩⟩
theorem ri_20 : ∀ w ∈ wsL_law_r20, w ∈ lw_tbl := List.forall_mem_cons.mpr ⟨pv_5 (y := yX6_plain) (n := 28) (List.mem_of_getElem? (i := 11) rfl), List.forall_mem_cons.mpr ⟨tb_3 (List.mem_of_getElem? (i := 236) rfl), List.forall_mem_cons.mpr ⟨tb_3 (List.mem_of_getElem? (i := 53) rfl), List.forall_mem_cons.mpr ⟨tb_2 (List.mem_of_getElem? (i := 203) rfl), List.forall_mem_cons.mpr ⟨tb_2 (List.mem_of_getElem? (i := 204) rfl), List.forall_mem_cons.mpr ⟨tb_2 (List.mem_of_getElem? (i := 205) rfl), List.forall_mem_cons.mpr ⟨tb_2 (List.mem_of_getElem? (i := 206) rfl), List.forall_mem_cons.mpr ⟨tb_3 (List.mem_of_getElem? (i := 237) rfl), List.forall_mem_cons.mpr ⟨tb_3 (List.mem_of_getElem? (i := 238) rfl), List.forall_mem_cons.mpr ⟨tb_3 (List.mem_of_getElem? (i := 239) rfl), List.forall_mem_cons.mpr ⟨tb_4 (List.mem_of_getElem? (i := 0) rfl), List.forall_mem_cons.mpr ⟨tb_4 (List.mem_of_getElem? (i := 1) rfl), List.forall_mem_cons.mpr ⟨tb_2 (List.mem_of_getElem? (i := 207) rfl), List.forall_mem_cons.mpr ⟨tb_2 (List.mem_of_getElem? (i := 208) rfl), List.forall_mem_cons.mpr ⟨tb_2 (List.mem_of_getElem? (i := 209) rfl), List.forall_mem_cons.mpr ⟨tb_2 (List.mem_of_getElem? (i := 210) rfl), List.forall_mem_cons.mpr ⟨tb_4 (List.mem_of_getElem? (i := 2) rfl), List.forall_mem_cons.mpr ⟨tb_4 (List.mem_of_getElem? (i := 3) rfl), List.forall_mem_cons.mpr ⟨tb_4 (List.mem_of_getElem? (i := 4) rfl), List.forall_mem_cons.mpr ⟨tb_4 (List.mem_of_getElem? (i := 5) rfl), List.forall_mem_cons.mpr ⟨tb_2 (List.mem_of_getElem? (i := 211) rfl), List.forall_mem_cons.mpr ⟨tb_2 (List.mem_of_getElem? (i := 212) rfl), List.forall_mem_cons.mpr ⟨tb_2 (List.mem_of_getElem? (i := 213) rfl), List.forall_mem_cons.mpr ⟨tb_2 (List.mem_of_getElem? (i := 214) rfl), (fun _ h => absurd h List.not_mem_nil)⟩⟩⟩⟩⟩⟩⟩⟩⟩⟩⟩⟩⟩⟩⟩⟩⟩⟩⟩⟩⟩⟩⟩⟩
theorem ri_21 : ∀ w ∈ wsL_law_r21, w ∈ lw_tbl := List.forall_mem_cons.mpr ⟨tb_4 (List.mem_of_getElem? (i := 6) rfl), List.forall_mem_cons.mpr ⟨tb_4 (List.mem_of_getElem? (i := 7) rfl), List.forall_mem_cons.mpr ⟨tb_4 (List.mem_of_getElem? (i := 8) rfl), List.forall_mem_cons.mpr ⟨tb_4 (List.mem_of_getElem? (i := 9) rfl), List.forall_mem_cons.mpr ⟨tb_2 (List.mem_of_getElem? (i := 215) rfl), List.forall_mem_cons.mpr ⟨tb_2 (List.mem_of_getElem? (i := 216) rfl), List.forall_mem_cons.mpr ⟨tb_2 (List.mem_of_getElem? (i := 217) rfl), List.forall_mem_cons.mpr ⟨tb_2 (List.mem_of_getElem? (i := 218) rfl), List.forall_mem_cons.mpr ⟨tb_4 (List.mem_of_getElem? (i := 10) rfl), List.forall_mem_cons.mpr ⟨tb_4 (List.mem_of_getElem? (i := 11) rfl), List.forall_mem_cons.mpr ⟨tb_4 (List.mem_of_getElem? (i := 12) rfl), List.forall_mem_cons.mpr ⟨tb_4 (List.mem_of_getElem? (i := 13) rfl), List.forall_mem_cons.mpr ⟨tb_2 (List.mem_of_getElem? (i := 219) rfl), List.forall_mem_cons.mpr ⟨tb_2 (List.mem_of_getElem? (i := 220) rfl), List.forall_mem_cons.mpr ⟨tb_2 (List.mem_of_getElem? (i := 221) rfl), List.forall_mem_cons.mpr ⟨tb_2 (List.mem_of_getElem? (i := 222) rfl), List.forall_mem_cons.mpr ⟨tb_4 (List.mem_of_getElem? (i := 14) rfl), List.forall_mem_cons.mpr ⟨tb_4 (List.mem_of_getElem? (i := 15) rfl), List.forall_mem_cons.mpr ⟨tb_4 (List.mem_of_getElem? (i := 16) rfl), List.forall_mem_cons.mpr ⟨tb_4 (List.mem_of_getElem? (i := 17) rfl), List.forall_mem_cons.mpr ⟨tb_2 (List.mem_of_getElem? (i := 223) rfl), List.forall_mem_cons.mpr ⟨tb_2 (List.mem_of_getElem? (i := 224) rfl), List.forall_mem_cons.mpr ⟨tb_2 (List.mem_of_getElem? (i := 225) rfl), List.forall_mem_cons.mpr ⟨tb_2 (List.mem_of_getElem? (i := 226) rfl), (fun _ h => absurd h List.not_mem_nil)⟩⟩⟩⟩⟩⟩⟩⟩⟩⟩⟩⟩⟩⟩⟩⟩⟩⟩⟩⟩⟩⟩⟩⟩
theorem ri_22 : ∀ w ∈ wsL_law_r22, w ∈ lw_tbl := List.forall_mem_cons.mpr ⟨tb_4 (List.mem_of_getElem? (i := 18) rfl), List.forall_mem_cons.mpr ⟨tb_4 (List.mem_of_getElem? (i := 19) rfl), List.forall_mem_cons.mpr ⟨tb_4 (List.mem_of_getElem? (i := 20) rfl), List.forall_mem_cons.mpr ⟨tb_4 (List.mem_of_getElem? (i := 21) rfl), List.forall_mem_cons.mpr ⟨tb_2 (List.mem_of_getElem? (i := 227) rfl), List.forall_mem_cons.mpr ⟨tb_2 (List.mem_of_getElem? (i := 228) rfl), List.forall_mem_cons.mpr ⟨tb_2 (List.mem_of_getElem? (i := 229) rfl), List.forall_mem_cons.mpr ⟨tb_2 (List.mem_of_getElem? (i := 230) rfl), List.forall_mem_cons.mpr ⟨tb_4 (List.mem_of_getElem? (i := 22) rfl), List.forall_mem_cons.mpr ⟨tb_4 (List.mem_of_getElem? (i := 23) rfl), List.forall_mem_cons.mpr ⟨tb_4 (List.mem_of_getElem? (i := 24) rfl), List.forall_mem_cons.mpr ⟨tb_4 (List.mem_of_getElem? (i := 25) rfl), List.forall_mem_cons.mpr ⟨tb_2 (List.mem_of_getElem? (i := 231) rfl), List.forall_mem_cons.mpr ⟨tb_2 (List.mem_of_getElem? (i := 232) rfl), List.forall_mem_cons.mpr ⟨tb_2 (List.mem_of_getElem? (i := 233) rfl), List.forall_mem_cons.mpr ⟨tb_2 (List.mem_of_getElem? (i := 234) rfl), List.forall_mem_cons.mpr ⟨tb_4 (List.mem_of_getElem? (i := 26) rfl), List.forall_mem_cons.mpr ⟨tb_4 (List.mem_of_getElem? (i := 27) rfl), List.forall_mem_cons.mpr ⟨tb_4 (List.mem_of_getElem? (i := 28) rfl), List.forall_mem_cons.mpr ⟨tb_4 (List.mem_of_getElem? (i := 29) rfl), List.forall_mem_cons.mpr ⟨tb_2 (List.mem_of_getElem? (i := 235) rfl), List.forall_mem_cons.mpr ⟨tb_2 (List.mem_of_getElem? (i := 236) rfl), List.forall_mem_cons.mpr ⟨tb_2 (List.mem_of_getElem? (i := 237) rfl), List.forall_mem_cons.mpr ⟨tb_2 (List.mem_of_getElem? (i := 238) rfl), (fun _ h => absurd h List.not_mem_nil)⟩⟩⟩⟩⟩⟩⟩⟩⟩⟩⟩⟩⟩⟩⟩⟩⟩⟩⟩⟩⟩⟩⟩⟩
theorem ri_23 : ∀ w ∈ wsL_law_r23, w ∈ lw_tbl := List.forall_mem_cons.mpr ⟨tb_4 (List.mem_of_getElem? (i := 30) rfl), List.forall_mem_cons.mpr ⟨tb_4 (List.mem_of_getElem? (i := 31) rfl), List.forall_mem_cons.mpr ⟨tb_4 (List.mem_of_getElem? (i := 32) rfl), List.forall_mem_cons.mpr ⟨tb_4 (List.mem_of_getElem? (i := 33) rfl), List.forall_mem_cons.mpr ⟨tb_2 (List.mem_of_getElem? (i := 239) rfl), List.forall_mem_cons.mpr ⟨tb_3 (List.mem_of_getElem? (i := 0) rfl), List.forall_mem_cons.mpr ⟨tb_3 (List.mem_of_getElem? (i := 1) rfl), List.forall_mem_cons.mpr ⟨tb_3 (List.mem_of_getElem? (i := 2) rfl), List.forall_mem_cons.mpr ⟨tb_4 (List.mem_of_getElem? (i := 34) rfl), List.forall_mem_cons.mpr ⟨tb_4 (List.mem_of_getElem? (i := 35) rfl), List.forall_mem_cons.mpr ⟨tb_4 (List.mem_of_getElem? (i := 36) rfl), List.forall_mem_cons.mpr ⟨tb_4 (List.mem_of_getElem? (i := 37) rfl), List.forall_mem_cons.mpr ⟨tb_3 (List.mem_of_getElem? (i := 3) rfl), List.forall_mem_cons.mpr ⟨tb_3 (List.mem_of_getElem? (i := 4) rfl), List.forall_mem_cons.mpr ⟨tb_3 (List.mem_of_getElem? (i := 5) rfl), List.forall_mem_cons.mpr ⟨tb_3 (List.mem_of_getElem? (i := 6) rfl), List.forall_mem_cons.mpr ⟨tb_4 (List.mem_of_getElem? (i := 38) rfl), List.forall_mem_cons.mpr ⟨tb_4 (List.mem_of_getElem? (i := 39) rfl), List.forall_mem_cons.mpr ⟨tb_4 (List.mem_of_getElem? (i := 40) rfl), List.forall_mem_cons.mpr ⟨tb_4 (List.mem_of_getElem? (i := 41) rfl), List.forall_mem_cons.mpr ⟨tb_3 (List.mem_of_getElem? (i := 7) rfl), List.forall_mem_cons.mpr ⟨tb_3 (List.mem_of_getElem? (i := 8) rfl), List.forall_mem_cons.mpr ⟨tb_3 (List.mem_of_getElem? (i := 9) rfl), List.forall_mem_cons.mpr ⟨tb_3 (List.mem_of_getElem? (i := 10) rfl), (fun _ h => absurd h List.not_mem_nil)⟩⟩⟩⟩⟩⟩⟩⟩⟩⟩⟩⟩⟩⟩⟩⟩⟩⟩⟩⟩⟩⟩⟩⟩
theorem ri_24 : ∀ w ∈ wsL_law_r24, w ∈ lw_tbl := List.forall_mem_cons.mpr ⟨tb_4 (List.mem_of_getElem? (i := 42) rfl), List.forall_mem_cons.mpr ⟨tb_4 (List.mem_of_getElem? (i := 43) rfl), List.forall_mem_cons.mpr ⟨tb_4 (List.mem_of_getElem? (i := 44) rfl), List.forall_mem_cons.mpr ⟨tb_4 (List.mem_of_getElem? (i := 45) rfl), List.forall_mem_cons.mpr ⟨tb_3 (List.mem_of_getElem? (i := 11) rfl), List.forall_mem_cons.mpr ⟨tb_3 (List.mem_of_getElem? (i := 12) rfl), List.forall_mem_cons.mpr ⟨tb_3 (List.mem_of_getElem? (i := 13) rfl), List.forall_mem_cons.mpr ⟨tb_3 (List.mem_of_getElem? (i := 14) rfl), List.forall_mem_cons.mpr ⟨tb_4 (List.mem_of_getElem? (i := 46) rfl), List.forall_mem_cons.mpr ⟨tb_4 (List.mem_of_getElem? (i := 47) rfl), List.forall_mem_cons.mpr ⟨tb_4 (List.mem_of_getElem? (i := 48) rfl), List.forall_mem_cons.mpr ⟨tb_4 (List.mem_of_getElem? (i := 49) rfl), List.forall_mem_cons.mpr ⟨tb_3 (List.mem_of_getElem? (i := 15) rfl), List.forall_mem_cons.mpr ⟨tb_3 (List.mem_of_getElem? (i := 16) rfl), List.forall_mem_cons.mpr ⟨tb_3 (List.mem_of_getElem? (i := 17) rfl), List.forall_mem_cons.mpr ⟨tb_3 (List.mem_of_getElem? (i := 18) rfl), List.forall_mem_cons.mpr ⟨tb_3 (List.mem_of_getElem? (i := 21) rfl), List.forall_mem_cons.mpr ⟨pv_4 (y := yX2_latest) (n := 2) (List.mem_of_getElem? (i := 5) rfl), List.forall_mem_cons.mpr ⟨tb_3 (List.mem_of_getElem? (i := 22) rfl), List.forall_mem_cons.mpr ⟨tb_4 (List.mem_of_getElem? (i := 50) rfl), List.forall_mem_cons.mpr ⟨tb_4 (List.mem_of_getElem? (i := 51) rfl), List.forall_mem_cons.mpr ⟨tb_4 (List.mem_of_getElem? (i := 52) rfl), List.forall_mem_cons.mpr ⟨tb_4 (List.mem_of_getElem? (i := 53) rfl), (fun _ h => absurd h List.not_mem_nil)⟩⟩⟩⟩⟩⟩⟩⟩⟩⟩⟩⟩⟩⟩⟩⟩⟩⟩⟩⟩⟩⟩⟩
theorem inX0 : ∀ w ∈ wsX00, w ∈ lw_tbl := show ∀ w ∈ ([u_lay RX0 TX0 0, u_lay RX0 TX0 1, u_lay RX0 TX0 2, u_lay RX0 TX0 3] : List Cond), w ∈ lw_tbl from List.forall_mem_cons.mpr ⟨tb_1 (List.mem_of_getElem? (i := 108) rfl), List.forall_mem_cons.mpr ⟨tb_1 (List.mem_of_getElem? (i := 110) rfl), List.forall_mem_cons.mpr ⟨tb_1 (List.mem_of_getElem? (i := 112) rfl), List.forall_mem_cons.mpr ⟨tb_1 (List.mem_of_getElem? (i := 114) rfl), (fun _ h => absurd h List.not_mem_nil)⟩⟩⟩⟩
theorem inX1 : ∀ w ∈ wsX10, w ∈ lw_tbl := show ∀ w ∈ ([u_lay RX1 TX1 0, u_lay RX1 TX1 1, u_lay RX1 TX1 2] : List Cond), w ∈ lw_tbl from List.forall_mem_cons.mpr ⟨tb_1 (List.mem_of_getElem? (i := 30) rfl), List.forall_mem_cons.mpr ⟨tb_1 (List.mem_of_getElem? (i := 32) rfl), List.forall_mem_cons.mpr ⟨tb_1 (List.mem_of_getElem? (i := 34) rfl), (fun _ h => absurd h List.not_mem_nil)⟩⟩⟩
theorem inX2 : ∀ w ∈ wsX20, w ∈ lw_tbl := show ∀ w ∈ ([u_lay RX2 TX2 0, u_lay RX2 TX2 1] : List Cond), w ∈ lw_tbl from List.forall_mem_cons.mpr ⟨tb_1 (List.mem_of_getElem? (i := 47) rfl), List.forall_mem_cons.mpr ⟨tb_1 (List.mem_of_getElem? (i := 49) rfl), (fun _ h => absurd h List.not_mem_nil)⟩⟩
theorem inX3 : ∀ w ∈ wsX30, w ∈ lw_tbl := show ∀ w ∈ ([u_lay RX3 TX3 0, u_lay RX3 TX3 1, u_lay RX3 TX3 2, u_lay RX3 TX3 3, u_lay RX3 TX3 4, u_lay RX3 TX3 5, u_lay RX3 TX3 6, u_lay RX3 TX3 7, u_lay RX3 TX3 8] : List Cond), w ∈ lw_tbl from List.forall_mem_cons.mpr ⟨tb_1 (List.mem_of_getElem? (i := 76) rfl), List.forall_mem_cons.mpr ⟨tb_1 (List.mem_of_getElem? (i := 78) rfl), List.forall_mem_cons.mpr ⟨tb_1 (List.mem_of_getElem? (i := 80) rfl), List.forall_mem_cons.mpr ⟨tb_1 (List.mem_of_getElem? (i := 82) rfl), List.forall_mem_cons.mpr ⟨tb_1 (List.mem_of_getElem? (i := 84) rfl), List.forall_mem_cons.mpr ⟨tb_1 (List.mem_of_getElem? (i := 86) rfl), List.forall_mem_cons.mpr ⟨tb_1 (List.mem_of_getElem? (i := 88) rfl), List.forall_mem_cons.mpr ⟨tb_1 (List.mem_of_getElem? (i := 90) rfl), List.forall_mem_cons.mpr ⟨tb_1 (List.mem_of_getElem? (i := 92) rfl), (fun _ h => absurd h List.not_mem_nil)⟩⟩⟩⟩⟩⟩⟩⟩⟩
theorem inX4 : ∀ w ∈ wsX40, w ∈ lw_tbl := show ∀ w ∈ ([u_lay RX4 TX4 0, u_lay RX4 TX4 1, u_lay RX4 TX4 2, u_lay RX4 TX4 3, u_lay RX4 TX4 4, u_lay RX4 TX4 5, u_lay RX4 TX4 6, u_lay RX4 TX4 7, u_lay RX4 TX4 8, u_lay RX4 TX4 9, u_lay RX4 TX4 10, u_lay RX4 TX4 11] : List Cond), w ∈ lw_tbl from List.forall_mem_cons.mpr ⟨tb_1 (List.mem_of_getElem? (i := 137) rfl), List.forall_mem_cons.mpr ⟨tb_1 (List.mem_of_getElem? (i := 139) rfl), List.forall_mem_cons.mpr ⟨tb_1 (List.mem_of_getElem? (i := 141) rfl), List.forall_mem_cons.mpr ⟨tb_1 (List.mem_of_getElem? (i := 143) rfl), List.forall_mem_cons.mpr ⟨tb_1 (List.mem_of_getElem? (i := 145) rfl), List.forall_mem_cons.mpr ⟨tb_1 (List.mem_of_getElem? (i := 147) rfl), List.forall_mem_cons.mpr ⟨tb_1 (List.mem_of_getElem? (i := 149) rfl), List.forall_mem_cons.mpr ⟨tb_1 (List.mem_of_getElem? (i := 151) rfl), List.forall_mem_cons.mpr ⟨tb_1 (List.mem_of_getElem? (i := 153) rfl), List.forall_mem_cons.mpr ⟨tb_1 (List.mem_of_getElem? (i := 155) rfl), List.forall_mem_cons.mpr ⟨tb_1 (List.mem_of_getElem? (i := 157) rfl), List.forall_mem_cons.mpr ⟨tb_1 (List.mem_of_getElem? (i := 159) rfl), (fun _ h => absurd h List.not_mem_nil)⟩⟩⟩⟩⟩⟩⟩⟩⟩⟩⟩⟩
theorem inX5 : ∀ w ∈ wsX50, w ∈ lw_tbl := show ∀ w ∈ ([u_lay RX5 TX5 0, u_lay RX5 TX5 1, u_lay RX5 TX5 2] : List Cond), w ∈ lw_tbl from List.forall_mem_cons.mpr ⟨tb_1 (List.mem_of_getElem? (i := 165) rfl), List.forall_mem_cons.mpr ⟨tb_1 (List.mem_of_getElem? (i := 167) rfl), List.forall_mem_cons.mpr ⟨tb_1 (List.mem_of_getElem? (i := 169) rfl), (fun _ h => absurd h List.not_mem_nil)⟩⟩⟩
theorem inX6 : ∀ w ∈ wsX60, w ∈ lw_tbl := show ∀ w ∈ ([u_lay RX6 TX6 0, u_lay RX6 TX6 1, u_lay RX6 TX6 2, u_lay RX6 TX6 3, u_lay RX6 TX6 4, u_lay RX6 TX6 5, u_lay RX6 TX6 6, u_lay RX6 TX6 7, u_lay RX6 TX6 8, u_lay RX6 TX6 9, u_lay RX6 TX6 10, u_lay RX6 TX6 11, u_lay RX6 TX6 12, u_lay RX6 TX6 13, u_lay RX6 TX6 14, u_lay RX6 TX6 15, u_lay RX6 TX6 16, u_lay RX6 TX6 17, u_lay RX6 TX6 18, u_lay RX6 TX6 19, u_lay RX6 TX6 20, u_lay RX6 TX6 21, u_lay RX6 TX6 22, u_lay RX6 TX6 23, u_lay RX6 TX6 24, u_lay RX6 TX6 25, u_lay RX6 TX6 26, u_lay RX6 TX6 27] : List Cond), w ∈ lw_tbl from List.forall_mem_cons.mpr ⟨tb_3 (List.mem_of_getElem? (i := 57) rfl), List.forall_mem_cons.mpr ⟨tb_3 (List.mem_of_getElem? (i := 59) rfl), List.forall_mem_cons.mpr ⟨tb_3 (List.mem_of_getElem? (i := 61) rfl), List.forall_mem_cons.mpr ⟨tb_3 (List.mem_of_getElem? (i := 63) rfl), List.forall_mem_cons.mpr ⟨tb_3 (List.mem_of_getElem? (i := 65) rfl), List.forall_mem_cons.mpr ⟨tb_3 (List.mem_of_getElem? (i := 67) rfl), List.forall_mem_cons.mpr ⟨tb_3 (List.mem_of_getElem? (i := 69) rfl), List.forall_mem_cons.mpr ⟨tb_3 (List.mem_of_getElem? (i := 71) rfl), List.forall_mem_cons.mpr ⟨tb_3 (List.mem_of_getElem? (i := 73) rfl), List.forall_mem_cons.mpr ⟨tb_3 (List.mem_of_getElem? (i := 75) rfl), List.forall_mem_cons.mpr ⟨tb_3 (List.mem_of_getElem? (i := 77) rfl), List.forall_mem_cons.mpr ⟨tb_3 (List.mem_of_getElem? (i := 79) rfl), List.forall_mem_cons.mpr ⟨tb_3 (List.mem_of_getElem? (i := 81) rfl), List.forall_mem_cons.mpr ⟨tb_3 (List.mem_of_getElem? (i := 83) rfl), List.forall_mem_cons.mpr ⟨tb_3 (List.mem_of_getElem? (i := 85) rfl), List.forall_mem_cons.mpr ⟨tb_3 (List.mem_of_getElem? (i := 87) rfl), List.forall_mem_cons.mpr ⟨tb_3 (List.mem_of_getElem? (i := 89) rfl), List.forall_mem_cons.mpr ⟨tb_3 (List.mem_of_getElem? (i := 91) rfl), List.forall_mem_cons.mpr ⟨tb_3 (List.mem_of_getElem? (i := 93) rfl), List.forall_mem_cons.mpr ⟨tb_3 (List.mem_of_getElem? (i := 95) rfl), List.forall_mem_cons.mpr ⟨tb_3 (List.mem_of_getElem? (i := 97) rfl), List.forall_mem_cons.mpr ⟨tb_3 (List.mem_of_getElem? (i := 99) rfl), List.forall_mem_cons.mpr ⟨tb_3 (List.mem_of_getElem? (i := 101) rfl), List.forall_mem_cons.mpr ⟨tb_3 (List.mem_of_getElem? (i := 103) rfl), List.forall_mem_cons.mpr ⟨tb_3 (List.mem_of_getElem? (i := 105) rfl), List.forall_mem_cons.mpr ⟨tb_3 (List.mem_of_getElem? (i := 107) rfl), List.forall_mem_cons.mpr ⟨tb_3 (List.mem_of_getElem? (i := 109) rfl), List.forall_mem_cons.mpr ⟨tb_3 (List.mem_of_getElem? (i := 111) rfl), (fun _ h => absurd h List.not_mem_nil)⟩⟩⟩⟩⟩⟩⟩⟩⟩⟩⟩⟩⟩⟩⟩⟩⟩⟩⟩⟩⟩⟩⟩⟩⟩⟩⟩⟩
theorem wsL_law_in : ∀ w ∈ wsL_law, w ∈ lw_tbl := List.forall_mem_append.mpr ⟨List.forall_mem_append.mpr ⟨List.forall_mem_append.mpr ⟨List.forall_mem_append.mpr ⟨List.forall_mem_append.mpr ⟨List.forall_mem_append.mpr ⟨List.forall_mem_append.mpr ⟨List.forall_mem_append.mpr ⟨List.forall_mem_append.mpr ⟨ri_1, List.forall_mem_append.mpr ⟨ri_2, List.forall_mem_append.mpr ⟨ri_3, List.forall_mem_append.mpr ⟨ri_4, List.forall_mem_append.mpr ⟨ri_5, List.forall_mem_append.mpr ⟨ri_6, List.forall_mem_append.mpr ⟨ri_7, List.forall_mem_append.mpr ⟨ri_8, List.forall_mem_append.mpr ⟨ri_9, List.forall_mem_append.mpr ⟨ri_10, List.forall_mem_append.mpr ⟨ri_11, List.forall_mem_append.mpr ⟨ri_12, List.forall_mem_append.mpr ⟨ri_13, List.forall_mem_append.mpr ⟨ri_14, List.forall_mem_append.mpr ⟨ri_15, List.forall_mem_append.mpr ⟨ri_16, List.forall_mem_append.mpr ⟨ri_17, List.forall_mem_append.mpr ⟨ri_18, List.forall_mem_append.mpr ⟨ri_19, List.forall_mem_append.mpr ⟨ri_20, List.forall_mem_append.mpr ⟨ri_21, List.forall_mem_append.mpr ⟨ri_22, List.forall_mem_append.mpr ⟨ri_23, ri_24⟩⟩⟩⟩⟩⟩⟩⟩⟩⟩⟩⟩⟩⟩⟩⟩⟩⟩⟩⟩⟩⟩⟩, inX5⟩, inX6⟩, inX1⟩, inX2⟩, inX4⟩, inX3⟩, inX0⟩, fun _ h => absurd h List.not_mem_nil⟩
def nws : List Cond := [Cond.fieldLinkNest RX5 91 "AtomicThreads$Memory" "values" "[I" RX5, Cond.fieldLinkNest RX5 95 "AtomicThreads$Memory" "versions" "[I" RX5, Cond.fieldLinkNest RX5 98 "AtomicThreads$Memory" "commitCount" "I" RX5, Cond.fieldLinkNest RX5 126 "AtomicThreads$Paper" "count" "I" RX5, Cond.fieldLinkNest RX5 59 "AtomicThreads$Program" "length" "I" RX5, Cond.fieldLinkNest RX4 62 "AtomicThreads$Program" "length" "I" RX5, Cond.fieldLinkNest RX4 81 "AtomicThreads$Mark" "registers" "[I" RX5, Cond.fieldLinkNest RX4 88 "AtomicThreads$Mark" "writtenValues" "[I" RX5, Cond.fieldLinkNest RX4 80 "AtomicThreads$Mark" "written" "I" RX5, Cond.fieldLinkNest RX4 79 "AtomicThreads$Mark" "place" "I" RX5, Cond.fieldLinkNest RX5 38 "AtomicThreads$Strand" "program" "LAtomicThreads$Program;" RX5, Cond.fieldLinkNest RX5 111 "AtomicThreads$Strand" "writtenValues" "[I" RX5, Cond.fieldLinkNest RX5 185 "AtomicThreads$Strand" "attemptSince" "I" RX5, Cond.fieldLinkNest RX5 114 "AtomicThreads$Strand" "readSet" "I" RX5, Cond.fieldLinkNest RX5 117 "AtomicThreads$Strand" "written" "I" RX5, Cond.fieldLinkNest RX5 55 "AtomicThreads$Strand" "state" "I" RX5, Cond.fieldLinkNest RX5 101 "AtomicThreads$Strand" "place" "I" RX5, Cond.fieldLinkNest RX5 123 "AtomicThreads$Strand" "discarded" "I" RX5, Cond.methodLinkNest RX5 9 yX1_init RX5, Cond.methodLinkNest RX5 18 yX2_init RX5, Cond.methodLinkNest RX5 29 yX4_init RX5, Cond.methodLinkNest RX4 11 yX3_init RX5, Cond.methodLinkNest RX4 38 yX0_init RX5, Cond.methodLinkNest RX5 34 yX4_isUnderWay RX5, Cond.methodLinkNest RX5 42 yX3_isFull RX5, Cond.methodLinkNest RX5 51 yX3_append RX5, Cond.methodLinkNest RX5 62 yX3_goThrough RX5, Cond.methodLinkNest RX5 66 yX4_begin RX5, Cond.methodLinkNest RX5 69 yX4_leaveAttempt RX5, Cond.methodLinkNest RX5 135 yX3_firstAt RX5, Cond.methodLinkNest RX5 138 yX3_secondAt RX5, Cond.methodLinkNest RX5 141 yX3_kindAt RX5, Cond.methodLinkNest RX5 144 yX4_assign RX5, Cond.methodLinkNest RX4 45 yX5_isRegister RX5, Cond.methodLinkNest RX5 104 yX4_registerValue RX5, Cond.methodLinkNest RX5 108 yX4_hasWritten RX5, Cond.methodLinkNest RX5 188 yX1_hasChanged RX5, Cond.methodLinkNest RX5 192 yX4_discard RX5, Cond.methodLinkNest RX5 152 yX4_write RX5, Cond.methodLinkNest RX4 69 yX5_isVariable RX5, Cond.methodLinkNest RX5 155 yX2_write RX5, Cond.methodLinkNest RX5 157 yX4_goOnTo RX5, Cond.methodLinkNest RX5 160 yX4_beginAttempt RX5, Cond.methodLinkNest RX5 163 yX4_noteAndGoOn RX5, Cond.methodLinkNest RX5 166 yX4_endFirstPart RX5, Cond.methodLinkNest RX4 89 yX3_behindEnd RX5, Cond.methodLinkNest RX5 169 yX3_behindEnd RX5, Cond.methodLinkNest RX5 172 yX3_elsewhere RX5, Cond.methodLinkNest RX5 195 yX4_latestFirstPart RX5, Cond.methodLinkNest RX4 92 yX3_kindAt RX5, Cond.methodLinkNest RX5 198 yX4_goBackTo RX5, Cond.methodLinkNest RX5 201 yX3_secondPart RX5, Cond.methodLinkNest RX5 208 yX4_park RX5, Cond.methodLinkNest RX5 211 yX4_isInAttempt RX5, Cond.methodLinkNest RX5 214 yX4_undoAttempt RX5, Cond.methodLinkNest RX5 217 yX4_fail RX5, Cond.methodLinkNest RX5 220 yX4_handle RX5, Cond.methodLinkNest RX4 99 yX3_middleOf RX5, Cond.methodLinkNest RX4 102 yX3_firstAt RX5, Cond.methodLinkNest RX4 105 yX3_secondPart RX5, Cond.methodLinkNest RX5 223 yX3_openerOf RX5, Cond.methodLinkNest RX5 80 yX1_countCommit RX5, Cond.methodLinkNest RX5 83 yX1_change RX5, Cond.methodLinkNest RX1 22 yX5_isVariable RX5, Cond.methodLinkNest RX5 120 yX4_waitsFor RX5, Cond.methodLinkNest RX5 229 yX4_wakeUp RX5, Cond.methodLinkNest RX5 129 yX2_latest RX5]
theorem nw_f_X5_91 : Cond.fieldLinkNest RX5 91 "AtomicThreads$Memory" "values" "[I" RX5 ∈ nws := List.mem_of_getElem? (i := 0) rfl
theorem nw_f_X5_95 : Cond.fieldLinkNest RX5 95 "AtomicThreads$Memory" "versions" "[I" RX5 ∈ nws := List.mem_of_getElem? (i := 1) rfl
theorem nw_f_X5_98 : Cond.fieldLinkNest RX5 98 "AtomicThreads$Memory" "commitCount" "I" RX5 ∈ nws := List.mem_of_getElem? (i := 2) rfl
theorem nw_f_X5_126 : Cond.fieldLinkNest RX5 126 "AtomicThreads$Paper" "count" "I" RX5 ∈ nws := List.mem_of_getElem? (i := 3) rfl
theorem nw_f_X5_59 : Cond.fieldLinkNest RX5 59 "AtomicThreads$Program" "length" "I" RX5 ∈ nws := List.mem_of_getElem? (i := 4) rfl
theorem nw_f_X4_62 : Cond.fieldLinkNest RX4 62 "AtomicThreads$Program" "length" "I" RX5 ∈ nws := List.mem_of_getElem? (i := 5) rfl
theorem nw_f_X4_81 : Cond.fieldLinkNest RX4 81 "AtomicThreads$Mark" "registers" "[I" RX5 ∈ nws := List.mem_of_getElem? (i := 6) rfl
theorem nw_f_X4_88 : Cond.fieldLinkNest RX4 88 "AtomicThreads$Mark" "writtenValues" "[I" RX5 ∈ nws := List.mem_of_getElem? (i := 7) rfl
theorem nw_f_X4_80 : Cond.fieldLinkNest RX4 80 "AtomicThreads$Mark" "written" "I" RX5 ∈ nws := List.mem_of_getElem? (i := 8) rfl
theorem nw_f_X4_79 : Cond.fieldLinkNest RX4 79 "AtomicThreads$Mark" "place" "I" RX5 ∈ nws := List.mem_of_getElem? (i := 9) rfl
theorem nw_f_X5_38 : Cond.fieldLinkNest RX5 38 "AtomicThreads$Strand" "program" "LAtomicThreads$Program;" RX5 ∈ nws := List.mem_of_getElem? (i := 10) rfl
theorem nw_f_X5_111 : Cond.fieldLinkNest RX5 111 "AtomicThreads$Strand" "writtenValues" "[I" RX5 ∈ nws := List.mem_of_getElem? (i := 11) rfl
theorem nw_f_X5_185 : Cond.fieldLinkNest RX5 185 "AtomicThreads$Strand" "attemptSince" "I" RX5 ∈ nws := List.mem_of_getElem? (i := 12) rfl
theorem nw_f_X5_114 : Cond.fieldLinkNest RX5 114 "AtomicThreads$Strand" "readSet" "I" RX5 ∈ nws := List.mem_of_getElem? (i := 13) rfl
theorem nw_f_X5_117 : Cond.fieldLinkNest RX5 117 "AtomicThreads$Strand" "written" "I" RX5 ∈ nws := List.mem_of_getElem? (i := 14) rfl
theorem nw_f_X5_55 : Cond.fieldLinkNest RX5 55 "AtomicThreads$Strand" "state" "I" RX5 ∈ nws := List.mem_of_getElem? (i := 15) rfl
theorem nw_f_X5_101 : Cond.fieldLinkNest RX5 101 "AtomicThreads$Strand" "place" "I" RX5 ∈ nws := List.mem_of_getElem? (i := 16) rfl
theorem nw_f_X5_123 : Cond.fieldLinkNest RX5 123 "AtomicThreads$Strand" "discarded" "I" RX5 ∈ nws := List.mem_of_getElem? (i := 17) rfl
theorem nw_m_X5_9 : Cond.methodLinkNest RX5 9 yX1_init RX5 ∈ nws := List.mem_of_getElem? (i := 18) rfl
theorem nw_m_X5_18 : Cond.methodLinkNest RX5 18 yX2_init RX5 ∈ nws := List.mem_of_getElem? (i := 19) rfl
theorem nw_m_X5_29 : Cond.methodLinkNest RX5 29 yX4_init RX5 ∈ nws := List.mem_of_getElem? (i := 20) rfl
theorem nw_m_X4_11 : Cond.methodLinkNest RX4 11 yX3_init RX5 ∈ nws := List.mem_of_getElem? (i := 21) rfl
theorem nw_m_X4_38 : Cond.methodLinkNest RX4 38 yX0_init RX5 ∈ nws := List.mem_of_getElem? (i := 22) rfl
theorem nw_m_X5_34 : Cond.methodLinkNest RX5 34 yX4_isUnderWay RX5 ∈ nws := List.mem_of_getElem? (i := 23) rfl
theorem nw_m_X5_42 : Cond.methodLinkNest RX5 42 yX3_isFull RX5 ∈ nws := List.mem_of_getElem? (i := 24) rfl
theorem nw_m_X5_51 : Cond.methodLinkNest RX5 51 yX3_append RX5 ∈ nws := List.mem_of_getElem? (i := 25) rfl
theorem nw_m_X5_62 : Cond.methodLinkNest RX5 62 yX3_goThrough RX5 ∈ nws := List.mem_of_getElem? (i := 26) rfl
theorem nw_m_X5_66 : Cond.methodLinkNest RX5 66 yX4_begin RX5 ∈ nws := List.mem_of_getElem? (i := 27) rfl
theorem nw_m_X5_69 : Cond.methodLinkNest RX5 69 yX4_leaveAttempt RX5 ∈ nws := List.mem_of_getElem? (i := 28) rfl
theorem nw_m_X5_135 : Cond.methodLinkNest RX5 135 yX3_firstAt RX5 ∈ nws := List.mem_of_getElem? (i := 29) rfl
theorem nw_m_X5_138 : Cond.methodLinkNest RX5 138 yX3_secondAt RX5 ∈ nws := List.mem_of_getElem? (i := 30) rfl
theorem nw_m_X5_141 : Cond.methodLinkNest RX5 141 yX3_kindAt RX5 ∈ nws := List.mem_of_getElem? (i := 31) rfl
theorem nw_m_X5_144 : Cond.methodLinkNest RX5 144 yX4_assign RX5 ∈ nws := List.mem_of_getElem? (i := 32) rfl
theorem nw_m_X4_45 : Cond.methodLinkNest RX4 45 yX5_isRegister RX5 ∈ nws := List.mem_of_getElem? (i := 33) rfl
theorem nw_m_X5_104 : Cond.methodLinkNest RX5 104 yX4_registerValue RX5 ∈ nws := List.mem_of_getElem? (i := 34) rfl
theorem nw_m_X5_108 : Cond.methodLinkNest RX5 108 yX4_hasWritten RX5 ∈ nws := List.mem_of_getElem? (i := 35) rfl
theorem nw_m_X5_188 : Cond.methodLinkNest RX5 188 yX1_hasChanged RX5 ∈ nws := List.mem_of_getElem? (i := 36) rfl
theorem nw_m_X5_192 : Cond.methodLinkNest RX5 192 yX4_discard RX5 ∈ nws := List.mem_of_getElem? (i := 37) rfl
theorem nw_m_X5_152 : Cond.methodLinkNest RX5 152 yX4_write RX5 ∈ nws := List.mem_of_getElem? (i := 38) rfl
theorem nw_m_X4_69 : Cond.methodLinkNest RX4 69 yX5_isVariable RX5 ∈ nws := List.mem_of_getElem? (i := 39) rfl
theorem nw_m_X5_155 : Cond.methodLinkNest RX5 155 yX2_write RX5 ∈ nws := List.mem_of_getElem? (i := 40) rfl
theorem nw_m_X5_157 : Cond.methodLinkNest RX5 157 yX4_goOnTo RX5 ∈ nws := List.mem_of_getElem? (i := 41) rfl
theorem nw_m_X5_160 : Cond.methodLinkNest RX5 160 yX4_beginAttempt RX5 ∈ nws := List.mem_of_getElem? (i := 42) rfl
theorem nw_m_X5_163 : Cond.methodLinkNest RX5 163 yX4_noteAndGoOn RX5 ∈ nws := List.mem_of_getElem? (i := 43) rfl
theorem nw_m_X5_166 : Cond.methodLinkNest RX5 166 yX4_endFirstPart RX5 ∈ nws := List.mem_of_getElem? (i := 44) rfl
theorem nw_m_X4_89 : Cond.methodLinkNest RX4 89 yX3_behindEnd RX5 ∈ nws := List.mem_of_getElem? (i := 45) rfl
theorem nw_m_X5_169 : Cond.methodLinkNest RX5 169 yX3_behindEnd RX5 ∈ nws := List.mem_of_getElem? (i := 46) rfl
theorem nw_m_X5_172 : Cond.methodLinkNest RX5 172 yX3_elsewhere RX5 ∈ nws := List.mem_of_getElem? (i := 47) rfl
theorem nw_m_X5_195 : Cond.methodLinkNest RX5 195 yX4_latestFirstPart RX5 ∈ nws := List.mem_of_getElem? (i := 48) rfl
theorem nw_m_X4_92 : Cond.methodLinkNest RX4 92 yX3_kindAt RX5 ∈ nws := List.mem_of_getElem? (i := 49) rfl
theorem nw_m_X5_198 : Cond.methodLinkNest RX5 198 yX4_goBackTo RX5 ∈ nws := List.mem_of_getElem? (i := 50) rfl
theorem nw_m_X5_201 : Cond.methodLinkNest RX5 201 yX3_secondPart RX5 ∈ nws := List.mem_of_getElem? (i := 51) rfl
theorem nw_m_X5_208 : Cond.methodLinkNest RX5 208 yX4_park RX5 ∈ nws := List.mem_of_getElem? (i := 52) rfl
theorem nw_m_X5_211 : Cond.methodLinkNest RX5 211 yX4_isInAttempt RX5 ∈ nws := List.mem_of_getElem? (i := 53) rfl
theorem nw_m_X5_214 : Cond.methodLinkNest RX5 214 yX4_undoAttempt RX5 ∈ nws := List.mem_of_getElem? (i := 54) rfl
theorem nw_m_X5_217 : Cond.methodLinkNest RX5 217 yX4_fail RX5 ∈ nws := List.mem_of_getElem? (i := 55) rfl
theorem nw_m_X5_220 : Cond.methodLinkNest RX5 220 yX4_handle RX5 ∈ nws := List.mem_of_getElem? (i := 56) rfl
theorem nw_m_X4_99 : Cond.methodLinkNest RX4 99 yX3_middleOf RX5 ∈ nws := List.mem_of_getElem? (i := 57) rfl
theorem nw_m_X4_102 : Cond.methodLinkNest RX4 102 yX3_firstAt RX5 ∈ nws := List.mem_of_getElem? (i := 58) rfl
theorem nw_m_X4_105 : Cond.methodLinkNest RX4 105 yX3_secondPart RX5 ∈ nws := List.mem_of_getElem? (i := 59) rfl
theorem nw_m_X5_223 : Cond.methodLinkNest RX5 223 yX3_openerOf RX5 ∈ nws := List.mem_of_getElem? (i := 60) rfl
theorem nw_m_X5_80 : Cond.methodLinkNest RX5 80 yX1_countCommit RX5 ∈ nws := List.mem_of_getElem? (i := 61) rfl
theorem nw_m_X5_83 : Cond.methodLinkNest RX5 83 yX1_change RX5 ∈ nws := List.mem_of_getElem? (i := 62) rfl
theorem nw_m_X1_22 : Cond.methodLinkNest RX1 22 yX5_isVariable RX5 ∈ nws := List.mem_of_getElem? (i := 63) rfl
theorem nw_m_X5_120 : Cond.methodLinkNest RX5 120 yX4_waitsFor RX5 ∈ nws := List.mem_of_getElem? (i := 64) rfl
theorem nw_m_X5_229 : Cond.methodLinkNest RX5 229 yX4_wakeUp RX5 ∈ nws := List.mem_of_getElem? (i := 65) rfl
theorem nw_m_X5_129 : Cond.methodLinkNest RX5 129 yX2_latest RX5 ∈ nws := List.mem_of_getElem? (i := 66) rfl
def isNest (w : Cond) : Prop := (∃ a i b n d h, w = Cond.fieldLinkNest a i b n d h) ∨ ∃ a i x h, w = Cond.methodLinkNest a i x h
theorem nws_nest : ∀ w ∈ nws, isNest w := List.forall_mem_cons.mpr ⟨Or.inl ⟨_, _, _, _, _, _, rfl⟩, List.forall_mem_cons.mpr ⟨Or.inl ⟨_, _, _, _, _, _, rfl⟩, List.forall_mem_cons.mpr ⟨Or.inl ⟨_, _, _, _, _, _, rfl⟩, List.forall_mem_cons.mpr ⟨Or.inl ⟨_, _, _, _, _, _, rfl⟩, List.forall_mem_cons.mpr ⟨Or.inl ⟨_, _, _, _, _, _, rfl⟩, List.forall_mem_cons.mpr ⟨Or.inl ⟨_, _, _, _, _, _, rfl⟩, List.forall_mem_cons.mpr ⟨Or.inl ⟨_, _, _, _, _, _, rfl⟩, List.forall_mem_cons.mpr ⟨Or.inl ⟨_, _, _, _, _, _, rfl⟩, List.forall_mem_cons.mpr ⟨Or.inl ⟨_, _, _, _, _, _, rfl⟩, List.forall_mem_cons.mpr ⟨Or.inl ⟨_, _, _, _, _, _, rfl⟩, List.forall_mem_cons.mpr ⟨Or.inl ⟨_, _, _, _, _, _, rfl⟩, List.forall_mem_cons.mpr ⟨Or.inl ⟨_, _, _, _, _, _, rfl⟩, List.forall_mem_cons.mpr ⟨Or.inl ⟨_, _, _, _, _, _, rfl⟩, List.forall_mem_cons.mpr ⟨Or.inl ⟨_, _, _, _, _, _, rfl⟩, List.forall_mem_cons.mpr ⟨Or.inl ⟨_, _, _, _, _, _, rfl⟩, List.forall_mem_cons.mpr ⟨Or.inl ⟨_, _, _, _, _, _, rfl⟩, List.forall_mem_cons.mpr ⟨Or.inl ⟨_, _, _, _, _, _, rfl⟩, List.forall_mem_cons.mpr ⟨Or.inl ⟨_, _, _, _, _, _, rfl⟩, List.forall_mem_cons.mpr ⟨Or.inr ⟨_, _, _, _, rfl⟩, List.forall_mem_cons.mpr ⟨Or.inr ⟨_, _, _, _, rfl⟩, List.forall_mem_cons.mpr ⟨Or.inr ⟨_, _, _, _, rfl⟩, List.forall_mem_cons.mpr ⟨Or.inr ⟨_, _, _, _, rfl⟩, List.forall_mem_cons.mpr ⟨Or.inr ⟨_, _, _, _, rfl⟩, List.forall_mem_cons.mpr ⟨Or.inr ⟨_, _, _, _, rfl⟩, List.forall_mem_cons.mpr ⟨Or.inr ⟨_, _, _, _, rfl⟩, List.forall_mem_cons.mpr ⟨Or.inr ⟨_, _, _, _, rfl⟩, List.forall_mem_cons.mpr ⟨Or.inr ⟨_, _, _, _, rfl⟩, List.forall_mem_cons.mpr ⟨Or.inr ⟨_, _, _, _, rfl⟩, List.forall_mem_cons.mpr ⟨Or.inr ⟨_, _, _, _, rfl⟩, List.forall_mem_cons.mpr ⟨Or.inr ⟨_, _, _, _, rfl⟩, List.forall_mem_cons.mpr ⟨Or.inr ⟨_, _, _, _, rfl⟩, List.forall_mem_cons.mpr ⟨Or.inr ⟨_, _, _, _, rfl⟩, List.forall_mem_cons.mpr ⟨Or.inr ⟨_, _, _, _, rfl⟩, List.forall_mem_cons.mpr ⟨Or.inr ⟨_, _, _, _, rfl⟩, List.forall_mem_cons.mpr ⟨Or.inr ⟨_, _, _, _, rfl⟩, List.forall_mem_cons.mpr ⟨Or.inr ⟨_, _, _, _, rfl⟩, List.forall_mem_cons.mpr ⟨Or.inr ⟨_, _, _, _, rfl⟩, List.forall_mem_cons.mpr ⟨Or.inr ⟨_, _, _, _, rfl⟩, List.forall_mem_cons.mpr ⟨Or.inr ⟨_, _, _, _, rfl⟩, List.forall_mem_cons.mpr ⟨Or.inr ⟨_, _, _, _, rfl⟩, List.forall_mem_cons.mpr ⟨Or.inr ⟨_, _, _, _, rfl⟩, List.forall_mem_cons.mpr ⟨Or.inr ⟨_, _, _, _, rfl⟩, List.forall_mem_cons.mpr ⟨Or.inr ⟨_, _, _, _, rfl⟩, List.forall_mem_cons.mpr ⟨Or.inr ⟨_, _, _, _, rfl⟩, List.forall_mem_cons.mpr ⟨Or.inr ⟨_, _, _, _, rfl⟩, List.forall_mem_cons.mpr ⟨Or.inr ⟨_, _, _, _, rfl⟩, List.forall_mem_cons.mpr ⟨Or.inr ⟨_, _, _, _, rfl⟩, List.forall_mem_cons.mpr ⟨Or.inr ⟨_, _, _, _, rfl⟩, List.forall_mem_cons.mpr ⟨Or.inr ⟨_, _, _, _, rfl⟩, List.forall_mem_cons.mpr ⟨Or.inr ⟨_, _, _, _, rfl⟩, List.forall_mem_cons.mpr ⟨Or.inr ⟨_, _, _, _, rfl⟩, List.forall_mem_cons.mpr ⟨Or.inr ⟨_, _, _, _, rfl⟩, List.forall_mem_cons.mpr ⟨Or.inr ⟨_, _, _, _, rfl⟩, List.forall_mem_cons.mpr ⟨Or.inr ⟨_, _, _, _, rfl⟩, List.forall_mem_cons.mpr ⟨Or.inr ⟨_, _, _, _, rfl⟩, List.forall_mem_cons.mpr ⟨Or.inr ⟨_, _, _, _, rfl⟩, List.forall_mem_cons.mpr ⟨Or.inr ⟨_, _, _, _, rfl⟩, List.forall_mem_cons.mpr ⟨Or.inr ⟨_, _, _, _, rfl⟩, List.forall_mem_cons.mpr ⟨Or.inr ⟨_, _, _, _, rfl⟩, List.forall_mem_cons.mpr ⟨Or.inr ⟨_, _, _, _, rfl⟩, List.forall_mem_cons.mpr ⟨Or.inr ⟨_, _, _, _, rfl⟩, List.forall_mem_cons.mpr ⟨Or.inr ⟨_, _, _, _, rfl⟩, List.forall_mem_cons.mpr ⟨Or.inr ⟨_, _, _, _, rfl⟩, List.forall_mem_cons.mpr ⟨Or.inr ⟨_, _, _, _, rfl⟩, List.forall_mem_cons.mpr ⟨Or.inr ⟨_, _, _, _, rfl⟩, List.forall_mem_cons.mpr ⟨Or.inr ⟨_, _, _, _, rfl⟩, List.forall_mem_cons.mpr ⟨Or.inr ⟨_, _, _, _, rfl⟩, (fun _ h => absurd h List.not_mem_nil)⟩⟩⟩⟩⟩⟩⟩⟩⟩⟩⟩⟩⟩⟩⟩⟩⟩⟩⟩⟩⟩⟩⟩⟩⟩⟩⟩⟩⟩⟩⟩⟩⟩⟩⟩⟩⟩⟩⟩⟩⟩⟩⟩⟩⟩⟩⟩⟩⟩⟩⟩⟩⟩⟩⟩⟩⟩⟩⟩⟩⟩⟩⟩⟩⟩⟩⟩
theorem nws_in : ∀ w ∈ nws, w ∈ lw_tbl := List.forall_mem_cons.mpr ⟨tb_1 (List.mem_of_getElem? (i := 25) rfl), List.forall_mem_cons.mpr ⟨tb_1 (List.mem_of_getElem? (i := 27) rfl), List.forall_mem_cons.mpr ⟨tb_1 (List.mem_of_getElem? (i := 29) rfl), List.forall_mem_cons.mpr ⟨tb_1 (List.mem_of_getElem? (i := 46) rfl), List.forall_mem_cons.mpr ⟨tb_1 (List.mem_of_getElem? (i := 74) rfl), List.forall_mem_cons.mpr ⟨tb_1 (List.mem_of_getElem? (i := 75) rfl), List.forall_mem_cons.mpr ⟨tb_1 (List.mem_of_getElem? (i := 103) rfl), List.forall_mem_cons.mpr ⟨tb_1 (List.mem_of_getElem? (i := 105) rfl), List.forall_mem_cons.mpr ⟨tb_1 (List.mem_of_getElem? (i := 106) rfl), List.forall_mem_cons.mpr ⟨tb_1 (List.mem_of_getElem? (i := 107) rfl), List.forall_mem_cons.mpr ⟨tb_1 (List.mem_of_getElem? (i := 118) rfl), List.forall_mem_cons.mpr ⟨tb_1 (List.mem_of_getElem? (i := 121) rfl), List.forall_mem_cons.mpr ⟨tb_1 (List.mem_of_getElem? (i := 126) rfl), List.forall_mem_cons.mpr ⟨tb_1 (List.mem_of_getElem? (i := 128) rfl), List.forall_mem_cons.mpr ⟨tb_1 (List.mem_of_getElem? (i := 130) rfl), List.forall_mem_cons.mpr ⟨tb_1 (List.mem_of_getElem? (i := 132) rfl), List.forall_mem_cons.mpr ⟨tb_1 (List.mem_of_getElem? (i := 134) rfl), List.forall_mem_cons.mpr ⟨tb_1 (List.mem_of_getElem? (i := 136) rfl), List.forall_mem_cons.mpr ⟨tb_1 (List.mem_of_getElem? (i := 20) rfl), List.forall_mem_cons.mpr ⟨tb_1 (List.mem_of_getElem? (i := 40) rfl), List.forall_mem_cons.mpr ⟨tb_1 (List.mem_of_getElem? (i := 55) rfl), List.forall_mem_cons.mpr ⟨tb_1 (List.mem_of_getElem? (i := 61) rfl), List.forall_mem_cons.mpr ⟨tb_1 (List.mem_of_getElem? (i := 98) rfl), List.forall_mem_cons.mpr ⟨tb_1 (List.mem_of_getElem? (i := 180) rfl), List.forall_mem_cons.mpr ⟨tb_1 (List.mem_of_getElem? (i := 184) rfl), List.forall_mem_cons.mpr ⟨tb_1 (List.mem_of_getElem? (i := 197) rfl), List.forall_mem_cons.mpr ⟨tb_1 (List.mem_of_getElem? (i := 210) rfl), List.forall_mem_cons.mpr ⟨tb_2 (List.mem_of_getElem? (i := 17) rfl), List.forall_mem_cons.mpr ⟨tb_2 (List.mem_of_getElem? (i := 29) rfl), List.forall_mem_cons.mpr ⟨tb_2 (List.mem_of_getElem? (i := 45) rfl), List.forall_mem_cons.mpr ⟨tb_2 (List.mem_of_getElem? (i := 49) rfl), List.forall_mem_cons.mpr ⟨tb_2 (List.mem_of_getElem? (i := 53) rfl), List.forall_mem_cons.mpr ⟨tb_2 (List.mem_of_getElem? (i := 54) rfl), List.forall_mem_cons.mpr ⟨tb_2 (List.mem_of_getElem? (i := 62) rfl), List.forall_mem_cons.mpr ⟨tb_2 (List.mem_of_getElem? (i := 63) rfl), List.forall_mem_cons.mpr ⟨tb_2 (List.mem_of_getElem? (i := 71) rfl), List.forall_mem_cons.mpr ⟨tb_2 (List.mem_of_getElem? (i := 75) rfl), List.forall_mem_cons.mpr ⟨tb_2 (List.mem_of_getElem? (i := 79) rfl), List.forall_mem_cons.mpr ⟨tb_2 (List.mem_of_getElem? (i := 95) rfl), List.forall_mem_cons.mpr ⟨tb_2 (List.mem_of_getElem? (i := 99) rfl), List.forall_mem_cons.mpr ⟨tb_2 (List.mem_of_getElem? (i := 100) rfl), List.forall_mem_cons.mpr ⟨tb_2 (List.mem_of_getElem? (i := 107) rfl), List.forall_mem_cons.mpr ⟨tb_2 (List.mem_of_getElem? (i := 108) rfl), List.forall_mem_cons.mpr ⟨tb_2 (List.mem_of_getElem? (i := 116) rfl), List.forall_mem_cons.mpr ⟨tb_2 (List.mem_of_getElem? (i := 117) rfl), List.forall_mem_cons.mpr ⟨tb_2 (List.mem_of_getElem? (i := 121) rfl), List.forall_mem_cons.mpr ⟨tb_2 (List.mem_of_getElem? (i := 125) rfl), List.forall_mem_cons.mpr ⟨tb_2 (List.mem_of_getElem? (i := 126) rfl), List.forall_mem_cons.mpr ⟨tb_2 (List.mem_of_getElem? (i := 138) rfl), List.forall_mem_cons.mpr ⟨tb_2 (List.mem_of_getElem? (i := 142) rfl), List.forall_mem_cons.mpr ⟨tb_2 (List.mem_of_getElem? (i := 143) rfl), List.forall_mem_cons.mpr ⟨tb_2 (List.mem_of_getElem? (i := 144) rfl), List.forall_mem_cons.mpr ⟨tb_2 (List.mem_of_getElem? (i := 149) rfl), List.forall_mem_cons.mpr ⟨tb_2 (List.mem_of_getElem? (i := 157) rfl), List.forall_mem_cons.mpr ⟨tb_2 (List.mem_of_getElem? (i := 158) rfl), List.forall_mem_cons.mpr ⟨tb_2 (List.mem_of_getElem? (i := 159) rfl), List.forall_mem_cons.mpr ⟨tb_2 (List.mem_of_getElem? (i := 163) rfl), List.forall_mem_cons.mpr ⟨tb_2 (List.mem_of_getElem? (i := 167) rfl), List.forall_mem_cons.mpr ⟨tb_2 (List.mem_of_getElem? (i := 168) rfl), List.forall_mem_cons.mpr ⟨tb_2 (List.mem_of_getElem? (i := 169) rfl), List.forall_mem_cons.mpr ⟨tb_2 (List.mem_of_getElem? (i := 174) rfl), List.forall_mem_cons.mpr ⟨tb_2 (List.mem_of_getElem? (i := 182) rfl), List.forall_mem_cons.mpr ⟨tb_2 (List.mem_of_getElem? (i := 186) rfl), List.forall_mem_cons.mpr ⟨tb_2 (List.mem_of_getElem? (i := 190) rfl), List.forall_mem_cons.mpr ⟨tb_2 (List.mem_of_getElem? (i := 195) rfl), List.forall_mem_cons.mpr ⟨tb_2 (List.mem_of_getElem? (i := 199) rfl), List.forall_mem_cons.mpr ⟨tb_3 (List.mem_of_getElem? (i := 19) rfl), (fun _ h => absurd h List.not_mem_nil)⟩⟩⟩⟩⟩⟩⟩⟩⟩⟩⟩⟩⟩⟩⟩⟩⟩⟩⟩⟩⟩⟩⟩⟩⟩⟩⟩⟩⟩⟩⟩⟩⟩⟩⟩⟩⟩⟩⟩⟩⟩⟩⟩⟩⟩⟩⟩⟩⟩⟩⟩⟩⟩⟩⟩⟩⟩⟩⟩⟩⟩⟩⟩⟩⟩⟩⟩
theorem rg_1 : ∀ w ∈ wsL_law_r1, goodWord w = true := List.forall_mem_cons.mpr ⟨rfl, List.forall_mem_cons.mpr ⟨rfl, List.forall_mem_cons.mpr ⟨rfl, List.forall_mem_cons.mpr ⟨rfl, List.forall_mem_cons.mpr ⟨rfl, List.forall_mem_cons.mpr ⟨rfl, List.forall_mem_cons.mpr ⟨rfl, List.forall_mem_cons.mpr ⟨rfl, List.forall_mem_cons.mpr ⟨rfl, List.forall_mem_cons.mpr ⟨rfl, List.forall_mem_cons.mpr ⟨rfl, List.forall_mem_cons.mpr ⟨rfl, List.forall_mem_cons.mpr ⟨rfl, List.forall_mem_cons.mpr ⟨rfl, List.forall_mem_cons.mpr ⟨rfl, List.forall_mem_cons.mpr ⟨rfl, List.forall_mem_cons.mpr ⟨rfl, List.forall_mem_cons.mpr ⟨rfl, List.forall_mem_cons.mpr ⟨rfl, List.forall_mem_cons.mpr ⟨rfl, List.forall_mem_cons.mpr ⟨rfl, List.forall_mem_cons.mpr ⟨rfl, List.forall_mem_cons.mpr ⟨rfl, List.forall_mem_cons.mpr ⟨rfl, (fun _ h => absurd h List.not_mem_nil)⟩⟩⟩⟩⟩⟩⟩⟩⟩⟩⟩⟩⟩⟩⟩⟩⟩⟩⟩⟩⟩⟩⟩⟩
theorem rg_2 : ∀ w ∈ wsL_law_r2, goodWord w = true := List.forall_mem_cons.mpr ⟨rfl, List.forall_mem_cons.mpr ⟨rfl, List.forall_mem_cons.mpr ⟨rfl, List.forall_mem_cons.mpr ⟨rfl, List.forall_mem_cons.mpr ⟨rfl, List.forall_mem_cons.mpr ⟨rfl, List.forall_mem_cons.mpr ⟨rfl, List.forall_mem_cons.mpr ⟨rfl, List.forall_mem_cons.mpr ⟨rfl, List.forall_mem_cons.mpr ⟨rfl, List.forall_mem_cons.mpr ⟨rfl, List.forall_mem_cons.mpr ⟨rfl, List.forall_mem_cons.mpr ⟨rfl, List.forall_mem_cons.mpr ⟨rfl, List.forall_mem_cons.mpr ⟨rfl, List.forall_mem_cons.mpr ⟨rfl, List.forall_mem_cons.mpr ⟨rfl, List.forall_mem_cons.mpr ⟨rfl, List.forall_mem_cons.mpr ⟨rfl, List.forall_mem_cons.mpr ⟨rfl, List.forall_mem_cons.mpr ⟨rfl, List.forall_mem_cons.mpr ⟨rfl, List.forall_mem_cons.mpr ⟨rfl, List.forall_mem_cons.mpr ⟨rfl, (fun _ h => absurd h List.not_mem_nil)⟩⟩⟩⟩⟩⟩⟩⟩⟩⟩⟩⟩⟩⟩⟩⟩⟩⟩⟩⟩⟩⟩⟩⟩
theorem rg_3 : ∀ w ∈ wsL_law_r3, goodWord w = true := List.forall_mem_cons.mpr ⟨rfl, List.forall_mem_cons.mpr ⟨rfl, List.forall_mem_cons.mpr ⟨rfl, List.forall_mem_cons.mpr ⟨rfl, List.forall_mem_cons.mpr ⟨rfl, List.forall_mem_cons.mpr ⟨rfl, List.forall_mem_cons.mpr ⟨rfl, List.forall_mem_cons.mpr ⟨rfl, List.forall_mem_cons.mpr ⟨rfl, List.forall_mem_cons.mpr ⟨rfl, List.forall_mem_cons.mpr ⟨rfl, List.forall_mem_cons.mpr ⟨rfl, List.forall_mem_cons.mpr ⟨rfl, List.forall_mem_cons.mpr ⟨rfl, List.forall_mem_cons.mpr ⟨rfl, List.forall_mem_cons.mpr ⟨rfl, List.forall_mem_cons.mpr ⟨rfl, List.forall_mem_cons.mpr ⟨rfl, List.forall_mem_cons.mpr ⟨rfl, List.forall_mem_cons.mpr ⟨rfl, List.forall_mem_cons.mpr ⟨rfl, List.forall_mem_cons.mpr ⟨rfl, List.forall_mem_cons.mpr ⟨rfl, List.forall_mem_cons.mpr ⟨rfl, (fun _ h => absurd h List.not_mem_nil)⟩⟩⟩⟩⟩⟩⟩⟩⟩⟩⟩⟩⟩⟩⟩⟩⟩⟩⟩⟩⟩⟩⟩⟩
theorem rg_4 : ∀ w ∈ wsL_law_r4, goodWord w = true := List.forall_mem_cons.mpr ⟨rfl, List.forall_mem_cons.mpr ⟨rfl, List.forall_mem_cons.mpr ⟨rfl, List.forall_mem_cons.mpr ⟨rfl, List.forall_mem_cons.mpr ⟨rfl, List.forall_mem_cons.mpr ⟨rfl, List.forall_mem_cons.mpr ⟨rfl, List.forall_mem_cons.mpr ⟨rfl, List.forall_mem_cons.mpr ⟨rfl, List.forall_mem_cons.mpr ⟨rfl, List.forall_mem_cons.mpr ⟨rfl, List.forall_mem_cons.mpr ⟨rfl, List.forall_mem_cons.mpr ⟨rfl, List.forall_mem_cons.mpr ⟨rfl, List.forall_mem_cons.mpr ⟨rfl, List.forall_mem_cons.mpr ⟨rfl, List.forall_mem_cons.mpr ⟨rfl, List.forall_mem_cons.mpr ⟨rfl, List.forall_mem_cons.mpr ⟨rfl, List.forall_mem_cons.mpr ⟨rfl, List.forall_mem_cons.mpr ⟨rfl, List.forall_mem_cons.mpr ⟨rfl, List.forall_mem_cons.mpr ⟨rfl, List.forall_mem_cons.mpr ⟨rfl, (fun _ h => absurd h List.not_mem_nil)⟩⟩⟩⟩⟩⟩⟩⟩⟩⟩⟩⟩⟩⟩⟩⟩⟩⟩⟩⟩⟩⟩⟩⟩
theorem rg_5 : ∀ w ∈ wsL_law_r5, goodWord w = true := List.forall_mem_cons.mpr ⟨rfl, List.forall_mem_cons.mpr ⟨rfl, List.forall_mem_cons.mpr ⟨rfl, List.forall_mem_cons.mpr ⟨rfl, List.forall_mem_cons.mpr ⟨rfl, List.forall_mem_cons.mpr ⟨rfl, List.forall_mem_cons.mpr ⟨rfl, List.forall_mem_cons.mpr ⟨rfl, List.forall_mem_cons.mpr ⟨rfl, List.forall_mem_cons.mpr ⟨rfl, List.forall_mem_cons.mpr ⟨rfl, List.forall_mem_cons.mpr ⟨rfl, List.forall_mem_cons.mpr ⟨rfl, List.forall_mem_cons.mpr ⟨rfl, List.forall_mem_cons.mpr ⟨rfl, List.forall_mem_cons.mpr ⟨rfl, List.forall_mem_cons.mpr ⟨rfl, List.forall_mem_cons.mpr ⟨rfl, List.forall_mem_cons.mpr ⟨rfl, List.forall_mem_cons.mpr ⟨rfl, List.forall_mem_cons.mpr ⟨rfl, List.forall_mem_cons.mpr ⟨rfl, List.forall_mem_cons.mpr ⟨rfl, List.forall_mem_cons.mpr ⟨rfl, (fun _ h => absurd h List.not_mem_nil)⟩⟩⟩⟩⟩⟩⟩⟩⟩⟩⟩⟩⟩⟩⟩⟩⟩⟩⟩⟩⟩⟩⟩⟩
theorem rg_6 : ∀ w ∈ wsL_law_r6, goodWord w = true := List.forall_mem_cons.mpr ⟨rfl, List.forall_mem_cons.mpr ⟨rfl, List.forall_mem_cons.mpr ⟨rfl, List.forall_mem_cons.mpr ⟨rfl, List.forall_mem_cons.mpr ⟨rfl, List.forall_mem_cons.mpr ⟨rfl, List.forall_mem_cons.mpr ⟨rfl, List.forall_mem_cons.mpr ⟨rfl, List.forall_mem_cons.mpr ⟨rfl, List.forall_mem_cons.mpr ⟨rfl, List.forall_mem_cons.mpr ⟨rfl, List.forall_mem_cons.mpr ⟨rfl, List.forall_mem_cons.mpr ⟨rfl, List.forall_mem_cons.mpr ⟨rfl, List.forall_mem_cons.mpr ⟨rfl, List.forall_mem_cons.mpr ⟨rfl, List.forall_mem_cons.mpr ⟨rfl, List.forall_mem_cons.mpr ⟨rfl, List.forall_mem_cons.mpr ⟨rfl, List.forall_mem_cons.mpr ⟨rfl, List.forall_mem_cons.mpr ⟨rfl, List.forall_mem_cons.mpr ⟨rfl, List.forall_mem_cons.mpr ⟨rfl, List.forall_mem_cons.mpr ⟨rfl, (fun _ h => absurd h List.not_mem_nil)⟩⟩⟩⟩⟩⟩⟩⟩⟩⟩⟩⟩⟩⟩⟩⟩⟩⟩⟩⟩⟩⟩⟩⟩
theorem rg_7 : ∀ w ∈ wsL_law_r7, goodWord w = true := List.forall_mem_cons.mpr ⟨rfl, List.forall_mem_cons.mpr ⟨rfl, List.forall_mem_cons.mpr ⟨rfl, List.forall_mem_cons.mpr ⟨rfl, List.forall_mem_cons.mpr ⟨rfl, List.forall_mem_cons.mpr ⟨rfl, List.forall_mem_cons.mpr ⟨rfl, List.forall_mem_cons.mpr ⟨rfl, List.forall_mem_cons.mpr ⟨rfl, List.forall_mem_cons.mpr ⟨rfl, List.forall_mem_cons.mpr ⟨rfl, List.forall_mem_cons.mpr ⟨rfl, List.forall_mem_cons.mpr ⟨rfl, List.forall_mem_cons.mpr ⟨rfl, List.forall_mem_cons.mpr ⟨rfl, List.forall_mem_cons.mpr ⟨rfl, List.forall_mem_cons.mpr ⟨rfl, List.forall_mem_cons.mpr ⟨rfl, List.forall_mem_cons.mpr ⟨rfl, List.forall_mem_cons.mpr ⟨rfl, List.forall_mem_cons.mpr ⟨rfl, List.forall_mem_cons.mpr ⟨rfl, List.forall_mem_cons.mpr ⟨rfl, List.forall_mem_cons.mpr ⟨rfl, (fun _ h => absurd h List.not_mem_nil)⟩⟩⟩⟩⟩⟩⟩⟩⟩⟩⟩⟩⟩⟩⟩⟩⟩⟩⟩⟩⟩⟩⟩⟩
theorem rg_8 : ∀ w ∈ wsL_law_r8, goodWord w = true := List.forall_mem_cons.mpr ⟨rfl, List.forall_mem_cons.mpr ⟨rfl, List.forall_mem_cons.mpr ⟨rfl, List.forall_mem_cons.mpr ⟨rfl, List.forall_mem_cons.mpr ⟨rfl, List.forall_mem_cons.mpr ⟨rfl, List.forall_mem_cons.mpr ⟨rfl, List.forall_mem_cons.mpr ⟨rfl, List.forall_mem_cons.mpr ⟨rfl, List.forall_mem_cons.mpr ⟨rfl, List.forall_mem_cons.mpr ⟨rfl, List.forall_mem_cons.mpr ⟨rfl, List.forall_mem_cons.mpr ⟨rfl, List.forall_mem_cons.mpr ⟨rfl, List.forall_mem_cons.mpr ⟨rfl, List.forall_mem_cons.mpr ⟨rfl, List.forall_mem_cons.mpr ⟨rfl, List.forall_mem_cons.mpr ⟨rfl, List.forall_mem_cons.mpr ⟨rfl, List.forall_mem_cons.mpr ⟨rfl, List.forall_mem_cons.mpr ⟨rfl, List.forall_mem_cons.mpr ⟨rfl, List.forall_mem_cons.mpr ⟨rfl, List.forall_mem_cons.mpr ⟨rfl, (fun _ h => absurd h List.not_mem_nil)⟩⟩⟩⟩⟩⟩⟩⟩⟩⟩⟩⟩⟩⟩⟩⟩⟩⟩⟩⟩⟩⟩⟩⟩
theorem rg_9 : ∀ w ∈ wsL_law_r9, goodWord w = true := List.forall_mem_cons.mpr ⟨rfl, List.forall_mem_cons.mpr ⟨rfl, List.forall_mem_cons.mpr ⟨rfl, List.forall_mem_cons.mpr ⟨rfl, List.forall_mem_cons.mpr ⟨rfl, List.forall_mem_cons.mpr ⟨rfl, List.forall_mem_cons.mpr ⟨rfl, List.forall_mem_cons.mpr ⟨rfl, List.forall_mem_cons.mpr ⟨rfl, List.forall_mem_cons.mpr ⟨rfl, List.forall_mem_cons.mpr ⟨rfl, List.forall_mem_cons.mpr ⟨rfl, List.forall_mem_cons.mpr ⟨rfl, List.forall_mem_cons.mpr ⟨rfl, List.forall_mem_cons.mpr ⟨rfl, List.forall_mem_cons.mpr ⟨rfl, List.forall_mem_cons.mpr ⟨rfl, List.forall_mem_cons.mpr ⟨rfl, List.forall_mem_cons.mpr ⟨rfl, List.forall_mem_cons.mpr ⟨rfl, List.forall_mem_cons.mpr ⟨rfl, List.forall_mem_cons.mpr ⟨rfl, List.forall_mem_cons.mpr ⟨rfl, List.forall_mem_cons.mpr ⟨rfl, (fun _ h => absurd h List.not_mem_nil)⟩⟩⟩⟩⟩⟩⟩⟩⟩⟩⟩⟩⟩⟩⟩⟩⟩⟩⟩⟩⟩⟩⟩⟩
theorem rg_10 : ∀ w ∈ wsL_law_r10, goodWord w = true := List.forall_mem_cons.mpr ⟨rfl, List.forall_mem_cons.mpr ⟨rfl, List.forall_mem_cons.mpr ⟨rfl, List.forall_mem_cons.mpr ⟨rfl, List.forall_mem_cons.mpr ⟨rfl, List.forall_mem_cons.mpr ⟨rfl, List.forall_mem_cons.mpr ⟨rfl, List.forall_mem_cons.mpr ⟨rfl, List.forall_mem_cons.mpr ⟨rfl, List.forall_mem_cons.mpr ⟨rfl, List.forall_mem_cons.mpr ⟨rfl, List.forall_mem_cons.mpr ⟨rfl, List.forall_mem_cons.mpr ⟨rfl, List.forall_mem_cons.mpr ⟨rfl, List.forall_mem_cons.mpr ⟨rfl, List.forall_mem_cons.mpr ⟨rfl, List.forall_mem_cons.mpr ⟨rfl, List.forall_mem_cons.mpr ⟨rfl, List.forall_mem_cons.mpr ⟨rfl, List.forall_mem_cons.mpr ⟨rfl, List.forall_mem_cons.mpr ⟨rfl, List.forall_mem_cons.mpr ⟨rfl, List.forall_mem_cons.mpr ⟨rfl, List.forall_mem_cons.mpr ⟨rfl, (fun _ h => absurd h List.not_mem_nil)⟩⟩⟩⟩⟩⟩⟩⟩⟩⟩⟩⟩⟩⟩⟩⟩⟩⟩⟩⟩⟩⟩⟩⟩
theorem rg_11 : ∀ w ∈ wsL_law_r11, goodWord w = true := List.forall_mem_cons.mpr ⟨rfl, List.forall_mem_cons.mpr ⟨rfl, List.forall_mem_cons.mpr ⟨rfl, List.forall_mem_cons.mpr ⟨rfl, List.forall_mem_cons.mpr ⟨rfl, List.forall_mem_cons.mpr ⟨rfl, List.forall_mem_cons.mpr ⟨rfl, List.forall_mem_cons.mpr ⟨rfl, List.forall_mem_cons.mpr ⟨rfl, List.forall_mem_cons.mpr ⟨rfl, List.forall_mem_cons.mpr ⟨rfl, List.forall_mem_cons.mpr ⟨rfl, List.forall_mem_cons.mpr ⟨rfl, List.forall_mem_cons.mpr ⟨rfl, List.forall_mem_cons.mpr ⟨rfl, List.forall_mem_cons.mpr ⟨rfl, List.forall_mem_cons.mpr ⟨rfl, List.forall_mem_cons.mpr ⟨rfl, List.forall_mem_cons.mpr ⟨rfl, List.forall_mem_cons.mpr ⟨rfl, List.forall_mem_cons.mpr ⟨rfl, List.forall_mem_cons.mpr ⟨rfl, List.forall_mem_cons.mpr ⟨rfl, List.forall_mem_cons.mpr ⟨rfl, (fun _ h => absurd h List.not_mem_nil)⟩⟩⟩⟩⟩⟩⟩⟩⟩⟩⟩⟩⟩⟩⟩⟩⟩⟩⟩⟩⟩⟩⟩⟩
theorem rg_12 : ∀ w ∈ wsL_law_r12, goodWord w = true := List.forall_mem_cons.mpr ⟨rfl, List.forall_mem_cons.mpr ⟨rfl, List.forall_mem_cons.mpr ⟨rfl, List.forall_mem_cons.mpr ⟨rfl, List.forall_mem_cons.mpr ⟨rfl, List.forall_mem_cons.mpr ⟨rfl, List.forall_mem_cons.mpr ⟨rfl, List.forall_mem_cons.mpr ⟨rfl, List.forall_mem_cons.mpr ⟨rfl, List.forall_mem_cons.mpr ⟨rfl, List.forall_mem_cons.mpr ⟨rfl, List.forall_mem_cons.mpr ⟨rfl, List.forall_mem_cons.mpr ⟨rfl, List.forall_mem_cons.mpr ⟨rfl, List.forall_mem_cons.mpr ⟨rfl, List.forall_mem_cons.mpr ⟨rfl, List.forall_mem_cons.mpr ⟨rfl, List.forall_mem_cons.mpr ⟨rfl, List.forall_mem_cons.mpr ⟨rfl, List.forall_mem_cons.mpr ⟨rfl, List.forall_mem_cons.mpr ⟨rfl, List.forall_mem_cons.mpr ⟨rfl, List.forall_mem_cons.mpr ⟨rfl, List.forall_mem_cons.mpr ⟨rfl, (fun _ h => absurd h List.not_mem_nil)⟩⟩⟩⟩⟩⟩⟩⟩⟩⟩⟩⟩⟩⟩⟩⟩⟩⟩⟩⟩⟩⟩⟩⟩
theorem rg_13 : ∀ w ∈ wsL_law_r13, goodWord w = true := List.forall_mem_cons.mpr ⟨rfl, List.forall_mem_cons.mpr ⟨rfl, List.forall_mem_cons.mpr ⟨rfl, List.forall_mem_cons.mpr ⟨rfl, List.forall_mem_cons.mpr ⟨rfl, List.forall_mem_cons.mpr ⟨rfl, List.forall_mem_cons.mpr ⟨rfl, List.forall_mem_cons.mpr ⟨rfl, List.forall_mem_cons.mpr ⟨rfl, List.forall_mem_cons.mpr ⟨rfl, List.forall_mem_cons.mpr ⟨rfl, List.forall_mem_cons.mpr ⟨rfl, List.forall_mem_cons.mpr ⟨rfl, List.forall_mem_cons.mpr ⟨rfl, List.forall_mem_cons.mpr ⟨rfl, List.forall_mem_cons.mpr ⟨rfl, List.forall_mem_cons.mpr ⟨rfl, List.forall_mem_cons.mpr ⟨rfl, List.forall_mem_cons.mpr ⟨rfl, List.forall_mem_cons.mpr ⟨rfl, List.forall_mem_cons.mpr ⟨rfl, List.forall_mem_cons.mpr ⟨rfl, List.forall_mem_cons.mpr ⟨rfl, List.forall_mem_cons.mpr ⟨rfl, (fun _ h => absurd h List.not_mem_nil)⟩⟩⟩⟩⟩⟩⟩⟩⟩⟩⟩⟩⟩⟩⟩⟩⟩⟩⟩⟩⟩⟩⟩⟩
theorem rg_14 : ∀ w ∈ wsL_law_r14, goodWord w = true := List.forall_mem_cons.mpr ⟨rfl, List.forall_mem_cons.mpr ⟨rfl, List.forall_mem_cons.mpr ⟨rfl, List.forall_mem_cons.mpr ⟨rfl, List.forall_mem_cons.mpr ⟨rfl, List.forall_mem_cons.mpr ⟨rfl, List.forall_mem_cons.mpr ⟨rfl, List.forall_mem_cons.mpr ⟨rfl, List.forall_mem_cons.mpr ⟨rfl, List.forall_mem_cons.mpr ⟨rfl, List.forall_mem_cons.mpr ⟨rfl, List.forall_mem_cons.mpr ⟨rfl, List.forall_mem_cons.mpr ⟨rfl, List.forall_mem_cons.mpr ⟨rfl, List.forall_mem_cons.mpr ⟨rfl, List.forall_mem_cons.mpr ⟨rfl, List.forall_mem_cons.mpr ⟨rfl, List.forall_mem_cons.mpr ⟨rfl, List.forall_mem_cons.mpr ⟨rfl, List.forall_mem_cons.mpr ⟨rfl, List.forall_mem_cons.mpr ⟨rfl, List.forall_mem_cons.mpr ⟨rfl, List.forall_mem_cons.mpr ⟨rfl, List.forall_mem_cons.mpr ⟨rfl, (fun _ h => absurd h List.not_mem_nil)⟩⟩⟩⟩⟩⟩⟩⟩⟩⟩⟩⟩⟩⟩⟩⟩⟩⟩⟩⟩⟩⟩⟩⟩
theorem rg_15 : ∀ w ∈ wsL_law_r15, goodWord w = true := List.forall_mem_cons.mpr ⟨rfl, List.forall_mem_cons.mpr ⟨rfl, List.forall_mem_cons.mpr ⟨rfl, List.forall_mem_cons.mpr ⟨rfl, List.forall_mem_cons.mpr ⟨rfl, List.forall_mem_cons.mpr ⟨rfl, List.forall_mem_cons.mpr ⟨rfl, List.forall_mem_cons.mpr ⟨rfl, List.forall_mem_cons.mpr ⟨rfl, List.forall_mem_cons.mpr ⟨rfl, List.forall_mem_cons.mpr ⟨rfl, List.forall_mem_cons.mpr ⟨rfl, List.forall_mem_cons.mpr ⟨rfl, List.forall_mem_cons.mpr ⟨rfl, List.forall_mem_cons.mpr ⟨rfl, List.forall_mem_cons.mpr ⟨rfl, List.forall_mem_cons.mpr ⟨rfl, List.forall_mem_cons.mpr ⟨rfl, List.forall_mem_cons.mpr ⟨rfl, List.forall_mem_cons.mpr ⟨rfl, List.forall_mem_cons.mpr ⟨rfl, List.forall_mem_cons.mpr ⟨rfl, List.forall_mem_cons.mpr ⟨rfl, List.forall_mem_cons.mpr ⟨rfl, (fun _ h => absurd h List.not_mem_nil)⟩⟩⟩⟩⟩⟩⟩⟩⟩⟩⟩⟩⟩⟩⟩⟩⟩⟩⟩⟩⟩⟩⟩⟩
theorem rg_16 : ∀ w ∈ wsL_law_r16, goodWord w = true := List.forall_mem_cons.mpr ⟨rfl, List.forall_mem_cons.mpr ⟨rfl, List.forall_mem_cons.mpr ⟨rfl, List.forall_mem_cons.mpr ⟨rfl, List.forall_mem_cons.mpr ⟨rfl, List.forall_mem_cons.mpr ⟨rfl, List.forall_mem_cons.mpr ⟨rfl, List.forall_mem_cons.mpr ⟨rfl, List.forall_mem_cons.mpr ⟨rfl, List.forall_mem_cons.mpr ⟨rfl, List.forall_mem_cons.mpr ⟨rfl, List.forall_mem_cons.mpr ⟨rfl, List.forall_mem_cons.mpr ⟨rfl, List.forall_mem_cons.mpr ⟨rfl, List.forall_mem_cons.mpr ⟨rfl, List.forall_mem_cons.mpr ⟨rfl, List.forall_mem_cons.mpr ⟨rfl, List.forall_mem_cons.mpr ⟨rfl, List.forall_mem_cons.mpr ⟨rfl, List.forall_mem_cons.mpr ⟨rfl, List.forall_mem_cons.mpr ⟨rfl, List.forall_mem_cons.mpr ⟨rfl, List.forall_mem_cons.mpr ⟨rfl, List.forall_mem_cons.mpr ⟨rfl, (fun _ h => absurd h List.not_mem_nil)⟩⟩⟩⟩⟩⟩⟩⟩⟩⟩⟩⟩⟩⟩⟩⟩⟩⟩⟩⟩⟩⟩⟩⟩
theorem rg_17 : ∀ w ∈ wsL_law_r17, goodWord w = true := List.forall_mem_cons.mpr ⟨rfl, List.forall_mem_cons.mpr ⟨rfl, List.forall_mem_cons.mpr ⟨rfl, List.forall_mem_cons.mpr ⟨rfl, List.forall_mem_cons.mpr ⟨rfl, List.forall_mem_cons.mpr ⟨rfl, List.forall_mem_cons.mpr ⟨rfl, List.forall_mem_cons.mpr ⟨rfl, List.forall_mem_cons.mpr ⟨rfl, List.forall_mem_cons.mpr ⟨rfl, List.forall_mem_cons.mpr ⟨rfl, List.forall_mem_cons.mpr ⟨rfl, List.forall_mem_cons.mpr ⟨rfl, List.forall_mem_cons.mpr ⟨rfl, List.forall_mem_cons.mpr ⟨rfl, List.forall_mem_cons.mpr ⟨rfl, List.forall_mem_cons.mpr ⟨rfl, List.forall_mem_cons.mpr ⟨rfl, List.forall_mem_cons.mpr ⟨rfl, List.forall_mem_cons.mpr ⟨rfl, List.forall_mem_cons.mpr ⟨rfl, List.forall_mem_cons.mpr ⟨rfl, List.forall_mem_cons.mpr ⟨rfl, List.forall_mem_cons.mpr ⟨rfl, (fun _ h => absurd h List.not_mem_nil)⟩⟩⟩⟩⟩⟩⟩⟩⟩⟩⟩⟩⟩⟩⟩⟩⟩⟩⟩⟩⟩⟩⟩⟩
theorem rg_18 : ∀ w ∈ wsL_law_r18, goodWord w = true := List.forall_mem_cons.mpr ⟨rfl, List.forall_mem_cons.mpr ⟨rfl, List.forall_mem_cons.mpr ⟨rfl, List.forall_mem_cons.mpr ⟨rfl, List.forall_mem_cons.mpr ⟨rfl, List.forall_mem_cons.mpr ⟨rfl, List.forall_mem_cons.mpr ⟨rfl, List.forall_mem_cons.mpr ⟨rfl, List.forall_mem_cons.mpr ⟨rfl, List.forall_mem_cons.mpr ⟨rfl, List.forall_mem_cons.mpr ⟨rfl, List.forall_mem_cons.mpr ⟨rfl, List.forall_mem_cons.mpr ⟨rfl, List.forall_mem_cons.mpr ⟨rfl, List.forall_mem_cons.mpr ⟨rfl, List.forall_mem_cons.mpr ⟨rfl, List.forall_mem_cons.mpr ⟨rfl, List.forall_mem_cons.mpr ⟨rfl, List.forall_mem_cons.mpr ⟨rfl, List.forall_mem_cons.mpr ⟨rfl, List.forall_mem_cons.mpr ⟨rfl, List.forall_mem_cons.mpr ⟨rfl, List.forall_mem_cons.mpr ⟨rfl, List.forall_mem_cons.mpr ⟨rfl, (fun _ h => absurd h List.not_mem_nil)⟩⟩⟩⟩⟩⟩⟩⟩⟩⟩⟩⟩⟩⟩⟩⟩⟩⟩⟩⟩⟩⟩⟩⟩
theorem rg_19 : ∀ w ∈ wsL_law_r19, goodWord w = true := List.forall_mem_cons.mpr ⟨rfl, List.forall_mem_cons.mpr ⟨rfl, List.forall_mem_cons.mpr ⟨rfl, List.forall_mem_cons.mpr ⟨rfl, List.forall_mem_cons.mpr ⟨rfl, List.forall_mem_cons.mpr ⟨rfl, List.forall_mem_cons.mpr ⟨rfl, List.forall_mem_cons.mpr ⟨rfl, List.forall_mem_cons.mpr ⟨rfl, List.forall_mem_cons.mpr ⟨rfl, List.forall_mem_cons.mpr ⟨rfl, List.forall_mem_cons.mpr ⟨rfl, List.forall_mem_cons.mpr ⟨rfl, List.forall_mem_cons.mpr ⟨rfl, List.forall_mem_cons.mpr ⟨rfl, List.forall_mem_cons.mpr ⟨rfl, List.forall_mem_cons.mpr ⟨rfl, List.forall_mem_cons.mpr ⟨rfl, List.forall_mem_cons.mpr ⟨rfl, List.forall_mem_cons.mpr ⟨rfl, List.forall_mem_cons.mpr ⟨rfl, List.forall_mem_cons.mpr ⟨rfl, List.forall_mem_cons.mpr ⟨rfl, List.forall_mem_cons.mpr ⟨rfl, (fun _ h => absurd h List.not_mem_nil)⟩⟩⟩⟩⟩⟩⟩⟩⟩⟩⟩⟩⟩⟩⟩⟩⟩⟩⟩⟩⟩⟩⟩⟩
theorem rg_20 : ∀ w ∈ wsL_law_r20, goodWord w = true := List.forall_mem_cons.mpr ⟨rfl, List.forall_mem_cons.mpr ⟨rfl, List.forall_mem_cons.mpr ⟨rfl, List.forall_mem_cons.mpr ⟨rfl, List.forall_mem_cons.mpr ⟨rfl, List.forall_mem_cons.mpr ⟨rfl, List.forall_mem_cons.mpr ⟨rfl, List.forall_mem_cons.mpr ⟨rfl, List.forall_mem_cons.mpr ⟨rfl, List.forall_mem_cons.mpr ⟨rfl, List.forall_mem_cons.mpr ⟨rfl, List.forall_mem_cons.mpr ⟨rfl, List.forall_mem_cons.mpr ⟨rfl, List.forall_mem_cons.mpr ⟨rfl, List.forall_mem_cons.mpr ⟨rfl, List.forall_mem_cons.mpr ⟨rfl, List.forall_mem_cons.mpr ⟨rfl, List.forall_mem_cons.mpr ⟨rfl, List.forall_mem_cons.mpr ⟨rfl, List.forall_mem_cons.mpr ⟨rfl, List.forall_mem_cons.mpr ⟨rfl, List.forall_mem_cons.mpr ⟨rfl, List.forall_mem_cons.mpr ⟨rfl, List.forall_mem_cons.mpr ⟨rfl, (fun _ h => absurd h List.not_mem_nil)⟩⟩⟩⟩⟩⟩⟩⟩⟩⟩⟩⟩⟩⟩⟩⟩⟩⟩⟩⟩⟩⟩⟩⟩
theorem rg_21 : ∀ w ∈ wsL_law_r21, goodWord w = true := List.forall_mem_cons.mpr ⟨rfl, List.forall_mem_cons.mpr ⟨rfl, List.forall_mem_cons.mpr ⟨rfl, List.forall_mem_cons.mpr ⟨rfl, List.forall_mem_cons.mpr ⟨rfl, List.forall_mem_cons.mpr ⟨rfl, List.forall_mem_cons.mpr ⟨rfl, List.forall_mem_cons.mpr ⟨rfl, List.forall_mem_cons.mpr ⟨rfl, List.forall_mem_cons.mpr ⟨rfl, List.forall_mem_cons.mpr ⟨rfl, List.forall_mem_cons.mpr ⟨rfl, List.forall_mem_cons.mpr ⟨rfl, List.forall_mem_cons.mpr ⟨rfl, List.forall_mem_cons.mpr ⟨rfl, List.forall_mem_cons.mpr ⟨rfl, List.forall_mem_cons.mpr ⟨rfl, List.forall_mem_cons.mpr ⟨rfl, List.forall_mem_cons.mpr ⟨rfl, List.forall_mem_cons.mpr ⟨rfl, List.forall_mem_cons.mpr ⟨rfl, List.forall_mem_cons.mpr ⟨rfl, List.forall_mem_cons.mpr ⟨rfl, List.forall_mem_cons.mpr ⟨rfl, (fun _ h => absurd h List.not_mem_nil)⟩⟩⟩⟩⟩⟩⟩⟩⟩⟩⟩⟩⟩⟩⟩⟩⟩⟩⟩⟩⟩⟩⟩⟩
theorem rg_22 : ∀ w ∈ wsL_law_r22, goodWord w = true := List.forall_mem_cons.mpr ⟨rfl, List.forall_mem_cons.mpr ⟨rfl, List.forall_mem_cons.mpr ⟨rfl, List.forall_mem_cons.mpr ⟨rfl, List.forall_mem_cons.mpr ⟨rfl, List.forall_mem_cons.mpr ⟨rfl, List.forall_mem_cons.mpr ⟨rfl, List.forall_mem_cons.mpr ⟨rfl, List.forall_mem_cons.mpr ⟨rfl, List.forall_mem_cons.mpr ⟨rfl, List.forall_mem_cons.mpr ⟨rfl, List.forall_mem_cons.mpr ⟨rfl, List.forall_mem_cons.mpr ⟨rfl, List.forall_mem_cons.mpr ⟨rfl, List.forall_mem_cons.mpr ⟨rfl, List.forall_mem_cons.mpr ⟨rfl, List.forall_mem_cons.mpr ⟨rfl, List.forall_mem_cons.mpr ⟨rfl, List.forall_mem_cons.mpr ⟨rfl, List.forall_mem_cons.mpr ⟨rfl, List.forall_mem_cons.mpr ⟨rfl, List.forall_mem_cons.mpr ⟨rfl, List.forall_mem_cons.mpr ⟨rfl, List.forall_mem_cons.mpr ⟨rfl, (fun _ h => absurd h List.not_mem_nil)⟩⟩⟩⟩⟩⟩⟩⟩⟩⟩⟩⟩⟩⟩⟩⟩⟩⟩⟩⟩⟩⟩⟩⟩
theorem rg_23 : ∀ w ∈ wsL_law_r23, goodWord w = true := List.forall_mem_cons.mpr ⟨rfl, List.forall_mem_cons.mpr ⟨rfl, List.forall_mem_cons.mpr ⟨rfl, List.forall_mem_cons.mpr ⟨rfl, List.forall_mem_cons.mpr ⟨rfl, List.forall_mem_cons.mpr ⟨rfl, List.forall_mem_cons.mpr ⟨rfl, List.forall_mem_cons.mpr ⟨rfl, List.forall_mem_cons.mpr ⟨rfl, List.forall_mem_cons.mpr ⟨rfl, List.forall_mem_cons.mpr ⟨rfl, List.forall_mem_cons.mpr ⟨rfl, List.forall_mem_cons.mpr ⟨rfl, List.forall_mem_cons.mpr ⟨rfl, List.forall_mem_cons.mpr ⟨rfl, List.forall_mem_cons.mpr ⟨rfl, List.forall_mem_cons.mpr ⟨rfl, List.forall_mem_cons.mpr ⟨rfl, List.forall_mem_cons.mpr ⟨rfl, List.forall_mem_cons.mpr ⟨rfl, List.forall_mem_cons.mpr ⟨rfl, List.forall_mem_cons.mpr ⟨rfl, List.forall_mem_cons.mpr ⟨rfl, List.forall_mem_cons.mpr ⟨rfl, (fun _ h => absurd h List.not_mem_nil)⟩⟩⟩⟩⟩⟩⟩⟩⟩⟩⟩⟩⟩⟩⟩⟩⟩⟩⟩⟩⟩⟩⟩⟩
theorem rg_24 : ∀ w ∈ wsL_law_r24, goodWord w = true := List.forall_mem_cons.mpr ⟨rfl, List.forall_mem_cons.mpr ⟨rfl, List.forall_mem_cons.mpr ⟨rfl, List.forall_mem_cons.mpr ⟨rfl, List.forall_mem_cons.mpr ⟨rfl, List.forall_mem_cons.mpr ⟨rfl, List.forall_mem_cons.mpr ⟨rfl, List.forall_mem_cons.mpr ⟨rfl, List.forall_mem_cons.mpr ⟨rfl, List.forall_mem_cons.mpr ⟨rfl, List.forall_mem_cons.mpr ⟨rfl, List.forall_mem_cons.mpr ⟨rfl, List.forall_mem_cons.mpr ⟨rfl, List.forall_mem_cons.mpr ⟨rfl, List.forall_mem_cons.mpr ⟨rfl, List.forall_mem_cons.mpr ⟨rfl, List.forall_mem_cons.mpr ⟨rfl, List.forall_mem_cons.mpr ⟨rfl, List.forall_mem_cons.mpr ⟨rfl, List.forall_mem_cons.mpr ⟨rfl, List.forall_mem_cons.mpr ⟨rfl, List.forall_mem_cons.mpr ⟨rfl, List.forall_mem_cons.mpr ⟨rfl, (fun _ h => absurd h List.not_mem_nil)⟩⟩⟩⟩⟩⟩⟩⟩⟩⟩⟩⟩⟩⟩⟩⟩⟩⟩⟩⟩⟩⟩⟩
theorem ugX0 : ∀ w ∈ wsX00, goodWord w = true := show ∀ w ∈ ([u_lay RX0 TX0 0, u_lay RX0 TX0 1, u_lay RX0 TX0 2, u_lay RX0 TX0 3] : List Cond), goodWord w = true from List.forall_mem_cons.mpr ⟨rfl, List.forall_mem_cons.mpr ⟨rfl, List.forall_mem_cons.mpr ⟨rfl, List.forall_mem_cons.mpr ⟨rfl, (fun _ h => absurd h List.not_mem_nil)⟩⟩⟩⟩
theorem ugX1 : ∀ w ∈ wsX10, goodWord w = true := show ∀ w ∈ ([u_lay RX1 TX1 0, u_lay RX1 TX1 1, u_lay RX1 TX1 2] : List Cond), goodWord w = true from List.forall_mem_cons.mpr ⟨rfl, List.forall_mem_cons.mpr ⟨rfl, List.forall_mem_cons.mpr ⟨rfl, (fun _ h => absurd h List.not_mem_nil)⟩⟩⟩
theorem ugX2 : ∀ w ∈ wsX20, goodWord w = true := show ∀ w ∈ ([u_lay RX2 TX2 0, u_lay RX2 TX2 1] : List Cond), goodWord w = true from List.forall_mem_cons.mpr ⟨rfl, List.forall_mem_cons.mpr ⟨rfl, (fun _ h => absurd h List.not_mem_nil)⟩⟩
theorem ugX3 : ∀ w ∈ wsX30, goodWord w = true := show ∀ w ∈ ([u_lay RX3 TX3 0, u_lay RX3 TX3 1, u_lay RX3 TX3 2, u_lay RX3 TX3 3, u_lay RX3 TX3 4, u_lay RX3 TX3 5, u_lay RX3 TX3 6, u_lay RX3 TX3 7, u_lay RX3 TX3 8] : List Cond), goodWord w = true from List.forall_mem_cons.mpr ⟨rfl, List.forall_mem_cons.mpr ⟨rfl, List.forall_mem_cons.mpr ⟨rfl, List.forall_mem_cons.mpr ⟨rfl, List.forall_mem_cons.mpr ⟨rfl, List.forall_mem_cons.mpr ⟨rfl, List.forall_mem_cons.mpr ⟨rfl, List.forall_mem_cons.mpr ⟨rfl, List.forall_mem_cons.mpr ⟨rfl, (fun _ h => absurd h List.not_mem_nil)⟩⟩⟩⟩⟩⟩⟩⟩⟩
theorem ugX4 : ∀ w ∈ wsX40, goodWord w = true := show ∀ w ∈ ([u_lay RX4 TX4 0, u_lay RX4 TX4 1, u_lay RX4 TX4 2, u_lay RX4 TX4 3, u_lay RX4 TX4 4, u_lay RX4 TX4 5, u_lay RX4 TX4 6, u_lay RX4 TX4 7, u_lay RX4 TX4 8, u_lay RX4 TX4 9, u_lay RX4 TX4 10, u_lay RX4 TX4 11] : List Cond), goodWord w = true from List.forall_mem_cons.mpr ⟨rfl, List.forall_mem_cons.mpr ⟨rfl, List.forall_mem_cons.mpr ⟨rfl, List.forall_mem_cons.mpr ⟨rfl, List.forall_mem_cons.mpr ⟨rfl, List.forall_mem_cons.mpr ⟨rfl, List.forall_mem_cons.mpr ⟨rfl, List.forall_mem_cons.mpr ⟨rfl, List.forall_mem_cons.mpr ⟨rfl, List.forall_mem_cons.mpr ⟨rfl, List.forall_mem_cons.mpr ⟨rfl, List.forall_mem_cons.mpr ⟨rfl, (fun _ h => absurd h List.not_mem_nil)⟩⟩⟩⟩⟩⟩⟩⟩⟩⟩⟩⟩
theorem ugX5 : ∀ w ∈ wsX50, goodWord w = true := show ∀ w ∈ ([u_lay RX5 TX5 0, u_lay RX5 TX5 1, u_lay RX5 TX5 2] : List Cond), goodWord w = true from List.forall_mem_cons.mpr ⟨rfl, List.forall_mem_cons.mpr ⟨rfl, List.forall_mem_cons.mpr ⟨rfl, (fun _ h => absurd h List.not_mem_nil)⟩⟩⟩
theorem ugX6 : ∀ w ∈ wsX60, goodWord w = true := show ∀ w ∈ ([u_lay RX6 TX6 0, u_lay RX6 TX6 1, u_lay RX6 TX6 2, u_lay RX6 TX6 3, u_lay RX6 TX6 4, u_lay RX6 TX6 5, u_lay RX6 TX6 6, u_lay RX6 TX6 7, u_lay RX6 TX6 8, u_lay RX6 TX6 9, u_lay RX6 TX6 10, u_lay RX6 TX6 11, u_lay RX6 TX6 12, u_lay RX6 TX6 13, u_lay RX6 TX6 14, u_lay RX6 TX6 15, u_lay RX6 TX6 16, u_lay RX6 TX6 17, u_lay RX6 TX6 18, u_lay RX6 TX6 19, u_lay RX6 TX6 20, u_lay RX6 TX6 21, u_lay RX6 TX6 22, u_lay RX6 TX6 23, u_lay RX6 TX6 24, u_lay RX6 TX6 25, u_lay RX6 TX6 26, u_lay RX6 TX6 27] : List Cond), goodWord w = true from List.forall_mem_cons.mpr ⟨rfl, List.forall_mem_cons.mpr ⟨rfl, List.forall_mem_cons.mpr ⟨rfl, List.forall_mem_cons.mpr ⟨rfl, List.forall_mem_cons.mpr ⟨rfl, List.forall_mem_cons.mpr ⟨rfl, List.forall_mem_cons.mpr ⟨rfl, List.forall_mem_cons.mpr ⟨rfl, List.forall_mem_cons.mpr ⟨rfl, List.forall_mem_cons.mpr ⟨rfl, List.forall_mem_cons.mpr ⟨rfl, List.forall_mem_cons.mpr ⟨rfl, List.forall_mem_cons.mpr ⟨rfl, List.forall_mem_cons.mpr ⟨rfl, List.forall_mem_cons.mpr ⟨rfl, List.forall_mem_cons.mpr ⟨rfl, List.forall_mem_cons.mpr ⟨rfl, List.forall_mem_cons.mpr ⟨rfl, List.forall_mem_cons.mpr ⟨rfl, List.forall_mem_cons.mpr ⟨rfl, List.forall_mem_cons.mpr ⟨rfl, List.forall_mem_cons.mpr ⟨rfl, List.forall_mem_cons.mpr ⟨rfl, List.forall_mem_cons.mpr ⟨rfl, List.forall_mem_cons.mpr ⟨rfl, List.forall_mem_cons.mpr ⟨rfl, List.forall_mem_cons.mpr ⟨rfl, List.forall_mem_cons.mpr ⟨rfl, (fun _ h => absurd h List.not_mem_nil)⟩⟩⟩⟩⟩⟩⟩⟩⟩⟩⟩⟩⟩⟩⟩⟩⟩⟩⟩⟩⟩⟩⟩⟩⟩⟩⟩⟩
theorem wsL_good : ∀ w ∈ wsL_law, goodWord w = true := List.forall_mem_append.mpr ⟨List.forall_mem_append.mpr ⟨List.forall_mem_append.mpr ⟨List.forall_mem_append.mpr ⟨List.forall_mem_append.mpr ⟨List.forall_mem_append.mpr ⟨List.forall_mem_append.mpr ⟨List.forall_mem_append.mpr ⟨List.forall_mem_append.mpr ⟨rg_1, List.forall_mem_append.mpr ⟨rg_2, List.forall_mem_append.mpr ⟨rg_3, List.forall_mem_append.mpr ⟨rg_4, List.forall_mem_append.mpr ⟨rg_5, List.forall_mem_append.mpr ⟨rg_6, List.forall_mem_append.mpr ⟨rg_7, List.forall_mem_append.mpr ⟨rg_8, List.forall_mem_append.mpr ⟨rg_9, List.forall_mem_append.mpr ⟨rg_10, List.forall_mem_append.mpr ⟨rg_11, List.forall_mem_append.mpr ⟨rg_12, List.forall_mem_append.mpr ⟨rg_13, List.forall_mem_append.mpr ⟨rg_14, List.forall_mem_append.mpr ⟨rg_15, List.forall_mem_append.mpr ⟨rg_16, List.forall_mem_append.mpr ⟨rg_17, List.forall_mem_append.mpr ⟨rg_18, List.forall_mem_append.mpr ⟨rg_19, List.forall_mem_append.mpr ⟨rg_20, List.forall_mem_append.mpr ⟨rg_21, List.forall_mem_append.mpr ⟨rg_22, List.forall_mem_append.mpr ⟨rg_23, rg_24⟩⟩⟩⟩⟩⟩⟩⟩⟩⟩⟩⟩⟩⟩⟩⟩⟩⟩⟩⟩⟩⟩⟩, ugX5⟩, ugX6⟩, ugX1⟩, ugX2⟩, ugX4⟩, ugX3⟩, ugX0⟩, fun _ h => absurd h List.not_mem_nil⟩
theorem good_all : ∀ w ∈ wsL_law, w ∈ wsL_law ∧ ((w.onTables && w.keeps) = true ∨ ∃ ty, w = .arrayClass ty) := fun w h => ⟨h, good_of_word (wsL_good w h)⟩
end
section
/-! the world by ids: a store of numbers, the cells read off it -/
abbrev Id3 : Type := Nat × Nat × Nat
abbrev Sto : Type := Nat → Nat → Nat → Nat → Int32
abbrev Shp : Type := (Nat → ClassId) → (Id3 → Nat) → Sto → Id3 → va_E
def upS (V : Sto) (c t i : Nat) (f : Nat → Int32) : Sto := fun c' t' i' => if c' = c ∧ t' = t ∧ i' = i then f else V c' t' i'
def st (V : Sto) (c t i j : Nat) (x : Int32) : Sto := upS V c t i (upd (V c t i) j x)
def cpS (V : Sto) (c t i c' t' i' n : Nat) : Sto := upS V c' t' i' (va_cpy (V c t i) (V c' t' i') 0 0 n)
theorem upS_same (V : Sto) (c t i : Nat) (f : Nat → Int32) : upS V c t i f c t i = f := if_pos ⟨rfl, rfl, rfl⟩
theorem upS_ne {V : Sto} {c t i c' t' i' : Nat} {f : Nat → Int32} (h : ¬ (c' = c ∧ t' = t ∧ i' = i)) : upS V c t i f c' t' i' = V c' t' i' := if_neg h
def inb (i : Int32) (n : Nat) : Bool := decide (¬ (i < 0 ∨ n ≤ i.toNatClampNeg))
theorem inb_in {i : Int32} {n : Nat} (h : inb i n = true) : vp_in i n := of_decide_eq_true (p := ¬ (i < 0 ∨ n ≤ i.toNatClampNeg)) h
theorem inb_lt {i : Int32} {n : Nat} (h : inb i n = true) : i.toNatClampNeg < n := Nat.not_le.mp (fun q => inb_in h (Or.inr q))
def gd {α : Type} (b : Bool) (x : Option α) : Option α := match b with
  | true => x
  | false => none
theorem gd_some {α : Type} {b : Bool} {x : Option α} {y : α} (h : gd b x = some y) : b = true ∧ x = some y := by
  cases b
  · cases h
  · exact ⟨rfl, h⟩
def bnd {α β : Type} (x : α) (f : α → Option β) : Option β := f x
theorem bnd_some {α β : Type} {x : α} {f : α → Option β} {y : β} (h : bnd x f = some y) : ∃ z, z = x ∧ f z = some y := ⟨x, rfl, h⟩
def ob {α β : Type} (x : Option α) (f : α → Option β) : Option β := match x with
  | none => none
  | some z => f z
theorem ob_some {α β : Type} {x : Option α} {f : α → Option β} {y : β} (h : ob x f = some y) : ∃ z, x = some z ∧ f z = some y := by
  cases x with
  | none => cases h
  | some z => exact ⟨z, rfl, h⟩
def om {β : Type} (x : Option Nat) (y : β) (f : Nat → β) : β := match x with
  | none => y
  | some z => f z
theorem om_none {β : Type} {x : Option Nat} {y : β} {f : Nat → β} (h : x = none) : om x y f = y := by rw [h]; rfl
theorem om_some {β : Type} {x : Option Nat} {y : β} {f : Nat → β} {z : Nat} (h : x = some z) : om x y f = f z := by rw [h]; rfl
def isB (x : Int32) : Bool := decide (x = 0) || decide (x = 1)
theorem isB_nar {x : Int32} (h : isB x = true) : narrow .boolean (.int x) = .int x := by
  unfold isB at h
  simp only [Bool.or_eq_true, decide_eq_true_eq] at h
  rcases h with rfl | rfl <;> decide
def nb (x : Int32) : Int32 := vp_nar .boolean x
def sOf (x : Int32) : Option Nat := if x < 0 then none else if 4 ≤ x then none else some x.toNatClampNeg
def cel (E : Shp) (ids : List Id3) (cy : Nat → ClassId) (a : Id3 → Nat) (V : Sto) : va_W := ids.map (fun q => (a q, E cy a V q))
def Lcl (E : Shp) : Prop := ∀ (cy : Nat → ClassId) (a : Id3 → Nat) (V V' : Sto) (c t i : Nat), V c t i = V' c t i → E cy a V (c, t, i) = E cy a V' (c, t, i)
def inA (ids : List Id3) (a : Id3 → Nat) : Nat → Prop := fun q => ∃ d ∈ ids, a d = q
def Wok (E : Shp) (ids : List Id3) (a : Id3 → Nat) : Prop := Lcl E ∧ ids.Nodup ∧ ∀ q ∈ ids, ∀ q' ∈ ids, a q = a q' → q = q'
def tysA (cy : Nat → ClassId) : List (ClassId × FieldType) := [(cy 0, .int), (cy 1, .boolean), (cy 2, .object RX0), (cy 3, .object RX4)]
def isAI (E : Shp) (c t i n : Nat) : Prop := ∀ (cy : Nat → ClassId) (a : Id3 → Nat) (V : Sto), E cy a V (c, t, i) = .inl (cy 0, n, .inl (V c t i))
def isAZ (E : Shp) (c t i n : Nat) : Prop := ∀ (cy : Nat → ClassId) (a : Id3 → Nat) (V : Sto), E cy a V (c, t, i) = .inl (cy 1, n, .inl (V c t i))
theorem cel_get {E : Shp} {ids : List Id3} {cy : Nat → ClassId} {a : Id3 → Nat} {V : Sto} {q : Id3} (h : q ∈ ids) : ∃ k : Nat, (cel E ids cy a V)[k]? = some (a q, E cy a V q) ∧ ids[k]? = some q := by
  obtain ⟨k, hk⟩ := List.getElem?_of_mem h
  exact ⟨k, by simp [cel, hk], hk⟩
theorem cel_D {E : Shp} {ids : List Id3} {cy : Nat → ClassId} {a : Id3 → Nat} {V : Sto} (ok : Wok E ids a) : va_D (inA ids a) (cel E ids cy a V) := by
  refine ⟨fun i j p q hp hq hpq => ?_, fun k q hk => ?_⟩
  · simp only [cel, List.getElem?_map, Option.map_eq_some_iff] at hp hq
    obtain ⟨d, hd, rfl⟩ := hp
    obtain ⟨d', hd', rfl⟩ := hq
    have e := ok.2.2 d (List.mem_of_getElem? hd) d' (List.mem_of_getElem? hd') hpq
    subst e
    exact (List.getElem?_inj (List.getElem?_eq_some_iff.mp hd).1 ok.2.1).mp (hd.trans hd'.symm)
  · simp only [cel, List.getElem?_map, Option.map_eq_some_iff] at hk
    obtain ⟨d, hd, rfl⟩ := hk
    exact ⟨d, List.mem_of_getElem? hd, rfl⟩
theorem cel_set {E : Shp} {ids : List Id3} {cy : Nat → ClassId} {a : Id3 → Nat} {V : Sto} {c t i k : Nat} {f : Nat → Int32} {e : va_E} (ok : Wok E ids a) (hk : ids[k]? = some (c, t, i)) (he : E cy a (upS V c t i f) (c, t, i) = e) : (cel E ids cy a V).set k (a (c, t, i), e) = cel E ids cy a (upS V c t i f) := by
  have hlt : k < ids.length := (List.getElem?_eq_some_iff.mp hk).1
  apply List.ext_getElem?
  intro j
  rw [List.getElem?_set]
  by_cases hj : k = j
  · subst hj
    have hl2 : k < (cel E ids cy a V).length := by simp only [cel, List.length_map]; exact hlt
    rw [if_pos rfl, if_pos hl2]
    simp only [cel, List.getElem?_map, hk, Option.map_some, he]
  · rw [if_neg hj]
    simp only [cel, List.getElem?_map]
    cases hq : ids[j]? with
    | none => rfl
    | some q =>
      obtain ⟨c', t', i'⟩ := q
      simp only [Option.map_some]
      rw [ok.1 cy a V (upS V c t i f) c' t' i' (upS_ne (fun h => by
        obtain ⟨rfl, rfl, rfl⟩ := h
        exact hj ((List.getElem?_inj hlt ok.2.1).mp (hk.trans hq.symm)))).symm]
def Cx (cy : Nat → ClassId) (D : va_G) (E : Shp) (ids : List Id3) (a : Id3 → Nat) (p : Program) (s : State) (m : MethodId) (args : Array Value) (c : Code) (own : String) (cc : ByteArray) (nL : Nat) : Prop :=
  CallFix p m c cc nL s args wsL_law own ∧ (∀ w ∈ nws, va_Nw w s) ∧ va_K D vwCl (tysA cy) s ∧ Wok E ids a
def Wd (cy : Nat → ClassId) (D : va_G) (E : Shp) (ids : List Id3) (a : Id3 → Nat) (V : Sto) (s : State) (H : Heap) (locs : List Loc) : Prop := va_P D vwCl (cel E ids cy a V) H ∧ va_S (inA ids a) s.heap H locs
def WPre (cy : Nat → ClassId) (D : va_G) (E : Shp) (ids : List Id3) (a : Id3 → Nat) (V : Sto) (U : State) : Prop := va_P D vwCl (cel E ids cy a V) U.heap ∧ va_K D vwCl (tysA cy) U ∧ ∀ w ∈ nws, va_Nw w U
theorem nest_tab {w : Cond} (h : isNest w) : w.onTables = true := by
  rcases h with ⟨_, _, _, _, _, _, rfl⟩ | ⟨_, _, _, _, rfl⟩ <;> rfl
theorem nest_warm {w : Cond} (h : isNest w) {s U : State} (hW : s.WarmedH U.vm) (hZ : va_Nw w s) : va_Nw w U := by
  rcases h with ⟨_, _, _, _, _, _, rfl⟩ | ⟨_, _, _, _, rfl⟩
  · exact va_Nw.warmF hW hZ
  · exact va_Nw.warmM hW hZ
theorem WPre_blind {cy : Nat → ClassId} {D : va_G} {E : Shp} {ids : List Id3} {a : Id3 → Nat} {V : Sto} {As : List Value} : FrameBlind (va_Pc As (fun U => WPre cy D E ids a V U)) := fun av U g mk q => ⟨q.1, q.2.1, va_K.moved (u := U) (U := U.calling g mk av) (Vm.Alike.refl U.vm) q.2.2.1, fun w hw => va_Nw.same (nest_tab (nws_nest w hw)) (u := U) (U := U.calling g mk av) rfl (q.2.2.2 w hw)⟩
def Wy (y : MethodName) (bytes : ByteArray) (nL : Nat) (ret : Option FieldType) (n : Nat) : Prop := Cond.code y bytes nL ret ∈ wsL_law ∧ Cond.initialized y.cls ∈ wsL_law ∧ (y.cls ≠ "java/lang/invoke/MethodHandle" ∧ y.cls ≠ "java/lang/invoke/VarHandle" ∧ (parseMethodDescriptor y.desc).map (fun d => d.parameters.length) = some n)
theorem Wy.good {y : MethodName} {bytes : ByteArray} {nL : Nat} {ret : Option FieldType} {n : Nat} (h : Wy y bytes nL ret n) : GoodIn wsL_law (Cond.code y bytes nL ret :: wsL_law) := fun w hw => (List.mem_cons.mp hw).elim (fun e => e ▸ good_all _ h.1) (good_all w)
abbrev QI (cy : Nat → ClassId) (D : va_G) (E : Shp) (ids : List Id3) (a : Id3 → Nat) (r : Int32) (V : Sto) : Array Value → State → Outcome → State → Prop := va_Qi (fun (r' : Int32) (V1 : Sto) => r' = r ∧ V1 = V) (fun (V1 : Sto) (t : State) => va_P D vwCl (cel E ids cy a V1) t.heap) (inA ids a)
abbrev QV (cy : Nat → ClassId) (D : va_G) (E : Shp) (ids : List Id3) (a : Id3 → Nat) (V : Sto) : Array Value → State → Outcome → State → Prop := va_Qv (fun (V1 : Sto) => V1 = V) (fun (V1 : Sto) (t : State) => va_P D vwCl (cel E ids cy a V1) t.heap) (inA ids a)
def QR (cy : Nat → ClassId) (D : va_G) (E : Shp) (ids : List Id3) (a : Id3 → Nat) (r : Option Nat) (V : Sto) : Array Value → State → Outcome → State → Prop := fun _ s0 oc t => (oc = .returned (some (va_rf r)) ∧ va_P D vwCl (cel E ids cy a V) t.heap) ∧ va_F (inA ids a) s0 t
abbrev MtI (l : Launch) (cy : Nat → ClassId) (D : va_G) (E : Shp) (ids : List Id3) (a : Id3 → Nat) (y : MethodName) (bytes : ByteArray) (nL : Nat) (ty : FieldType) (rm : Room) (As : List Value) (V : Sto) (r : Int32) (V' : Sto) : Prop := Met l y (Cond.code y bytes nL (some ty) :: wsL_law) rm (va_Pc As (fun U => WPre cy D E ids a V U)) (QI cy D E ids a r V') 0 0 (inA ids a)
abbrev MtV (l : Launch) (cy : Nat → ClassId) (D : va_G) (E : Shp) (ids : List Id3) (a : Id3 → Nat) (y : MethodName) (bytes : ByteArray) (nL : Nat) (rm : Room) (As : List Value) (V : Sto) (V' : Sto) : Prop := Met l y (Cond.code y bytes nL none :: wsL_law) rm (va_Pc As (fun U => WPre cy D E ids a V U)) (QV cy D E ids a V') 0 0 (inA ids a)
theorem ofM {l : Launch} {cy : Nat → ClassId} {D : va_G} {E : Shp} {ids : List Id3} {a : Id3 → Nat} {V : Sto} {y : MethodName} {bytes : ByteArray} {nL : Nat} {ret : Option FieldType} {rm : Room} {As : List Value} {Qc : Array Value → State → Outcome → State → Prop} (hy : plainName y.cls = true) (ok : Wok E ids a) (hlen : (lg_sl As).length ≤ nL)
    (body : ∀ (p : Program) (e : Env) (s : State) (m : MethodId) (args : Array Value) (below : List Frame) (meth : Method) (c : Code), Cx cy D E ids a p s m args c y.cls bytes nL → meth.sig.returnType = ret → meth.locks = false → Wd cy D E ids a V s s.heap [] → ∀ ls : Array Slot, lv_has ls nL (lv_args 0 As) → W p l e rm s m args below meth c s.heap [] 0 0 (MQ below Qc args s 0 0 (inA ids a)) (F0 m 0 ls [])) :
    Met l y (Cond.code y bytes nL ret :: wsL_law) rm (va_Pc As (fun U => WPre cy D E ids a V U)) Qc 0 0 (inA ids a) := by
  refine Met.ofW (cc := bytes) (maxL := nL) (ret := ret) hy rfl ?_
  intro p e s m args below meth c s₁ B hml hv
  obtain ⟨rfl, hP, hK, hN⟩ := hv
  have hts := atoms_spec (ws := Cond.code y bytes nL ret :: wsL_law) B.pre
  have hown : s.vm.findClass y.cls = some m.cls := findClass_of_methodNamed B.named
  have hl := lv_entry As (n := nL) hlen
  rw [lg_entry_eq]
  exact body p e s m _ below meth c ⟨⟨B.exec, B.bytes, hml, hown, fun w h => hts w (List.mem_cons_of_mem _ h)⟩, hN, hK, ok⟩ B.returns B.notSynchronized ⟨hP, va_S.rf⟩ _ hl
section RW
variable {p : Program} {l : Launch} {e : Env} {R : Room} {s : State} {m : MethodId} {args : Array Value} {below : List Frame} {meth : Method} {c : Code} {H : Heap} {locs : List Loc} {cells slots : Nat} {Q : State → Prop}
variable {cc : ByteArray} {pc : Nat} {ls : Array Slot} {rest : List Value} {cy : Nat → ClassId} {D : va_G} {E : Shp} {ids : List Id3} {a : Id3 → Nat} {V : Sto} {own : String} {nL : Nat}
theorem WPre_at (C : Cx cy D E ids a p s m args c own cc nL) (w : Wd cy D E ids a V s H locs) {U : State} (hU : U.heap = H) (hW : s.WarmedH U.vm) : WPre cy D E ids a V U := ⟨by rw [hU]; exact w.1, va_K.moved hW.alike C.2.2.1, fun x hx => nest_warm (nws_nest x hx) hW (C.2.1 x hx)⟩
theorem r_get (C : Cx cy D E ids a p s m args c own cc nL) (w : Wd cy D E ids a V s H locs) {q : Id3} (hq : q ∈ ids) {ci : Nat} {fs : List Value} (hE : E cy a V q = .inr (ci, fs)) {Cn : String} {T : u_T} {N : Nat} (hc : vwCl[ci]? = some (Cn, T, N)) (hin : ∀ w ∈ u_ws Cn T N, w ∈ wsL_law) (k : Nat) (hk : k < N) {index : Nat} (hl : Cond.fieldLink own index (T k).1 (T k).2.1 (T k).2.2.1 ∈ wsL_law) {v : Value} (hv : fs[k]? = some v) (hdg : decode cc pc = .ok (.getfield index, 3))
    (kk : W p l e R s m args below meth c H locs cells slots Q (F0 m (pc + 3) ls (v :: rest))) : W p l e R s m args below meth c H locs cells slots Q (F0 m pc ls (.ref (a q) :: rest)) := by
  obtain ⟨⟨hx, hb, hml, hown, hts⟩, hN, hK, ok⟩ := C
  obtain ⟨k0, h1, -⟩ := cel_get (E := E) (cy := cy) (a := a) (V := V) hq
  rw [hE] at h1
  exact va_get hx hb hts hin hown hK w.1 k0 h1 hc k hk (hts _ hl) (fun _ h => h) hv hdg kk
theorem r_getN (C : Cx cy D E ids a p s m args c own cc nL) (w : Wd cy D E ids a V s H locs) {q : Id3} (hq : q ∈ ids) {ci : Nat} {fs : List Value} (hE : E cy a V q = .inr (ci, fs)) {Cn : String} {T : u_T} {N : Nat} (hc : vwCl[ci]? = some (Cn, T, N)) (hin : ∀ w ∈ u_ws Cn T N, w ∈ wsL_law) (k : Nat) (hk : k < N) {index : Nat} {host : String} (hl : Cond.fieldLinkNest own index (T k).1 (T k).2.1 (T k).2.2.1 host ∈ nws) {v : Value} (hv : fs[k]? = some v) (hdg : decode cc pc = .ok (.getfield index, 3))
    (kk : W p l e R s m args below meth c H locs cells slots Q (F0 m (pc + 3) ls (v :: rest))) : W p l e R s m args below meth c H locs cells slots Q (F0 m pc ls (.ref (a q) :: rest)) := by
  obtain ⟨⟨hx, hb, hml, hown, hts⟩, hN, hK, ok⟩ := C
  obtain ⟨k0, h1, -⟩ := cel_get (E := E) (cy := cy) (a := a) (V := V) hq
  rw [hE] at h1
  exact va_getN hx hb hts hin hown hK w.1 k0 h1 hc k hk (va_Nw.use rfl (hN _ hl)) (fun _ h => h) hv hdg kk
theorem r_put (C : Cx cy D E ids a p s m args c own cc nL) (w : Wd cy D E ids a V s H locs) {c0 t i : Nat} (hq : (c0, t, i) ∈ ids) {ci : Nat} {fs : List Value} (hE : E cy a V (c0, t, i) = .inr (ci, fs)) {Cn : String} {T : u_T} {N : Nat} (hc : vwCl[ci]? = some (Cn, T, N)) (hin : ∀ w ∈ u_ws Cn T N, w ∈ wsL_law) (ty0 : Nat → FieldType) (hty : ∀ k, k < N → parseFieldDescriptor (T k).2.2.1 = some (ty0 k)) (hnm : ∀ a, a < N → ∀ b, b < N → a ≠ b → (T a).2.1 ≠ (T b).2.1) (k : Nat) (hk : k < N) {index : Nat} (hl : Cond.fieldLink own index (T k).1 (T k).2.1 (T k).2.2.1 ∈ wsL_law) (hfin : (T k).2.2.2 = false) (hd : parseFieldDescriptor (T k).2.2.1 = some .int) {x : Int32} (hset : E cy a (st V c0 t i k x) (c0, t, i) = .inr (ci, fs.set k (.int x))) (hln : k < fs.length) (hdg : decode cc pc = .ok (.putfield index, 3))
    (kk : ∀ (H1 : Heap) (locs1 : List Loc), Wd cy D E ids a (st V c0 t i k x) s H1 locs1 → W p l e R s m args below meth c H1 locs1 cells slots Q (F0 m (pc + 3) ls rest)) : W p l e R s m args below meth c H locs cells slots Q (F0 m pc ls (.int x :: .ref (a (c0, t, i)) :: rest)) := by
  obtain ⟨⟨hx, hb, hml, hown, hts⟩, hN, hK, ok⟩ := C
  obtain ⟨k0, h1, h2⟩ := cel_get (E := E) (cy := cy) (a := a) (V := V) hq
  rw [hE] at h1
  refine va_put hx hb hts hin ty0 hty hnm hown hK w.1 (cel_D ok) w.2 k0 h1 hc k hk (hts _ hl) (fun _ h => h) hfin hd rfl rfl hln hdg (fun H1 locs1 hP hD hS => kk H1 locs1 ⟨?_, hS⟩)
  rw [cel_set ok h2 hset] at hP
  exact hP
theorem r_putN (C : Cx cy D E ids a p s m args c own cc nL) (w : Wd cy D E ids a V s H locs) {c0 t i : Nat} (hq : (c0, t, i) ∈ ids) {ci : Nat} {fs : List Value} (hE : E cy a V (c0, t, i) = .inr (ci, fs)) {Cn : String} {T : u_T} {N : Nat} (hc : vwCl[ci]? = some (Cn, T, N)) (hin : ∀ w ∈ u_ws Cn T N, w ∈ wsL_law) (ty0 : Nat → FieldType) (hty : ∀ k, k < N → parseFieldDescriptor (T k).2.2.1 = some (ty0 k)) (hnm : ∀ a, a < N → ∀ b, b < N → a ≠ b → (T a).2.1 ≠ (T b).2.1) (k : Nat) (hk : k < N) {index : Nat} {host : String} (hl : Cond.fieldLinkNest own index (T k).1 (T k).2.1 (T k).2.2.1 host ∈ nws) (hfin : (T k).2.2.2 = false) (hd : parseFieldDescriptor (T k).2.2.1 = some .int) {x : Int32} (hset : E cy a (st V c0 t i k x) (c0, t, i) = .inr (ci, fs.set k (.int x))) (hln : k < fs.length) (hdg : decode cc pc = .ok (.putfield index, 3))
    (kk : ∀ (H1 : Heap) (locs1 : List Loc), Wd cy D E ids a (st V c0 t i k x) s H1 locs1 → W p l e R s m args below meth c H1 locs1 cells slots Q (F0 m (pc + 3) ls rest)) : W p l e R s m args below meth c H locs cells slots Q (F0 m pc ls (.int x :: .ref (a (c0, t, i)) :: rest)) := by
  obtain ⟨⟨hx, hb, hml, hown, hts⟩, hN, hK, ok⟩ := C
  obtain ⟨k0, h1, h2⟩ := cel_get (E := E) (cy := cy) (a := a) (V := V) hq
  rw [hE] at h1
  refine va_putN hx hb hts hin ty0 hty hnm hown hK w.1 (cel_D ok) w.2 k0 h1 hc k hk (va_Nw.use rfl (hN _ hl)) (fun _ h => h) hfin hd rfl rfl hln hdg (fun H1 locs1 hP hD hS => kk H1 locs1 ⟨?_, hS⟩)
  rw [cel_set ok h2 hset] at hP
  exact hP
theorem r_iald (C : Cx cy D E ids a p s m args c own cc nL) (w : Wd cy D E ids a V s H locs) {c0 t i n : Nat} (hq : (c0, t, i) ∈ ids) (hE : isAI E c0 t i n) {x : Int32} (hin : inb x n = true) (hdg : decode cc pc = .ok (.iaload, 1))
    (kk : W p l e R s m args below meth c H locs cells slots Q (F0 m (pc + 1) ls (.int (V c0 t i x.toNatClampNeg) :: rest))) : W p l e R s m args below meth c H locs cells slots Q (F0 m pc ls (.int x :: .ref (a (c0, t, i)) :: rest)) := by
  obtain ⟨⟨hx, hb, hml, hown, hts⟩, hN, hK, ok⟩ := C
  obtain ⟨k0, h1, -⟩ := cel_get (E := E) (cy := cy) (a := a) (V := V) hq
  rw [hE] at h1
  exact va_iald hx hb hK w.1 k0 0 h1 rfl (inb_in hin) hdg kk
theorem r_zald (C : Cx cy D E ids a p s m args c own cc nL) (w : Wd cy D E ids a V s H locs) {c0 t i n : Nat} (hq : (c0, t, i) ∈ ids) (hE : isAZ E c0 t i n) {x : Int32} (hin : inb x n = true) (hdg : decode cc pc = .ok (.baload, 1))
    (kk : W p l e R s m args below meth c H locs cells slots Q (F0 m (pc + 1) ls (.int (V c0 t i x.toNatClampNeg) :: rest))) : W p l e R s m args below meth c H locs cells slots Q (F0 m pc ls (.int x :: .ref (a (c0, t, i)) :: rest)) := by
  obtain ⟨⟨hx, hb, hml, hown, hts⟩, hN, hK, ok⟩ := C
  obtain ⟨k0, h1, -⟩ := cel_get (E := E) (cy := cy) (a := a) (V := V) hq
  rw [hE] at h1
  exact va_zald hx hb hK w.1 k0 1 h1 rfl (inb_in hin) hdg kk
theorem r_iast (C : Cx cy D E ids a p s m args c own cc nL) (w : Wd cy D E ids a V s H locs) {c0 t i n : Nat} (hq : (c0, t, i) ∈ ids) (hE : isAI E c0 t i n) {x y : Int32} (hin : inb x n = true) (hdg : decode cc pc = .ok (.iastore, 1))
    (kk : ∀ (H1 : Heap) (locs1 : List Loc), Wd cy D E ids a (st V c0 t i x.toNatClampNeg y) s H1 locs1 → W p l e R s m args below meth c H1 locs1 cells slots Q (F0 m (pc + 1) ls rest)) : W p l e R s m args below meth c H locs cells slots Q (F0 m pc ls (.int y :: .int x :: .ref (a (c0, t, i)) :: rest)) := by
  obtain ⟨⟨hx, hb, hml, hown, hts⟩, hN, hK, ok⟩ := C
  obtain ⟨k0, h1, h2⟩ := cel_get (E := E) (cy := cy) (a := a) (V := V) hq
  rw [hE] at h1
  refine va_iast hx hb hK w.1 (cel_D ok) w.2 k0 0 h1 rfl (inb_in hin) hdg (fun H1 locs1 hP hD hS => kk H1 locs1 ⟨?_, hS⟩)
  rw [cel_set ok h2 (f := upd (V c0 t i) x.toNatClampNeg y) (by rw [hE, upS_same])] at hP
  exact hP
theorem r_zast (C : Cx cy D E ids a p s m args c own cc nL) (w : Wd cy D E ids a V s H locs) {c0 t i n : Nat} (hq : (c0, t, i) ∈ ids) (hE : isAZ E c0 t i n) {x y : Int32} (hin : inb x n = true) (hdg : decode cc pc = .ok (.bastore, 1))
    (kk : ∀ (H1 : Heap) (locs1 : List Loc), Wd cy D E ids a (st V c0 t i x.toNatClampNeg (nb y)) s H1 locs1 → W p l e R s m args below meth c H1 locs1 cells slots Q (F0 m (pc + 1) ls rest)) : W p l e R s m args below meth c H locs cells slots Q (F0 m pc ls (.int y :: .int x :: .ref (a (c0, t, i)) :: rest)) := by
  obtain ⟨⟨hx, hb, hml, hown, hts⟩, hN, hK, ok⟩ := C
  obtain ⟨k0, h1, h2⟩ := cel_get (E := E) (cy := cy) (a := a) (V := V) hq
  rw [hE] at h1
  refine va_zast hx hb hK w.1 (cel_D ok) w.2 k0 1 h1 rfl (inb_in hin) hdg (fun H1 locs1 hP hD hS => kk H1 locs1 ⟨?_, hS⟩)
  rw [cel_set ok h2 (f := upd (V c0 t i) x.toNatClampNeg (vp_nar .boolean y)) (by rw [hE, upS_same])] at hP
  exact hP
theorem r_alen (C : Cx cy D E ids a p s m args c own cc nL) (w : Wd cy D E ids a V s H locs) {c0 t i n : Nat} (hq : (c0, t, i) ∈ ids) (hE : isAI E c0 t i n) (hdg : decode cc pc = .ok (.arraylength, 1))
    (kk : W p l e R s m args below meth c H locs cells slots Q (F0 m (pc + 1) ls (.int (nI n) :: rest))) : W p l e R s m args below meth c H locs cells slots Q (F0 m pc ls (.ref (a (c0, t, i)) :: rest)) := by
  obtain ⟨⟨hx, hb, hml, hown, hts⟩, hN, hK, ok⟩ := C
  obtain ⟨k0, h1, -⟩ := cel_get (E := E) (cy := cy) (a := a) (V := V) hq
  rw [hE] at h1
  exact va_alen hx hb hK w.1 k0 0 h1 (ty := .int) rfl rfl hdg kk
theorem r_aald (C : Cx cy D E ids a p s m args c own cc nL) (w : Wd cy D E ids a V s H locs) {q : Id3} {n k : Nat} {f : Nat → Id3} {Cn : String} (hq : q ∈ ids) (hE : E cy a V q = .inl (cy k, n, .inr (.inr (.inr (.inr (fun j => some (a (f j)))))))) (ht : (tysA cy)[k]? = some (cy k, .object Cn)) {x : Int32} (hin : inb x n = true) (hdg : decode cc pc = .ok (.aaload, 1))
    (kk : W p l e R s m args below meth c H locs cells slots Q (F0 m (pc + 1) ls (.ref (a (f x.toNatClampNeg)) :: rest))) : W p l e R s m args below meth c H locs cells slots Q (F0 m pc ls (.int x :: .ref (a q) :: rest)) := by
  obtain ⟨⟨hx, hb, hml, hown, hts⟩, hN, hK, ok⟩ := C
  obtain ⟨k0, h1, -⟩ := cel_get (E := E) (cy := cy) (a := a) (V := V) hq
  rw [hE] at h1
  exact va_aldq hx hb hK w.1 k0 k h1 ht (inb_in hin) hdg kk
theorem r_copy (C : Cx cy D E ids a p s m args c own cc nL) (w : Wd cy D E ids a V s H locs) {c0 t i n c1 t1 i1 n1 N : Nat} {x : Int32} (hq : (c0, t, i) ∈ ids) (hE : isAI E c0 t i n) (hq1 : (c1, t1, i1) ∈ ids) (hE1 : isAI E c1 t1 i1 n1) (hx0 : ¬ x < 0) (hxN : x.toNatClampNeg = N) (hn : N ≤ n) (hn1 : N ≤ n1) {index : Nat} (hl : Cond.methodLink own index arraycopyName ∈ wsL_law) (hsz : ls.size = nL) (hfr : 1 ≤ R.frames) (hlo : (rest.map fun v => v.category).sum + (nativeFrameWords "java/lang/System" "arraycopy" 5 + 11) ≤ R.locals) (hdg : decode cc pc = .ok (.invokestatic index, 3))
    (kk : ∀ (H1 : Heap) (locs1 : List Loc), Wd cy D E ids a (cpS V c0 t i c1 t1 i1 N) s H1 locs1 → W p l e R s m args below meth c H1 locs1 cells slots Q (F0 m (pc + 3) ls rest)) : W p l e R s m args below meth c H locs cells slots Q (F0 m pc ls (.int x :: .int 0 :: .ref (a (c1, t1, i1)) :: .int 0 :: .ref (a (c0, t, i)) :: rest)) := by
  obtain ⟨⟨hx, hb, hml, hown, hts⟩, hN, hK, ok⟩ := C
  obtain ⟨k0, h1, -⟩ := cel_get (E := E) (cy := cy) (a := a) (V := V) hq
  obtain ⟨k1, h3, h4⟩ := cel_get (E := E) (cy := cy) (a := a) (V := V) hq1
  rw [hE] at h1
  rw [hE1] at h3
  subst hxN
  have z0 : ((0 : Int32)).toNatClampNeg = 0 := rfl
  refine va_copyi hx hb (hml.trans hsz.symm) hown (hts _ hl) (hts _ w_nat_arraycopyName) (hts _ w_sta_arraycopyName) (hts _ w_ini_System) hK w.1 (cel_D ok) w.2 k0 k1 0 0 h1 h3 rfl rfl rfl (by decide) (by decide) hx0 (by rw [z0]; omega) (by rw [z0]; omega) (fun j _ => rfl) hfr hlo hdg (fun H1 locs1 hP hD hS => kk H1 locs1 ⟨?_, hS⟩)
  have e4 := cel_set (V := V) (cy := cy) ok h4 (f := va_cpy (V c0 t i) (V c1 t1 i1) 0 0 x.toNatClampNeg) rfl
  rw [hE1, upS_same] at e4
  show va_P D vwCl (cel E ids cy a (upS V c1 t1 i1 (va_cpy (V c0 t i) (V c1 t1 i1) 0 0 x.toNatClampNeg))) H1
  rw [← e4]
  exact hP
theorem r_iret (C : Cx cy D E ids a p s m args c own cc nL) (hr : meth.sig.returnType = some .int) (hlk : meth.locks = false) (w : Wd cy D E ids a V s H locs) {r : Int32} (hdg : decode cc pc = .ok (.ireturn, 1)) : W p l e R s m args below meth c H locs 0 0 (MQ below (QI cy D E ids a r V) args s 0 0 (inA ids a)) (F0 m pc ls [.int r]) :=
  W.iret (v := r) C.1.1 C.1.2.1 hr (fun t ht _ => ⟨⟨r, V, rfl, ⟨rfl, rfl⟩, show va_P D vwCl (cel E ids cy a V) t.heap by rw [ht]; exact w.1⟩, w.2.F ht⟩) w.2.2.2 hdg hlk
theorem r_zret (C : Cx cy D E ids a p s m args c own cc nL) (hr : meth.sig.returnType = some .boolean) (hlk : meth.locks = false) (w : Wd cy D E ids a V s H locs) {r : Int32} (hB : isB r = true) (hdg : decode cc pc = .ok (.ireturn, 1)) : W p l e R s m args below meth c H locs 0 0 (MQ below (QI cy D E ids a r V) args s 0 0 (inA ids a)) (F0 m pc ls [.int r]) :=
  W.zret (v := r) C.1.1 C.1.2.1 hr (isB_nar hB) (fun t ht _ => ⟨⟨r, V, rfl, ⟨rfl, rfl⟩, show va_P D vwCl (cel E ids cy a V) t.heap by rw [ht]; exact w.1⟩, w.2.F ht⟩) w.2.2.2 hdg hlk
theorem r_vret (C : Cx cy D E ids a p s m args c own cc nL) (hr : meth.sig.returnType = none) (hlk : meth.locks = false) (w : Wd cy D E ids a V s H locs) (hdg : decode cc pc = .ok (.return_, 1)) : W p l e R s m args below meth c H locs 0 0 (MQ below (QV cy D E ids a V) args s 0 0 (inA ids a)) (F0 m pc ls []) :=
  W.vret C.1.1 C.1.2.1 hr (fun t ht _ => ⟨⟨V, rfl, rfl, show va_P D vwCl (cel E ids cy a V) t.heap by rw [ht]; exact w.1⟩, w.2.F ht⟩) w.2.2.2 hdg hlk
theorem r_aret (C : Cx cy D E ids a p s m args c own cc nL) {Cn : String} (hr : meth.sig.returnType = some (.object Cn)) (hlk : meth.locks = false) (w : Wd cy D E ids a V s H locs) {r : Option Nat} (hdg : decode cc pc = .ok (.areturn, 1)) : W p l e R s m args below meth c H locs 0 0 (MQ below (QR cy D E ids a r V) args s 0 0 (inA ids a)) (F0 m pc ls [va_rf r]) :=
  W.aret (v := va_rf r) C.1.1 C.1.2.1 hr (Or.inl ⟨_, rfl⟩) (by cases r with | none => exact Or.inl rfl | some x => exact Or.inr ⟨x, rfl⟩) (fun t ht _ => ⟨⟨rfl, show va_P D vwCl (cel E ids cy a V) t.heap by rw [ht]; exact w.1⟩, w.2.F ht⟩) w.2.2.2 hdg hlk
theorem k_I (w : Wd cy D E ids a V s H locs) {r : Int32} {V' : Sto} {st0 : List Value} {aa : Array Value} (hr : va_Run p l e R s m args below meth c H locs cells slots 0 0 (F0 m pc ls st0) rest (QI cy D E ids a r V' aa) (inA ids a)) (kk : ∀ (H1 : Heap) (locs1 : List Loc), Wd cy D E ids a V' s H1 locs1 → W p l e R s m args below meth c H1 locs1 cells slots Q (F0 m (pc + 3) ls (.int r :: rest))) : W p l e R s m args below meth c H locs cells slots Q (F0 m pc ls st0) := by
  refine va_calli hr w.2 (fun q _ h => h) (fun q h => h) (fun r' u t H1 locs1 ht hvm hp hB hz hk hS => ?_)
  obtain ⟨rfl, rfl⟩ := hp
  exact kk H1 locs1 ⟨by rw [← ht]; exact hB, hS⟩
theorem k_V (w : Wd cy D E ids a V s H locs) {V' : Sto} {st0 : List Value} {aa : Array Value} (hr : va_Run p l e R s m args below meth c H locs cells slots 0 0 (F0 m pc ls st0) rest (QV cy D E ids a V' aa) (inA ids a)) (kk : ∀ (H1 : Heap) (locs1 : List Loc), Wd cy D E ids a V' s H1 locs1 → W p l e R s m args below meth c H1 locs1 cells slots Q (F0 m (pc + 3) ls rest)) : W p l e R s m args below meth c H locs cells slots Q (F0 m pc ls st0) := by
  refine va_callv hr w.2 (fun q _ h => h) (fun q h => h) (fun u t H1 locs1 ht hvm hp hB hz hk hS => ?_)
  obtain rfl := hp
  exact kk H1 locs1 ⟨by rw [← ht]; exact hB, hS⟩
theorem k_R (w : Wd cy D E ids a V s H locs) {r : Option Nat} {V' : Sto} {st0 : List Value} {aa : Array Value} (hr : va_Run p l e R s m args below meth c H locs cells slots 0 0 (F0 m pc ls st0) rest (QR cy D E ids a r V' aa) (inA ids a)) (kk : ∀ (H1 : Heap) (locs1 : List Loc), Wd cy D E ids a V' s H1 locs1 → W p l e R s m args below meth c H1 locs1 cells slots Q (F0 m (pc + 3) ls (va_rf r :: rest))) : W p l e R s m args below meth c H locs cells slots Q (F0 m pc ls st0) := by
  intro T hT X
  obtain ⟨v, s0, t, T', L, h0, X', hL, e1, e2, ⟨⟨hv, hb⟩, hz, hk⟩, stp⟩ := hr T hT X
  cases hv
  rw [h0] at hz hk
  obtain ⟨t2, a1, b1⟩ := kk T'.heap (locs ++ L) ⟨by rw [e1]; exact hb, ⟨Nat.le_trans w.2.1 (by rw [e1]; exact hz), fun q h1 h2 => by rw [e1, hk q (Nat.lt_of_lt_of_le h1 w.2.1) h2]; exact w.2.2.1 q h1 h2, fun q hq => by
      rcases List.mem_append.mp hq with h | h
      · exact w.2.2.2 q h
      · exact hL q h⟩⟩ T' rfl X'
  exact ⟨t2, stp t2 a1, b1⟩
theorem q_V (C : Cx cy D E ids a p s m args c own cc nL) (w : Wd cy D E ids a V s H locs) {y : MethodName} {bytes : ByteArray} {nLy n : Nat} {ret : Option FieldType} {rm : Room} {Qc : Array Value → State → Outcome → State → Prop} {q : Id3} {As : List Value} (hM : Met l y (Cond.code y bytes nLy ret :: wsL_law) rm (va_Pc (.ref (a q) :: As) (fun U => WPre cy D E ids a V U)) Qc 0 0 (inA ids a)) (hy : Wy y bytes nLy ret n) (hi : Cond.instanceMethod y ∈ wsL_law ∧ Cond.selects y.cls y y ∈ wsL_law) {index : Nat} (hl : Cond.methodLink own index y ∈ wsL_law) (hq : q ∈ ids) {ci : Nat} {fs : List Value} (hE : E cy a V q = .inr (ci, fs)) {T : u_T} {N : Nat} (hc : vwCl[ci]? = some (y.cls, T, N)) (hrc : rm.cells = 0) (hrs : rm.slots = 0) (hR : rm.frames + 1 ≤ R.frames ∧ 8 + (nLy + 11) + rm.locals ≤ R.locals) (hln : As.length = n) (hsz : ls.size = nL) {st0 : List Value} (hst : st0 = As.reverse ++ .ref (a q) :: rest) (hW8 : (rest.map fun v => v.category).sum ≤ 8) (hdg : decode cc pc = .ok (.invokevirtual index, 3)) (hf : cells + 0 ≤ R.cells ∧ slots + 0 ≤ R.slots) :
    va_Run p l e R s m args below meth c H locs cells slots 0 0 (F0 m pc ls st0) rest (Qc (Value.ref (a q) :: As).toArray) (inA ids a) := by
  obtain ⟨k0, h1, -⟩ := cel_get (E := E) (cy := cy) (a := a) (V := V) hq
  rw [hE] at h1
  have hts := C.1.2.2.2.2
  exact va_runV C.1 hM ⟨callB_of n hts hy.good rfl hrc hrs (hts _ hy.2.1) (hts _ hl) hy.2.2 hR, hts _ hi.1, hts _ hi.2⟩ ⟨WPre_blind, va_recv C.2.2.1 w.1 hc h1, fun U hU hW => ⟨rfl, WPre_at C w hU hW⟩⟩ rfl hln hsz hst (lv_room hW8) hdg hf
theorem q_VN (C : Cx cy D E ids a p s m args c own cc nL) (w : Wd cy D E ids a V s H locs) {y : MethodName} {bytes : ByteArray} {nLy n : Nat} {ret : Option FieldType} {rm : Room} {Qc : Array Value → State → Outcome → State → Prop} {q : Id3} {As : List Value} (hM : Met l y (Cond.code y bytes nLy ret :: wsL_law) rm (va_Pc (.ref (a q) :: As) (fun U => WPre cy D E ids a V U)) Qc 0 0 (inA ids a)) (hy : Wy y bytes nLy ret n) (hi : Cond.instanceMethod y ∈ wsL_law ∧ Cond.selects y.cls y y ∈ wsL_law) {index : Nat} {host : String} (hl : Cond.methodLinkNest own index y host ∈ nws) (hq : q ∈ ids) {ci : Nat} {fs : List Value} (hE : E cy a V q = .inr (ci, fs)) {T : u_T} {N : Nat} (hc : vwCl[ci]? = some (y.cls, T, N)) (hrc : rm.cells = 0) (hrs : rm.slots = 0) (hR : rm.frames + 1 ≤ R.frames ∧ 8 + (nLy + 11) + rm.locals ≤ R.locals) (hln : As.length = n) (hsz : ls.size = nL) {st0 : List Value} (hst : st0 = As.reverse ++ .ref (a q) :: rest) (hW8 : (rest.map fun v => v.category).sum ≤ 8) (hdg : decode cc pc = .ok (.invokevirtual index, 3)) (hf : cells + 0 ≤ R.cells ∧ slots + 0 ≤ R.slots) :
    va_Run p l e R s m args below meth c H locs cells slots 0 0 (F0 m pc ls st0) rest (Qc (Value.ref (a q) :: As).toArray) (inA ids a) := by
  obtain ⟨k0, h1, -⟩ := cel_get (E := E) (cy := cy) (a := a) (V := V) hq
  rw [hE] at h1
  have hts := C.1.2.2.2.2
  exact va_runVN C.1 hM ⟨va_cnB n hts hy.good rfl hrc hrs (C.2.1 _ hl) (hts _ hy.2.1) hy.2.2 hR, hts _ hi.1, hts _ hi.2⟩ ⟨WPre_blind, va_recv C.2.2.1 w.1 hc h1, fun U hU hW => ⟨rfl, WPre_at C w hU hW⟩⟩ rfl hln hsz hst (lv_room hW8) hdg hf
theorem q_S (C : Cx cy D E ids a p s m args c own cc nL) (w : Wd cy D E ids a V s H locs) {y : MethodName} {bytes : ByteArray} {nLy n : Nat} {ret : Option FieldType} {rm : Room} {Qc : Array Value → State → Outcome → State → Prop} {As : List Value} (hM : Met l y (Cond.code y bytes nLy ret :: wsL_law) rm (va_Pc As (fun U => WPre cy D E ids a V U)) Qc 0 0 (inA ids a)) (hy : Wy y bytes nLy ret n) (hi : Cond.static y ∈ wsL_law) {index : Nat} (hl : Cond.methodLink own index y ∈ wsL_law) (hrc : rm.cells = 0) (hrs : rm.slots = 0) (hR : rm.frames + 1 ≤ R.frames ∧ 8 + (nLy + 11) + rm.locals ≤ R.locals) (hln : As.length = n) (hsz : ls.size = nL) {st0 : List Value} (hst : st0 = As.reverse ++ rest) (hW8 : (rest.map fun v => v.category).sum ≤ 8) (hdg : decode cc pc = .ok (.invokestatic index, 3)) (hf : cells + 0 ≤ R.cells ∧ slots + 0 ≤ R.slots) :
    va_Run p l e R s m args below meth c H locs cells slots 0 0 (F0 m pc ls st0) rest (Qc As.toArray) (inA ids a) := by
  have hts := C.1.2.2.2.2
  exact va_runS C.1 hM ⟨callB_of n hts hy.good rfl hrc hrs (hts _ hy.2.1) (hts _ hl) hy.2.2 hR, hts _ hi⟩ ⟨WPre_blind, fun U hU hW => ⟨rfl, WPre_at C w hU hW⟩⟩ rfl hln hsz hst (lv_room hW8) hdg hf
theorem q_SN (C : Cx cy D E ids a p s m args c own cc nL) (w : Wd cy D E ids a V s H locs) {y : MethodName} {bytes : ByteArray} {nLy n : Nat} {ret : Option FieldType} {rm : Room} {Qc : Array Value → State → Outcome → State → Prop} {As : List Value} (hM : Met l y (Cond.code y bytes nLy ret :: wsL_law) rm (va_Pc As (fun U => WPre cy D E ids a V U)) Qc 0 0 (inA ids a)) (hy : Wy y bytes nLy ret n) (hi : Cond.static y ∈ wsL_law) {index : Nat} {host : String} (hl : Cond.methodLinkNest own index y host ∈ nws) (hrc : rm.cells = 0) (hrs : rm.slots = 0) (hR : rm.frames + 1 ≤ R.frames ∧ 8 + (nLy + 11) + rm.locals ≤ R.locals) (hln : As.length = n) (hsz : ls.size = nL) {st0 : List Value} (hst : st0 = As.reverse ++ rest) (hW8 : (rest.map fun v => v.category).sum ≤ 8) (hdg : decode cc pc = .ok (.invokestatic index, 3)) (hf : cells + 0 ≤ R.cells ∧ slots + 0 ≤ R.slots) :
    va_Run p l e R s m args below meth c H locs cells slots 0 0 (F0 m pc ls st0) rest (Qc As.toArray) (inA ids a) := by
  have hts := C.1.2.2.2.2
  exact va_runSN C.1 hM ⟨va_cnB n hts hy.good rfl hrc hrs (C.2.1 _ hl) (hts _ hy.2.1) hy.2.2 hR, hts _ hi, trivial⟩ ⟨WPre_blind, fun U hU hW => ⟨rfl, WPre_at C w hU hW⟩⟩ rfl hln hsz hst (lv_room hW8) hdg hf
end RW
end
