section
-- ===== PART A: goes FIRST, ahead of the names: the tables' words, and 'selects' of the private methods out of them =====
/-- a private method of a class that the tables say can be made, by its rows of tables_1 -/
def lw_okq (q : MethodName × Nat) : Prop := (q.1.cls ≠ "java/lang/invoke/MethodHandle" ∧ q.1.cls ≠ "java/lang/invoke/VarHandle") ∧ Cond.instantiable q.1.cls q.2 ∈ tables_1 ∧ Cond.privateMethod q.1 ∈ tables_1 ∧ Cond.instanceMethod q.1 ∈ tables_1
theorem lw_p0 : lw_okq (⟨"PromiseTries$Tape", "advanceNumber", "(I)V"⟩, 8) := ⟨⟨by decide +kernel, by decide +kernel⟩, List.mem_of_getElem? (i := 30) (by decide +kernel), List.mem_of_getElem? (i := 353) (by decide +kernel), List.mem_of_getElem? (i := 354) (by decide +kernel)⟩
theorem lw_p1 : lw_okq (⟨"PromiseTries$Reader", "readPromise", "(LPromiseTries$Pledge;)Z"⟩, 3) := ⟨⟨by decide +kernel, by decide +kernel⟩, List.mem_of_getElem? (i := 24) (by decide +kernel), List.mem_of_getElem? (i := 373) (by decide +kernel), List.mem_of_getElem? (i := 374) (by decide +kernel)⟩
theorem lw_p2 : lw_okq (⟨"PromiseTries$Reader", "readChoice", "(I)Z"⟩, 3) := ⟨⟨by decide +kernel, by decide +kernel⟩, List.mem_of_getElem? (i := 24) (by decide +kernel), List.mem_of_getElem? (i := 385) (by decide +kernel), List.mem_of_getElem? (i := 386) (by decide +kernel)⟩
theorem lw_p3 : lw_okq (⟨"PromiseTries$Reader", "readChain", "(I)Z"⟩, 3) := ⟨⟨by decide +kernel, by decide +kernel⟩, List.mem_of_getElem? (i := 24) (by decide +kernel), List.mem_of_getElem? (i := 389) (by decide +kernel), List.mem_of_getElem? (i := 390) (by decide +kernel)⟩
theorem lw_p4 : lw_okq (⟨"PromiseTries$Reader", "readRepeated", "(I)Z"⟩, 3) := ⟨⟨by decide +kernel, by decide +kernel⟩, List.mem_of_getElem? (i := 24) (by decide +kernel), List.mem_of_getElem? (i := 393) (by decide +kernel), List.mem_of_getElem? (i := 394) (by decide +kernel)⟩
theorem lw_p5 : lw_okq (⟨"PromiseTries$Reader", "readPart", "(I)Z"⟩, 3) := ⟨⟨by decide +kernel, by decide +kernel⟩, List.mem_of_getElem? (i := 24) (by decide +kernel), List.mem_of_getElem? (i := 397) (by decide +kernel), List.mem_of_getElem? (i := 398) (by decide +kernel)⟩
theorem lw_p6 : lw_okq (⟨"PromiseTries$Reader", "readCondition", "(I)Z"⟩, 3) := ⟨⟨by decide +kernel, by decide +kernel⟩, List.mem_of_getElem? (i := 24) (by decide +kernel), List.mem_of_getElem? (i := 401) (by decide +kernel), List.mem_of_getElem? (i := 402) (by decide +kernel)⟩
theorem lw_p7 : lw_okq (⟨"PromiseTries$Reader", "readPlain", "(I)Z"⟩, 3) := ⟨⟨by decide +kernel, by decide +kernel⟩, List.mem_of_getElem? (i := 24) (by decide +kernel), List.mem_of_getElem? (i := 406) (by decide +kernel), List.mem_of_getElem? (i := 407) (by decide +kernel)⟩
theorem lw_p8 : lw_okq (⟨"PromiseTries$Reader", "readAnyOf", "(I)Z"⟩, 3) := ⟨⟨by decide +kernel, by decide +kernel⟩, List.mem_of_getElem? (i := 24) (by decide +kernel), List.mem_of_getElem? (i := 420) (by decide +kernel), List.mem_of_getElem? (i := 421) (by decide +kernel)⟩
theorem lw_p9 : lw_okq (⟨"PromiseTries$Reader", "readAllOf", "(I)Z"⟩, 3) := ⟨⟨by decide +kernel, by decide +kernel⟩, List.mem_of_getElem? (i := 24) (by decide +kernel), List.mem_of_getElem? (i := 424) (by decide +kernel), List.mem_of_getElem? (i := 425) (by decide +kernel)⟩
theorem lw_p10 : lw_okq (⟨"PromiseTries$Reader", "readNumber", "(I)Z"⟩, 3) := ⟨⟨by decide +kernel, by decide +kernel⟩, List.mem_of_getElem? (i := 24) (by decide +kernel), List.mem_of_getElem? (i := 452) (by decide +kernel), List.mem_of_getElem? (i := 453) (by decide +kernel)⟩
theorem lw_p11 : lw_okq (⟨"PromiseTries$Builder", "chainCopies", "(IIII)V"⟩, 7) := ⟨⟨by decide +kernel, by decide +kernel⟩, List.mem_of_getElem? (i := 82) (by decide +kernel), List.mem_of_getElem? (i := 467) (by decide +kernel), List.mem_of_getElem? (i := 468) (by decide +kernel)⟩
theorem lw_p12 : lw_okq (⟨"PromiseTries$Reader", "readOff", "(LPromiseTries$Pledge;)Z"⟩, 3) := ⟨⟨by decide +kernel, by decide +kernel⟩, List.mem_of_getElem? (i := 24) (by decide +kernel), List.mem_of_getElem? (i := 504) (by decide +kernel), List.mem_of_getElem? (i := 505) (by decide +kernel)⟩
theorem lw_p13 : lw_okq (⟨"PromiseTries", "watchAnew", "()V"⟩, 12) := ⟨⟨by decide +kernel, by decide +kernel⟩, List.mem_of_getElem? (i := 16) (by decide +kernel), List.mem_of_getElem? (i := 509) (by decide +kernel), List.mem_of_getElem? (i := 510) (by decide +kernel)⟩
theorem lw_p14 : lw_okq (⟨"PromiseTries", "watchOf", "(I)LPromiseTries$Watch;"⟩, 12) := ⟨⟨by decide +kernel, by decide +kernel⟩, List.mem_of_getElem? (i := 16) (by decide +kernel), List.mem_of_getElem? (i := 525) (by decide +kernel), List.mem_of_getElem? (i := 526) (by decide +kernel)⟩
theorem lw_p15 : lw_okq (⟨"PromiseTries$Watch", "takeIn", "(LPromiseTries$Pledge;I)V"⟩, 9) := ⟨⟨by decide +kernel, by decide +kernel⟩, List.mem_of_getElem? (i := 233) (by decide +kernel), List.mem_of_getElem? (i := 533) (by decide +kernel), List.mem_of_getElem? (i := 534) (by decide +kernel)⟩
def lw_privs_1 : List (MethodName × Nat) := [(⟨"PromiseTries$Tape", "advanceNumber", "(I)V"⟩, 8), (⟨"PromiseTries$Reader", "readPromise", "(LPromiseTries$Pledge;)Z"⟩, 3), (⟨"PromiseTries$Reader", "readChoice", "(I)Z"⟩, 3), (⟨"PromiseTries$Reader", "readChain", "(I)Z"⟩, 3), (⟨"PromiseTries$Reader", "readRepeated", "(I)Z"⟩, 3), (⟨"PromiseTries$Reader", "readPart", "(I)Z"⟩, 3), (⟨"PromiseTries$Reader", "readCondition", "(I)Z"⟩, 3), (⟨"PromiseTries$Reader", "readPlain", "(I)Z"⟩, 3), (⟨"PromiseTries$Reader", "readAnyOf", "(I)Z"⟩, 3), (⟨"PromiseTries$Reader", "readAllOf", "(I)Z"⟩, 3), (⟨"PromiseTries$Reader", "readNumber", "(I)Z"⟩, 3), (⟨"PromiseTries$Builder", "chainCopies", "(IIII)V"⟩, 7), (⟨"PromiseTries$Reader", "readOff", "(LPromiseTries$Pledge;)Z"⟩, 3), (⟨"PromiseTries", "watchAnew", "()V"⟩, 12), (⟨"PromiseTries", "watchOf", "(I)LPromiseTries$Watch;"⟩, 12), (⟨"PromiseTries$Watch", "takeIn", "(LPromiseTries$Pledge;I)V"⟩, 9)]
theorem lw_r1 : ∀ q ∈ lw_privs_1, lw_okq q := List.forall_mem_cons.mpr ⟨lw_p0, List.forall_mem_cons.mpr ⟨lw_p1, List.forall_mem_cons.mpr ⟨lw_p2, List.forall_mem_cons.mpr ⟨lw_p3, List.forall_mem_cons.mpr ⟨lw_p4, List.forall_mem_cons.mpr ⟨lw_p5, List.forall_mem_cons.mpr ⟨lw_p6, List.forall_mem_cons.mpr ⟨lw_p7, List.forall_mem_cons.mpr ⟨lw_p8, List.forall_mem_cons.mpr ⟨lw_p9, List.forall_mem_cons.mpr ⟨lw_p10, List.forall_mem_cons.mpr ⟨lw_p11, List.forall_mem_cons.mpr ⟨lw_p12, List.forall_mem_cons.mpr ⟨lw_p13, List.forall_mem_cons.mpr ⟨lw_p14, List.forall_mem_cons.mpr ⟨lw_p15, fun _ h => absurd h List.not_mem_nil⟩⟩⟩⟩⟩⟩⟩⟩⟩⟩⟩⟩⟩⟩⟩⟩
theorem lw_p16 : lw_okq (⟨"PromiseTries$Watch", "moveDuties", "(LPromiseTries$Sequence;J)V"⟩, 9) := ⟨⟨by decide +kernel, by decide +kernel⟩, List.mem_of_getElem? (i := 233) (by decide +kernel), List.mem_of_getElem? (i := 544) (by decide +kernel), List.mem_of_getElem? (i := 545) (by decide +kernel)⟩
theorem lw_p17 : lw_okq (⟨"PromiseTries$Watch", "settleDuty", "(LPromiseTries$Sequence;I)V"⟩, 9) := ⟨⟨by decide +kernel, by decide +kernel⟩, List.mem_of_getElem? (i := 233) (by decide +kernel), List.mem_of_getElem? (i := 552) (by decide +kernel), List.mem_of_getElem? (i := 553) (by decide +kernel)⟩
theorem lw_p18 : lw_okq (⟨"PromiseTries$Watch", "moveTries", "(LPromiseTries$Sequence;J)Z"⟩, 9) := ⟨⟨by decide +kernel, by decide +kernel⟩, List.mem_of_getElem? (i := 233) (by decide +kernel), List.mem_of_getElem? (i := 564) (by decide +kernel), List.mem_of_getElem? (i := 565) (by decide +kernel)⟩
theorem lw_p19 : lw_okq (⟨"PromiseTries$Watch", "beginDuty", "(LPromiseTries$Pledge;J)V"⟩, 9) := ⟨⟨by decide +kernel, by decide +kernel⟩, List.mem_of_getElem? (i := 233) (by decide +kernel), List.mem_of_getElem? (i := 568) (by decide +kernel), List.mem_of_getElem? (i := 569) (by decide +kernel)⟩
theorem lw_p20 : lw_okq (⟨"PromiseTries$Watch", "judgeTries", "(LPromiseTries$Pledge;Z)V"⟩, 9) := ⟨⟨by decide +kernel, by decide +kernel⟩, List.mem_of_getElem? (i := 233) (by decide +kernel), List.mem_of_getElem? (i := 577) (by decide +kernel), List.mem_of_getElem? (i := 578) (by decide +kernel)⟩
theorem lw_p21 : lw_okq (⟨"PromiseTries$Watch", "judge", "(LPromiseTries$Sequence;I)I"⟩, 9) := ⟨⟨by decide +kernel, by decide +kernel⟩, List.mem_of_getElem? (i := 233) (by decide +kernel), List.mem_of_getElem? (i := 581) (by decide +kernel), List.mem_of_getElem? (i := 582) (by decide +kernel)⟩
theorem lw_p22 : lw_okq (⟨"PromiseTries", "isPromise", "(I)Z"⟩, 12) := ⟨⟨by decide +kernel, by decide +kernel⟩, List.mem_of_getElem? (i := 16) (by decide +kernel), List.mem_of_getElem? (i := 599) (by decide +kernel), List.mem_of_getElem? (i := 600) (by decide +kernel)⟩
theorem lw_p23 : lw_okq (⟨"PromiseTries", "isCondition", "(III)Z"⟩, 12) := ⟨⟨by decide +kernel, by decide +kernel⟩, List.mem_of_getElem? (i := 16) (by decide +kernel), List.mem_of_getElem? (i := 607) (by decide +kernel), List.mem_of_getElem? (i := 608) (by decide +kernel)⟩
theorem lw_p24 : lw_okq (⟨"PromiseTries", "isTick", "(I)Z"⟩, 12) := ⟨⟨by decide +kernel, by decide +kernel⟩, List.mem_of_getElem? (i := 16) (by decide +kernel), List.mem_of_getElem? (i := 659) (by decide +kernel), List.mem_of_getElem? (i := 660) (by decide +kernel)⟩
theorem lw_p25 : lw_okq (⟨"PromiseTries", "isTry", "(II)Z"⟩, 12) := ⟨⟨by decide +kernel, by decide +kernel⟩, List.mem_of_getElem? (i := 16) (by decide +kernel), List.mem_of_getElem? (i := 686) (by decide +kernel), List.mem_of_getElem? (i := 687) (by decide +kernel)⟩
theorem lw_p26 : lw_okq (⟨"PromiseTries", "howManyImages", "()I"⟩, 12) := ⟨⟨by decide +kernel, by decide +kernel⟩, List.mem_of_getElem? (i := 16) (by decide +kernel), List.mem_of_getElem? (i := 781) (by decide +kernel), List.mem_of_getElem? (i := 782) (by decide +kernel)⟩
theorem lw_p27 : lw_okq (⟨"PromiseTriesModel", "reads", "()V"⟩, 52) := ⟨⟨by decide +kernel, by decide +kernel⟩, List.mem_of_getElem? (i := 785) (by decide +kernel), List.mem_of_getElem? (i := 970) (by decide +kernel), List.mem_of_getElem? (i := 971) (by decide +kernel)⟩
theorem lw_p28 : lw_okq (⟨"PromiseTriesModel", "byteAt", "(I)I"⟩, 52) := ⟨⟨by decide +kernel, by decide +kernel⟩, List.mem_of_getElem? (i := 785) (by decide +kernel), List.mem_of_getElem? (i := 974) (by decide +kernel), List.mem_of_getElem? (i := 975) (by decide +kernel)⟩
theorem lw_p29 : lw_okq (⟨"PromiseTriesModel", "requires", "(ZI)V"⟩, 52) := ⟨⟨by decide +kernel, by decide +kernel⟩, List.mem_of_getElem? (i := 785) (by decide +kernel), List.mem_of_getElem? (i := 980) (by decide +kernel), List.mem_of_getElem? (i := 981) (by decide +kernel)⟩
theorem lw_p30 : lw_okq (⟨"PromiseTriesModel", "readPromise", "(I)V"⟩, 52) := ⟨⟨by decide +kernel, by decide +kernel⟩, List.mem_of_getElem? (i := 785) (by decide +kernel), List.mem_of_getElem? (i := 989) (by decide +kernel), List.mem_of_getElem? (i := 990) (by decide +kernel)⟩
theorem lw_p31 : lw_okq (⟨"PromiseTriesModel", "isBegin", "()Z"⟩, 52) := ⟨⟨by decide +kernel, by decide +kernel⟩, List.mem_of_getElem? (i := 785) (by decide +kernel), List.mem_of_getElem? (i := 993) (by decide +kernel), List.mem_of_getElem? (i := 994) (by decide +kernel)⟩
def lw_privs_2 : List (MethodName × Nat) := [(⟨"PromiseTries$Watch", "moveDuties", "(LPromiseTries$Sequence;J)V"⟩, 9), (⟨"PromiseTries$Watch", "settleDuty", "(LPromiseTries$Sequence;I)V"⟩, 9), (⟨"PromiseTries$Watch", "moveTries", "(LPromiseTries$Sequence;J)Z"⟩, 9), (⟨"PromiseTries$Watch", "beginDuty", "(LPromiseTries$Pledge;J)V"⟩, 9), (⟨"PromiseTries$Watch", "judgeTries", "(LPromiseTries$Pledge;Z)V"⟩, 9), (⟨"PromiseTries$Watch", "judge", "(LPromiseTries$Sequence;I)I"⟩, 9), (⟨"PromiseTries", "isPromise", "(I)Z"⟩, 12), (⟨"PromiseTries", "isCondition", "(III)Z"⟩, 12), (⟨"PromiseTries", "isTick", "(I)Z"⟩, 12), (⟨"PromiseTries", "isTry", "(II)Z"⟩, 12), (⟨"PromiseTries", "howManyImages", "()I"⟩, 12), (⟨"PromiseTriesModel", "reads", "()V"⟩, 52), (⟨"PromiseTriesModel", "byteAt", "(I)I"⟩, 52), (⟨"PromiseTriesModel", "requires", "(ZI)V"⟩, 52), (⟨"PromiseTriesModel", "readPromise", "(I)V"⟩, 52), (⟨"PromiseTriesModel", "isBegin", "()Z"⟩, 52)]
theorem lw_r2 : ∀ q ∈ lw_privs_2, lw_okq q := List.forall_mem_cons.mpr ⟨lw_p16, List.forall_mem_cons.mpr ⟨lw_p17, List.forall_mem_cons.mpr ⟨lw_p18, List.forall_mem_cons.mpr ⟨lw_p19, List.forall_mem_cons.mpr ⟨lw_p20, List.forall_mem_cons.mpr ⟨lw_p21, List.forall_mem_cons.mpr ⟨lw_p22, List.forall_mem_cons.mpr ⟨lw_p23, List.forall_mem_cons.mpr ⟨lw_p24, List.forall_mem_cons.mpr ⟨lw_p25, List.forall_mem_cons.mpr ⟨lw_p26, List.forall_mem_cons.mpr ⟨lw_p27, List.forall_mem_cons.mpr ⟨lw_p28, List.forall_mem_cons.mpr ⟨lw_p29, List.forall_mem_cons.mpr ⟨lw_p30, List.forall_mem_cons.mpr ⟨lw_p31, fun _ h => absurd h List.not_mem_nil⟩⟩⟩⟩⟩⟩⟩⟩⟩⟩⟩⟩⟩⟩⟩⟩
theorem lw_p32 : lw_okq (⟨"PromiseTriesModel", "isSign", "(I)Z"⟩, 52) := ⟨⟨by decide +kernel, by decide +kernel⟩, List.mem_of_getElem? (i := 785) (by decide +kernel), List.mem_of_getElem? (i := 997) (by decide +kernel), List.mem_of_getElem? (i := 998) (by decide +kernel)⟩
theorem lw_p33 : lw_okq (⟨"PromiseTriesModel", "readSequence", "(I)V"⟩, 52) := ⟨⟨by decide +kernel, by decide +kernel⟩, List.mem_of_getElem? (i := 785) (by decide +kernel), List.mem_of_getElem? (i := 1001) (by decide +kernel), List.mem_of_getElem? (i := 1002) (by decide +kernel)⟩
theorem lw_p34 : lw_okq (⟨"PromiseTriesModel", "opensSequence", "()V"⟩, 52) := ⟨⟨by decide +kernel, by decide +kernel⟩, List.mem_of_getElem? (i := 785) (by decide +kernel), List.mem_of_getElem? (i := 1005) (by decide +kernel), List.mem_of_getElem? (i := 1006) (by decide +kernel)⟩
theorem lw_p35 : lw_okq (⟨"PromiseTriesModel", "readBegin", "()V"⟩, 52) := ⟨⟨by decide +kernel, by decide +kernel⟩, List.mem_of_getElem? (i := 785) (by decide +kernel), List.mem_of_getElem? (i := 1009) (by decide +kernel), List.mem_of_getElem? (i := 1010) (by decide +kernel)⟩
theorem lw_p36 : lw_okq (⟨"PromiseTriesModel", "nests", "()V"⟩, 52) := ⟨⟨by decide +kernel, by decide +kernel⟩, List.mem_of_getElem? (i := 785) (by decide +kernel), List.mem_of_getElem? (i := 1013) (by decide +kernel), List.mem_of_getElem? (i := 1014) (by decide +kernel)⟩
theorem lw_p37 : lw_okq (⟨"PromiseTriesModel", "readCondition", "(Z)V"⟩, 52) := ⟨⟨by decide +kernel, by decide +kernel⟩, List.mem_of_getElem? (i := 785) (by decide +kernel), List.mem_of_getElem? (i := 1020) (by decide +kernel), List.mem_of_getElem? (i := 1021) (by decide +kernel)⟩
theorem lw_p38 : lw_okq (⟨"PromiseTriesModel", "opensDepth", "()V"⟩, 52) := ⟨⟨by decide +kernel, by decide +kernel⟩, List.mem_of_getElem? (i := 785) (by decide +kernel), List.mem_of_getElem? (i := 1024) (by decide +kernel), List.mem_of_getElem? (i := 1025) (by decide +kernel)⟩
theorem lw_p39 : lw_okq (⟨"PromiseTriesModel", "readOperand", "()V"⟩, 52) := ⟨⟨by decide +kernel, by decide +kernel⟩, List.mem_of_getElem? (i := 785) (by decide +kernel), List.mem_of_getElem? (i := 1028) (by decide +kernel), List.mem_of_getElem? (i := 1029) (by decide +kernel)⟩
theorem lw_p40 : lw_okq (⟨"PromiseTriesModel", "wires", "(I)V"⟩, 52) := ⟨⟨by decide +kernel, by decide +kernel⟩, List.mem_of_getElem? (i := 785) (by decide +kernel), List.mem_of_getElem? (i := 1032) (by decide +kernel), List.mem_of_getElem? (i := 1033) (by decide +kernel)⟩
theorem lw_p41 : lw_okq (⟨"PromiseTriesModel", "joinsAnds", "()V"⟩, 52) := ⟨⟨by decide +kernel, by decide +kernel⟩, List.mem_of_getElem? (i := 785) (by decide +kernel), List.mem_of_getElem? (i := 1037) (by decide +kernel), List.mem_of_getElem? (i := 1038) (by decide +kernel)⟩
theorem lw_p42 : lw_okq (⟨"PromiseTriesModel", "joinsOrs", "()V"⟩, 52) := ⟨⟨by decide +kernel, by decide +kernel⟩, List.mem_of_getElem? (i := 785) (by decide +kernel), List.mem_of_getElem? (i := 1041) (by decide +kernel), List.mem_of_getElem? (i := 1042) (by decide +kernel)⟩
theorem lw_p43 : lw_okq (⟨"PromiseTriesModel", "onePlace", "()V"⟩, 52) := ⟨⟨by decide +kernel, by decide +kernel⟩, List.mem_of_getElem? (i := 785) (by decide +kernel), List.mem_of_getElem? (i := 1045) (by decide +kernel), List.mem_of_getElem? (i := 1046) (by decide +kernel)⟩
theorem lw_p44 : lw_okq (⟨"PromiseTriesModel", "readEnds", "()V"⟩, 52) := ⟨⟨by decide +kernel, by decide +kernel⟩, List.mem_of_getElem? (i := 785) (by decide +kernel), List.mem_of_getElem? (i := 1049) (by decide +kernel), List.mem_of_getElem? (i := 1050) (by decide +kernel)⟩
theorem lw_p45 : lw_okq (⟨"PromiseTriesModel", "readTimes", "()V"⟩, 52) := ⟨⟨by decide +kernel, by decide +kernel⟩, List.mem_of_getElem? (i := 785) (by decide +kernel), List.mem_of_getElem? (i := 1053) (by decide +kernel), List.mem_of_getElem? (i := 1054) (by decide +kernel)⟩
theorem lw_p46 : lw_okq (⟨"PromiseTriesModel", "readNumber", "(II)I"⟩, 52) := ⟨⟨by decide +kernel, by decide +kernel⟩, List.mem_of_getElem? (i := 785) (by decide +kernel), List.mem_of_getElem? (i := 1057) (by decide +kernel), List.mem_of_getElem? (i := 1058) (by decide +kernel)⟩
theorem lw_p47 : lw_okq (⟨"PromiseTriesModel", "repeats", "(II)V"⟩, 52) := ⟨⟨by decide +kernel, by decide +kernel⟩, List.mem_of_getElem? (i := 785) (by decide +kernel), List.mem_of_getElem? (i := 1064) (by decide +kernel), List.mem_of_getElem? (i := 1065) (by decide +kernel)⟩
def lw_privs_3 : List (MethodName × Nat) := [(⟨"PromiseTriesModel", "isSign", "(I)Z"⟩, 52), (⟨"PromiseTriesModel", "readSequence", "(I)V"⟩, 52), (⟨"PromiseTriesModel", "opensSequence", "()V"⟩, 52), (⟨"PromiseTriesModel", "readBegin", "()V"⟩, 52), (⟨"PromiseTriesModel", "nests", "()V"⟩, 52), (⟨"PromiseTriesModel", "readCondition", "(Z)V"⟩, 52), (⟨"PromiseTriesModel", "opensDepth", "()V"⟩, 52), (⟨"PromiseTriesModel", "readOperand", "()V"⟩, 52), (⟨"PromiseTriesModel", "wires", "(I)V"⟩, 52), (⟨"PromiseTriesModel", "joinsAnds", "()V"⟩, 52), (⟨"PromiseTriesModel", "joinsOrs", "()V"⟩, 52), (⟨"PromiseTriesModel", "onePlace", "()V"⟩, 52), (⟨"PromiseTriesModel", "readEnds", "()V"⟩, 52), (⟨"PromiseTriesModel", "readTimes", "()V"⟩, 52), (⟨"PromiseTriesModel", "readNumber", "(II)I"⟩, 52), (⟨"PromiseTriesModel", "repeats", "(II)V"⟩, 52)]
theorem lw_r3 : ∀ q ∈ lw_privs_3, lw_okq q := List.forall_mem_cons.mpr ⟨lw_p32, List.forall_mem_cons.mpr ⟨lw_p33, List.forall_mem_cons.mpr ⟨lw_p34, List.forall_mem_cons.mpr ⟨lw_p35, List.forall_mem_cons.mpr ⟨lw_p36, List.forall_mem_cons.mpr ⟨lw_p37, List.forall_mem_cons.mpr ⟨lw_p38, List.forall_mem_cons.mpr ⟨lw_p39, List.forall_mem_cons.mpr ⟨lw_p40, List.forall_mem_cons.mpr ⟨lw_p41, List.forall_mem_cons.mpr ⟨lw_p42, List.forall_mem_cons.mpr ⟨lw_p43, List.forall_mem_cons.mpr ⟨lw_p44, List.forall_mem_cons.mpr ⟨lw_p45, List.forall_mem_cons.mpr ⟨lw_p46, List.forall_mem_cons.mpr ⟨lw_p47, fun _ h => absurd h List.not_mem_nil⟩⟩⟩⟩⟩⟩⟩⟩⟩⟩⟩⟩⟩⟩⟩⟩
theorem lw_p48 : lw_okq (⟨"PromiseTriesModel", "placesNow", "()I"⟩, 52) := ⟨⟨by decide +kernel, by decide +kernel⟩, List.mem_of_getElem? (i := 785) (by decide +kernel), List.mem_of_getElem? (i := 1068) (by decide +kernel), List.mem_of_getElem? (i := 1069) (by decide +kernel)⟩
theorem lw_p49 : lw_okq (⟨"PromiseTriesModel", "follows", "(JJ)V"⟩, 52) := ⟨⟨by decide +kernel, by decide +kernel⟩, List.mem_of_getElem? (i := 785) (by decide +kernel), List.mem_of_getElem? (i := 1072) (by decide +kernel), List.mem_of_getElem? (i := 1073) (by decide +kernel)⟩
theorem lw_p50 : lw_okq (⟨"PromiseTriesModel", "chains", "(II)V"⟩, 52) := ⟨⟨by decide +kernel, by decide +kernel⟩, List.mem_of_getElem? (i := 785) (by decide +kernel), List.mem_of_getElem? (i := 1080) (by decide +kernel), List.mem_of_getElem? (i := 1081) (by decide +kernel)⟩
theorem lw_p51 : lw_okq (⟨"PromiseTriesModel", "takes", "(II)V"⟩, 52) := ⟨⟨by decide +kernel, by decide +kernel⟩, List.mem_of_getElem? (i := 785) (by decide +kernel), List.mem_of_getElem? (i := 1084) (by decide +kernel), List.mem_of_getElem? (i := 1085) (by decide +kernel)⟩
theorem lw_p52 : lw_okq (⟨"PromiseTriesModel", "chooses", "(II)V"⟩, 52) := ⟨⟨by decide +kernel, by decide +kernel⟩, List.mem_of_getElem? (i := 785) (by decide +kernel), List.mem_of_getElem? (i := 1091) (by decide +kernel), List.mem_of_getElem? (i := 1092) (by decide +kernel)⟩
theorem lw_p53 : lw_okq (⟨"PromiseTriesModel", "ends", "(I)V"⟩, 52) := ⟨⟨by decide +kernel, by decide +kernel⟩, List.mem_of_getElem? (i := 785) (by decide +kernel), List.mem_of_getElem? (i := 1095) (by decide +kernel), List.mem_of_getElem? (i := 1096) (by decide +kernel)⟩
theorem lw_p54 : lw_okq (⟨"PromiseTriesModel", "isFulfillable", "(II)Z"⟩, 52) := ⟨⟨by decide +kernel, by decide +kernel⟩, List.mem_of_getElem? (i := 785) (by decide +kernel), List.mem_of_getElem? (i := 1099) (by decide +kernel), List.mem_of_getElem? (i := 1100) (by decide +kernel)⟩
theorem lw_p55 : lw_okq (⟨"PromiseTriesModel", "isConditionAsked", "(III)Z"⟩, 52) := ⟨⟨by decide +kernel, by decide +kernel⟩, List.mem_of_getElem? (i := 785) (by decide +kernel), List.mem_of_getElem? (i := 1111) (by decide +kernel), List.mem_of_getElem? (i := 1112) (by decide +kernel)⟩
theorem lw_p56 : lw_okq (⟨"PromiseTriesModel", "isPromise", "(I)Z"⟩, 52) := ⟨⟨by decide +kernel, by decide +kernel⟩, List.mem_of_getElem? (i := 785) (by decide +kernel), List.mem_of_getElem? (i := 1115) (by decide +kernel), List.mem_of_getElem? (i := 1116) (by decide +kernel)⟩
theorem lw_p57 : lw_okq (⟨"PromiseTriesModel", "fulfilsOff", "(II)Z"⟩, 52) := ⟨⟨by decide +kernel, by decide +kernel⟩, List.mem_of_getElem? (i := 785) (by decide +kernel), List.mem_of_getElem? (i := 1124) (by decide +kernel), List.mem_of_getElem? (i := 1125) (by decide +kernel)⟩
theorem lw_p58 : lw_okq (⟨"PromiseTriesModel", "fulfilsOne", "(III)Z"⟩, 52) := ⟨⟨by decide +kernel, by decide +kernel⟩, List.mem_of_getElem? (i := 785) (by decide +kernel), List.mem_of_getElem? (i := 1128) (by decide +kernel), List.mem_of_getElem? (i := 1129) (by decide +kernel)⟩
theorem lw_p59 : lw_okq (⟨"PromiseTriesModel", "findsFulfilling", "(I)V"⟩, 52) := ⟨⟨by decide +kernel, by decide +kernel⟩, List.mem_of_getElem? (i := 785) (by decide +kernel), List.mem_of_getElem? (i := 1144) (by decide +kernel), List.mem_of_getElem? (i := 1145) (by decide +kernel)⟩
theorem lw_p60 : lw_okq (⟨"PromiseTriesModel", "firstOf", "(I)J"⟩, 52) := ⟨⟨by decide +kernel, by decide +kernel⟩, List.mem_of_getElem? (i := 785) (by decide +kernel), List.mem_of_getElem? (i := 1148) (by decide +kernel), List.mem_of_getElem? (i := 1149) (by decide +kernel)⟩
theorem lw_p61 : lw_okq (⟨"PromiseTriesModel", "nextOf", "(IJ)J"⟩, 52) := ⟨⟨by decide +kernel, by decide +kernel⟩, List.mem_of_getElem? (i := 785) (by decide +kernel), List.mem_of_getElem? (i := 1152) (by decide +kernel), List.mem_of_getElem? (i := 1153) (by decide +kernel)⟩
theorem lw_p62 : lw_okq (⟨"PromiseTriesModel", "isEnd", "(IJ)Z"⟩, 52) := ⟨⟨by decide +kernel, by decide +kernel⟩, List.mem_of_getElem? (i := 785) (by decide +kernel), List.mem_of_getElem? (i := 1156) (by decide +kernel), List.mem_of_getElem? (i := 1157) (by decide +kernel)⟩
theorem lw_p63 : lw_okq (⟨"PromiseTriesModel", "canEnd", "(IJ)Z"⟩, 52) := ⟨⟨by decide +kernel, by decide +kernel⟩, List.mem_of_getElem? (i := 785) (by decide +kernel), List.mem_of_getElem? (i := 1164) (by decide +kernel), List.mem_of_getElem? (i := 1165) (by decide +kernel)⟩
def lw_privs_4 : List (MethodName × Nat) := [(⟨"PromiseTriesModel", "placesNow", "()I"⟩, 52), (⟨"PromiseTriesModel", "follows", "(JJ)V"⟩, 52), (⟨"PromiseTriesModel", "chains", "(II)V"⟩, 52), (⟨"PromiseTriesModel", "takes", "(II)V"⟩, 52), (⟨"PromiseTriesModel", "chooses", "(II)V"⟩, 52), (⟨"PromiseTriesModel", "ends", "(I)V"⟩, 52), (⟨"PromiseTriesModel", "isFulfillable", "(II)Z"⟩, 52), (⟨"PromiseTriesModel", "isConditionAsked", "(III)Z"⟩, 52), (⟨"PromiseTriesModel", "isPromise", "(I)Z"⟩, 52), (⟨"PromiseTriesModel", "fulfilsOff", "(II)Z"⟩, 52), (⟨"PromiseTriesModel", "fulfilsOne", "(III)Z"⟩, 52), (⟨"PromiseTriesModel", "findsFulfilling", "(I)V"⟩, 52), (⟨"PromiseTriesModel", "firstOf", "(I)J"⟩, 52), (⟨"PromiseTriesModel", "nextOf", "(IJ)J"⟩, 52), (⟨"PromiseTriesModel", "isEnd", "(IJ)Z"⟩, 52), (⟨"PromiseTriesModel", "canEnd", "(IJ)Z"⟩, 52)]
theorem lw_r4 : ∀ q ∈ lw_privs_4, lw_okq q := List.forall_mem_cons.mpr ⟨lw_p48, List.forall_mem_cons.mpr ⟨lw_p49, List.forall_mem_cons.mpr ⟨lw_p50, List.forall_mem_cons.mpr ⟨lw_p51, List.forall_mem_cons.mpr ⟨lw_p52, List.forall_mem_cons.mpr ⟨lw_p53, List.forall_mem_cons.mpr ⟨lw_p54, List.forall_mem_cons.mpr ⟨lw_p55, List.forall_mem_cons.mpr ⟨lw_p56, List.forall_mem_cons.mpr ⟨lw_p57, List.forall_mem_cons.mpr ⟨lw_p58, List.forall_mem_cons.mpr ⟨lw_p59, List.forall_mem_cons.mpr ⟨lw_p60, List.forall_mem_cons.mpr ⟨lw_p61, List.forall_mem_cons.mpr ⟨lw_p62, List.forall_mem_cons.mpr ⟨lw_p63, fun _ h => absurd h List.not_mem_nil⟩⟩⟩⟩⟩⟩⟩⟩⟩⟩⟩⟩⟩⟩⟩⟩
theorem lw_p64 : lw_okq (⟨"PromiseTriesModel", "isTry", "(II)Z"⟩, 52) := ⟨⟨by decide +kernel, by decide +kernel⟩, List.mem_of_getElem? (i := 785) (by decide +kernel), List.mem_of_getElem? (i := 1177) (by decide +kernel), List.mem_of_getElem? (i := 1178) (by decide +kernel)⟩
theorem lw_p65 : lw_okq (⟨"PromiseTriesModel", "isTick", "(I)Z"⟩, 52) := ⟨⟨by decide +kernel, by decide +kernel⟩, List.mem_of_getElem? (i := 785) (by decide +kernel), List.mem_of_getElem? (i := 1181) (by decide +kernel), List.mem_of_getElem? (i := 1182) (by decide +kernel)⟩
theorem lw_p66 : lw_okq (⟨"PromiseTriesModel", "goesThrough", "(II)V"⟩, 52) := ⟨⟨by decide +kernel, by decide +kernel⟩, List.mem_of_getElem? (i := 785) (by decide +kernel), List.mem_of_getElem? (i := 1185) (by decide +kernel), List.mem_of_getElem? (i := 1186) (by decide +kernel)⟩
theorem lw_p67 : lw_okq (⟨"PromiseTriesModel", "goesOn", "(III)V"⟩, 52) := ⟨⟨by decide +kernel, by decide +kernel⟩, List.mem_of_getElem? (i := 785) (by decide +kernel), List.mem_of_getElem? (i := 1189) (by decide +kernel), List.mem_of_getElem? (i := 1190) (by decide +kernel)⟩
theorem lw_p68 : lw_okq (⟨"PromiseTriesModel", "dies", "(III)V"⟩, 52) := ⟨⟨by decide +kernel, by decide +kernel⟩, List.mem_of_getElem? (i := 785) (by decide +kernel), List.mem_of_getElem? (i := 1193) (by decide +kernel), List.mem_of_getElem? (i := 1194) (by decide +kernel)⟩
theorem lw_p69 : lw_okq (⟨"PromiseTriesModel", "begins", "(II)V"⟩, 52) := ⟨⟨by decide +kernel, by decide +kernel⟩, List.mem_of_getElem? (i := 785) (by decide +kernel), List.mem_of_getElem? (i := 1197) (by decide +kernel), List.mem_of_getElem? (i := 1198) (by decide +kernel)⟩
theorem lw_p70 : lw_okq (⟨"PromiseTriesModel", "verdictBy", "(IIIJ)I"⟩, 52) := ⟨⟨by decide +kernel, by decide +kernel⟩, List.mem_of_getElem? (i := 785) (by decide +kernel), List.mem_of_getElem? (i := 1201) (by decide +kernel), List.mem_of_getElem? (i := 1202) (by decide +kernel)⟩
theorem lw_p71 : lw_okq (⟨"PromiseTriesModel", "isAny", "(III)Z"⟩, 52) := ⟨⟨by decide +kernel, by decide +kernel⟩, List.mem_of_getElem? (i := 785) (by decide +kernel), List.mem_of_getElem? (i := 1205) (by decide +kernel), List.mem_of_getElem? (i := 1206) (by decide +kernel)⟩
theorem lw_p72 : lw_okq (⟨"PromiseTriesModel", "dutiesFrom", "(I)I"⟩, 52) := ⟨⟨by decide +kernel, by decide +kernel⟩, List.mem_of_getElem? (i := 785) (by decide +kernel), List.mem_of_getElem? (i := 1217) (by decide +kernel), List.mem_of_getElem? (i := 1218) (by decide +kernel)⟩
theorem lw_p73 : lw_okq (⟨"PromiseTriesModel", "triesOf", "(II)I"⟩, 52) := ⟨⟨by decide +kernel, by decide +kernel⟩, List.mem_of_getElem? (i := 785) (by decide +kernel), List.mem_of_getElem? (i := 1230) (by decide +kernel), List.mem_of_getElem? (i := 1231) (by decide +kernel)⟩
theorem lw_p74 : lw_okq (⟨"PromiseTriesModel", "allDuties", "()I"⟩, 52) := ⟨⟨by decide +kernel, by decide +kernel⟩, List.mem_of_getElem? (i := 785) (by decide +kernel), List.mem_of_getElem? (i := 1243) (by decide +kernel), List.mem_of_getElem? (i := 1244) (by decide +kernel)⟩
theorem lw_p75 : lw_okq (⟨"PromiseTriesModel", "allTries", "(I)I"⟩, 52) := ⟨⟨by decide +kernel, by decide +kernel⟩, List.mem_of_getElem? (i := 785) (by decide +kernel), List.mem_of_getElem? (i := 1247) (by decide +kernel), List.mem_of_getElem? (i := 1248) (by decide +kernel)⟩
theorem lw_p76 : lw_okq (⟨"PromiseTriesModel", "failedBy", "(I)I"⟩, 52) := ⟨⟨by decide +kernel, by decide +kernel⟩, List.mem_of_getElem? (i := 785) (by decide +kernel), List.mem_of_getElem? (i := 1255) (by decide +kernel), List.mem_of_getElem? (i := 1256) (by decide +kernel)⟩
theorem lw_p77 : lw_okq (⟨"PromiseTriesModel", "gets", "()I"⟩, 52) := ⟨⟨by decide +kernel, by decide +kernel⟩, List.mem_of_getElem? (i := 785) (by decide +kernel), List.mem_of_getElem? (i := 1276) (by decide +kernel), List.mem_of_getElem? (i := 1277) (by decide +kernel)⟩
def lw_privs_5 : List (MethodName × Nat) := [(⟨"PromiseTriesModel", "isTry", "(II)Z"⟩, 52), (⟨"PromiseTriesModel", "isTick", "(I)Z"⟩, 52), (⟨"PromiseTriesModel", "goesThrough", "(II)V"⟩, 52), (⟨"PromiseTriesModel", "goesOn", "(III)V"⟩, 52), (⟨"PromiseTriesModel", "dies", "(III)V"⟩, 52), (⟨"PromiseTriesModel", "begins", "(II)V"⟩, 52), (⟨"PromiseTriesModel", "verdictBy", "(IIIJ)I"⟩, 52), (⟨"PromiseTriesModel", "isAny", "(III)Z"⟩, 52), (⟨"PromiseTriesModel", "dutiesFrom", "(I)I"⟩, 52), (⟨"PromiseTriesModel", "triesOf", "(II)I"⟩, 52), (⟨"PromiseTriesModel", "allDuties", "()I"⟩, 52), (⟨"PromiseTriesModel", "allTries", "(I)I"⟩, 52), (⟨"PromiseTriesModel", "failedBy", "(I)I"⟩, 52), (⟨"PromiseTriesModel", "gets", "()I"⟩, 52)]
theorem lw_r5 : ∀ q ∈ lw_privs_5, lw_okq q := List.forall_mem_cons.mpr ⟨lw_p64, List.forall_mem_cons.mpr ⟨lw_p65, List.forall_mem_cons.mpr ⟨lw_p66, List.forall_mem_cons.mpr ⟨lw_p67, List.forall_mem_cons.mpr ⟨lw_p68, List.forall_mem_cons.mpr ⟨lw_p69, List.forall_mem_cons.mpr ⟨lw_p70, List.forall_mem_cons.mpr ⟨lw_p71, List.forall_mem_cons.mpr ⟨lw_p72, List.forall_mem_cons.mpr ⟨lw_p73, List.forall_mem_cons.mpr ⟨lw_p74, List.forall_mem_cons.mpr ⟨lw_p75, List.forall_mem_cons.mpr ⟨lw_p76, List.forall_mem_cons.mpr ⟨lw_p77, fun _ h => absurd h List.not_mem_nil⟩⟩⟩⟩⟩⟩⟩⟩⟩⟩⟩⟩⟩⟩
def lw_privs : List (MethodName × Nat) := lw_privs_1 ++ (lw_privs_2 ++ (lw_privs_3 ++ (lw_privs_4 ++ (lw_privs_5))))
def lw_tbl : List Cond := k2_sels lw_privs ++ tables_1
theorem lw_privs_ok : ∀ q ∈ lw_privs, lw_okq q := by
  show ∀ q ∈ lw_privs_1 ++ (lw_privs_2 ++ (lw_privs_3 ++ (lw_privs_4 ++ (lw_privs_5)))), lw_okq q
  exact List.forall_mem_append.mpr ⟨lw_r1, List.forall_mem_append.mpr ⟨lw_r2, List.forall_mem_append.mpr ⟨lw_r3, List.forall_mem_append.mpr ⟨lw_r4, lw_r5⟩⟩⟩⟩
end
section
def RX0 : String := "PromiseTries$Builder"
def TX0 : u_T := fun k => match k with
  | 0 => ("PromiseTries$Builder", "begins", "[J", true)
  | 1 => ("PromiseTries$Builder", "ends", "[J", true)
  | 2 => ("PromiseTries$Builder", "lows", "[I", true)
  | 3 => ("PromiseTries$Builder", "fewest", "[I", true)
  | 4 => ("PromiseTries$Builder", "most", "[I", true)
  | 5 => ("PromiseTries$Builder", "depth", "I", false)
  | _ => ("PromiseTries$Builder", "made", "LPromiseTries$Sequence;", false)
def tyX0 : Nat → FieldType := fun k => match k with
  | 0 => .array .long
  | 1 => .array .long
  | 2 => .array .int
  | 3 => .array .int
  | 4 => .array .int
  | 5 => .int
  | _ => .object "PromiseTries$Sequence"
theorem nmX0 : ∀ a, a < 7 → ∀ b, b < 7 → a ≠ b → (TX0 a).2.1 ≠ (TX0 b).2.1 := by decide +kernel
theorem tyX0_ok : ∀ k, k < 7 → parseFieldDescriptor (TX0 k).2.2.1 = some (tyX0 k) := by decide +kernel
abbrev cX0_init : ByteArray := prog_2_method_1_code
def yX0_init : MethodName := ⟨RX0, "<init>", "()V"⟩
abbrev cX0_begin : ByteArray := prog_2_method_2_code
def yX0_begin : MethodName := ⟨RX0, "begin", "(LPromiseTries$Sequence;)V"⟩
abbrev cX0_condition : ByteArray := prog_2_method_3_code
def yX0_condition : MethodName := ⟨RX0, "condition", "(LPromiseTries$TruthStack;)V"⟩
abbrev cX0_chainTwo : ByteArray := prog_2_method_4_code
def yX0_chainTwo : MethodName := ⟨RX0, "chainTwo", "()V"⟩
abbrev cX0_chooseOfTwo : ByteArray := prog_2_method_5_code
def yX0_chooseOfTwo : MethodName := ⟨RX0, "chooseOfTwo", "()V"⟩
abbrev cX0_repeat : ByteArray := prog_2_method_6_code
def yX0_repeat : MethodName := ⟨RX0, "repeat", "(II)V"⟩
abbrev cX0_chainCopies : ByteArray := prog_2_method_7_code
def yX0_chainCopies : MethodName := ⟨RX0, "chainCopies", "(IIII)V"⟩
abbrev cX0_finish : ByteArray := prog_2_method_8_code
def yX0_finish : MethodName := ⟨RX0, "finish", "()V"⟩
def RX1 : String := "PromiseTries$Pledge"
def TX1 : u_T := fun k => match k with
  | 0 => ("PromiseTries$Pledge", "ifSide", "LPromiseTries$Sequence;", true)
  | 1 => ("PromiseTries$Pledge", "thenSide", "LPromiseTries$Sequence;", true)
  | 2 => ("PromiseTries$Pledge", "off", "[J", true)
  | 3 => ("PromiseTries$Pledge", "hasOff", "Z", false)
  | _ => ("PromiseTries$Pledge", "kind", "I", false)
def tyX1 : Nat → FieldType := fun k => match k with
  | 0 => .object "PromiseTries$Sequence"
  | 1 => .object "PromiseTries$Sequence"
  | 2 => .array .long
  | 3 => .boolean
  | _ => .int
theorem nmX1 : ∀ a, a < 5 → ∀ b, b < 5 → a ≠ b → (TX1 a).2.1 ≠ (TX1 b).2.1 := by decide +kernel
theorem tyX1_ok : ∀ k, k < 5 → parseFieldDescriptor (TX1 k).2.2.1 = some (tyX1 k) := by decide +kernel
abbrev cX1_init : ByteArray := prog_3_method_1_code
def yX1_init : MethodName := ⟨RX1, "<init>", "()V"⟩
abbrev cX1_sideOf : ByteArray := prog_3_method_2_code
def yX1_sideOf : MethodName := ⟨RX1, "sideOf", "(I)LPromiseTries$Sequence;"⟩
abbrev cX1_isPutOffBy : ByteArray := prog_3_method_3_code
def yX1_isPutOffBy : MethodName := ⟨RX1, "isPutOffBy", "(I)Z"⟩
def RX2 : String := "PromiseTries$Reader"
def TX2 : u_T := fun k => match k with
  | 0 => ("PromiseTries$Reader", "tape", "LPromiseTries$Tape;", true)
  | 1 => ("PromiseTries$Reader", "stack", "LPromiseTries$TruthStack;", true)
  | _ => ("PromiseTries$Reader", "builder", "LPromiseTries$Builder;", true)
def tyX2 : Nat → FieldType := fun k => match k with
  | 0 => .object "PromiseTries$Tape"
  | 1 => .object "PromiseTries$TruthStack"
  | _ => .object "PromiseTries$Builder"
theorem nmX2 : ∀ a, a < 3 → ∀ b, b < 3 → a ≠ b → (TX2 a).2.1 ≠ (TX2 b).2.1 := by decide +kernel
theorem tyX2_ok : ∀ k, k < 3 → parseFieldDescriptor (TX2 k).2.2.1 = some (tyX2 k) := by decide +kernel
abbrev cX2_init : ByteArray := prog_4_method_1_code
def yX2_init : MethodName := ⟨RX2, "<init>", "()V"⟩
abbrev cX2_readAll : ByteArray := prog_4_method_2_code
def yX2_readAll : MethodName := ⟨RX2, "readAll", "([LPromiseTries$Pledge;)I"⟩
abbrev cX2_readPromise : ByteArray := prog_4_method_3_code
def yX2_readPromise : MethodName := ⟨RX2, "readPromise", "(LPromiseTries$Pledge;)Z"⟩
abbrev cX2_readOff : ByteArray := prog_4_method_4_code
def yX2_readOff : MethodName := ⟨RX2, "readOff", "(LPromiseTries$Pledge;)Z"⟩
abbrev cX2_readChoice : ByteArray := prog_4_method_5_code
def yX2_readChoice : MethodName := ⟨RX2, "readChoice", "(I)Z"⟩
abbrev cX2_readChain : ByteArray := prog_4_method_6_code
def yX2_readChain : MethodName := ⟨RX2, "readChain", "(I)Z"⟩
abbrev cX2_readRepeated : ByteArray := prog_4_method_7_code
def yX2_readRepeated : MethodName := ⟨RX2, "readRepeated", "(I)Z"⟩
abbrev cX2_readNumber : ByteArray := prog_4_method_8_code
def yX2_readNumber : MethodName := ⟨RX2, "readNumber", "(I)Z"⟩
abbrev cX2_readPart : ByteArray := prog_4_method_9_code
def yX2_readPart : MethodName := ⟨RX2, "readPart", "(I)Z"⟩
abbrev cX2_readCondition : ByteArray := prog_4_method_10_code
def yX2_readCondition : MethodName := ⟨RX2, "readCondition", "(I)Z"⟩
abbrev cX2_readPlain : ByteArray := prog_4_method_11_code
def yX2_readPlain : MethodName := ⟨RX2, "readPlain", "(I)Z"⟩
abbrev cX2_readAnyOf : ByteArray := prog_4_method_12_code
def yX2_readAnyOf : MethodName := ⟨RX2, "readAnyOf", "(I)Z"⟩
abbrev cX2_readAllOf : ByteArray := prog_4_method_13_code
def yX2_readAllOf : MethodName := ⟨RX2, "readAllOf", "(I)Z"⟩
def RX3 : String := "PromiseTries$Sequence"
def TX3 : u_T := fun k => match k with
  | 0 => ("PromiseTries$Sequence", "follows", "[J", true)
  | 1 => ("PromiseTries$Sequence", "places", "[J", true)
  | 2 => ("PromiseTries$Sequence", "truths", "[J", true)
  | 3 => ("PromiseTries$Sequence", "ends", "J", false)
  | 4 => ("PromiseTries$Sequence", "useful", "J", false)
  | 5 => ("PromiseTries$Sequence", "onward", "J", false)
  | 6 => ("PromiseTries$Sequence", "conditions", "I", false)
  | 7 => ("PromiseTries$Sequence", "positions", "I", false)
  | 8 => ("PromiseTries$Sequence", "fewest", "I", false)
  | 9 => ("PromiseTries$Sequence", "most", "I", false)
  | _ => ("PromiseTries$Sequence", "tooLong", "Z", false)
def tyX3 : Nat → FieldType := fun k => match k with
  | 0 => .array .long
  | 1 => .array .long
  | 2 => .array .long
  | 3 => .long
  | 4 => .long
  | 5 => .long
  | 6 => .int
  | 7 => .int
  | 8 => .int
  | 9 => .int
  | _ => .boolean
theorem nmX3 : ∀ a, a < 11 → ∀ b, b < 11 → a ≠ b → (TX3 a).2.1 ≠ (TX3 b).2.1 := by decide +kernel
theorem tyX3_ok : ∀ k, k < 11 → parseFieldDescriptor (TX3 k).2.2.1 = some (tyX3 k) := by decide +kernel
abbrev cX3_init : ByteArray := prog_5_method_1_code
def yX3_init : MethodName := ⟨RX3, "<init>", "()V"⟩
abbrev cX3_clear : ByteArray := prog_5_method_2_code
def yX3_clear : MethodName := ⟨RX3, "clear", "()V"⟩
abbrev cX3_addCondition : ByteArray := prog_5_method_3_code
def yX3_addCondition : MethodName := ⟨RX3, "addCondition", "(LPromiseTries$TruthStack;)J"⟩
abbrev cX3_link : ByteArray := prog_5_method_4_code
def yX3_link : MethodName := ⟨RX3, "link", "(JJ)V"⟩
abbrev cX3_copyBlock : ByteArray := prog_5_method_5_code
def yX3_copyBlock : MethodName := ⟨RX3, "copyBlock", "(II)V"⟩
abbrev cX3_findUseful : ByteArray := prog_5_method_6_code
def yX3_findUseful : MethodName := ⟨RX3, "findUseful", "()V"⟩
abbrev cX3_openTo : ByteArray := prog_5_method_7_code
def yX3_openTo : MethodName := ⟨RX3, "openTo", "(I)J"⟩
abbrev cX3_after : ByteArray := prog_5_method_8_code
def yX3_after : MethodName := ⟨RX3, "after", "(JJ)J"⟩
abbrev cX3_walk : ByteArray := prog_5_method_9_code
def yX3_walk : MethodName := ⟨RX3, "walk", "(LPromiseTries$Trace;II)J"⟩
abbrev cX3_hasEnded : ByteArray := prog_5_method_10_code
def yX3_hasEnded : MethodName := ⟨RX3, "hasEnded", "(J)Z"⟩
abbrev cX3_goesOn : ByteArray := prog_5_method_11_code
def yX3_goesOn : MethodName := ⟨RX3, "goesOn", "(J)Z"⟩
def RX4 : String := "PromiseTries$Sheet"
def TX4 : u_T := fun k => match k with
  | 0 => ("PromiseTries$Sheet", "cells", "[I", true)
  | 1 => ("PromiseTries$Sheet", "lane", "I", false)
  | _ => ("PromiseTries$Sheet", "length", "I", false)
def tyX4 : Nat → FieldType := fun k => match k with
  | 0 => .array .int
  | 1 => .int
  | _ => .int
theorem nmX4 : ∀ a, a < 3 → ∀ b, b < 3 → a ≠ b → (TX4 a).2.1 ≠ (TX4 b).2.1 := by decide +kernel
theorem tyX4_ok : ∀ k, k < 3 → parseFieldDescriptor (TX4 k).2.2.1 = some (tyX4 k) := by decide +kernel
abbrev cX4_init : ByteArray := prog_6_method_1_code
def yX4_init : MethodName := ⟨RX4, "<init>", "()V"⟩
abbrev cX4_renew : ByteArray := prog_6_method_2_code
def yX4_renew : MethodName := ⟨RX4, "renew", "(II)V"⟩
abbrev cX4_tearAt : ByteArray := prog_6_method_3_code
def yX4_tearAt : MethodName := ⟨RX4, "tearAt", "(II)I"⟩
abbrev cX4_setCell : ByteArray := prog_6_method_4_code
def yX4_setCell : MethodName := ⟨RX4, "setCell", "(II)V"⟩
def RX5 : String := "PromiseTries$Tape"
def TX5 : u_T := fun k => match k with
  | 0 => ("PromiseTries$Tape", "bytes", "[B", true)
  | 1 => ("PromiseTries$Tape", "length", "I", false)
  | 2 => ("PromiseTries$Tape", "at", "I", false)
  | 3 => ("PromiseTries$Tape", "kind", "I", false)
  | 4 => ("PromiseTries$Tape", "value", "I", false)
  | 5 => ("PromiseTries$Tape", "place", "I", false)
  | 6 => ("PromiseTries$Tape", "firstFault", "I", false)
  | _ => ("PromiseTries$Tape", "faultPlace", "I", false)
def tyX5 : Nat → FieldType := fun k => match k with
  | 0 => .array .byte
  | 1 => .int
  | 2 => .int
  | 3 => .int
  | 4 => .int
  | 5 => .int
  | 6 => .int
  | _ => .int
theorem nmX5 : ∀ a, a < 8 → ∀ b, b < 8 → a ≠ b → (TX5 a).2.1 ≠ (TX5 b).2.1 := by decide +kernel
theorem tyX5_ok : ∀ k, k < 8 → parseFieldDescriptor (TX5 k).2.2.1 = some (tyX5 k) := by decide +kernel
abbrev cX5_init : ByteArray := prog_7_method_1_code
def yX5_init : MethodName := ⟨RX5, "<init>", "()V"⟩
abbrev cX5_begin : ByteArray := prog_7_method_2_code
def yX5_begin : MethodName := ⟨RX5, "begin", "()V"⟩
abbrev cX5_refuse : ByteArray := prog_7_method_3_code
def yX5_refuse : MethodName := ⟨RX5, "refuse", "(I)Z"⟩
abbrev cX5_advance : ByteArray := prog_7_method_4_code
def yX5_advance : MethodName := ⟨RX5, "advance", "()V"⟩
abbrev cX5_advanceNumber : ByteArray := prog_7_method_5_code
def yX5_advanceNumber : MethodName := ⟨RX5, "advanceNumber", "(I)V"⟩
abbrev cX5_isFigure : ByteArray := prog_7_method_6_code
def yX5_isFigure : MethodName := ⟨RX5, "isFigure", "(I)Z"⟩
abbrev cX5_isSign : ByteArray := prog_7_method_7_code
def yX5_isSign : MethodName := ⟨RX5, "isSign", "(I)Z"⟩
abbrev cX5_beginsSequence : ByteArray := prog_7_method_8_code
def yX5_beginsSequence : MethodName := ⟨RX5, "beginsSequence", "()Z"⟩
def RX6 : String := "PromiseTries$Trace"
def TX6 : u_T := fun k => match k with
  | 0 => ("PromiseTries$Trace", "ticks", "[I", true)
  | _ => ("PromiseTries$Trace", "length", "I", false)
def tyX6 : Nat → FieldType := fun k => match k with
  | 0 => .array .int
  | _ => .int
theorem nmX6 : ∀ a, a < 2 → ∀ b, b < 2 → a ≠ b → (TX6 a).2.1 ≠ (TX6 b).2.1 := by decide +kernel
theorem tyX6_ok : ∀ k, k < 2 → parseFieldDescriptor (TX6 k).2.2.1 = some (tyX6 k) := by decide +kernel
abbrev cX6_init : ByteArray := prog_8_method_1_code
def yX6_init : MethodName := ⟨RX6, "<init>", "()V"⟩
abbrev cX6_add : ByteArray := prog_8_method_2_code
def yX6_add : MethodName := ⟨RX6, "add", "(I)V"⟩
abbrev cX6_become : ByteArray := prog_8_method_3_code
def yX6_become : MethodName := ⟨RX6, "become", "(LPromiseTries$Trace;)V"⟩
def RX7 : String := "PromiseTries$TruthStack"
def TX7 : u_T := fun k => match k with
  | 0 => ("PromiseTries$TruthStack", "words", "[J", true)
  | _ => ("PromiseTries$TruthStack", "depth", "I", false)
def tyX7 : Nat → FieldType := fun k => match k with
  | 0 => .array .long
  | _ => .int
theorem nmX7 : ∀ a, a < 2 → ∀ b, b < 2 → a ≠ b → (TX7 a).2.1 ≠ (TX7 b).2.1 := by decide +kernel
theorem tyX7_ok : ∀ k, k < 2 → parseFieldDescriptor (TX7 k).2.2.1 = some (tyX7 k) := by decide +kernel
abbrev cX7_init : ByteArray := prog_9_method_1_code
def yX7_init : MethodName := ⟨RX7, "<init>", "()V"⟩
abbrev cX7_clear : ByteArray := prog_9_method_2_code
def yX7_clear : MethodName := ⟨RX7, "clear", "()V"⟩
abbrev cX7_pushWire : ByteArray := prog_9_method_3_code
def yX7_pushWire : MethodName := ⟨RX7, "pushWire", "(I)V"⟩
abbrev cX7_wordOfWire : ByteArray := prog_9_method_4_code
def yX7_wordOfWire : MethodName := ⟨RX7, "wordOfWire", "(II)J"⟩
abbrev cX7_negate : ByteArray := prog_9_method_5_code
def yX7_negate : MethodName := ⟨RX7, "negate", "()V"⟩
abbrev cX7_joinTwo : ByteArray := prog_9_method_6_code
def yX7_joinTwo : MethodName := ⟨RX7, "joinTwo", "(Z)V"⟩
abbrev cX7_drop : ByteArray := prog_9_method_7_code
def yX7_drop : MethodName := ⟨RX7, "drop", "()V"⟩
abbrev cX7_moveTop : ByteArray := prog_9_method_8_code
def yX7_moveTop : MethodName := ⟨RX7, "moveTop", "([JI)V"⟩
def RX8 : String := "PromiseTries$Watch"
def TX8 : u_T := fun k => match k with
  | 0 => ("PromiseTries$Watch", "ifStates", "[J", true)
  | 1 => ("PromiseTries$Watch", "thenStates", "[J", true)
  | 2 => ("PromiseTries$Watch", "dutyAt", "[I", true)
  | 3 => ("PromiseTries$Watch", "dutySets", "[J", true)
  | 4 => ("PromiseTries$Watch", "verdicts", "[I", true)
  | 5 => ("PromiseTries$Watch", "decidedAt", "[I", true)
  | 6 => ("PromiseTries$Watch", "met", "J", false)
  | 7 => ("PromiseTries$Watch", "broken", "J", false)
  | _ => ("PromiseTries$Watch", "taken", "I", false)
def tyX8 : Nat → FieldType := fun k => match k with
  | 0 => .array .long
  | 1 => .array .long
  | 2 => .array .int
  | 3 => .array .long
  | 4 => .array .int
  | 5 => .array .int
  | 6 => .long
  | 7 => .long
  | _ => .int
theorem nmX8 : ∀ a, a < 9 → ∀ b, b < 9 → a ≠ b → (TX8 a).2.1 ≠ (TX8 b).2.1 := by decide +kernel
theorem tyX8_ok : ∀ k, k < 9 → parseFieldDescriptor (TX8 k).2.2.1 = some (tyX8 k) := by decide +kernel
abbrev cX8_init : ByteArray := prog_10_method_1_code
def yX8_init : MethodName := ⟨RX8, "<init>", "()V"⟩
abbrev cX8_restart : ByteArray := prog_10_method_2_code
def yX8_restart : MethodName := ⟨RX8, "restart", "()V"⟩
abbrev cX8_catchUp : ByteArray := prog_10_method_3_code
def yX8_catchUp : MethodName := ⟨RX8, "catchUp", "(LPromiseTries$Pledge;LPromiseTries$Trace;)V"⟩
abbrev cX8_takeIn : ByteArray := prog_10_method_4_code
def yX8_takeIn : MethodName := ⟨RX8, "takeIn", "(LPromiseTries$Pledge;I)V"⟩
abbrev cX8_moveDuties : ByteArray := prog_10_method_5_code
def yX8_moveDuties : MethodName := ⟨RX8, "moveDuties", "(LPromiseTries$Sequence;J)V"⟩
abbrev cX8_moveTries : ByteArray := prog_10_method_6_code
def yX8_moveTries : MethodName := ⟨RX8, "moveTries", "(LPromiseTries$Sequence;J)Z"⟩
abbrev cX8_beginDuty : ByteArray := prog_10_method_7_code
def yX8_beginDuty : MethodName := ⟨RX8, "beginDuty", "(LPromiseTries$Pledge;J)V"⟩
abbrev cX8_settleDuty : ByteArray := prog_10_method_8_code
def yX8_settleDuty : MethodName := ⟨RX8, "settleDuty", "(LPromiseTries$Sequence;I)V"⟩
abbrev cX8_judgeTries : ByteArray := prog_10_method_9_code
def yX8_judgeTries : MethodName := ⟨RX8, "judgeTries", "(LPromiseTries$Pledge;Z)V"⟩
abbrev cX8_judge : ByteArray := prog_10_method_10_code
def yX8_judge : MethodName := ⟨RX8, "judge", "(LPromiseTries$Sequence;I)I"⟩
abbrev cX8_howMany : ByteArray := prog_10_method_11_code
def yX8_howMany : MethodName := ⟨RX8, "howMany", "(I)I"⟩
abbrev cX8_earliest : ByteArray := prog_10_method_12_code
def yX8_earliest : MethodName := ⟨RX8, "earliest", "(I)I"⟩
abbrev cX8_failedBy : ByteArray := prog_10_method_13_code
def yX8_failedBy : MethodName := ⟨RX8, "failedBy", "(I)I"⟩
abbrev cX8_allDuties : ByteArray := prog_10_method_14_code
def yX8_allDuties : MethodName := ⟨RX8, "allDuties", "()I"⟩
abbrev cX8_dutyTick : ByteArray := prog_10_method_15_code
def yX8_dutyTick : MethodName := ⟨RX8, "dutyTick", "(II)I"⟩
abbrev cX8_dutyState : ByteArray := prog_10_method_16_code
def yX8_dutyState : MethodName := ⟨RX8, "dutyState", "(I)I"⟩
def RX9 : String := "PromiseTries"
def TX9 : u_T := fun k => match k with
  | 0 => ("PromiseTries", "reader", "LPromiseTries$Reader;", true)
  | 1 => ("PromiseTries", "tape", "LPromiseTries$Tape;", true)
  | 2 => ("PromiseTries", "watches", "[LPromiseTries$Watch;", true)
  | 3 => ("PromiseTries", "trace", "LPromiseTries$Trace;", true)
  | 4 => ("PromiseTries", "images", "[LPromiseTries$Trace;", true)
  | 5 => ("PromiseTries", "kept", "[Z", true)
  | 6 => ("PromiseTries", "sheets", "[LPromiseTries$Sheet;", true)
  | 7 => ("PromiseTries", "told", "[LPromiseTries$Pledge;", false)
  | 8 => ("PromiseTries", "spare", "[LPromiseTries$Pledge;", false)
  | 9 => ("PromiseTries", "promises", "I", false)
  | 10 => ("PromiseTries", "latestFault", "I", false)
  | _ => ("PromiseTries", "latestTear", "I", false)
def tyX9 : Nat → FieldType := fun k => match k with
  | 0 => .object "PromiseTries$Reader"
  | 1 => .object "PromiseTries$Tape"
  | 2 => .array (.object "PromiseTries$Watch")
  | 3 => .object "PromiseTries$Trace"
  | 4 => .array (.object "PromiseTries$Trace")
  | 5 => .array .boolean
  | 6 => .array (.object "PromiseTries$Sheet")
  | 7 => .array (.object "PromiseTries$Pledge")
  | 8 => .array (.object "PromiseTries$Pledge")
  | 9 => .int
  | 10 => .int
  | _ => .int
theorem nmX9 : ∀ a, a < 12 → ∀ b, b < 12 → a ≠ b → (TX9 a).2.1 ≠ (TX9 b).2.1 := by decide +kernel
theorem tyX9_ok : ∀ k, k < 12 → parseFieldDescriptor (TX9 k).2.2.1 = some (tyX9 k) := by decide +kernel
abbrev cX9_init : ByteArray := prog_1_method_1_code
def yX9_init : MethodName := ⟨RX9, "<init>", "()V"⟩
abbrev cX9_feed : ByteArray := prog_1_method_2_code
def yX9_feed : MethodName := ⟨RX9, "feed", "(I)I"⟩
abbrev cX9_end : ByteArray := prog_1_method_3_code
def yX9_end : MethodName := ⟨RX9, "end", "(I)I"⟩
abbrev cX9_text : ByteArray := prog_1_method_4_code
def yX9_text : MethodName := ⟨RX9, "text", "()I"⟩
abbrev cX9_fault : ByteArray := prog_1_method_5_code
def yX9_fault : MethodName := ⟨RX9, "fault", "()I"⟩
abbrev cX9_rule : ByteArray := prog_1_method_6_code
def yX9_rule : MethodName := ⟨RX9, "rule", "(I)I"⟩
abbrev cX9_promise : ByteArray := prog_1_method_7_code
def yX9_promise : MethodName := ⟨RX9, "promise", "(II)I"⟩
abbrev cX9_fulfils : ByteArray := prog_1_method_8_code
def yX9_fulfils : MethodName := ⟨RX9, "fulfils", "(IIII)I"⟩
abbrev cX9_fulfilled : ByteArray := prog_1_method_9_code
def yX9_fulfilled : MethodName := ⟨RX9, "fulfilled", "(III)I"⟩
abbrev cX9_matches : ByteArray := prog_1_method_10_code
def yX9_matches : MethodName := ⟨RX9, "matches", "(IIII)I"⟩
abbrev cX9_might : ByteArray := prog_1_method_11_code
def yX9_might : MethodName := ⟨RX9, "might", "(III)I"⟩
abbrev cX9_tick : ByteArray := prog_1_method_12_code
def yX9_tick : MethodName := ⟨RX9, "tick", "(I)I"⟩
abbrev cX9_bits : ByteArray := prog_1_method_13_code
def yX9_bits : MethodName := ⟨RX9, "bits", "(I)I"⟩
abbrev cX9_put : ByteArray := prog_1_method_14_code
def yX9_put : MethodName := ⟨RX9, "put", "(II)I"⟩
abbrev cX9_keeps : ByteArray := prog_1_method_15_code
def yX9_keeps : MethodName := ⟨RX9, "keeps", "(I)I"⟩
abbrev cX9_draw : ByteArray := prog_1_method_16_code
def yX9_draw : MethodName := ⟨RX9, "draw", "(II)I"⟩
abbrev cX9_verdict : ByteArray := prog_1_method_17_code
def yX9_verdict : MethodName := ⟨RX9, "verdict", "(II)I"⟩
abbrev cX9_decided : ByteArray := prog_1_method_18_code
def yX9_decided : MethodName := ⟨RX9, "decided", "(II)I"⟩
abbrev cX9_duties : ByteArray := prog_1_method_19_code
def yX9_duties : MethodName := ⟨RX9, "duties", "(II)I"⟩
abbrev cX9_duty : ByteArray := prog_1_method_20_code
def yX9_duty : MethodName := ⟨RX9, "duty", "(IIII)I"⟩
abbrev cX9_tries : ByteArray := prog_1_method_21_code
def yX9_tries : MethodName := ⟨RX9, "tries", "(II)I"⟩
abbrev cX9_first : ByteArray := prog_1_method_22_code
def yX9_first : MethodName := ⟨RX9, "first", "(II)I"⟩
abbrev cX9_keep : ByteArray := prog_1_method_23_code
def yX9_keep : MethodName := ⟨RX9, "keep", "(I)I"⟩
abbrev cX9_back : ByteArray := prog_1_method_24_code
def yX9_back : MethodName := ⟨RX9, "back", "(I)I"⟩
abbrev cX9_sheet : ByteArray := prog_1_method_25_code
def yX9_sheet : MethodName := ⟨RX9, "sheet", "(III)I"⟩
abbrev cX9_lay : ByteArray := prog_1_method_26_code
def yX9_lay : MethodName := ⟨RX9, "lay", "(III)I"⟩
abbrev cX9_run : ByteArray := prog_1_method_27_code
def yX9_run : MethodName := ⟨RX9, "run", "(IIII)I"⟩
abbrev cX9_torn : ByteArray := prog_1_method_28_code
def yX9_torn : MethodName := ⟨RX9, "torn", "()I"⟩
abbrev cX9_count : ByteArray := prog_1_method_29_code
def yX9_count : MethodName := ⟨RX9, "count", "(I)I"⟩
abbrev cX9_isPromise : ByteArray := prog_1_method_30_code
def yX9_isPromise : MethodName := ⟨RX9, "isPromise", "(I)Z"⟩
abbrev cX9_isTick : ByteArray := prog_1_method_31_code
def yX9_isTick : MethodName := ⟨RX9, "isTick", "(I)Z"⟩
abbrev cX9_isTry : ByteArray := prog_1_method_32_code
def yX9_isTry : MethodName := ⟨RX9, "isTry", "(II)Z"⟩
abbrev cX9_isCondition : ByteArray := prog_1_method_33_code
def yX9_isCondition : MethodName := ⟨RX9, "isCondition", "(III)Z"⟩
abbrev cX9_isBits : ByteArray := prog_1_method_34_code
def yX9_isBits : MethodName := ⟨RX9, "isBits", "(I)Z"⟩
abbrev cX9_isSide : ByteArray := prog_1_method_35_code
def yX9_isSide : MethodName := ⟨RX9, "isSide", "(I)Z"⟩
abbrev cX9_isVerdict : ByteArray := prog_1_method_36_code
def yX9_isVerdict : MethodName := ⟨RX9, "isVerdict", "(I)Z"⟩
abbrev cX9_isImage : ByteArray := prog_1_method_37_code
def yX9_isImage : MethodName := ⟨RX9, "isImage", "(I)Z"⟩
abbrev cX9_isSheet : ByteArray := prog_1_method_38_code
def yX9_isSheet : MethodName := ⟨RX9, "isSheet", "(I)Z"⟩
abbrev cX9_isLane : ByteArray := prog_1_method_39_code
def yX9_isLane : MethodName := ⟨RX9, "isLane", "(I)Z"⟩
abbrev cX9_nextSeed : ByteArray := prog_1_method_40_code
def yX9_nextSeed : MethodName := ⟨RX9, "nextSeed", "(I)I"⟩
abbrev cX9_got : ByteArray := prog_1_method_41_code
def yX9_got : MethodName := ⟨RX9, "got", "(I)I"⟩
abbrev cX9_howManyImages : ByteArray := prog_1_method_42_code
def yX9_howManyImages : MethodName := ⟨RX9, "howManyImages", "()I"⟩
abbrev cX9_watchOf : ByteArray := prog_1_method_43_code
def yX9_watchOf : MethodName := ⟨RX9, "watchOf", "(I)LPromiseTries$Watch;"⟩
abbrev cX9_watchAnew : ByteArray := prog_1_method_44_code
def yX9_watchAnew : MethodName := ⟨RX9, "watchAnew", "()V"⟩
abbrev cX9_isFulfilled : ByteArray := prog_1_method_45_code
def yX9_isFulfilled : MethodName := ⟨RX9, "isFulfilled", "([JII)Z"⟩
abbrev cX9_howManyFulfil : ByteArray := prog_1_method_46_code
def yX9_howManyFulfil : MethodName := ⟨RX9, "howManyFulfil", "([JI)I"⟩
def RX10 : String := "PromiseTriesModel"
def TX10 : u_T := fun k => match k with
  | 0 => ("PromiseTriesModel", "sides", "[I", true)
  | 1 => ("PromiseTriesModel", "draftSides", "[I", true)
  | 2 => ("PromiseTriesModel", "bits", "[J", true)
  | 3 => ("PromiseTriesModel", "draftBits", "[J", true)
  | 4 => ("PromiseTriesModel", "heads", "[I", true)
  | 5 => ("PromiseTriesModel", "draftHeads", "[I", true)
  | 6 => ("PromiseTriesModel", "offs", "[J", true)
  | 7 => ("PromiseTriesModel", "draftOffs", "[J", true)
  | 8 => ("PromiseTriesModel", "promises", "I", false)
  | 9 => ("PromiseTriesModel", "trace", "[I", true)
  | 10 => ("PromiseTriesModel", "kept", "[I", true)
  | 11 => ("PromiseTriesModel", "isKept", "[Z", true)
  | 12 => ("PromiseTriesModel", "tape", "[I", true)
  | 13 => ("PromiseTriesModel", "taped", "I", false)
  | 14 => ("PromiseTriesModel", "pos", "I", false)
  | 15 => ("PromiseTriesModel", "begun", "I", false)
  | 16 => ("PromiseTriesModel", "sort", "I", false)
  | 17 => ("PromiseTriesModel", "figure", "I", false)
  | 18 => ("PromiseTriesModel", "fault", "I", false)
  | 19 => ("PromiseTriesModel", "wrongAt", "I", false)
  | 20 => ("PromiseTriesModel", "open", "I", false)
  | 21 => ("PromiseTriesModel", "ors", "[J", true)
  | 22 => ("PromiseTriesModel", "ands", "[J", true)
  | 23 => ("PromiseTriesModel", "hasOr", "[Z", true)
  | 24 => ("PromiseTriesModel", "hasAnd", "[Z", true)
  | 25 => ("PromiseTriesModel", "isNot", "[Z", true)
  | 26 => ("PromiseTriesModel", "now", "[J", true)
  | 27 => ("PromiseTriesModel", "deep", "I", false)
  | 28 => ("PromiseTriesModel", "patterns", "[J", true)
  | 29 => ("PromiseTriesModel", "begins", "[I", true)
  | 30 => ("PromiseTriesModel", "firsts", "[J", true)
  | 31 => ("PromiseTriesModel", "lasts", "[J", true)
  | 32 => ("PromiseTriesModel", "areNone", "[Z", true)
  | 33 => ("PromiseTriesModel", "longs", "[I", true)
  | 34 => ("PromiseTriesModel", "fews", "[I", true)
  | 35 => ("PromiseTriesModel", "mosts", "[I", true)
  | 36 => ("PromiseTriesModel", "isThere", "[Z", true)
  | 37 => ("PromiseTriesModel", "depth", "I", false)
  | 38 => ("PromiseTriesModel", "side", "I", false)
  | 39 => ("PromiseTriesModel", "isOver", "Z", false)
  | 40 => ("PromiseTriesModel", "fulfilling", "[J", true)
  | 41 => ("PromiseTriesModel", "thenNext", "[J", true)
  | 42 => ("PromiseTriesModel", "dutyIs", "[I", true)
  | 43 => ("PromiseTriesModel", "dutyBy", "[I", true)
  | 44 => ("PromiseTriesModel", "isDuty", "[Z", true)
  | 45 => ("PromiseTriesModel", "verdict", "I", false)
  | 46 => ("PromiseTriesModel", "decidedBy", "I", false)
  | 47 => ("PromiseTriesModel", "seeded", "I", false)
  | 48 => ("PromiseTriesModel", "lanes", "[I", true)
  | 49 => ("PromiseTriesModel", "sizes", "[I", true)
  | 50 => ("PromiseTriesModel", "cells", "[I", true)
  | _ => ("PromiseTriesModel", "torn", "I", false)
def tyX10 : Nat → FieldType := fun k => match k with
  | 0 => .array .int
  | 1 => .array .int
  | 2 => .array .long
  | 3 => .array .long
  | 4 => .array .int
  | 5 => .array .int
  | 6 => .array .long
  | 7 => .array .long
  | 8 => .int
  | 9 => .array .int
  | 10 => .array .int
  | 11 => .array .boolean
  | 12 => .array .int
  | 13 => .int
  | 14 => .int
  | 15 => .int
  | 16 => .int
  | 17 => .int
  | 18 => .int
  | 19 => .int
  | 20 => .int
  | 21 => .array .long
  | 22 => .array .long
  | 23 => .array .boolean
  | 24 => .array .boolean
  | 25 => .array .boolean
  | 26 => .array .long
  | 27 => .int
  | 28 => .array .long
  | 29 => .array .int
  | 30 => .array .long
  | 31 => .array .long
  | 32 => .array .boolean
  | 33 => .array .int
  | 34 => .array .int
  | 35 => .array .int
  | 36 => .array .boolean
  | 37 => .int
  | 38 => .int
  | 39 => .boolean
  | 40 => .array .long
  | 41 => .array .long
  | 42 => .array .int
  | 43 => .array .int
  | 44 => .array .boolean
  | 45 => .int
  | 46 => .int
  | 47 => .int
  | 48 => .array .int
  | 49 => .array .int
  | 50 => .array .int
  | _ => .int
theorem nmX10 : ∀ a, a < 52 → ∀ b, b < 52 → a ≠ b → (TX10 a).2.1 ≠ (TX10 b).2.1 := by decide +kernel
theorem tyX10_ok : ∀ k, k < 52 → parseFieldDescriptor (TX10 k).2.2.1 = some (tyX10 k) := by decide +kernel
abbrev cX10_init : ByteArray := prog_12_method_1_code
def yX10_init : MethodName := ⟨RX10, "<init>", "()V"⟩
abbrev cX10_in : ByteArray := prog_12_method_3_code
def yX10_in : MethodName := ⟨RX10, "in", "(JJJ)Z"⟩
abbrev cX10_flag : ByteArray := prog_12_method_4_code
def yX10_flag : MethodName := ⟨RX10, "flag", "(Z)I"⟩
abbrev cX10_least : ByteArray := prog_12_method_5_code
def yX10_least : MethodName := ⟨RX10, "least", "(II)I"⟩
abbrev cX10_greatest : ByteArray := prog_12_method_6_code
def yX10_greatest : MethodName := ⟨RX10, "greatest", "(II)I"⟩
abbrev cX10_feed : ByteArray := prog_12_method_7_code
def yX10_feed : MethodName := ⟨RX10, "feed", "(I)I"⟩
abbrev cX10_end : ByteArray := prog_12_method_8_code
def yX10_end : MethodName := ⟨RX10, "end", "(I)I"⟩
abbrev cX10_requires : ByteArray := prog_12_method_9_code
def yX10_requires : MethodName := ⟨RX10, "requires", "(ZI)V"⟩
abbrev cX10_byteAt : ByteArray := prog_12_method_10_code
def yX10_byteAt : MethodName := ⟨RX10, "byteAt", "(I)I"⟩
abbrev cX10_isSignByte : ByteArray := prog_12_method_11_code
def yX10_isSignByte : MethodName := ⟨RX10, "isSignByte", "(I)Z"⟩
abbrev cX10_reads : ByteArray := prog_12_method_12_code
def yX10_reads : MethodName := ⟨RX10, "reads", "()V"⟩
abbrev cX10_isSign : ByteArray := prog_12_method_13_code
def yX10_isSign : MethodName := ⟨RX10, "isSign", "(I)Z"⟩
abbrev cX10_readNumber : ByteArray := prog_12_method_14_code
def yX10_readNumber : MethodName := ⟨RX10, "readNumber", "(II)I"⟩
abbrev cX10_nests : ByteArray := prog_12_method_15_code
def yX10_nests : MethodName := ⟨RX10, "nests", "()V"⟩
abbrev cX10_wires : ByteArray := prog_12_method_16_code
def yX10_wires : MethodName := ⟨RX10, "wires", "(I)V"⟩
abbrev cX10_opensDepth : ByteArray := prog_12_method_17_code
def yX10_opensDepth : MethodName := ⟨RX10, "opensDepth", "()V"⟩
abbrev cX10_joinsAnds : ByteArray := prog_12_method_18_code
def yX10_joinsAnds : MethodName := ⟨RX10, "joinsAnds", "()V"⟩
abbrev cX10_joinsOrs : ByteArray := prog_12_method_19_code
def yX10_joinsOrs : MethodName := ⟨RX10, "joinsOrs", "()V"⟩
abbrev cX10_readOperand : ByteArray := prog_12_method_20_code
def yX10_readOperand : MethodName := ⟨RX10, "readOperand", "()V"⟩
abbrev cX10_readCondition : ByteArray := prog_12_method_21_code
def yX10_readCondition : MethodName := ⟨RX10, "readCondition", "(Z)V"⟩
abbrev cX10_placesNow : ByteArray := prog_12_method_22_code
def yX10_placesNow : MethodName := ⟨RX10, "placesNow", "()I"⟩
abbrev cX10_takes : ByteArray := prog_12_method_23_code
def yX10_takes : MethodName := ⟨RX10, "takes", "(II)V"⟩
abbrev cX10_sum : ByteArray := prog_12_method_24_code
def yX10_sum : MethodName := ⟨RX10, "sum", "(II)I"⟩
abbrev cX10_follows : ByteArray := prog_12_method_25_code
def yX10_follows : MethodName := ⟨RX10, "follows", "(JJ)V"⟩
abbrev cX10_chains : ByteArray := prog_12_method_26_code
def yX10_chains : MethodName := ⟨RX10, "chains", "(II)V"⟩
abbrev cX10_chooses : ByteArray := prog_12_method_27_code
def yX10_chooses : MethodName := ⟨RX10, "chooses", "(II)V"⟩
abbrev cX10_onePlace : ByteArray := prog_12_method_28_code
def yX10_onePlace : MethodName := ⟨RX10, "onePlace", "()V"⟩
abbrev cX10_repeats : ByteArray := prog_12_method_29_code
def yX10_repeats : MethodName := ⟨RX10, "repeats", "(II)V"⟩
abbrev cX10_opensSequence : ByteArray := prog_12_method_30_code
def yX10_opensSequence : MethodName := ⟨RX10, "opensSequence", "()V"⟩
abbrev cX10_readBegin : ByteArray := prog_12_method_31_code
def yX10_readBegin : MethodName := ⟨RX10, "readBegin", "()V"⟩
abbrev cX10_readTimes : ByteArray := prog_12_method_32_code
def yX10_readTimes : MethodName := ⟨RX10, "readTimes", "()V"⟩
abbrev cX10_readEnds : ByteArray := prog_12_method_33_code
def yX10_readEnds : MethodName := ⟨RX10, "readEnds", "()V"⟩
abbrev cX10_readSequence : ByteArray := prog_12_method_34_code
def yX10_readSequence : MethodName := ⟨RX10, "readSequence", "(I)V"⟩
abbrev cX10_isFulfillable : ByteArray := prog_12_method_35_code
def yX10_isFulfillable : MethodName := ⟨RX10, "isFulfillable", "(II)Z"⟩
abbrev cX10_ends : ByteArray := prog_12_method_36_code
def yX10_ends : MethodName := ⟨RX10, "ends", "(I)V"⟩
abbrev cX10_isBegin : ByteArray := prog_12_method_37_code
def yX10_isBegin : MethodName := ⟨RX10, "isBegin", "()Z"⟩
abbrev cX10_readPromise : ByteArray := prog_12_method_38_code
def yX10_readPromise : MethodName := ⟨RX10, "readPromise", "(I)V"⟩
abbrev cX10_text : ByteArray := prog_12_method_39_code
def yX10_text : MethodName := ⟨RX10, "text", "()I"⟩
abbrev cX10_fault : ByteArray := prog_12_method_40_code
def yX10_fault : MethodName := ⟨RX10, "fault", "()I"⟩
abbrev cX10_isPromise : ByteArray := prog_12_method_41_code
def yX10_isPromise : MethodName := ⟨RX10, "isPromise", "(I)Z"⟩
abbrev cX10_isSide : ByteArray := prog_12_method_42_code
def yX10_isSide : MethodName := ⟨RX10, "isSide", "(I)Z"⟩
abbrev cX10_areBits : ByteArray := prog_12_method_43_code
def yX10_areBits : MethodName := ⟨RX10, "areBits", "(I)Z"⟩
abbrev cX10_fulfilsOne : ByteArray := prog_12_method_44_code
def yX10_fulfilsOne : MethodName := ⟨RX10, "fulfilsOne", "(III)Z"⟩
abbrev cX10_fulfilsOff : ByteArray := prog_12_method_45_code
def yX10_fulfilsOff : MethodName := ⟨RX10, "fulfilsOff", "(II)Z"⟩
abbrev cX10_findsFulfilling : ByteArray := prog_12_method_46_code
def yX10_findsFulfilling : MethodName := ⟨RX10, "findsFulfilling", "(I)V"⟩
abbrev cX10_nextOf : ByteArray := prog_12_method_47_code
def yX10_nextOf : MethodName := ⟨RX10, "nextOf", "(IJ)J"⟩
abbrev cX10_firstOf : ByteArray := prog_12_method_48_code
def yX10_firstOf : MethodName := ⟨RX10, "firstOf", "(I)J"⟩
abbrev cX10_isEnd : ByteArray := prog_12_method_49_code
def yX10_isEnd : MethodName := ⟨RX10, "isEnd", "(IJ)Z"⟩
abbrev cX10_canEnd : ByteArray := prog_12_method_50_code
def yX10_canEnd : MethodName := ⟨RX10, "canEnd", "(IJ)Z"⟩
abbrev cX10_isConditionAsked : ByteArray := prog_12_method_51_code
def yX10_isConditionAsked : MethodName := ⟨RX10, "isConditionAsked", "(III)Z"⟩
abbrev cX10_fulfils : ByteArray := prog_12_method_52_code
def yX10_fulfils : MethodName := ⟨RX10, "fulfils", "(IIII)I"⟩
abbrev cX10_fulfilled : ByteArray := prog_12_method_53_code
def yX10_fulfilled : MethodName := ⟨RX10, "fulfilled", "(III)I"⟩
abbrev cX10_matches : ByteArray := prog_12_method_54_code
def yX10_matches : MethodName := ⟨RX10, "matches", "(IIII)I"⟩
abbrev cX10_might : ByteArray := prog_12_method_55_code
def yX10_might : MethodName := ⟨RX10, "might", "(III)I"⟩
abbrev cX10_promise : ByteArray := prog_12_method_56_code
def yX10_promise : MethodName := ⟨RX10, "promise", "(II)I"⟩
abbrev cX10_goesOn : ByteArray := prog_12_method_57_code
def yX10_goesOn : MethodName := ⟨RX10, "goesOn", "(III)V"⟩
abbrev cX10_dies : ByteArray := prog_12_method_58_code
def yX10_dies : MethodName := ⟨RX10, "dies", "(III)V"⟩
abbrev cX10_begins : ByteArray := prog_12_method_59_code
def yX10_begins : MethodName := ⟨RX10, "begins", "(II)V"⟩
abbrev cX10_isAny : ByteArray := prog_12_method_60_code
def yX10_isAny : MethodName := ⟨RX10, "isAny", "(III)Z"⟩
abbrev cX10_goesThrough : ByteArray := prog_12_method_61_code
def yX10_goesThrough : MethodName := ⟨RX10, "goesThrough", "(II)V"⟩
abbrev cX10_verdictBy : ByteArray := prog_12_method_62_code
def yX10_verdictBy : MethodName := ⟨RX10, "verdictBy", "(IIIJ)I"⟩
abbrev cX10_isTick : ByteArray := prog_12_method_63_code
def yX10_isTick : MethodName := ⟨RX10, "isTick", "(I)Z"⟩
abbrev cX10_isTry : ByteArray := prog_12_method_64_code
def yX10_isTry : MethodName := ⟨RX10, "isTry", "(II)Z"⟩
abbrev cX10_dutiesFrom : ByteArray := prog_12_method_65_code
def yX10_dutiesFrom : MethodName := ⟨RX10, "dutiesFrom", "(I)I"⟩
abbrev cX10_verdict : ByteArray := prog_12_method_66_code
def yX10_verdict : MethodName := ⟨RX10, "verdict", "(II)I"⟩
abbrev cX10_decided : ByteArray := prog_12_method_67_code
def yX10_decided : MethodName := ⟨RX10, "decided", "(II)I"⟩
abbrev cX10_duties : ByteArray := prog_12_method_68_code
def yX10_duties : MethodName := ⟨RX10, "duties", "(II)I"⟩
abbrev cX10_duty : ByteArray := prog_12_method_69_code
def yX10_duty : MethodName := ⟨RX10, "duty", "(IIII)I"⟩
abbrev cX10_triesOf : ByteArray := prog_12_method_70_code
def yX10_triesOf : MethodName := ⟨RX10, "triesOf", "(II)I"⟩
abbrev cX10_tries : ByteArray := prog_12_method_71_code
def yX10_tries : MethodName := ⟨RX10, "tries", "(II)I"⟩
abbrev cX10_first : ByteArray := prog_12_method_72_code
def yX10_first : MethodName := ⟨RX10, "first", "(II)I"⟩
abbrev cX10_allDuties : ByteArray := prog_12_method_73_code
def yX10_allDuties : MethodName := ⟨RX10, "allDuties", "()I"⟩
abbrev cX10_allTries : ByteArray := prog_12_method_74_code
def yX10_allTries : MethodName := ⟨RX10, "allTries", "(I)I"⟩
abbrev cX10_rule : ByteArray := prog_12_method_75_code
def yX10_rule : MethodName := ⟨RX10, "rule", "(I)I"⟩
abbrev cX10_failedBy : ByteArray := prog_12_method_76_code
def yX10_failedBy : MethodName := ⟨RX10, "failedBy", "(I)I"⟩
abbrev cX10_tick : ByteArray := prog_12_method_77_code
def yX10_tick : MethodName := ⟨RX10, "tick", "(I)I"⟩
abbrev cX10_bits : ByteArray := prog_12_method_78_code
def yX10_bits : MethodName := ⟨RX10, "bits", "(I)I"⟩
abbrev cX10_put : ByteArray := prog_12_method_79_code
def yX10_put : MethodName := ⟨RX10, "put", "(II)I"⟩
abbrev cX10_keeps : ByteArray := prog_12_method_80_code
def yX10_keeps : MethodName := ⟨RX10, "keeps", "(I)I"⟩
abbrev cX10_gets : ByteArray := prog_12_method_81_code
def yX10_gets : MethodName := ⟨RX10, "gets", "()I"⟩
abbrev cX10_draw : ByteArray := prog_12_method_82_code
def yX10_draw : MethodName := ⟨RX10, "draw", "(II)I"⟩
abbrev cX10_keep : ByteArray := prog_12_method_83_code
def yX10_keep : MethodName := ⟨RX10, "keep", "(I)I"⟩
abbrev cX10_back : ByteArray := prog_12_method_84_code
def yX10_back : MethodName := ⟨RX10, "back", "(I)I"⟩
abbrev cX10_isSheet : ByteArray := prog_12_method_85_code
def yX10_isSheet : MethodName := ⟨RX10, "isSheet", "(II)Z"⟩
abbrev cX10_sheet : ByteArray := prog_12_method_86_code
def yX10_sheet : MethodName := ⟨RX10, "sheet", "(III)I"⟩
abbrev cX10_lay : ByteArray := prog_12_method_87_code
def yX10_lay : MethodName := ⟨RX10, "lay", "(III)I"⟩
abbrev cX10_run : ByteArray := prog_12_method_88_code
def yX10_run : MethodName := ⟨RX10, "run", "(IIII)I"⟩
abbrev cX10_torn : ByteArray := prog_12_method_89_code
def yX10_torn : MethodName := ⟨RX10, "torn", "()I"⟩
abbrev cX10_count : ByteArray := prog_12_method_90_code
def yX10_count : MethodName := ⟨RX10, "count", "(I)I"⟩
def RJ13 : String := "java/lang/Long"
abbrev cJ13_bitCount_95d88 : ByteArray := prog_13_method_50_code
def yJ13_bitCount_95d88 : MethodName := ⟨RJ13, "bitCount", "(J)I"⟩
def RJ9 : String := "java/lang/Math"
abbrev cJ9_max_7cf53 : ByteArray := prog_14_method_65_code
def yJ9_max_7cf53 : MethodName := ⟨RJ9, "max", "(II)I"⟩
abbrev cJ9_min_7cf53 : ByteArray := prog_14_method_69_code
def yJ9_min_7cf53 : MethodName := ⟨RJ9, "min", "(II)I"⟩
def RJ10 : String := "java/lang/System"
def RL : String := "PromiseTriesLaw"
abbrev cL_law : ByteArray := code
def yL_law : MethodName := ⟨RL, "law", "([I)Z"⟩
abbrev vwCl : List vw_C := [(RX0, TX0, 7), (RX1, TX1, 5), (RX2, TX2, 3), (RX3, TX3, 11), (RX4, TX4, 3), (RX5, TX5, 8), (RX6, TX6, 2), (RX7, TX7, 2), (RX8, TX8, 9), (RX9, TX9, 12), (RX10, TX10, 52)]
end
section
/-! The abstract machine: memory of numbered cells with typed contents, one step of the bytecode in continuation form. -/
/-- how many cells; of each its tag and its length; ints, longs, references by cell and place -/
abbrev zM : Type := Nat × (Nat → Nat × Nat) × (Nat → Nat → Int32) × (Nat → Nat → Int64) × (Nat → Nat → Option Nat)
def zN (M : zM) : Nat := M.1
def zK (M : zM) : Nat → Nat × Nat := M.2.1
def zI (M : zM) : Nat → Nat → Int32 := M.2.2.1
def zL (M : zM) : Nat → Nat → Int64 := M.2.2.2.1
def zR (M : zM) : Nat → Nat → Option Nat := M.2.2.2.2
def zu {α : Type} (f : Nat → Nat → α) (a i : Nat) (v : α) : Nat → Nat → α := fun b j => if b = a ∧ j = i then v else f b j
def zrow {α : Type} (f : Nat → Nat → α) (a : Nat) (g : Nat → α) : Nat → Nat → α := fun b j => if b = a then g j else f b j
def zsI (M : zM) (a i : Nat) (x : Int32) : zM := (M.1, M.2.1, zu M.2.2.1 a i x, M.2.2.2.1, M.2.2.2.2)
def zsL (M : zM) (a i : Nat) (x : Int64) : zM := (M.1, M.2.1, M.2.2.1, zu M.2.2.2.1 a i x, M.2.2.2.2)
def zsR (M : zM) (a i : Nat) (x : Option Nat) : zM := (M.1, M.2.1, M.2.2.1, M.2.2.2.1, zu M.2.2.2.2 a i x)
/-- a new cell of this tag and length, all default -/
def znew (M : zM) (tag n : Nat) : zM := (M.1 + 1, fun b => if b = M.1 then (tag, n) else M.2.1 b, zrow M.2.2.1 M.1 (fun _ => 0), zrow M.2.2.2.1 M.1 (fun _ => 0), zrow M.2.2.2.2 M.1 (fun _ => none))
/-- System.arraycopy between two rows of ints -/
def zcopy (M : zM) (src sp dst dp n : Nat) : zM := (M.1, M.2.1, zrow M.2.2.1 dst (va_cpy (M.2.2.1 src) (M.2.2.1 dst) sp dp n), M.2.2.2.1, M.2.2.2.2)
abbrev zO : Type := Option (Option Value × zM)
abbrev zLs : Type := List (Option Value)
abbrev zKt : Type := Nat → zLs → List Value → zM → zO
/-- pc, instruction, length, resolved operands -/
abbrev zC : Type := Nat × Instr × Nat × List Nat
def zok (b : Bool) (x : zO) : zO := match b with
  | true => x
  | false => none
def zif (c : Prop) [Decidable c] (x : zO) : zO := if c then x else none
def zin (j : Int32) (n : Nat) : Bool := decide (¬ j < 0) && decide (j.toNatClampNeg < n)
/-- a number out of its operands: [n], or [n, 1] for -n -/
def zci (r : List Nat) : Int32 := match r with
  | [n] => Int32.ofNat n
  | [n, _] => - Int32.ofNat n
  | _ => 0
def zcl (r : List Nat) : Int64 := match r with
  | [n] => Int64.ofNat n
  | [n, _] => - Int64.ofNat n
  | _ => 0
def z1i (st : List Value) (f : Int32 → List Value → zO) : zO := match st with
  | .int x :: s => f x s
  | _ => none
def z2i (st : List Value) (f : Int32 → Int32 → List Value → zO) : zO := match st with
  | .int y :: .int x :: s => f x y s
  | _ => none
def z1l (st : List Value) (f : Int64 → List Value → zO) : zO := match st with
  | .long x :: s => f x s
  | _ => none
def z2l (st : List Value) (f : Int64 → Int64 → List Value → zO) : zO := match st with
  | .long y :: .long x :: s => f x y s
  | _ => none
def zli (st : List Value) (f : Int64 → Int32 → List Value → zO) : zO := match st with
  | .int y :: .long x :: s => f x y s
  | _ => none
def z1r (st : List Value) (f : Nat → List Value → zO) : zO := match st with
  | .ref a :: s => f a s
  | _ => none
def zri (st : List Value) (f : Nat → Int32 → List Value → zO) : zO := match st with
  | .int j :: .ref a :: s => f a j s
  | _ => none
def zrl (st : List Value) (f : Nat → Int64 → List Value → zO) : zO := match st with
  | .long j :: .ref a :: s => f a j s
  | _ => none
def zrr (st : List Value) (f : Nat → Nat → List Value → zO) : zO := match st with
  | .ref q :: .ref a :: s => f a q s
  | _ => none
def zrii (st : List Value) (f : Nat → Int32 → Int32 → List Value → zO) : zO := match st with
  | .int x :: .int j :: .ref a :: s => f a j x s
  | _ => none
def zril (st : List Value) (f : Nat → Int32 → Int64 → List Value → zO) : zO := match st with
  | .long x :: .int j :: .ref a :: s => f a j x s
  | _ => none
def zrir (st : List Value) (f : Nat → Int32 → Nat → List Value → zO) : zO := match st with
  | .ref q :: .int j :: .ref a :: s => f a j q s
  | _ => none
/-- a place of the locals -/
def zld (l : zLs) (i : Nat) (f : Value → zO) : zO := match l[i]? with
  | some (some v) => f v
  | _ => none
def zvi (v : Value) (f : Int32 → zO) : zO := match v with
  | .int x => f x
  | _ => none
def zvl (v : Value) (f : Int64 → zO) : zO := match v with
  | .long x => f x
  | _ => none
def zvr (v : Value) (f : Nat → zO) : zO := match v with
  | .ref x => f x
  | _ => none
/-- a long ahead of a place that is stored to is forgotten -/
def zcut (l : zLs) (i : Nat) : zLs := match i with
  | 0 => l
  | j + 1 => match l[j]? with
    | some (some (.long _)) => l.set j none
    | _ => l
def zst1 (l : zLs) (i : Nat) (v : Value) : zLs := (zcut l i).set i (some v)
def zst2 (l : zLs) (i : Nat) (v : Value) : zLs := ((zcut l i).set i (some v)).set (i + 1) none
def zbI (o : zO) (f : Int32 → zM → zO) : zO := match o with
  | some (some (.int r), M) => f r M
  | _ => none
def zbL (o : zO) (f : Int64 → zM → zO) : zO := match o with
  | some (some (.long r), M) => f r M
  | _ => none
def zbR (o : zO) (f : Nat → zM → zO) : zO := match o with
  | some (some (.ref r), M) => f r M
  | _ => none
def zbV (o : zO) (f : zM → zO) : zO := match o with
  | some (none, M) => f M
  | _ => none
def zoR (o : Option Nat) (f : Nat → zO) : zO := match o with
  | some q => f q
  | none => none
/-- a switch over numbers one behind another -/
def zsw (x : Int32) (lo : Nat) (ts : List Nat) (d : Nat) (K : Nat → zO) : zO := match ts with
  | [] => K d
  | t :: ts => if x = Int32.ofNat lo then K t else zsw x (lo + 1) ts d K
/-- a switch over listed numbers -/
def zlk (x : Int32) (ts : List Nat) (d : Nat) (K : Nat → zO) : zO := match ts with
  | k :: t :: ts => if x = Int32.ofNat k then K t else zlk x ts d K
  | _ => K d
abbrev zE0 : Type := Nat → List Value → zM → zO
def zroomy (st : List Value) : Bool := Nat.ble ((st.map fun v => v.category).sum) 8
/-- the return of a call: what kind, and then on -/
def zret (rt : Nat) (o : zO) (rest : List Value) (K : List Value → zM → zO) : zO := match rt with
  | 0 => zbV o (fun M => K rest M)
  | 1 => zbI o (fun r M => K (.int r :: rest) M)
  | 2 => zbL o (fun r M => K (.long r :: rest) M)
  | _ => zbR o (fun r M => K (.ref r :: rest) M)
/-- a call of y with n arguments off the stack; tag: of the receiver (0: not asked) -/
def zcall (E : zE0) (y n rt tag : Nat) (st : List Value) (M : zM) (K : List Value → zM → zO) : zO :=
  match Nat.ble n st.length && zroomy (st.drop n) with
  | false => none
  | true => match tag with
    | 0 => zret rt (E y (st.take n).reverse M) (st.drop n) K
    | t + 1 => match (st.take n).reverse with
      | .ref b :: _ => zif ((zK M b).1 = t + 1) (zret rt (E y (st.take n).reverse M) (st.drop n) K)
      | _ => none
def zcond (c : ClassFile.Cond) (x y : Int32) (a b : zO) : zO := match c with
  | .eq => if x = y then a else b
  | .ne => if x ≠ y then a else b
  | .lt => if x < y then a else b
  | .ge => if y ≤ x then a else b
  | .gt => if y < x then a else b
  | .le => if x ≤ y then a else b
def zgetf (r : List Nat) (a : Nat) (st : List Value) (M : zM) (K : List Value → zO) : zO := match r with
  | ty :: ci :: k :: _ => zif ((zK M a).1 = ci + 1) (match ty with
    | 1 => K (.long (zL M a k) :: st)
    | 2 => zoR (zR M a k) (fun q => K (.ref q :: st))
    | _ => K (.int (zI M a k) :: st))
  | _ => none
def zputf (r : List Nat) (st : List Value) (M : zM) (K : List Value → zM → zO) : zO := match r with
  | ty :: ci :: k :: _ => (match ty with
    | 1 => zrl st (fun a x s => zif ((zK M a).1 = ci + 1) (K s (zsL M a k x)))
    | 2 => zrr st (fun a q s => zif ((zK M a).1 = ci + 1) (K s (zsR M a k (some q))))
    | 3 => zri st (fun a x s => zif ((zK M a).1 = ci + 1 ∧ (x = 0 ∨ x = 1)) (K s (zsI M a k x)))
    | _ => zri st (fun a x s => zif ((zK M a).1 = ci + 1) (K s (zsI M a k x))))
  | _ => none
def zinvoke (E : zE0) (r : List Nat) (st : List Value) (M : zM) (K : List Value → zM → zO) : zO := match r with
  | y :: n :: rt :: tag :: _ => (match y with
    | 1000 => z1r st (fun _ s => zok (zroomy s) (K s M))
    | 1001 => (match st with
      | .int n :: .int dp :: .ref b :: .int sp :: .ref a :: s => zif ((zK M a).1 = 20 ∧ (zK M b).1 = 20 ∧ zroomy s = true ∧ (¬ sp < 0) ∧ (¬ dp < 0) ∧ (¬ n < 0) ∧ sp.toNatClampNeg + n.toNatClampNeg ≤ (zK M a).2 ∧ dp.toNatClampNeg + n.toNatClampNeg ≤ (zK M b).2) (K s (zcopy M a sp.toNatClampNeg b dp.toNatClampNeg n.toNatClampNeg))
      | _ => none)
    | y => zcall E y n rt tag st M K)
  | _ => none
def zstep (E : zE0) (rt : Nat) (i : Instr) (r : List Nat) (pc : Nat) (l : zLs) (st : List Value) (M : zM) (K : zKt) : zO := match i with
  | .iconst _ => K (pc + 1) l (.int (zci r) :: st) M
  | .bipush _ => K (pc + 2) l (.int (zci r) :: st) M
  | .sipush _ => K (pc + 3) l (.int (zci r) :: st) M
  | .ldc _ => K (pc + 2) l (.int (zci r) :: st) M
  | .ldc_w _ => K (pc + 3) l (.int (zci r) :: st) M
  | .lconst _ => K (pc + 1) l (.long (zcl r) :: st) M
  | .ldc2_w _ => K (pc + 3) l (.long (zcl r) :: st) M
  | .iload_n n => zld l n.val (fun v => zvi v (fun x => K (pc + 1) l (.int x :: st) M))
  | .iload n => zld l n (fun v => zvi v (fun x => K (pc + 2) l (.int x :: st) M))
  | .lload_n n => zld l n.val (fun v => zvl v (fun x => K (pc + 1) l (.long x :: st) M))
  | .lload n => zld l n (fun v => zvl v (fun x => K (pc + 2) l (.long x :: st) M))
  | .aload_n n => zld l n.val (fun v => zvr v (fun x => K (pc + 1) l (.ref x :: st) M))
  | .aload n => zld l n (fun v => zvr v (fun x => K (pc + 2) l (.ref x :: st) M))
  | .istore_n n => z1i st (fun x s => zok (Nat.blt (n.val) l.length) (K (pc + 1) (zst1 l n.val (.int x)) s M))
  | .istore n => z1i st (fun x s => zok (Nat.blt (n) l.length) (K (pc + 2) (zst1 l n (.int x)) s M))
  | .lstore_n n => z1l st (fun x s => zok (Nat.blt (n.val + 1) l.length) (K (pc + 1) (zst2 l n.val (.long x)) s M))
  | .lstore n => z1l st (fun x s => zok (Nat.blt (n + 1) l.length) (K (pc + 2) (zst2 l n (.long x)) s M))
  | .astore_n n => z1r st (fun x s => zok (Nat.blt (n.val) l.length) (K (pc + 1) (zst1 l n.val (.ref x)) s M))
  | .astore n => z1r st (fun x s => zok (Nat.blt (n) l.length) (K (pc + 2) (zst1 l n (.ref x)) s M))
  | .iinc n _ => zld l n (fun v => zvi v (fun x => zok (Nat.blt (n) l.length) (K (pc + 3) (zst1 l n (.int (x + zci r))) st M)))
  | .iadd => z2i st (fun x y s => K (pc + 1) l (.int (x + y) :: s) M)
  | .isub => z2i st (fun x y s => K (pc + 1) l (.int (x - y) :: s) M)
  | .imul => z2i st (fun x y s => K (pc + 1) l (.int (x * y) :: s) M)
  | .iand => z2i st (fun x y s => K (pc + 1) l (.int (x &&& y) :: s) M)
  | .idiv => z2i st (fun x y s => zif (¬ y = 0) (K (pc + 1) l (.int (x / y) :: s) M))
  | .irem => z2i st (fun x y s => zif (¬ y = 0) (K (pc + 1) l (.int (x - x / y * y) :: s) M))
  | .ishr => z2i st (fun x y s => K (pc + 1) l (.int (x >>> (y &&& 31)) :: s) M)
  | .iushr => z2i st (fun x y s => K (pc + 1) l (.int (x.toUInt32 >>> (y.toUInt32 &&& Int32.toUInt32 31)).toInt32 :: s) M)
  | .ladd => z2l st (fun x y s => K (pc + 1) l (.long (x + y) :: s) M)
  | .lsub => z2l st (fun x y s => K (pc + 1) l (.long (x - y) :: s) M)
  | .land => z2l st (fun x y s => K (pc + 1) l (.long (x &&& y) :: s) M)
  | .lor => z2l st (fun x y s => K (pc + 1) l (.long (x ||| y) :: s) M)
  | .lxor => z2l st (fun x y s => K (pc + 1) l (.long (x ^^^ y) :: s) M)
  | .lcmp => z2l st (fun x y s => K (pc + 1) l (.int (lg_cmp x y) :: s) M)
  | .lshl => zli st (fun x y s => K (pc + 1) l (.long (x <<< (y.toInt64 &&& 63)) :: s) M)
  | .lshr => zli st (fun x y s => K (pc + 1) l (.long (x >>> (y.toInt64 &&& 63)) :: s) M)
  | .lushr => zli st (fun x y s => K (pc + 1) l (.long (x.toUInt64 >>> (y.toInt64.toUInt64 &&& Int64.toUInt64 63)).toInt64 :: s) M)
  | .i2l => z1i st (fun x s => K (pc + 1) l (.long x.toInt64 :: s) M)
  | .l2i => z1l st (fun x s => K (pc + 1) l (.int x.toInt32 :: s) M)
  | .i2b => z1i st (fun x s => K (pc + 1) l (.int x.toInt8.toInt32 :: s) M)
  | .i2c => z1i st (fun x s => K (pc + 1) l (.int (x.toUInt32 % 65536).toInt32 :: s) M)
  | .dup => (match st with
    | .int x :: s => K (pc + 1) l (.int x :: .int x :: s) M
    | .ref x :: s => K (pc + 1) l (.ref x :: .ref x :: s) M
    | _ => none)
  | .pop => (match st with
    | .int _ :: s => K (pc + 1) l s M
    | .ref _ :: s => K (pc + 1) l s M
    | _ => none)
  | .dup2 => (match st with
    | .long x :: s => K (pc + 1) l (.long x :: .long x :: s) M
    | .int y :: .int x :: s => K (pc + 1) l (.int y :: .int x :: .int y :: .int x :: s) M
    | .int y :: .ref x :: s => K (pc + 1) l (.int y :: .ref x :: .int y :: .ref x :: s) M
    | _ => none)
  | .goto _ => K (r.headD 0) l st M
  | .ifCond c _ => z1i st (fun x s => zcond c x 0 (K (r.headD 0) l s M) (K (pc + 3) l s M))
  | .if_icmp c _ => z2i st (fun x y s => zcond c x y (K (r.headD 0) l s M) (K (pc + 3) l s M))
  | .tableswitch _ _ _ _ => z1i st (fun x s => match r with
    | d :: lo :: ts => zsw x lo ts d (fun t => K t l s M)
    | _ => none)
  | .lookupswitch _ _ => z1i st (fun x s => match r with
    | d :: ts => zlk x ts d (fun t => K t l s M)
    | _ => none)
  | .getfield _ => z1r st (fun a s => zgetf r a s M (fun s' => K (pc + 3) l s' M))
  | .putfield _ => zputf r st M (fun s M' => K (pc + 3) l s M')
  | .getstatic _ => K (pc + 3) l (.ref 0 :: st) M
  | .iaload => zri st (fun a j s => zif (((zK M a).1 = 20 ∨ (zK M a).1 = 24) ∧ zin j (zK M a).2 = true) (K (pc + 1) l (.int (zI M a j.toNatClampNeg) :: s) M))
  | .baload => zri st (fun a j s => zif (((zK M a).1 = 21 ∨ (zK M a).1 = 22) ∧ zin j (zK M a).2 = true) (K (pc + 1) l (.int (zI M a j.toNatClampNeg) :: s) M))
  | .laload => zri st (fun a j s => zif (((zK M a).1 = 23 ∨ (zK M a).1 = 25) ∧ zin j (zK M a).2 = true) (K (pc + 1) l (.long (zL M a j.toNatClampNeg) :: s) M))
  | .aaload => zri st (fun a j s => zif (30 ≤ (zK M a).1 ∧ zin j (zK M a).2 = true) (zoR (zR M a j.toNatClampNeg) (fun q => K (pc + 1) l (.ref q :: s) M)))
  | .iastore => zrii st (fun a j x s => zif ((zK M a).1 = 20 ∧ zin j (zK M a).2 = true) (K (pc + 1) l s (zsI M a j.toNatClampNeg x)))
  | .bastore => zrii st (fun a j x s => if (zK M a).1 = 21 then zif (zin j (zK M a).2 = true) (K (pc + 1) l s (zsI M a j.toNatClampNeg (vp_nar .boolean x))) else zif ((zK M a).1 = 22 ∧ zin j (zK M a).2 = true) (K (pc + 1) l s (zsI M a j.toNatClampNeg (vp_nar .byte x))))
  | .lastore => zril st (fun a j x s => zif ((zK M a).1 = 23 ∧ zin j (zK M a).2 = true) (K (pc + 1) l s (zsL M a j.toNatClampNeg x)))
  | .aastore => zrir st (fun a j q s => zif (30 ≤ (zK M a).1 ∧ (zK M a).1 = (zK M q).1 + 29 ∧ 1 ≤ (zK M q).1 ∧ (zK M q).1 < 20 ∧ zin j (zK M a).2 = true) (K (pc + 1) l s (zsR M a j.toNatClampNeg (some q))))
  | .arraylength => z1r st (fun a s => zif (20 ≤ (zK M a).1) (K (pc + 1) l (.int (Int32.ofNat (zK M a).2) :: s) M))
  | .new _ => K (pc + 3) l (.ref (zN M) :: st) (znew M (r.headD 0 + 1) ((r.drop 1).headD 0))
  | .newarray _ => z1i st (fun n s => zif ((¬ n < 0) ∧ n.toNatClampNeg ≤ 100000) (K (pc + 2) l (.ref (zN M) :: s) (znew M (r.headD 0) n.toNatClampNeg)))
  | .anewarray _ => z1i st (fun n s => zif ((¬ n < 0) ∧ n.toNatClampNeg ≤ 100000) (K (pc + 3) l (.ref (zN M) :: s) (znew M (30 + r.headD 0) n.toNatClampNeg)))
  | .invokevirtual _ => zinvoke E r st M (fun s M' => K (pc + 3) l s M')
  | .invokespecial _ => zinvoke E r st M (fun s M' => K (pc + 3) l s M')
  | .invokestatic _ => zinvoke E r st M (fun s M' => K (pc + 3) l s M')
  | .ireturn => (match st with
    | [.int x] => (match rt with
      | 1 => some (some (.int x), M)
      | 2 => zif (x = 0 ∨ x = 1) (some (some (.int x), M))
      | _ => none)
    | _ => none)
  | .lreturn => (match st with
    | [.long x] => zok (Nat.beq rt 3) (some (some (.long x), M))
    | _ => none)
  | .areturn => (match st with
    | [.ref x] => zok (Nat.beq rt 4) (some (some (.ref x), M))
    | _ => none)
  | .return_ => (match st with
    | [] => zok (Nat.beq rt 0) (some (none, M))
    | _ => none)
  | _ => none
/-! one step is one continuation at most -/
abbrev zNx : Type := Nat × zLs × List Value × zM
def zap (o : Option (zNx ⊕ (Option Value × zM))) (K : zKt) : zO := match o with
  | none => none
  | some (.inl q) => K q.1 q.2.1 q.2.2.1 q.2.2.2
  | some (.inr r) => some r
end
section
def zsz (M : zM) : Nat := ((List.range (zN M)).map (fun a => (zK M a).2)).sum
def zle (M M' : zM) : Prop := zN M ≤ zN M' ∧ zsz M ≤ zsz M'
theorem zle.rf (M : zM) : zle M M := ⟨Nat.le_refl _, Nat.le_refl _⟩
theorem zle.tr {M M1 M2 : zM} (h : zle M M1) (k : zle M1 M2) : zle M M2 := ⟨Nat.le_trans h.1 k.1, Nat.le_trans h.2 k.2⟩
theorem zsz_new (M : zM) (t n : Nat) : zsz (znew M t n) = zsz M + n := by
  have h : zN (znew M t n) = zN M + 1 := rfl
  unfold zsz
  rw [h, List.range_succ, List.map_append, List.sum_append]
  have e : (List.range (zN M)).map (fun a => (zK (znew M t n) a).2) = (List.range (zN M)).map (fun a => (zK M a).2) := by
    apply List.map_congr_left
    intro a ha
    have hl : a < zN M := List.mem_range.mp ha
    have hne : ¬ a = M.1 := Nat.ne_of_lt hl
    simp [zK, znew, hne]
  rw [e]
  simp [zK, znew, zN]
theorem zle.new (M : zM) (t n : Nat) : zle M (znew M t n) := ⟨Nat.le_succ _, by rw [zsz_new]; exact Nat.le_add_right _ _⟩
def zOne (M : zM) (F : zKt → zO) : Prop := ∃ o : Option (zNx ⊕ (Option Value × zM)), (∀ K, F K = zap o K) ∧ (∀ q, o = some (.inl q) → zle M q.2.2.2) ∧ ∀ q, o = some (.inr q) → q.2 = M
theorem zOne_k {M M1 : zM} (h : zle M M1) (pc : Nat) (l : zLs) (st : List Value) : zOne M (fun K => K pc l st M1) :=
  ⟨some (.inl (pc, l, st, M1)), fun _ => rfl, fun q hq => (by cases hq; exact h), fun q hq => (by cases hq)⟩
theorem zOne_n {M : zM} : zOne M (fun _ => none) := ⟨none, fun _ => rfl, fun q hq => (by cases hq), fun q hq => (by cases hq)⟩
theorem zOne_r {M : zM} (r : Option Value) : zOne M (fun _ => some (r, M)) := ⟨some (.inr (r, M)), fun _ => rfl, fun q hq => (by cases hq), fun q hq => (by cases hq; rfl)⟩
theorem zOne_zif {M : zM} {c : Prop} [Decidable c] {F : zKt → zO} (h : zOne M F) : zOne M (fun K => zif c (F K)) := by
  by_cases hc : c
  · simpa [zif, hc] using h
  · simpa [zif, hc] using zOne_n
theorem zOne_zok {M : zM} {b : Bool} {F : zKt → zO} (h : zOne M F) : zOne M (fun K => zok b (F K)) := by
  cases b
  · exact zOne_n
  · exact h
theorem zOne_ite {M : zM} {c : Prop} [Decidable c] {F G : zKt → zO} (h : zOne M F) (k : zOne M G) : zOne M (fun K => if c then F K else G K) := by
  by_cases hc : c
  · simpa [hc] using h
  · simpa [hc] using k
theorem zOne_z1i {M : zM} {st : List Value} {F : Int32 → List Value → zKt → zO} (h : ∀ x s, zOne M (F x s)) : zOne M (fun K => z1i st (fun x s => F x s K)) := by
  unfold z1i; split; exact h _ _; exact zOne_n
theorem zOne_z2i {M : zM} {st : List Value} {F : Int32 → Int32 → List Value → zKt → zO} (h : ∀ x y s, zOne M (F x y s)) : zOne M (fun K => z2i st (fun x y s => F x y s K)) := by
  unfold z2i; split; exact h _ _ _; exact zOne_n
theorem zOne_z1l {M : zM} {st : List Value} {F : Int64 → List Value → zKt → zO} (h : ∀ x s, zOne M (F x s)) : zOne M (fun K => z1l st (fun x s => F x s K)) := by
  unfold z1l; split; exact h _ _; exact zOne_n
theorem zOne_z2l {M : zM} {st : List Value} {F : Int64 → Int64 → List Value → zKt → zO} (h : ∀ x y s, zOne M (F x y s)) : zOne M (fun K => z2l st (fun x y s => F x y s K)) := by
  unfold z2l; split; exact h _ _ _; exact zOne_n
theorem zOne_zli {M : zM} {st : List Value} {F : Int64 → Int32 → List Value → zKt → zO} (h : ∀ x y s, zOne M (F x y s)) : zOne M (fun K => zli st (fun x y s => F x y s K)) := by
  unfold zli; split; exact h _ _ _; exact zOne_n
theorem zOne_z1r {M : zM} {st : List Value} {F : Nat → List Value → zKt → zO} (h : ∀ x s, zOne M (F x s)) : zOne M (fun K => z1r st (fun x s => F x s K)) := by
  unfold z1r; split; exact h _ _; exact zOne_n
theorem zOne_zri {M : zM} {st : List Value} {F : Nat → Int32 → List Value → zKt → zO} (h : ∀ x y s, zOne M (F x y s)) : zOne M (fun K => zri st (fun x y s => F x y s K)) := by
  unfold zri; split; exact h _ _ _; exact zOne_n
theorem zOne_zrl {M : zM} {st : List Value} {F : Nat → Int64 → List Value → zKt → zO} (h : ∀ x y s, zOne M (F x y s)) : zOne M (fun K => zrl st (fun x y s => F x y s K)) := by
  unfold zrl; split; exact h _ _ _; exact zOne_n
theorem zOne_zrr {M : zM} {st : List Value} {F : Nat → Nat → List Value → zKt → zO} (h : ∀ x y s, zOne M (F x y s)) : zOne M (fun K => zrr st (fun x y s => F x y s K)) := by
  unfold zrr; split; exact h _ _ _; exact zOne_n
theorem zOne_zrii {M : zM} {st : List Value} {F : Nat → Int32 → Int32 → List Value → zKt → zO} (h : ∀ x y z s, zOne M (F x y z s)) : zOne M (fun K => zrii st (fun x y z s => F x y z s K)) := by
  unfold zrii; split; exact h _ _ _ _; exact zOne_n
theorem zOne_zril {M : zM} {st : List Value} {F : Nat → Int32 → Int64 → List Value → zKt → zO} (h : ∀ x y z s, zOne M (F x y z s)) : zOne M (fun K => zril st (fun x y z s => F x y z s K)) := by
  unfold zril; split; exact h _ _ _ _; exact zOne_n
theorem zOne_zrir {M : zM} {st : List Value} {F : Nat → Int32 → Nat → List Value → zKt → zO} (h : ∀ x y z s, zOne M (F x y z s)) : zOne M (fun K => zrir st (fun x y z s => F x y z s K)) := by
  unfold zrir; split; exact h _ _ _ _; exact zOne_n
theorem zOne_zld {M : zM} {l : zLs} {i : Nat} {F : Value → zKt → zO} (h : ∀ v, zOne M (F v)) : zOne M (fun K => zld l i (fun v => F v K)) := by
  unfold zld; split; exact h _; exact zOne_n
theorem zOne_zvi {M : zM} {v : Value} {F : Int32 → zKt → zO} (h : ∀ v, zOne M (F v)) : zOne M (fun K => zvi v (fun v => F v K)) := by
  unfold zvi; split; exact h _; exact zOne_n
theorem zOne_zvl {M : zM} {v : Value} {F : Int64 → zKt → zO} (h : ∀ v, zOne M (F v)) : zOne M (fun K => zvl v (fun v => F v K)) := by
  unfold zvl; split; exact h _; exact zOne_n
theorem zOne_zvr {M : zM} {v : Value} {F : Nat → zKt → zO} (h : ∀ v, zOne M (F v)) : zOne M (fun K => zvr v (fun v => F v K)) := by
  unfold zvr; split; exact h _; exact zOne_n
theorem zOne_zoR {M : zM} {v : Option Nat} {F : Nat → zKt → zO} (h : ∀ v, zOne M (F v)) : zOne M (fun K => zoR v (fun v => F v K)) := by
  unfold zoR; split; exact h _; exact zOne_n
theorem zOne_zcond {M : zM} {c : ClassFile.Cond} {x y : Int32} {F G : zKt → zO} (h : zOne M F) (k : zOne M G) : zOne M (fun K => zcond c x y (F K) (G K)) := by
  unfold zcond; split <;> exact zOne_ite h k
theorem zOne_zsw {M : zM} {x : Int32} {d : Nat} {F : Nat → zKt → zO} (h : ∀ t, zOne M (F t)) : ∀ (ts : List Nat) (lo : Nat), zOne M (fun K => zsw x lo ts d (fun t => F t K))
  | [], _ => h d
  | t :: ts, lo => zOne_ite (h t) (zOne_zsw h ts (lo + 1))
theorem zOne_zlk {M : zM} {x : Int32} {d : Nat} {F : Nat → zKt → zO} (h : ∀ t, zOne M (F t)) : ∀ (ts : List Nat), zOne M (fun K => zlk x ts d (fun t => F t K))
  | [] => h d
  | [_] => h d
  | _ :: t :: ts => zOne_ite (h t) (zOne_zlk h ts)
theorem zOne_zret {M : zM} {rt : Nat} {o : zO} {rest : List Value} {F : List Value → zM → zKt → zO} (ho : ∀ r M', o = some (r, M') → zle M M') (h : ∀ s M', zle M M' → zOne M (F s M')) : zOne M (fun K => zret rt o rest (fun s M' => F s M' K)) := by
  unfold zret
  split
  · unfold zbV; split
    · exact h _ _ (ho _ _ rfl)
    · exact zOne_n
  · unfold zbI; split
    · exact h _ _ (ho _ _ rfl)
    · exact zOne_n
  · unfold zbL; split
    · exact h _ _ (ho _ _ rfl)
    · exact zOne_n
  · unfold zbR; split
    · exact h _ _ (ho _ _ rfl)
    · exact zOne_n
theorem zOne_zcall {M : zM} {E : zE0} (hE : ∀ y as M r M', E y as M = some (r, M') → zle M M') {y n rt tag : Nat} {st : List Value} {F : List Value → zM → zKt → zO} (h : ∀ s M', zle M M' → zOne M (F s M')) : zOne M (fun K => zcall E y n rt tag st M (fun s M' => F s M' K)) := by
  unfold zcall
  split
  · exact zOne_n
  split
  · exact zOne_zret (fun r M' q => hE _ _ _ _ _ q) h
  · split
    · exact zOne_zif (zOne_zret (fun r M' q => hE _ _ _ _ _ q) h)
    · exact zOne_n
theorem zOne_zinvoke {M : zM} {E : zE0} (hE : ∀ y as M r M', E y as M = some (r, M') → zle M M') {r : List Nat} {st : List Value} {F : List Value → zM → zKt → zO} (h : ∀ s M', zle M M' → zOne M (F s M')) : zOne M (fun K => zinvoke E r st M (fun s M' => F s M' K)) := by
  unfold zinvoke
  split
  · split
    · exact zOne_z1r (fun _ s => zOne_zok (h s M (zle.rf M)))
    · split
      · exact zOne_zif (h _ _ ⟨Nat.le_refl _, Nat.le_refl _⟩)
      · exact zOne_n
    · exact zOne_zcall hE h
  · exact zOne_n
theorem zOne_zgetf {M : zM} {r : List Nat} {a : Nat} {st : List Value} {F : List Value → zKt → zO} (h : ∀ s, zOne M (F s)) : zOne M (fun K => zgetf r a st M (fun s => F s K)) := by
  unfold zgetf
  split
  · refine zOne_zif ?_
    split
    · exact h _
    · exact zOne_zoR (fun q => h _)
    · exact h _
  · exact zOne_n
theorem zOne_zputf {M : zM} {r : List Nat} {st : List Value} {F : List Value → zM → zKt → zO} (h : ∀ s M', zle M M' → zOne M (F s M')) : zOne M (fun K => zputf r st M (fun s M' => F s M' K)) := by
  unfold zputf
  split
  · split
    · exact zOne_zrl (fun a x s => zOne_zif (h _ _ ⟨Nat.le_refl _, Nat.le_refl _⟩))
    · exact zOne_zrr (fun a x s => zOne_zif (h _ _ ⟨Nat.le_refl _, Nat.le_refl _⟩))
    · exact zOne_zri (fun a x s => zOne_zif (h _ _ ⟨Nat.le_refl _, Nat.le_refl _⟩))
    · exact zOne_zri (fun a x s => zOne_zif (h _ _ ⟨Nat.le_refl _, Nat.le_refl _⟩))
  · exact zOne_n
theorem zle.sI (M : zM) (a i : Nat) (x : Int32) : zle M (zsI M a i x) := ⟨Nat.le_refl _, Nat.le_refl _⟩
theorem zle.sL (M : zM) (a i : Nat) (x : Int64) : zle M (zsL M a i x) := ⟨Nat.le_refl _, Nat.le_refl _⟩
theorem zle.sR (M : zM) (a i : Nat) (x : Option Nat) : zle M (zsR M a i x) := ⟨Nat.le_refl _, Nat.le_refl _⟩
set_option maxHeartbeats 4000000 in
theorem zstep_one {E : zE0} (hE : ∀ y as M r M', E y as M = some (r, M') → zle M M') (rt : Nat) (i : Instr) (r : List Nat) (pc : Nat) (l : zLs) (st : List Value) (M : zM) : zOne M (zstep E rt i r pc l st M) := by
  cases i
  case iconst => exact zOne_k (zle.rf M) _ _ _
  case bipush => exact zOne_k (zle.rf M) _ _ _
  case sipush => exact zOne_k (zle.rf M) _ _ _
  case ldc => exact zOne_k (zle.rf M) _ _ _
  case ldc_w => exact zOne_k (zle.rf M) _ _ _
  case lconst => exact zOne_k (zle.rf M) _ _ _
  case ldc2_w => exact zOne_k (zle.rf M) _ _ _
  case iload_n => exact zOne_zld fun v => zOne_zvi fun x => zOne_k (zle.rf M) _ _ _
  case iload => exact zOne_zld fun v => zOne_zvi fun x => zOne_k (zle.rf M) _ _ _
  case lload_n => exact zOne_zld fun v => zOne_zvl fun x => zOne_k (zle.rf M) _ _ _
  case lload => exact zOne_zld fun v => zOne_zvl fun x => zOne_k (zle.rf M) _ _ _
  case aload_n => exact zOne_zld fun v => zOne_zvr fun x => zOne_k (zle.rf M) _ _ _
  case aload => exact zOne_zld fun v => zOne_zvr fun x => zOne_k (zle.rf M) _ _ _
  case istore_n => exact zOne_z1i fun x s => zOne_zok (zOne_k (zle.rf M) _ _ _)
  case istore => exact zOne_z1i fun x s => zOne_zok (zOne_k (zle.rf M) _ _ _)
  case lstore_n => exact zOne_z1l fun x s => zOne_zok (zOne_k (zle.rf M) _ _ _)
  case lstore => exact zOne_z1l fun x s => zOne_zok (zOne_k (zle.rf M) _ _ _)
  case astore_n => exact zOne_z1r fun x s => zOne_zok (zOne_k (zle.rf M) _ _ _)
  case astore => exact zOne_z1r fun x s => zOne_zok (zOne_k (zle.rf M) _ _ _)
  case iinc => exact zOne_zld fun v => zOne_zvi fun x => zOne_zok (zOne_k (zle.rf M) _ _ _)
  case iadd => exact zOne_z2i fun x y s => zOne_k (zle.rf M) _ _ _
  case isub => exact zOne_z2i fun x y s => zOne_k (zle.rf M) _ _ _
  case imul => exact zOne_z2i fun x y s => zOne_k (zle.rf M) _ _ _
  case iand => exact zOne_z2i fun x y s => zOne_k (zle.rf M) _ _ _
  case idiv => exact zOne_z2i fun x y s => zOne_zif (zOne_k (zle.rf M) _ _ _)
  case irem => exact zOne_z2i fun x y s => zOne_zif (zOne_k (zle.rf M) _ _ _)
  case ishr => exact zOne_z2i fun x y s => zOne_k (zle.rf M) _ _ _
  case iushr => exact zOne_z2i fun x y s => zOne_k (zle.rf M) _ _ _
  case ladd => exact zOne_z2l fun x y s => zOne_k (zle.rf M) _ _ _
  case lsub => exact zOne_z2l fun x y s => zOne_k (zle.rf M) _ _ _
  case land => exact zOne_z2l fun x y s => zOne_k (zle.rf M) _ _ _
  case lor => exact zOne_z2l fun x y s => zOne_k (zle.rf M) _ _ _
  case lxor => exact zOne_z2l fun x y s => zOne_k (zle.rf M) _ _ _
  case lcmp => exact zOne_z2l fun x y s => zOne_k (zle.rf M) _ _ _
  case lshl => exact zOne_zli fun x y s => zOne_k (zle.rf M) _ _ _
  case lshr => exact zOne_zli fun x y s => zOne_k (zle.rf M) _ _ _
  case lushr => exact zOne_zli fun x y s => zOne_k (zle.rf M) _ _ _
  case i2l => exact zOne_z1i fun x s => zOne_k (zle.rf M) _ _ _
  case l2i => exact zOne_z1l fun x s => zOne_k (zle.rf M) _ _ _
  case i2b => exact zOne_z1i fun x s => zOne_k (zle.rf M) _ _ _
  case i2c => exact zOne_z1i fun x s => zOne_k (zle.rf M) _ _ _
  case dup => unfold zstep; dsimp only; split <;> first | exact zOne_k (zle.rf M) _ _ _ | exact zOne_n
  case pop => unfold zstep; dsimp only; split <;> first | exact zOne_k (zle.rf M) _ _ _ | exact zOne_n
  case dup2 => unfold zstep; dsimp only; split <;> first | exact zOne_k (zle.rf M) _ _ _ | exact zOne_n
  case goto => exact zOne_k (zle.rf M) _ _ _
  case ifCond => exact zOne_z1i fun x s => zOne_zcond (zOne_k (zle.rf M) _ _ _) (zOne_k (zle.rf M) _ _ _)
  case if_icmp => exact zOne_z2i fun x y s => zOne_zcond (zOne_k (zle.rf M) _ _ _) (zOne_k (zle.rf M) _ _ _)
  case tableswitch =>
    refine zOne_z1i (F := fun x s K => match r with
      | d :: lo :: ts => zsw x lo ts d (fun t => K t l s M)
      | _ => none) fun x s => ?_
    split
    · exact zOne_zsw (F := fun t K => K t l s M) (fun t => zOne_k (zle.rf M) _ _ _) _ _
    · exact zOne_n
  case lookupswitch =>
    refine zOne_z1i (F := fun x s K => match r with
      | d :: ts => zlk x ts d (fun t => K t l s M)
      | _ => none) fun x s => ?_
    split
    · exact zOne_zlk (F := fun t K => K t l s M) (fun t => zOne_k (zle.rf M) _ _ _) _
    · exact zOne_n
  case getfield => exact zOne_z1r fun a s => zOne_zgetf fun s' => zOne_k (zle.rf M) _ _ _
  case putfield => exact zOne_zputf fun s M' h => zOne_k h _ _ _
  case getstatic => exact zOne_k (zle.rf M) _ _ _
  case iaload => exact zOne_zri fun a j s => zOne_zif (zOne_k (zle.rf M) _ _ _)
  case baload => exact zOne_zri fun a j s => zOne_zif (zOne_k (zle.rf M) _ _ _)
  case laload => exact zOne_zri fun a j s => zOne_zif (zOne_k (zle.rf M) _ _ _)
  case aaload => exact zOne_zri fun a j s => zOne_zif (zOne_zoR fun q => zOne_k (zle.rf M) _ _ _)
  case iastore => exact zOne_zrii fun a j x s => zOne_zif (zOne_k (zle.sI M _ _ _) _ _ _)
  case bastore => exact zOne_zrii fun a j x s => zOne_ite (zOne_zif (zOne_k (zle.sI M _ _ _) _ _ _)) (zOne_zif (zOne_k (zle.sI M _ _ _) _ _ _))
  case lastore => exact zOne_zril fun a j x s => zOne_zif (zOne_k (zle.sL M _ _ _) _ _ _)
  case aastore => exact zOne_zrir fun a j x s => zOne_zif (zOne_k (zle.sR M _ _ _) _ _ _)
  case arraylength => exact zOne_z1r fun a s => zOne_zif (zOne_k (zle.rf M) _ _ _)
  case new => exact zOne_k (zle.new M _ _) _ _ _
  case newarray => exact zOne_z1i fun x s => zOne_zif (zOne_k (zle.new M _ _) _ _ _)
  case anewarray => exact zOne_z1i fun x s => zOne_zif (zOne_k (zle.new M _ _) _ _ _)
  case invokevirtual => exact zOne_zinvoke hE fun s M' h => zOne_k h _ _ _
  case invokespecial => exact zOne_zinvoke hE fun s M' h => zOne_k h _ _ _
  case invokestatic => exact zOne_zinvoke hE fun s M' h => zOne_k h _ _ _
  case ireturn => unfold zstep; dsimp only; split <;> first | (split <;> first | exact zOne_zif (zOne_r _) | exact zOne_r _ | exact zOne_n) | exact zOne_n
  case lreturn => unfold zstep; dsimp only; split <;> first | exact zOne_zok (zOne_r _) | exact zOne_n
  case areturn => unfold zstep; dsimp only; split <;> first | exact zOne_zok (zOne_r _) | exact zOne_n
  case return_ => unfold zstep; dsimp only; split <;> first | exact zOne_zok (zOne_r _) | exact zOne_n
  all_goals exact zOne_n
end
section
/-- most locals, kind of answer, code, heads of loops with the places that are dead there -/
abbrev zMi : Type := Nat × Nat × List zC × List (Nat × List Nat)
abbrev zTab : Type := Nat → zMi
def zat (C : List zC) (pc : Nat) : Option (Instr × Nat × List Nat) := match C with
  | [] => none
  | e :: C => match Nat.beq e.1 pc with
    | true => some e.2
    | false => zat C pc
def zhd (H : List (Nat × List Nat)) (pc : Nat) : Option (List Nat) := match H with
  | [] => none
  | e :: H => match Nat.beq e.1 pc with
    | true => some e.2
    | false => zhd H pc
def zforget (ds : List Nat) (l : zLs) : zLs := match ds with
  | [] => l
  | i :: ds => zforget ds (l.set i none)
def zfg (H : List (Nat × List Nat)) (pc : Nat) (l : zLs) : zLs := match zhd H pc with
  | none => l
  | some ds => zforget ds l
def zent : List Value → zLs
  | [] => []
  | v :: vs => match v.category with
    | 2 => some v :: none :: zent vs
    | _ => some v :: zent vs
def zpad (n : Nat) (l : zLs) : zLs := match n, l with
  | 0, l => l
  | n + 1, [] => none :: zpad n []
  | n + 1, x :: l => x :: zpad n l
def zloc (n : Nat) (as : List Value) : zLs := zpad n (zent as)
def zrun (T : zTab) (E : zE0) (y : Nat) : Nat → zKt
  | 0, _, _, _, _ => none
  | n + 1, pc, l, st, M => match zat (T y).2.2.1 pc with
    | none => none
    | some q => zstep E (T y).2.1 q.1 q.2.2 pc l st M (fun pc' l' st' M' => zrun T E y n pc' (zfg (T y).2.2.2 pc' l') st' M')
noncomputable def zF (T : zTab) (E : zE0) (y : Nat) : zKt := fun pc l st M =>
  @dite zO (∃ res n, zrun T E y n pc l st M = some res) (Classical.propDecidable _) (fun h => some h.choose) (fun _ => none)
noncomputable def zE (T : zTab) : Nat → zE0
  | 0 => fun _ _ _ => none
  | d + 1 => fun y as M => zF T (zE T d) y 0 (zloc (T y).1 as) [] M
def zEn (T : zTab) (n : Nat) : Nat → zE0
  | 0 => fun _ _ _ => none
  | d + 1 => fun y as M => zrun T (zEn T n d) y n 0 (zloc (T y).1 as) [] M
def zKle (K1 K2 : zKt) : Prop := ∀ pc l st M res, K1 pc l st M = some res → K2 pc l st M = some res
def zEle (E1 E2 : zE0) : Prop := ∀ y as M res, E1 y as M = some res → E2 y as M = some res
def zEok (E : zE0) : Prop := ∀ y as M r M', E y as M = some (r, M') → zle M M'
theorem zret_mono {rt : Nat} {o1 o2 : zO} (ho : ∀ res, o1 = some res → o2 = some res) {rest : List Value} {K : List Value → zM → zO} {res : Option Value × zM} (h : zret rt o1 rest K = some res) : zret rt o2 rest K = some res := by
  cases o1 with
  | none =>
    exfalso
    unfold zret at h
    split at h <;> first | (unfold zbV at h; simp at h; done) | (unfold zbI at h; simp at h; done) | (unfold zbL at h; simp at h; done) | (unfold zbR at h; simp at h; done)
  | some q => rw [ho q rfl]; exact h
theorem zcall_mono {E1 E2 : zE0} (hE : zEle E1 E2) {y n rt tag : Nat} {st : List Value} {M : zM} {K : List Value → zM → zO} {res : Option Value × zM} (h : zcall E1 y n rt tag st M K = some res) : zcall E2 y n rt tag st M K = some res := by
  unfold zcall at h ⊢
  cases hb : (Nat.ble n st.length && zroomy (st.drop n)) with
  | false => rw [hb] at h; cases h
  | true =>
    rw [hb] at h
    try dsimp only at h ⊢
    match tag, h with
    | 0, h => exact zret_mono (fun res q => hE _ _ _ _ q) h
    | t + 1, h =>
      try dsimp only at h ⊢
      generalize ha : (st.take n).reverse = as at h ⊢
      match as, h with
      | .ref b :: as, h =>
        try dsimp only at h ⊢
        unfold zif at h ⊢
        by_cases hk : (zK M b).1 = t + 1
        · rw [if_pos hk] at h ⊢
          exact zret_mono (fun res q => hE _ _ _ _ q) h
        · rw [if_neg hk] at h; cases h
theorem zinvoke_mono {E1 E2 : zE0} (hE : zEle E1 E2) {r : List Nat} {st : List Value} {M : zM} {K : List Value → zM → zO} {res : Option Value × zM} (h : zinvoke E1 r st M K = some res) : zinvoke E2 r st M K = some res := by
  unfold zinvoke at h ⊢
  split at h
  · split at h
    · exact h
    · exact h
    · exact zcall_mono hE h
  · cases h
theorem zstep_E {E1 E2 : zE0} (hE : zEle E1 E2) {rt : Nat} {i : Instr} {r : List Nat} {pc : Nat} {l : zLs} {st : List Value} {M : zM} {K : zKt} {res : Option Value × zM} (h : zstep E1 rt i r pc l st M K = some res) : zstep E2 rt i r pc l st M K = some res := by
  cases i
  case invokevirtual => exact zinvoke_mono hE h
  case invokespecial => exact zinvoke_mono hE h
  case invokestatic => exact zinvoke_mono hE h
  all_goals exact h
theorem zap_mono {o : Option (zNx ⊕ (Option Value × zM))} {K1 K2 : zKt} (hK : zKle K1 K2) {res : Option Value × zM} (h : zap o K1 = some res) : zap o K2 = some res := by
  match o, h with
  | some (.inl q), h => exact hK _ _ _ _ _ h
  | some (.inr q), h => exact h
theorem zstep_K {E : zE0} (hE : zEok E) {rt : Nat} {i : Instr} {r : List Nat} {pc : Nat} {l : zLs} {st : List Value} {M : zM} {K1 K2 : zKt} (hK : zKle K1 K2) {res : Option Value × zM} (h : zstep E rt i r pc l st M K1 = some res) : zstep E rt i r pc l st M K2 = some res := by
  obtain ⟨o, ho, -, -⟩ := zstep_one hE rt i r pc l st M
  rw [ho] at h ⊢
  exact zap_mono hK h
theorem zrun_le {T : zTab} {E : zE0} (hE : zEok E) {y : Nat} : ∀ n pc l st M r M', zrun T E y n pc l st M = some (r, M') → zle M M' := by
  intro n
  induction n with
  | zero => intro pc l st M r M' h; cases h
  | succ n ih =>
    intro pc l st M r M' h
    unfold zrun at h
    split at h
    · cases h
    · rename_i q hq
      obtain ⟨o, ho, h1, h2⟩ := zstep_one hE (T y).2.1 q.1 q.2.2 pc l st M
      rw [ho] at h
      match o, h, h1, h2 with
      | some (.inl q), h, h1, _ => exact (h1 q rfl).tr (ih _ _ _ _ _ _ h)
      | some (.inr q), h, _, h2 =>
        have e := h2 q rfl
        have e2 : q = (r, M') := Option.some.inj h
        rw [e2] at e
        dsimp only at e
        rw [e]
        exact zle.rf M
theorem zrun_succ {T : zTab} {E : zE0} (hE : zEok E) {y : Nat} : ∀ n, zKle (zrun T E y n) (zrun T E y (n + 1)) := by
  intro n
  induction n with
  | zero => intro pc l st M res h; cases h
  | succ n ih =>
    intro pc l st M res h
    unfold zrun at h ⊢
    split at h
    · cases h
    · rename_i q hq
      exact zstep_K hE (fun pc l st M res h => ih _ _ _ _ _ h) h
theorem zrun_mono {T : zTab} {E : zE0} (hE : zEok E) {y : Nat} {n k : Nat} (hk : n ≤ k) : zKle (zrun T E y n) (zrun T E y k) := by
  induction hk with
  | refl => exact fun _ _ _ _ _ h => h
  | step _ ih => exact fun pc l st M res h => zrun_succ hE _ _ _ _ _ _ (ih _ _ _ _ _ h)
theorem zF_of {T : zTab} {E : zE0} (hE : zEok E) {y n pc : Nat} {l : zLs} {st : List Value} {M : zM} {res : Option Value × zM} (h : zrun T E y n pc l st M = some res) : zF T E y pc l st M = some res := by
  have hex : ∃ res n, zrun T E y n pc l st M = some res := ⟨res, n, h⟩
  unfold zF
  rw [dif_pos hex]
  obtain ⟨k, hk⟩ := hex.choose_spec
  have a := zrun_mono hE (Nat.le_max_left n k) _ _ _ _ _ h
  have b := zrun_mono hE (Nat.le_max_right n k) _ _ _ _ _ hk
  rw [a] at b
  exact b.symm
theorem zF_ex {T : zTab} {E : zE0} {y pc : Nat} {l : zLs} {st : List Value} {M : zM} {res : Option Value × zM} (h : zF T E y pc l st M = some res) : ∃ n, zrun T E y n pc l st M = some res := by
  unfold zF at h
  by_cases hex : ∃ res n, zrun T E y n pc l st M = some res
  · rw [dif_pos hex] at h
    obtain ⟨k, hk⟩ := hex.choose_spec
    exact ⟨k, by rw [hk]; exact h⟩
  · rw [dif_neg hex] at h
    cases h
def zgo (T : zTab) (E : zE0) (y : Nat) (K : zKt) : zKt := fun pc l st M => match zat (T y).2.2.1 pc with
  | none => none
  | some q => zstep E (T y).2.1 q.1 q.2.2 pc l st M (fun pc' l' st' M' => K pc' (zfg (T y).2.2.2 pc' l') st' M')
theorem zF_eq {T : zTab} {E : zE0} (hE : zEok E) {y pc : Nat} {l : zLs} {st : List Value} {M : zM} : zF T E y pc l st M = zgo T E y (zF T E y) pc l st M := by
  cases hL : zF T E y pc l st M with
  | some res =>
    obtain ⟨n, hn⟩ := zF_ex hL
    cases n with
    | zero => cases hn
    | succ n =>
      unfold zrun at hn
      unfold zgo
      split at hn
      · cases hn
      · rename_i q hq
        exact (zstep_K hE (fun pc l st M res h => zF_of hE h) hn).symm
  | none =>
    cases hR : zgo T E y (zF T E y) pc l st M with
    | none => rfl
    | some res =>
      exfalso
      unfold zgo at hR
      split at hR
      · cases hR
      · rename_i q hq
        obtain ⟨o, ho, -, -⟩ := zstep_one hE (T y).2.1 q.1 q.2.2 pc l st M
        rw [ho] at hR
        have hex : ∃ n, zrun T E y n pc l st M = some res := by
          match o, hR, ho with
          | some (.inl w), hR, ho =>
            obtain ⟨n, hn⟩ := zF_ex (show zF T E y _ _ _ _ = some res from hR)
            refine ⟨n + 1, ?_⟩
            unfold zrun
            rw [hq]
            dsimp only
            rw [ho]
            exact hn
          | some (.inr w), hR, ho =>
            refine ⟨1, ?_⟩
            unfold zrun
            rw [hq]
            dsimp only
            rw [ho]
            exact hR
        obtain ⟨n, hn⟩ := hex
        rw [zF_of hE hn] at hL
        cases hL
theorem zE_ok (T : zTab) : ∀ d, zEok (zE T d)
  | 0 => fun _ _ _ _ _ h => by cases h
  | d + 1 => fun y as M r M' h => by
    obtain ⟨n, hn⟩ := zF_ex (show zF T (zE T d) y 0 (zloc (T y).1 as) [] M = some (r, M') from h)
    exact zrun_le (zE_ok T d) _ _ _ _ _ _ _ hn
theorem zrun_E {T : zTab} {E1 E2 : zE0} (h1 : zEok E1) (h2 : zEok E2) (hE : zEle E1 E2) {y : Nat} : ∀ n, zKle (zrun T E1 y n) (zrun T E2 y n) := by
  intro n
  induction n with
  | zero => intro pc l st M res h; cases h
  | succ n ih =>
    intro pc l st M res h
    unfold zrun at h ⊢
    split at h
    · cases h
    · rename_i q hq
      exact zstep_E hE (zstep_K h1 (fun pc l st M res h => ih _ _ _ _ _ h) h)
theorem zE_succ (T : zTab) : ∀ d, zEle (zE T d) (zE T (d + 1))
  | 0 => fun _ _ _ _ h => by cases h
  | d + 1 => fun y as M res h => by
    obtain ⟨n, hn⟩ := zF_ex (show zF T (zE T d) y 0 (zloc (T y).1 as) [] M = some res from h)
    exact zF_of (zE_ok T (d + 1)) (zrun_E (zE_ok T d) (zE_ok T (d + 1)) (zE_succ T d) n _ _ _ _ _ hn)
theorem zE_mono (T : zTab) {d k : Nat} (hk : d ≤ k) {y : Nat} {as : List Value} {M : zM} {res : Option Value × zM} (h : zE T d y as M = some res) : zE T k y as M = some res := by
  induction hk with
  | refl => exact h
  | step _ ih => exact zE_succ T _ _ _ _ _ ih
theorem zEn_ok (T : zTab) (n : Nat) : ∀ d, zEok (zEn T n d)
  | 0 => fun _ _ _ _ _ h => by cases h
  | d + 1 => fun y as M r M' h => zrun_le (zEn_ok T n d) _ _ _ _ _ _ _ h
theorem zE_of (T : zTab) (n : Nat) : ∀ d, zEle (zEn T n d) (zE T d)
  | 0 => fun _ _ _ _ h => by cases h
  | d + 1 => fun y as M res h => zF_of (zE_ok T d) (zrun_E (zEn_ok T n d) (zE_ok T d) (zE_of T n d) n _ _ _ _ _ h)
/-- a stretch of steps, up to a head of a loop: what a region's equation says -/
def zsg (m : zMi) (E : zE0) (K : zKt) : Nat → zKt
  | 0, pc, l, st, M => K pc l st M
  | n + 1, pc, l, st, M => match zat m.2.2.1 pc with
    | none => none
    | some q => zstep E m.2.1 q.1 q.2.2 pc l st M (fun pc' l' st' M' => match zhd m.2.2.2 pc' with
      | none => zsg m E K n pc' l' st' M'
      | some ds => K pc' (zforget ds l') st' M')
theorem zstep_congr {E : zE0} {rt : Nat} {i : Instr} {r : List Nat} {pc : Nat} {l : zLs} {st : List Value} {M : zM} {K1 K2 : zKt} (h : ∀ pc l st M, K1 pc l st M = K2 pc l st M) : zstep E rt i r pc l st M K1 = zstep E rt i r pc l st M K2 := by
  have e : K1 = K2 := by funext a b c d; exact h a b c d
  rw [e]
theorem zF_sg {T : zTab} {E : zE0} (hE : zEok E) {y : Nat} {m : zMi} (hm : T y = m) : ∀ (n pc : Nat) (l : zLs) (st : List Value) (M : zM), zF T E y pc l st M = zsg m E (zF T E y) n pc l st M := by
  subst hm
  intro n
  induction n with
  | zero => intro pc l st M; rfl
  | succ n ih =>
    intro pc l st M
    rw [zF_eq hE]
    unfold zgo zsg
    split
    · rfl
    · refine zstep_congr fun pc' l' st' M' => ?_
      unfold zfg
      split
      · exact ih _ _ _ _
      · rfl
/-! names for what a region's equation shares -/
def zbi (x : Int32) (f : Int32 → zO) : zO := f x
def zbl (x : Int64) (f : Int64 → zO) : zO := f x
def zbm (M : zM) (f : zM → zO) : zO := f M
end
