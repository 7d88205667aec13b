section
-- ===== PART A: goes FIRST, ahead of the names: the tables' words, and 'selects' of the private methods out of them =====
/-- a private method of a class that the tables say can be made, by its rows of tables_1 -/
def lw_okq (q : MethodName × Nat) : Prop := (q.1.cls ≠ "java/lang/invoke/MethodHandle" ∧ q.1.cls ≠ "java/lang/invoke/VarHandle") ∧ Cond.instantiable q.1.cls q.2 ∈ tables_1 ∧ Cond.privateMethod q.1 ∈ tables_1 ∧ Cond.instanceMethod q.1 ∈ tables_1
theorem lw_p0 : lw_okq (⟨"PromiseTries$Tape", "advanceNumber", "(I)V"⟩, 8) := ⟨⟨by decide +kernel, by decide +kernel⟩, List.mem_of_getElem? (i := 30) (by decide +kernel), List.mem_of_getElem? (i := 353) (by decide +kernel), List.mem_of_getElem? (i := 354) (by decide +kernel)⟩
theorem lw_p1 : lw_okq (⟨"PromiseTries$Reader", "readPromise", "(LPromiseTries$Pledge;)Z"⟩, 3) := ⟨⟨by decide +kernel, by decide +kernel⟩, List.mem_of_getElem? (i := 24) (by decide +kernel), List.mem_of_getElem? (i := 373) (by decide +kernel), List.mem_of_getElem? (i := 374) (by decide +kernel)⟩
theorem lw_p2 : lw_okq (⟨"PromiseTries$Reader", "readChoice", "(I)Z"⟩, 3) := ⟨⟨by decide +kernel, by decide +kernel⟩, List.mem_of_getElem? (i := 24) (by decide +kernel), List.mem_of_getElem? (i := 385) (by decide +kernel), List.mem_of_getElem? (i := 386) (by decide +kernel)⟩
theorem lw_p3 : lw_okq (⟨"PromiseTries$Reader", "readChain", "(I)Z"⟩, 3) := ⟨⟨by decide +kernel, by decide +kernel⟩, List.mem_of_getElem? (i := 24) (by decide +kernel), List.mem_of_getElem? (i := 389) (by decide +kernel), List.mem_of_getElem? (i := 390) (by decide +kernel)⟩
theorem lw_p4 : lw_okq (⟨"PromiseTries$Reader", "readRepeated", "(I)Z"⟩, 3) := ⟨⟨by decide +kernel, by decide +kernel⟩, List.mem_of_getElem? (i := 24) (by decide +kernel), List.mem_of_getElem? (i := 393) (by decide +kernel), List.mem_of_getElem? (i := 394) (by decide +kernel)⟩
theorem lw_p5 : lw_okq (⟨"PromiseTries$Reader", "readPart", "(I)Z"⟩, 3) := ⟨⟨by decide +kernel, by decide +kernel⟩, List.mem_of_getElem? (i := 24) (by decide +kernel), List.mem_of_getElem? (i := 397) (by decide +kernel), List.mem_of_getElem? (i := 398) (by decide +kernel)⟩
theorem lw_p6 : lw_okq (⟨"PromiseTries$Reader", "readCondition", "(I)Z"⟩, 3) := ⟨⟨by decide +kernel, by decide +kernel⟩, List.mem_of_getElem? (i := 24) (by decide +kernel), List.mem_of_getElem? (i := 401) (by decide +kernel), List.mem_of_getElem? (i := 402) (by decide +kernel)⟩
theorem lw_p7 : lw_okq (⟨"PromiseTries$Reader", "readPlain", "(I)Z"⟩, 3) := ⟨⟨by decide +kernel, by decide +kernel⟩, List.mem_of_getElem? (i := 24) (by decide +kernel), List.mem_of_getElem? (i := 406) (by decide +kernel), List.mem_of_getElem? (i := 407) (by decide +kernel)⟩
theorem lw_p8 : lw_okq (⟨"PromiseTries$Reader", "readAnyOf", "(I)Z"⟩, 3) := ⟨⟨by decide +kernel, by decide +kernel⟩, List.mem_of_getElem? (i := 24) (by decide +kernel), List.mem_of_getElem? (i := 420) (by decide +kernel), List.mem_of_getElem? (i := 421) (by decide +kernel)⟩
theorem lw_p9 : lw_okq (⟨"PromiseTries$Reader", "readAllOf", "(I)Z"⟩, 3) := ⟨⟨by decide +kernel, by decide +kernel⟩, List.mem_of_getElem? (i := 24) (by decide +kernel), List.mem_of_getElem? (i := 424) (by decide +kernel), List.mem_of_getElem? (i := 425) (by decide +kernel)⟩
theorem lw_p10 : lw_okq (⟨"PromiseTries$Reader", "readNumber", "(I)Z"⟩, 3) := ⟨⟨by decide +kernel, by decide +kernel⟩, List.mem_of_getElem? (i := 24) (by decide +kernel), List.mem_of_getElem? (i := 452) (by decide +kernel), List.mem_of_getElem? (i := 453) (by decide +kernel)⟩
theorem lw_p11 : lw_okq (⟨"PromiseTries$Builder", "chainCopies", "(IIII)V"⟩, 7) := ⟨⟨by decide +kernel, by decide +kernel⟩, List.mem_of_getElem? (i := 82) (by decide +kernel), List.mem_of_getElem? (i := 467) (by decide +kernel), List.mem_of_getElem? (i := 468) (by decide +kernel)⟩
theorem lw_p12 : lw_okq (⟨"PromiseTries$Reader", "readOff", "(LPromiseTries$Pledge;)Z"⟩, 3) := ⟨⟨by decide +kernel, by decide +kernel⟩, List.mem_of_getElem? (i := 24) (by decide +kernel), List.mem_of_getElem? (i := 504) (by decide +kernel), List.mem_of_getElem? (i := 505) (by decide +kernel)⟩
theorem lw_p13 : lw_okq (⟨"PromiseTries", "watchAnew", "()V"⟩, 12) := ⟨⟨by decide +kernel, by decide +kernel⟩, List.mem_of_getElem? (i := 16) (by decide +kernel), List.mem_of_getElem? (i := 509) (by decide +kernel), List.mem_of_getElem? (i := 510) (by decide +kernel)⟩
theorem lw_p14 : lw_okq (⟨"PromiseTries", "watchOf", "(I)LPromiseTries$Watch;"⟩, 12) := ⟨⟨by decide +kernel, by decide +kernel⟩, List.mem_of_getElem? (i := 16) (by decide +kernel), List.mem_of_getElem? (i := 525) (by decide +kernel), List.mem_of_getElem? (i := 526) (by decide +kernel)⟩
theorem lw_p15 : lw_okq (⟨"PromiseTries$Watch", "takeIn", "(LPromiseTries$Pledge;I)V"⟩, 9) := ⟨⟨by decide +kernel, by decide +kernel⟩, List.mem_of_getElem? (i := 233) (by decide +kernel), List.mem_of_getElem? (i := 533) (by decide +kernel), List.mem_of_getElem? (i := 534) (by decide +kernel)⟩
def lw_privs_1 : List (MethodName × Nat) := [(⟨"PromiseTries$Tape", "advanceNumber", "(I)V"⟩, 8), (⟨"PromiseTries$Reader", "readPromise", "(LPromiseTries$Pledge;)Z"⟩, 3), (⟨"PromiseTries$Reader", "readChoice", "(I)Z"⟩, 3), (⟨"PromiseTries$Reader", "readChain", "(I)Z"⟩, 3), (⟨"PromiseTries$Reader", "readRepeated", "(I)Z"⟩, 3), (⟨"PromiseTries$Reader", "readPart", "(I)Z"⟩, 3), (⟨"PromiseTries$Reader", "readCondition", "(I)Z"⟩, 3), (⟨"PromiseTries$Reader", "readPlain", "(I)Z"⟩, 3), (⟨"PromiseTries$Reader", "readAnyOf", "(I)Z"⟩, 3), (⟨"PromiseTries$Reader", "readAllOf", "(I)Z"⟩, 3), (⟨"PromiseTries$Reader", "readNumber", "(I)Z"⟩, 3), (⟨"PromiseTries$Builder", "chainCopies", "(IIII)V"⟩, 7), (⟨"PromiseTries$Reader", "readOff", "(LPromiseTries$Pledge;)Z"⟩, 3), (⟨"PromiseTries", "watchAnew", "()V"⟩, 12), (⟨"PromiseTries", "watchOf", "(I)LPromiseTries$Watch;"⟩, 12), (⟨"PromiseTries$Watch", "takeIn", "(LPromiseTries$Pledge;I)V"⟩, 9)]
theorem lw_r1 : ∀ q ∈ lw_privs_1, lw_okq q := List.forall_mem_cons.mpr ⟨lw_p0, List.forall_mem_cons.mpr ⟨lw_p1, List.forall_mem_cons.mpr ⟨lw_p2, List.forall_mem_cons.mpr ⟨lw_p3, List.forall_mem_cons.mpr ⟨lw_p4, List.forall_mem_cons.mpr ⟨lw_p5, List.forall_mem_cons.mpr ⟨lw_p6, List.forall_mem_cons.mpr ⟨lw_p7, List.forall_mem_cons.mpr ⟨lw_p8, List.forall_mem_cons.mpr ⟨lw_p9, List.forall_mem_cons.mpr ⟨lw_p10, List.forall_mem_cons.mpr ⟨lw_p11, List.forall_mem_cons.mpr ⟨lw_p12, List.forall_mem_cons.mpr ⟨lw_p13, List.forall_mem_cons.mpr ⟨lw_p14, List.forall_mem_cons.mpr ⟨lw_p15, fun _ h => absurd h List.not_mem_nil⟩⟩⟩⟩⟩⟩⟩⟩⟩⟩⟩⟩⟩⟩⟩⟩
theorem lw_p16 : lw_okq (⟨"PromiseTries$Watch", "moveDuties", "(LPromiseTries$Sequence;J)V"⟩, 9) := ⟨⟨by decide +kernel, by decide +kernel⟩, List.mem_of_getElem? (i := 233) (by decide +kernel), List.mem_of_getElem? (i := 544) (by decide +kernel), List.mem_of_getElem? (i := 545) (by decide +kernel)⟩
theorem lw_p17 : lw_okq (⟨"PromiseTries$Watch", "settleDuty", "(LPromiseTries$Sequence;I)V"⟩, 9) := ⟨⟨by decide +kernel, by decide +kernel⟩, List.mem_of_getElem? (i := 233) (by decide +kernel), List.mem_of_getElem? (i := 552) (by decide +kernel), List.mem_of_getElem? (i := 553) (by decide +kernel)⟩
theorem lw_p18 : lw_okq (⟨"PromiseTries$Watch", "moveTries", "(LPromiseTries$Sequence;J)Z"⟩, 9) := ⟨⟨by decide +kernel, by decide +kernel⟩, List.mem_of_getElem? (i := 233) (by decide +kernel), List.mem_of_getElem? (i := 564) (by decide +kernel), List.mem_of_getElem? (i := 565) (by decide +kernel)⟩
theorem lw_p19 : lw_okq (⟨"PromiseTries$Watch", "beginDuty", "(LPromiseTries$Pledge;J)V"⟩, 9) := ⟨⟨by decide +kernel, by decide +kernel⟩, List.mem_of_getElem? (i := 233) (by decide +kernel), List.mem_of_getElem? (i := 568) (by decide +kernel), List.mem_of_getElem? (i := 569) (by decide +kernel)⟩
theorem lw_p20 : lw_okq (⟨"PromiseTries$Watch", "judgeTries", "(LPromiseTries$Pledge;Z)V"⟩, 9) := ⟨⟨by decide +kernel, by decide +kernel⟩, List.mem_of_getElem? (i := 233) (by decide +kernel), List.mem_of_getElem? (i := 577) (by decide +kernel), List.mem_of_getElem? (i := 578) (by decide +kernel)⟩
theorem lw_p21 : lw_okq (⟨"PromiseTries$Watch", "judge", "(LPromiseTries$Sequence;I)I"⟩, 9) := ⟨⟨by decide +kernel, by decide +kernel⟩, List.mem_of_getElem? (i := 233) (by decide +kernel), List.mem_of_getElem? (i := 581) (by decide +kernel), List.mem_of_getElem? (i := 582) (by decide +kernel)⟩
theorem lw_p22 : lw_okq (⟨"PromiseTries", "isPromise", "(I)Z"⟩, 12) := ⟨⟨by decide +kernel, by decide +kernel⟩, List.mem_of_getElem? (i := 16) (by decide +kernel), List.mem_of_getElem? (i := 599) (by decide +kernel), List.mem_of_getElem? (i := 600) (by decide +kernel)⟩
theorem lw_p23 : lw_okq (⟨"PromiseTries", "isCondition", "(III)Z"⟩, 12) := ⟨⟨by decide +kernel, by decide +kernel⟩, List.mem_of_getElem? (i := 16) (by decide +kernel), List.mem_of_getElem? (i := 607) (by decide +kernel), List.mem_of_getElem? (i := 608) (by decide +kernel)⟩
theorem lw_p24 : lw_okq (⟨"PromiseTries", "isTick", "(I)Z"⟩, 12) := ⟨⟨by decide +kernel, by decide +kernel⟩, List.mem_of_getElem? (i := 16) (by decide +kernel), List.mem_of_getElem? (i := 659) (by decide +kernel), List.mem_of_getElem? (i := 660) (by decide +kernel)⟩
theorem lw_p25 : lw_okq (⟨"PromiseTries", "isTry", "(II)Z"⟩, 12) := ⟨⟨by decide +kernel, by decide +kernel⟩, List.mem_of_getElem? (i := 16) (by decide +kernel), List.mem_of_getElem? (i := 686) (by decide +kernel), List.mem_of_getElem? (i := 687) (by decide +kernel)⟩
theorem lw_p26 : lw_okq (⟨"PromiseTries", "howManyImages", "()I"⟩, 12) := ⟨⟨by decide +kernel, by decide +kernel⟩, List.mem_of_getElem? (i := 16) (by decide +kernel), List.mem_of_getElem? (i := 781) (by decide +kernel), List.mem_of_getElem? (i := 782) (by decide +kernel)⟩
theorem lw_p27 : lw_okq (⟨"PromiseTriesModel", "reads", "()V"⟩, 52) := ⟨⟨by decide +kernel, by decide +kernel⟩, List.mem_of_getElem? (i := 785) (by decide +kernel), List.mem_of_getElem? (i := 970) (by decide +kernel), List.mem_of_getElem? (i := 971) (by decide +kernel)⟩
theorem lw_p28 : lw_okq (⟨"PromiseTriesModel", "byteAt", "(I)I"⟩, 52) := ⟨⟨by decide +kernel, by decide +kernel⟩, List.mem_of_getElem? (i := 785) (by decide +kernel), List.mem_of_getElem? (i := 974) (by decide +kernel), List.mem_of_getElem? (i := 975) (by decide +kernel)⟩
theorem lw_p29 : lw_okq (⟨"PromiseTriesModel", "requires", "(ZI)V"⟩, 52) := ⟨⟨by decide +kernel, by decide +kernel⟩, List.mem_of_getElem? (i := 785) (by decide +kernel), List.mem_of_getElem? (i := 980) (by decide +kernel), List.mem_of_getElem? (i := 981) (by decide +kernel)⟩
theorem lw_p30 : lw_okq (⟨"PromiseTriesModel", "readPromise", "(I)V"⟩, 52) := ⟨⟨by decide +kernel, by decide +kernel⟩, List.mem_of_getElem? (i := 785) (by decide +kernel), List.mem_of_getElem? (i := 989) (by decide +kernel), List.mem_of_getElem? (i := 990) (by decide +kernel)⟩
theorem lw_p31 : lw_okq (⟨"PromiseTriesModel", "isBegin", "()Z"⟩, 52) := ⟨⟨by decide +kernel, by decide +kernel⟩, List.mem_of_getElem? (i := 785) (by decide +kernel), List.mem_of_getElem? (i := 993) (by decide +kernel), List.mem_of_getElem? (i := 994) (by decide +kernel)⟩
def lw_privs_2 : List (MethodName × Nat) := [(⟨"PromiseTries$Watch", "moveDuties", "(LPromiseTries$Sequence;J)V"⟩, 9), (⟨"PromiseTries$Watch", "settleDuty", "(LPromiseTries$Sequence;I)V"⟩, 9), (⟨"PromiseTries$Watch", "moveTries", "(LPromiseTries$Sequence;J)Z"⟩, 9), (⟨"PromiseTries$Watch", "beginDuty", "(LPromiseTries$Pledge;J)V"⟩, 9), (⟨"PromiseTries$Watch", "judgeTries", "(LPromiseTries$Pledge;Z)V"⟩, 9), (⟨"PromiseTries$Watch", "judge", "(LPromiseTries$Sequence;I)I"⟩, 9), (⟨"PromiseTries", "isPromise", "(I)Z"⟩, 12), (⟨"PromiseTries", "isCondition", "(III)Z"⟩, 12), (⟨"PromiseTries", "isTick", "(I)Z"⟩, 12), (⟨"PromiseTries", "isTry", "(II)Z"⟩, 12), (⟨"PromiseTries", "howManyImages", "()I"⟩, 12), (⟨"PromiseTriesModel", "reads", "()V"⟩, 52), (⟨"PromiseTriesModel", "byteAt", "(I)I"⟩, 52), (⟨"PromiseTriesModel", "requires", "(ZI)V"⟩, 52), (⟨"PromiseTriesModel", "readPromise", "(I)V"⟩, 52), (⟨"PromiseTriesModel", "isBegin", "()Z"⟩, 52)]
theorem lw_r2 : ∀ q ∈ lw_privs_2, lw_okq q := List.forall_mem_cons.mpr ⟨lw_p16, List.forall_mem_cons.mpr ⟨lw_p17, List.forall_mem_cons.mpr ⟨lw_p18, List.forall_mem_cons.mpr ⟨lw_p19, List.forall_mem_cons.mpr ⟨lw_p20, List.forall_mem_cons.mpr ⟨lw_p21, List.forall_mem_cons.mpr ⟨lw_p22, List.forall_mem_cons.mpr ⟨lw_p23, List.forall_mem_cons.mpr ⟨lw_p24, List.forall_mem_cons.mpr ⟨lw_p25, List.forall_mem_cons.mpr ⟨lw_p26, List.forall_mem_cons.mpr ⟨lw_p27, List.forall_mem_cons.mpr ⟨lw_p28, List.forall_mem_cons.mpr ⟨lw_p29, List.forall_mem_cons.mpr ⟨lw_p30, List.forall_mem_cons.mpr ⟨lw_p31, fun _ h => absurd h List.not_mem_nil⟩⟩⟩⟩⟩⟩⟩⟩⟩⟩⟩⟩⟩⟩⟩⟩
theorem lw_p32 : lw_okq (⟨"PromiseTriesModel", "isSign", "(I)Z"⟩, 52) := ⟨⟨by decide +kernel, by decide +kernel⟩, List.mem_of_getElem? (i := 785) (by decide +kernel), List.mem_of_getElem? (i := 997) (by decide +kernel), List.mem_of_getElem? (i := 998) (by decide +kernel)⟩
theorem lw_p33 : lw_okq (⟨"PromiseTriesModel", "readSequence", "(I)V"⟩, 52) := ⟨⟨by decide +kernel, by decide +kernel⟩, List.mem_of_getElem? (i := 785) (by decide +kernel), List.mem_of_getElem? (i := 1001) (by decide +kernel), List.mem_of_getElem? (i := 1002) (by decide +kernel)⟩
theorem lw_p34 : lw_okq (⟨"PromiseTriesModel", "opensSequence", "()V"⟩, 52) := ⟨⟨by decide +kernel, by decide +kernel⟩, List.mem_of_getElem? (i := 785) (by decide +kernel), List.mem_of_getElem? (i := 1005) (by decide +kernel), List.mem_of_getElem? (i := 1006) (by decide +kernel)⟩
theorem lw_p35 : lw_okq (⟨"PromiseTriesModel", "readBegin", "()V"⟩, 52) := ⟨⟨by decide +kernel, by decide +kernel⟩, List.mem_of_getElem? (i := 785) (by decide +kernel), List.mem_of_getElem? (i := 1009) (by decide +kernel), List.mem_of_getElem? (i := 1010) (by decide +kernel)⟩
theorem lw_p36 : lw_okq (⟨"PromiseTriesModel", "nests", "()V"⟩, 52) := ⟨⟨by decide +kernel, by decide +kernel⟩, List.mem_of_getElem? (i := 785) (by decide +kernel), List.mem_of_getElem? (i := 1013) (by decide +kernel), List.mem_of_getElem? (i := 1014) (by decide +kernel)⟩
theorem lw_p37 : lw_okq (⟨"PromiseTriesModel", "readCondition", "(Z)V"⟩, 52) := ⟨⟨by decide +kernel, by decide +kernel⟩, List.mem_of_getElem? (i := 785) (by decide +kernel), List.mem_of_getElem? (i := 1020) (by decide +kernel), List.mem_of_getElem? (i := 1021) (by decide +kernel)⟩
theorem lw_p38 : lw_okq (⟨"PromiseTriesModel", "opensDepth", "()V"⟩, 52) := ⟨⟨by decide +kernel, by decide +kernel⟩, List.mem_of_getElem? (i := 785) (by decide +kernel), List.mem_of_getElem? (i := 1024) (by decide +kernel), List.mem_of_getElem? (i := 1025) (by decide +kernel)⟩
theorem lw_p39 : lw_okq (⟨"PromiseTriesModel", "readOperand", "()V"⟩, 52) := ⟨⟨by decide +kernel, by decide +kernel⟩, List.mem_of_getElem? (i := 785) (by decide +kernel), List.mem_of_getElem? (i := 1028) (by decide +kernel), List.mem_of_getElem? (i := 1029) (by decide +kernel)⟩
theorem lw_p40 : lw_okq (⟨"PromiseTriesModel", "wires", "(I)V"⟩, 52) := ⟨⟨by decide +kernel, by decide +kernel⟩, List.mem_of_getElem? (i := 785) (by decide +kernel), List.mem_of_getElem? (i := 1032) (by decide +kernel), List.mem_of_getElem? (i := 1033) (by decide +kernel)⟩
theorem lw_p41 : lw_okq (⟨"PromiseTriesModel", "joinsAnds", "()V"⟩, 52) := ⟨⟨by decide +kernel, by decide +kernel⟩, List.mem_of_getElem? (i := 785) (by decide +kernel), List.mem_of_getElem? (i := 1037) (by decide +kernel), List.mem_of_getElem? (i := 1038) (by decide +kernel)⟩
theorem lw_p42 : lw_okq (⟨"PromiseTriesModel", "joinsOrs", "()V"⟩, 52) := ⟨⟨by decide +kernel, by decide +kernel⟩, List.mem_of_getElem? (i := 785) (by decide +kernel), List.mem_of_getElem? (i := 1041) (by decide +kernel), List.mem_of_getElem? (i := 1042) (by decide +kernel)⟩
theorem lw_p43 : lw_okq (⟨"PromiseTriesModel", "onePlace", "()V"⟩, 52) := ⟨⟨by decide +kernel, by decide +kernel⟩, List.mem_of_getElem? (i := 785) (by decide +kernel), List.mem_of_getElem? (i := 1045) (by decide +kernel), List.mem_of_getElem? (i := 1046) (by decide +kernel)⟩
theorem lw_p44 : lw_okq (⟨"PromiseTriesModel", "readEnds", "()V"⟩, 52) := ⟨⟨by decide +kernel, by decide +kernel⟩, List.mem_of_getElem? (i := 785) (by decide +kernel), List.mem_of_getElem? (i := 1049) (by decide +kernel), List.mem_of_getElem? (i := 1050) (by decide +kernel)⟩
theorem lw_p45 : lw_okq (⟨"PromiseTriesModel", "readTimes", "()V"⟩, 52) := ⟨⟨by decide +kernel, by decide +kernel⟩, List.mem_of_getElem? (i := 785) (by decide +kernel), List.mem_of_getElem? (i := 1053) (by decide +kernel), List.mem_of_getElem? (i := 1054) (by decide +kernel)⟩
theorem lw_p46 : lw_okq (⟨"PromiseTriesModel", "readNumber", "(II)I"⟩, 52) := ⟨⟨by decide +kernel, by decide +kernel⟩, List.mem_of_getElem? (i := 785) (by decide +kernel), List.mem_of_getElem? (i := 1057) (by decide +kernel), List.mem_of_getElem? (i := 1058) (by decide +kernel)⟩
theorem lw_p47 : lw_okq (⟨"PromiseTriesModel", "repeats", "(II)V"⟩, 52) := ⟨⟨by decide +kernel, by decide +kernel⟩, List.mem_of_getElem? (i := 785) (by decide +kernel), List.mem_of_getElem? (i := 1064) (by decide +kernel), List.mem_of_getElem? (i := 1065) (by decide +kernel)⟩
def lw_privs_3 : List (MethodName × Nat) := [(⟨"PromiseTriesModel", "isSign", "(I)Z"⟩, 52), (⟨"PromiseTriesModel", "readSequence", "(I)V"⟩, 52), (⟨"PromiseTriesModel", "opensSequence", "()V"⟩, 52), (⟨"PromiseTriesModel", "readBegin", "()V"⟩, 52), (⟨"PromiseTriesModel", "nests", "()V"⟩, 52), (⟨"PromiseTriesModel", "readCondition", "(Z)V"⟩, 52), (⟨"PromiseTriesModel", "opensDepth", "()V"⟩, 52), (⟨"PromiseTriesModel", "readOperand", "()V"⟩, 52), (⟨"PromiseTriesModel", "wires", "(I)V"⟩, 52), (⟨"PromiseTriesModel", "joinsAnds", "()V"⟩, 52), (⟨"PromiseTriesModel", "joinsOrs", "()V"⟩, 52), (⟨"PromiseTriesModel", "onePlace", "()V"⟩, 52), (⟨"PromiseTriesModel", "readEnds", "()V"⟩, 52), (⟨"PromiseTriesModel", "readTimes", "()V"⟩, 52), (⟨"PromiseTriesModel", "readNumber", "(II)I"⟩, 52), (⟨"PromiseTriesModel", "repeats", "(II)V"⟩, 52)]
theorem lw_r3 : ∀ q ∈ lw_privs_3, lw_okq q := List.forall_mem_cons.mpr ⟨lw_p32, List.forall_mem_cons.mpr ⟨lw_p33, List.forall_mem_cons.mpr ⟨lw_p34, List.forall_mem_cons.mpr ⟨lw_p35, List.forall_mem_cons.mpr ⟨lw_p36, List.forall_mem_cons.mpr ⟨lw_p37, List.forall_mem_cons.mpr ⟨lw_p38, List.forall_mem_cons.mpr ⟨lw_p39, List.forall_mem_cons.mpr ⟨lw_p40, List.forall_mem_cons.mpr ⟨lw_p41, List.forall_mem_cons.mpr ⟨lw_p42, List.forall_mem_cons.mpr ⟨lw_p43, List.forall_mem_cons.mpr ⟨lw_p44, List.forall_mem_cons.mpr ⟨lw_p45, List.forall_mem_cons.mpr ⟨lw_p46, List.forall_mem_cons.mpr ⟨lw_p47, fun _ h => absurd h List.not_mem_nil⟩⟩⟩⟩⟩⟩⟩⟩⟩⟩⟩⟩⟩⟩⟩⟩
theorem lw_p48 : lw_okq (⟨"PromiseTriesModel", "placesNow", "()I"⟩, 52) := ⟨⟨by decide +kernel, by decide +kernel⟩, List.mem_of_getElem? (i := 785) (by decide +kernel), List.mem_of_getElem? (i := 1068) (by decide +kernel), List.mem_of_getElem? (i := 1069) (by decide +kernel)⟩
theorem lw_p49 : lw_okq (⟨"PromiseTriesModel", "follows", "(JJ)V"⟩, 52) := ⟨⟨by decide +kernel, by decide +kernel⟩, List.mem_of_getElem? (i := 785) (by decide +kernel), List.mem_of_getElem? (i := 1072) (by decide +kernel), List.mem_of_getElem? (i := 1073) (by decide +kernel)⟩
theorem lw_p50 : lw_okq (⟨"PromiseTriesModel", "chains", "(II)V"⟩, 52) := ⟨⟨by decide +kernel, by decide +kernel⟩, List.mem_of_getElem? (i := 785) (by decide +kernel), List.mem_of_getElem? (i := 1080) (by decide +kernel), List.mem_of_getElem? (i := 1081) (by decide +kernel)⟩
theorem lw_p51 : lw_okq (⟨"PromiseTriesModel", "takes", "(II)V"⟩, 52) := ⟨⟨by decide +kernel, by decide +kernel⟩, List.mem_of_getElem? (i := 785) (by decide +kernel), List.mem_of_getElem? (i := 1084) (by decide +kernel), List.mem_of_getElem? (i := 1085) (by decide +kernel)⟩
theorem lw_p52 : lw_okq (⟨"PromiseTriesModel", "chooses", "(II)V"⟩, 52) := ⟨⟨by decide +kernel, by decide +kernel⟩, List.mem_of_getElem? (i := 785) (by decide +kernel), List.mem_of_getElem? (i := 1091) (by decide +kernel), List.mem_of_getElem? (i := 1092) (by decide +kernel)⟩
theorem lw_p53 : lw_okq (⟨"PromiseTriesModel", "ends", "(I)V"⟩, 52) := ⟨⟨by decide +kernel, by decide +kernel⟩, List.mem_of_getElem? (i := 785) (by decide +kernel), List.mem_of_getElem? (i := 1095) (by decide +kernel), List.mem_of_getElem? (i := 1096) (by decide +kernel)⟩
theorem lw_p54 : lw_okq (⟨"PromiseTriesModel", "isFulfillable", "(II)Z"⟩, 52) := ⟨⟨by decide +kernel, by decide +kernel⟩, List.mem_of_getElem? (i := 785) (by decide +kernel), List.mem_of_getElem? (i := 1099) (by decide +kernel), List.mem_of_getElem? (i := 1100) (by decide +kernel)⟩
theorem lw_p55 : lw_okq (⟨"PromiseTriesModel", "isConditionAsked", "(III)Z"⟩, 52) := ⟨⟨by decide +kernel, by decide +kernel⟩, List.mem_of_getElem? (i := 785) (by decide +kernel), List.mem_of_getElem? (i := 1111) (by decide +kernel), List.mem_of_getElem? (i := 1112) (by decide +kernel)⟩
theorem lw_p56 : lw_okq (⟨"PromiseTriesModel", "isPromise", "(I)Z"⟩, 52) := ⟨⟨by decide +kernel, by decide +kernel⟩, List.mem_of_getElem? (i := 785) (by decide +kernel), List.mem_of_getElem? (i := 1115) (by decide +kernel), List.mem_of_getElem? (i := 1116) (by decide +kernel)⟩
theorem lw_p57 : lw_okq (⟨"PromiseTriesModel", "fulfilsOff", "(II)Z"⟩, 52) := ⟨⟨by decide +kernel, by decide +kernel⟩, List.mem_of_getElem? (i := 785) (by decide +kernel), List.mem_of_getElem? (i := 1124) (by decide +kernel), List.mem_of_getElem? (i := 1125) (by decide +kernel)⟩
theorem lw_p58 : lw_okq (⟨"PromiseTriesModel", "fulfilsOne", "(III)Z"⟩, 52) := ⟨⟨by decide +kernel, by decide +kernel⟩, List.mem_of_getElem? (i := 785) (by decide +kernel), List.mem_of_getElem? (i := 1128) (by decide +kernel), List.mem_of_getElem? (i := 1129) (by decide +kernel)⟩
theorem lw_p59 : lw_okq (⟨"PromiseTriesModel", "findsFulfilling", "(I)V"⟩, 52) := ⟨⟨by decide +kernel, by decide +kernel⟩, List.mem_of_getElem? (i := 785) (by decide +kernel), List.mem_of_getElem? (i := 1144) (by decide +kernel), List.mem_of_getElem? (i := 1145) (by decide +kernel)⟩
theorem lw_p60 : lw_okq (⟨"PromiseTriesModel", "firstOf", "(I)J"⟩, 52) := ⟨⟨by decide +kernel, by decide +kernel⟩, List.mem_of_getElem? (i := 785) (by decide +kernel), List.mem_of_getElem? (i := 1148) (by decide +kernel), List.mem_of_getElem? (i := 1149) (by decide +kernel)⟩
theorem lw_p61 : lw_okq (⟨"PromiseTriesModel", "nextOf", "(IJ)J"⟩, 52) := ⟨⟨by decide +kernel, by decide +kernel⟩, List.mem_of_getElem? (i := 785) (by decide +kernel), List.mem_of_getElem? (i := 1152) (by decide +kernel), List.mem_of_getElem? (i := 1153) (by decide +kernel)⟩
theorem lw_p62 : lw_okq (⟨"PromiseTriesModel", "isEnd", "(IJ)Z"⟩, 52) := ⟨⟨by decide +kernel, by decide +kernel⟩, List.mem_of_getElem? (i := 785) (by decide +kernel), List.mem_of_getElem? (i := 1156) (by decide +kernel), List.mem_of_getElem? (i := 1157) (by decide +kernel)⟩
theorem lw_p63 : lw_okq (⟨"PromiseTriesModel", "canEnd", "(IJ)Z"⟩, 52) := ⟨⟨by decide +kernel, by decide +kernel⟩, List.mem_of_getElem? (i := 785) (by decide +kernel), List.mem_of_getElem? (i := 1164) (by decide +kernel), List.mem_of_getElem? (i := 1165) (by decide +kernel)⟩
def lw_privs_4 : List (MethodName × Nat) := [(⟨"PromiseTriesModel", "placesNow", "()I"⟩, 52), (⟨"PromiseTriesModel", "follows", "(JJ)V"⟩, 52), (⟨"PromiseTriesModel", "chains", "(II)V"⟩, 52), (⟨"PromiseTriesModel", "takes", "(II)V"⟩, 52), (⟨"PromiseTriesModel", "chooses", "(II)V"⟩, 52), (⟨"PromiseTriesModel", "ends", "(I)V"⟩, 52), (⟨"PromiseTriesModel", "isFulfillable", "(II)Z"⟩, 52), (⟨"PromiseTriesModel", "isConditionAsked", "(III)Z"⟩, 52), (⟨"PromiseTriesModel", "isPromise", "(I)Z"⟩, 52), (⟨"PromiseTriesModel", "fulfilsOff", "(II)Z"⟩, 52), (⟨"PromiseTriesModel", "fulfilsOne", "(III)Z"⟩, 52), (⟨"PromiseTriesModel", "findsFulfilling", "(I)V"⟩, 52), (⟨"PromiseTriesModel", "firstOf", "(I)J"⟩, 52), (⟨"PromiseTriesModel", "nextOf", "(IJ)J"⟩, 52), (⟨"PromiseTriesModel", "isEnd", "(IJ)Z"⟩, 52), (⟨"PromiseTriesModel", "canEnd", "(IJ)Z"⟩, 52)]
theorem lw_r4 : ∀ q ∈ lw_privs_4, lw_okq q := List.forall_mem_cons.mpr ⟨lw_p48, List.forall_mem_cons.mpr ⟨lw_p49, List.forall_mem_cons.mpr ⟨lw_p50, List.forall_mem_cons.mpr ⟨lw_p51, List.forall_mem_cons.mpr ⟨lw_p52, List.forall_mem_cons.mpr ⟨lw_p53, List.forall_mem_cons.mpr ⟨lw_p54, List.forall_mem_cons.mpr ⟨lw_p55, List.forall_mem_cons.mpr ⟨lw_p56, List.forall_mem_cons.mpr ⟨lw_p57, List.forall_mem_cons.mpr ⟨lw_p58, List.forall_mem_cons.mpr ⟨lw_p59, List.forall_mem_cons.mpr ⟨lw_p60, List.forall_mem_cons.mpr ⟨lw_p61, List.forall_mem_cons.mpr ⟨lw_p62, List.forall_mem_cons.mpr ⟨lw_p63, fun _ h => absurd h List.not_mem_nil⟩⟩⟩⟩⟩⟩⟩⟩⟩⟩⟩⟩⟩⟩⟩⟩
theorem lw_p64 : lw_okq (⟨"PromiseTriesModel", "isTry", "(II)Z"⟩, 52) := ⟨⟨by decide +kernel, by decide +kernel⟩, List.mem_of_getElem? (i := 785) (by decide +kernel), List.mem_of_getElem? (i := 1177) (by decide +kernel), List.mem_of_getElem? (i := 1178) (by decide +kernel)⟩
theorem lw_p65 : lw_okq (⟨"PromiseTriesModel", "isTick", "(I)Z"⟩, 52) := ⟨⟨by decide +kernel, by decide +kernel⟩, List.mem_of_getElem? (i := 785) (by decide +kernel), List.mem_of_getElem? (i := 1181) (by decide +kernel), List.mem_of_getElem? (i := 1182) (by decide +kernel)⟩
theorem lw_p66 : lw_okq (⟨"PromiseTriesModel", "goesThrough", "(II)V"⟩, 52) := ⟨⟨by decide +kernel, by decide +kernel⟩, List.mem_of_getElem? (i := 785) (by decide +kernel), List.mem_of_getElem? (i := 1185) (by decide +kernel), List.mem_of_getElem? (i := 1186) (by decide +kernel)⟩
theorem lw_p67 : lw_okq (⟨"PromiseTriesModel", "goesOn", "(III)V"⟩, 52) := ⟨⟨by decide +kernel, by decide +kernel⟩, List.mem_of_getElem? (i := 785) (by decide +kernel), List.mem_of_getElem? (i := 1189) (by decide +kernel), List.mem_of_getElem? (i := 1190) (by decide +kernel)⟩
theorem lw_p68 : lw_okq (⟨"PromiseTriesModel", "dies", "(III)V"⟩, 52) := ⟨⟨by decide +kernel, by decide +kernel⟩, List.mem_of_getElem? (i := 785) (by decide +kernel), List.mem_of_getElem? (i := 1193) (by decide +kernel), List.mem_of_getElem? (i := 1194) (by decide +kernel)⟩
theorem lw_p69 : lw_okq (⟨"PromiseTriesModel", "begins", "(II)V"⟩, 52) := ⟨⟨by decide +kernel, by decide +kernel⟩, List.mem_of_getElem? (i := 785) (by decide +kernel), List.mem_of_getElem? (i := 1197) (by decide +kernel), List.mem_of_getElem? (i := 1198) (by decide +kernel)⟩
theorem lw_p70 : lw_okq (⟨"PromiseTriesModel", "verdictBy", "(IIIJ)I"⟩, 52) := ⟨⟨by decide +kernel, by decide +kernel⟩, List.mem_of_getElem? (i := 785) (by decide +kernel), List.mem_of_getElem? (i := 1201) (by decide +kernel), List.mem_of_getElem? (i := 1202) (by decide +kernel)⟩
theorem lw_p71 : lw_okq (⟨"PromiseTriesModel", "isAny", "(III)Z"⟩, 52) := ⟨⟨by decide +kernel, by decide +kernel⟩, List.mem_of_getElem? (i := 785) (by decide +kernel), List.mem_of_getElem? (i := 1205) (by decide +kernel), List.mem_of_getElem? (i := 1206) (by decide +kernel)⟩
theorem lw_p72 : lw_okq (⟨"PromiseTriesModel", "dutiesFrom", "(I)I"⟩, 52) := ⟨⟨by decide +kernel, by decide +kernel⟩, List.mem_of_getElem? (i := 785) (by decide +kernel), List.mem_of_getElem? (i := 1217) (by decide +kernel), List.mem_of_getElem? (i := 1218) (by decide +kernel)⟩
theorem lw_p73 : lw_okq (⟨"PromiseTriesModel", "triesOf", "(II)I"⟩, 52) := ⟨⟨by decide +kernel, by decide +kernel⟩, List.mem_of_getElem? (i := 785) (by decide +kernel), List.mem_of_getElem? (i := 1230) (by decide +kernel), List.mem_of_getElem? (i := 1231) (by decide +kernel)⟩
theorem lw_p74 : lw_okq (⟨"PromiseTriesModel", "allDuties", "()I"⟩, 52) := ⟨⟨by decide +kernel, by decide +kernel⟩, List.mem_of_getElem? (i := 785) (by decide +kernel), List.mem_of_getElem? (i := 1243) (by decide +kernel), List.mem_of_getElem? (i := 1244) (by decide +kernel)⟩
theorem lw_p75 : lw_okq (⟨"PromiseTriesModel", "allTries", "(I)I"⟩, 52) := ⟨⟨by decide +kernel, by decide +kernel⟩, List.mem_of_getElem? (i := 785) (by decide +kernel), List.mem_of_getElem? (i := 1247) (by decide +kernel), List.mem_of_getElem? (i := 1248) (by decide +kernel)⟩
theorem lw_p76 : lw_okq (⟨"PromiseTriesModel", "failedBy", "(I)I"⟩, 52) := ⟨⟨by decide +kernel, by decide +kernel⟩, List.mem_of_getElem? (i := 785) (by decide +kernel), List.mem_of_getElem? (i := 1255) (by decide +kernel), List.mem_of_getElem? (i := 1256) (by decide +kernel)⟩
theorem lw_p77 : lw_okq (⟨"PromiseTriesModel", "gets", "()I"⟩, 52) := ⟨⟨by decide +kernel, by decide +kernel⟩, List.mem_of_getElem? (i := 785) (by decide +kernel), List.mem_of_getElem? (i := 1276) (by decide +kernel), List.mem_of_getElem? (i := 1277) (by decide +kernel)⟩
def lw_privs_5 : List (MethodName × Nat) := [(⟨"PromiseTriesModel", "isTry", "(II)Z"⟩, 52), (⟨"PromiseTriesModel", "isTick", "(I)Z"⟩, 52), (⟨"PromiseTriesModel", "goesThrough", "(II)V"⟩, 52), (⟨"PromiseTriesModel", "goesOn", "(III)V"⟩, 52), (⟨"PromiseTriesModel", "dies", "(III)V"⟩, 52), (⟨"PromiseTriesModel", "begins", "(II)V"⟩, 52), (⟨"PromiseTriesModel", "verdictBy", "(IIIJ)I"⟩, 52), (⟨"PromiseTriesModel", "isAny", "(III)Z"⟩, 52), (⟨"PromiseTriesModel", "dutiesFrom", "(I)I"⟩, 52), (⟨"PromiseTriesModel", "triesOf", "(II)I"⟩, 52), (⟨"PromiseTriesModel", "allDuties", "()I"⟩, 52), (⟨"PromiseTriesModel", "allTries", "(I)I"⟩, 52), (⟨"PromiseTriesModel", "failedBy", "(I)I"⟩, 52), (⟨"PromiseTriesModel", "gets", "()I"⟩, 52)]
theorem lw_r5 : ∀ q ∈ lw_privs_5, lw_okq q := List.forall_mem_cons.mpr ⟨lw_p64, List.forall_mem_cons.mpr ⟨lw_p65, List.forall_mem_cons.mpr ⟨lw_p66, List.forall_mem_cons.mpr ⟨lw_p67, List.forall_mem_cons.mpr ⟨lw_p68, List.forall_mem_cons.mpr ⟨lw_p69, List.forall_mem_cons.mpr ⟨lw_p70, List.forall_mem_cons.mpr ⟨lw_p71, List.forall_mem_cons.mpr ⟨lw_p72, List.forall_mem_cons.mpr ⟨lw_p73, List.forall_mem_cons.mpr ⟨lw_p74, List.forall_mem_cons.mpr ⟨lw_p75, List.forall_mem_cons.mpr ⟨lw_p76, List.forall_mem_cons.mpr ⟨lw_p77, fun _ h => absurd h List.not_mem_nil⟩⟩⟩⟩⟩⟩⟩⟩⟩⟩⟩⟩⟩⟩
def lw_privs : List (MethodName × Nat) := lw_privs_1 ++ (lw_privs_2 ++ (lw_privs_3 ++ (lw_privs_4 ++ (lw_privs_5))))
def lw_tbl : List Cond := k2_sels lw_privs ++ tables_1
theorem lw_privs_ok : ∀ q ∈ lw_privs, lw_okq q := by
  show ∀ q ∈ lw_privs_1 ++ (lw_privs_2 ++ (lw_privs_3 ++ (lw_privs_4 ++ (lw_privs_5)))), lw_okq q
  exact List.forall_mem_append.mpr ⟨lw_r1, List.forall_mem_append.mpr ⟨lw_r2, List.forall_mem_append.mpr ⟨lw_r3, List.forall_mem_append.mpr ⟨lw_r4, lw_r5⟩⟩⟩⟩
end
section
def RX0 : String := "PromiseTries$Builder"
def TX0 : u_T := fun k => match k with
  | 0 => ("PromiseTries$Builder", "begins", "[J", true)
  | 1 => ("PromiseTries$Builder", "ends", "[J", true)
  | 2 => ("PromiseTries$Builder", "lows", "[I", true)
  | 3 => ("PromiseTries$Builder", "fewest", "[I", true)
  | 4 => ("PromiseTries$Builder", "most", "[I", true)
  | 5 => ("PromiseTries$Builder", "depth", "I", false)
  | _ => ("PromiseTries$Builder", "made", "LPromiseTries$Sequence;", false)
def tyX0 : Nat → FieldType := fun k => match k with
  | 0 => .array .long
  | 1 => .array .long
  | 2 => .array .int
  | 3 => .array .int
  | 4 => .array .int
  | 5 => .int
  | _ => .object "PromiseTries$Sequence"
theorem nmX0 : ∀ a, a < 7 → ∀ b, b < 7 → a ≠ b → (TX0 a).2.1 ≠ (TX0 b).2.1 := by decide +kernel
theorem tyX0_ok : ∀ k, k < 7 → parseFieldDescriptor (TX0 k).2.2.1 = some (tyX0 k) := by decide +kernel
abbrev cX0_init : ByteArray := prog_2_method_1_code
def yX0_init : MethodName := ⟨RX0, "<init>", "()V"⟩
abbrev cX0_begin : ByteArray := prog_2_method_2_code
def yX0_begin : MethodName := ⟨RX0, "begin", "(LPromiseTries$Sequence;)V"⟩
abbrev cX0_condition : ByteArray := prog_2_method_3_code
def yX0_condition : MethodName := ⟨RX0, "condition", "(LPromiseTries$TruthStack;)V"⟩
abbrev cX0_chainTwo : ByteArray := prog_2_method_4_code
def yX0_chainTwo : MethodName := ⟨RX0, "chainTwo", "()V"⟩
abbrev cX0_chooseOfTwo : ByteArray := prog_2_method_5_code
def yX0_chooseOfTwo : MethodName := ⟨RX0, "chooseOfTwo", "()V"⟩
abbrev cX0_repeat : ByteArray := prog_2_method_6_code
def yX0_repeat : MethodName := ⟨RX0, "repeat", "(II)V"⟩
abbrev cX0_chainCopies : ByteArray := prog_2_method_7_code
def yX0_chainCopies : MethodName := ⟨RX0, "chainCopies", "(IIII)V"⟩
abbrev cX0_finish : ByteArray := prog_2_method_8_code
def yX0_finish : MethodName := ⟨RX0, "finish", "()V"⟩
def RX1 : String := "PromiseTries$Pledge"
def TX1 : u_T := fun k => match k with
  | 0 => ("PromiseTries$Pledge", "ifSide", "LPromiseTries$Sequence;", true)
  | 1 => ("PromiseTries$Pledge", "thenSide", "LPromiseTries$Sequence;", true)
  | 2 => ("PromiseTries$Pledge", "off", "[J", true)
  | 3 => ("PromiseTries$Pledge", "hasOff", "Z", false)
  | _ => ("PromiseTries$Pledge", "kind", "I", false)
def tyX1 : Nat → FieldType := fun k => match k with
  | 0 => .object "PromiseTries$Sequence"
  | 1 => .object "PromiseTries$Sequence"
  | 2 => .array .long
  | 3 => .boolean
  | _ => .int
theorem nmX1 : ∀ a, a < 5 → ∀ b, b < 5 → a ≠ b → (TX1 a).2.1 ≠ (TX1 b).2.1 := by decide +kernel
theorem tyX1_ok : ∀ k, k < 5 → parseFieldDescriptor (TX1 k).2.2.1 = some (tyX1 k) := by decide +kernel
abbrev cX1_init : ByteArray := prog_3_method_1_code
def yX1_init : MethodName := ⟨RX1, "<init>", "()V"⟩
abbrev cX1_sideOf : ByteArray := prog_3_method_2_code
def yX1_sideOf : MethodName := ⟨RX1, "sideOf", "(I)LPromiseTries$Sequence;"⟩
abbrev cX1_isPutOffBy : ByteArray := prog_3_method_3_code
def yX1_isPutOffBy : MethodName := ⟨RX1, "isPutOffBy", "(I)Z"⟩
def RX2 : String := "PromiseTries$Reader"
def TX2 : u_T := fun k => match k with
  | 0 => ("PromiseTries$Reader", "tape", "LPromiseTries$Tape;", true)
  | 1 => ("PromiseTries$Reader", "stack", "LPromiseTries$TruthStack;", true)
  | _ => ("PromiseTries$Reader", "builder", "LPromiseTries$Builder;", true)
def tyX2 : Nat → FieldType := fun k => match k with
  | 0 => .object "PromiseTries$Tape"
  | 1 => .object "PromiseTries$TruthStack"
  | _ => .object "PromiseTries$Builder"
theorem nmX2 : ∀ a, a < 3 → ∀ b, b < 3 → a ≠ b → (TX2 a).2.1 ≠ (TX2 b).2.1 := by decide +kernel
theorem tyX2_ok : ∀ k, k < 3 → parseFieldDescriptor (TX2 k).2.2.1 = some (tyX2 k) := by decide +kernel
abbrev cX2_init : ByteArray := prog_4_method_1_code
def yX2_init : MethodName := ⟨RX2, "<init>", "()V"⟩
abbrev cX2_readAll : ByteArray := prog_4_method_2_code
def yX2_readAll : MethodName := ⟨RX2, "readAll", "([LPromiseTries$Pledge;)I"⟩
abbrev cX2_readPromise : ByteArray := prog_4_method_3_code
def yX2_readPromise : MethodName := ⟨RX2, "readPromise", "(LPromiseTries$Pledge;)Z"⟩
abbrev cX2_readOff : ByteArray := prog_4_method_4_code
def yX2_readOff : MethodName := ⟨RX2, "readOff", "(LPromiseTries$Pledge;)Z"⟩
abbrev cX2_readChoice : ByteArray := prog_4_method_5_code
def yX2_readChoice : MethodName := ⟨RX2, "readChoice", "(I)Z"⟩
abbrev cX2_readChain : ByteArray := prog_4_method_6_code
def yX2_readChain : MethodName := ⟨RX2, "readChain", "(I)Z"⟩
abbrev cX2_readRepeated : ByteArray := prog_4_method_7_code
def yX2_readRepeated : MethodName := ⟨RX2, "readRepeated", "(I)Z"⟩
abbrev cX2_readNumber : ByteArray := prog_4_method_8_code
def yX2_readNumber : MethodName := ⟨RX2, "readNumber", "(I)Z"⟩
abbrev cX2_readPart : ByteArray := prog_4_method_9_code
def yX2_readPart : MethodName := ⟨RX2, "readPart", "(I)Z"⟩
abbrev cX2_readCondition : ByteArray := prog_4_method_10_code
def yX2_readCondition : MethodName := ⟨RX2, "readCondition", "(I)Z"⟩
abbrev cX2_readPlain : ByteArray := prog_4_method_11_code
def yX2_readPlain : MethodName := ⟨RX2, "readPlain", "(I)Z"⟩
abbrev cX2_readAnyOf : ByteArray := prog_4_method_12_code
def yX2_readAnyOf : MethodName := ⟨RX2, "readAnyOf", "(I)Z"⟩
abbrev cX2_readAllOf : ByteArray := prog_4_method_13_code
def yX2_readAllOf : MethodName := ⟨RX2, "readAllOf", "(I)Z"⟩
def RX3 : String := "PromiseTries$Sequence"
def TX3 : u_T := fun k => match k with
  | 0 => ("PromiseTries$Sequence", "follows", "[J", true)
  | 1 => ("PromiseTries$Sequence", "places", "[J", true)
  | 2 => ("PromiseTries$Sequence", "truths", "[J", true)
  | 3 => ("PromiseTries$Sequence", "ends", "J", false)
  | 4 => ("PromiseTries$Sequence", "useful", "J", false)
  | 5 => ("PromiseTries$Sequence", "onward", "J", false)
  | 6 => ("PromiseTries$Sequence", "conditions", "I", false)
  | 7 => ("PromiseTries$Sequence", "positions", "I", false)
  | 8 => ("PromiseTries$Sequence", "fewest", "I", false)
  | 9 => ("PromiseTries$Sequence", "most", "I", false)
  | _ => ("PromiseTries$Sequence", "tooLong", "Z", false)
def tyX3 : Nat → FieldType := fun k => match k with
  | 0 => .array .long
  | 1 => .array .long
  | 2 => .array .long
  | 3 => .long
  | 4 => .long
  | 5 => .long
  | 6 => .int
  | 7 => .int
  | 8 => .int
  | 9 => .int
  | _ => .boolean
theorem nmX3 : ∀ a, a < 11 → ∀ b, b < 11 → a ≠ b → (TX3 a).2.1 ≠ (TX3 b).2.1 := by decide +kernel
theorem tyX3_ok : ∀ k, k < 11 → parseFieldDescriptor (TX3 k).2.2.1 = some (tyX3 k) := by decide +kernel
abbrev cX3_init : ByteArray := prog_5_method_1_code
def yX3_init : MethodName := ⟨RX3, "<init>", "()V"⟩
abbrev cX3_clear : ByteArray := prog_5_method_2_code
def yX3_clear : MethodName := ⟨RX3, "clear", "()V"⟩
abbrev cX3_addCondition : ByteArray := prog_5_method_3_code
def yX3_addCondition : MethodName := ⟨RX3, "addCondition", "(LPromiseTries$TruthStack;)J"⟩
abbrev cX3_link : ByteArray := prog_5_method_4_code
def yX3_link : MethodName := ⟨RX3, "link", "(JJ)V"⟩
abbrev cX3_copyBlock : ByteArray := prog_5_method_5_code
def yX3_copyBlock : MethodName := ⟨RX3, "copyBlock", "(II)V"⟩
abbrev cX3_findUseful : ByteArray := prog_5_method_6_code
def yX3_findUseful : MethodName := ⟨RX3, "findUseful", "()V"⟩
abbrev cX3_openTo : ByteArray := prog_5_method_7_code
def yX3_openTo : MethodName := ⟨RX3, "openTo", "(I)J"⟩
abbrev cX3_after : ByteArray := prog_5_method_8_code
def yX3_after : MethodName := ⟨RX3, "after", "(JJ)J"⟩
abbrev cX3_walk : ByteArray := prog_5_method_9_code
def yX3_walk : MethodName := ⟨RX3, "walk", "(LPromiseTries$Trace;II)J"⟩
abbrev cX3_hasEnded : ByteArray := prog_5_method_10_code
def yX3_hasEnded : MethodName := ⟨RX3, "hasEnded", "(J)Z"⟩
abbrev cX3_goesOn : ByteArray := prog_5_method_11_code
def yX3_goesOn : MethodName := ⟨RX3, "goesOn", "(J)Z"⟩
def RX4 : String := "PromiseTries$Sheet"
def TX4 : u_T := fun k => match k with
  | 0 => ("PromiseTries$Sheet", "cells", "[I", true)
  | 1 => ("PromiseTries$Sheet", "lane", "I", false)
  | _ => ("PromiseTries$Sheet", "length", "I", false)
def tyX4 : Nat → FieldType := fun k => match k with
  | 0 => .array .int
  | 1 => .int
  | _ => .int
theorem nmX4 : ∀ a, a < 3 → ∀ b, b < 3 → a ≠ b → (TX4 a).2.1 ≠ (TX4 b).2.1 := by decide +kernel
theorem tyX4_ok : ∀ k, k < 3 → parseFieldDescriptor (TX4 k).2.2.1 = some (tyX4 k) := by decide +kernel
abbrev cX4_init : ByteArray := prog_6_method_1_code
def yX4_init : MethodName := ⟨RX4, "<init>", "()V"⟩
abbrev cX4_renew : ByteArray := prog_6_method_2_code
def yX4_renew : MethodName := ⟨RX4, "renew", "(II)V"⟩
abbrev cX4_tearAt : ByteArray := prog_6_method_3_code
def yX4_tearAt : MethodName := ⟨RX4, "tearAt", "(II)I"⟩
abbrev cX4_setCell : ByteArray := prog_6_method_4_code
def yX4_setCell : MethodName := ⟨RX4, "setCell", "(II)V"⟩
def RX5 : String := "PromiseTries$Tape"
def TX5 : u_T := fun k => match k with
  | 0 => ("PromiseTries$Tape", "bytes", "[B", true)
  | 1 => ("PromiseTries$Tape", "length", "I", false)
  | 2 => ("PromiseTries$Tape", "at", "I", false)
  | 3 => ("PromiseTries$Tape", "kind", "I", false)
  | 4 => ("PromiseTries$Tape", "value", "I", false)
  | 5 => ("PromiseTries$Tape", "place", "I", false)
  | 6 => ("PromiseTries$Tape", "firstFault", "I", false)
  | _ => ("PromiseTries$Tape", "faultPlace", "I", false)
def tyX5 : Nat → FieldType := fun k => match k with
  | 0 => .array .byte
  | 1 => .int
  | 2 => .int
  | 3 => .int
  | 4 => .int
  | 5 => .int
  | 6 => .int
  | _ => .int
theorem nmX5 : ∀ a, a < 8 → ∀ b, b < 8 → a ≠ b → (TX5 a).2.1 ≠ (TX5 b).2.1 := by decide +kernel
theorem tyX5_ok : ∀ k, k < 8 → parseFieldDescriptor (TX5 k).2.2.1 = some (tyX5 k) := by decide +kernel
abbrev cX5_init : ByteArray := prog_7_method_1_code
def yX5_init : MethodName := ⟨RX5, "<init>", "()V"⟩
abbrev cX5_begin : ByteArray := prog_7_method_2_code
def yX5_begin : MethodName := ⟨RX5, "begin", "()V"⟩
abbrev cX5_refuse : ByteArray := prog_7_method_3_code
def yX5_refuse : MethodName := ⟨RX5, "refuse", "(I)Z"⟩
abbrev cX5_advance : ByteArray := prog_7_method_4_code
def yX5_advance : MethodName := ⟨RX5, "advance", "()V"⟩
abbrev cX5_advanceNumber : ByteArray := prog_7_method_5_code
def yX5_advanceNumber : MethodName := ⟨RX5, "advanceNumber", "(I)V"⟩
abbrev cX5_isFigure : ByteArray := prog_7_method_6_code
def yX5_isFigure : MethodName := ⟨RX5, "isFigure", "(I)Z"⟩
abbrev cX5_isSign : ByteArray := prog_7_method_7_code
def yX5_isSign : MethodName := ⟨RX5, "isSign", "(I)Z"⟩
abbrev cX5_beginsSequence : ByteArray := prog_7_method_8_code
def yX5_beginsSequence : MethodName := ⟨RX5, "beginsSequence", "()Z"⟩
def RX6 : String := "PromiseTries$Trace"
def TX6 : u_T := fun k => match k with
  | 0 => ("PromiseTries$Trace", "ticks", "[I", true)
  | _ => ("PromiseTries$Trace", "length", "I", false)
def tyX6 : Nat → FieldType := fun k => match k with
  | 0 => .array .int
  | _ => .int
theorem nmX6 : ∀ a, a < 2 → ∀ b, b < 2 → a ≠ b → (TX6 a).2.1 ≠ (TX6 b).2.1 := by decide +kernel
theorem tyX6_ok : ∀ k, k < 2 → parseFieldDescriptor (TX6 k).2.2.1 = some (tyX6 k) := by decide +kernel
abbrev cX6_init : ByteArray := prog_8_method_1_code
def yX6_init : MethodName := ⟨RX6, "<init>", "()V"⟩
abbrev cX6_add : ByteArray := prog_8_method_2_code
def yX6_add : MethodName := ⟨RX6, "add", "(I)V"⟩
abbrev cX6_become : ByteArray := prog_8_method_3_code
def yX6_become : MethodName := ⟨RX6, "become", "(LPromiseTries$Trace;)V"⟩
def RX7 : String := "PromiseTries$TruthStack"
def TX7 : u_T := fun k => match k with
  | 0 => ("PromiseTries$TruthStack", "words", "[J", true)
  | _ => ("PromiseTries$TruthStack", "depth", "I", false)
def tyX7 : Nat → FieldType := fun k => match k with
  | 0 => .array .long
  | _ => .int
theorem nmX7 : ∀ a, a < 2 → ∀ b, b < 2 → a ≠ b → (TX7 a).2.1 ≠ (TX7 b).2.1 := by decide +kernel
theorem tyX7_ok : ∀ k, k < 2 → parseFieldDescriptor (TX7 k).2.2.1 = some (tyX7 k) := by decide +kernel
abbrev cX7_init : ByteArray := prog_9_method_1_code
def yX7_init : MethodName := ⟨RX7, "<init>", "()V"⟩
abbrev cX7_clear : ByteArray := prog_9_method_2_code
def yX7_clear : MethodName := ⟨RX7, "clear", "()V"⟩
abbrev cX7_pushWire : ByteArray := prog_9_method_3_code
def yX7_pushWire : MethodName := ⟨RX7, "pushWire", "(I)V"⟩
abbrev cX7_wordOfWire : ByteArray := prog_9_method_4_code
def yX7_wordOfWire : MethodName := ⟨RX7, "wordOfWire", "(II)J"⟩
abbrev cX7_negate : ByteArray := prog_9_method_5_code
def yX7_negate : MethodName := ⟨RX7, "negate", "()V"⟩
abbrev cX7_joinTwo : ByteArray := prog_9_method_6_code
def yX7_joinTwo : MethodName := ⟨RX7, "joinTwo", "(Z)V"⟩
abbrev cX7_drop : ByteArray := prog_9_method_7_code
def yX7_drop : MethodName := ⟨RX7, "drop", "()V"⟩
abbrev cX7_moveTop : ByteArray := prog_9_method_8_code
def yX7_moveTop : MethodName := ⟨RX7, "moveTop", "([JI)V"⟩
def RX8 : String := "PromiseTries$Watch"
def TX8 : u_T := fun k => match k with
  | 0 => ("PromiseTries$Watch", "ifStates", "[J", true)
  | 1 => ("PromiseTries$Watch", "thenStates", "[J", true)
  | 2 => ("PromiseTries$Watch", "dutyAt", "[I", true)
  | 3 => ("PromiseTries$Watch", "dutySets", "[J", true)
  | 4 => ("PromiseTries$Watch", "verdicts", "[I", true)
  | 5 => ("PromiseTries$Watch", "decidedAt", "[I", true)
  | 6 => ("PromiseTries$Watch", "met", "J", false)
  | 7 => ("PromiseTries$Watch", "broken", "J", false)
  | _ => ("PromiseTries$Watch", "taken", "I", false)
def tyX8 : Nat → FieldType := fun k => match k with
  | 0 => .array .long
  | 1 => .array .long
  | 2 => .array .int
  | 3 => .array .long
  | 4 => .array .int
  | 5 => .array .int
  | 6 => .long
  | 7 => .long
  | _ => .int
theorem nmX8 : ∀ a, a < 9 → ∀ b, b < 9 → a ≠ b → (TX8 a).2.1 ≠ (TX8 b).2.1 := by decide +kernel
theorem tyX8_ok : ∀ k, k < 9 → parseFieldDescriptor (TX8 k).2.2.1 = some (tyX8 k) := by decide +kernel
abbrev cX8_init : ByteArray := prog_10_method_1_code
def yX8_init : MethodName := ⟨RX8, "<init>", "()V"⟩
abbrev cX8_restart : ByteArray := prog_10_method_2_code
def yX8_restart : MethodName := ⟨RX8, "restart", "()V"⟩
abbrev cX8_catchUp : ByteArray := prog_10_method_3_code
def yX8_catchUp : MethodName := ⟨RX8, "catchUp", "(LPromiseTries$Pledge;LPromiseTries$Trace;)V"⟩
abbrev cX8_takeIn : ByteArray := prog_10_method_4_code
def yX8_takeIn : MethodName := ⟨RX8, "takeIn", "(LPromiseTries$Pledge;I)V"⟩
abbrev cX8_moveDuties : ByteArray := prog_10_method_5_code
def yX8_moveDuties : MethodName := ⟨RX8, "moveDuties", "(LPromiseTries$Sequence;J)V"⟩
abbrev cX8_moveTries : ByteArray := prog_10_method_6_code
def yX8_moveTries : MethodName := ⟨RX8, "moveTries", "(LPromiseTries$Sequence;J)Z"⟩
abbrev cX8_beginDuty : ByteArray := prog_10_method_7_code
def yX8_beginDuty : MethodName := ⟨RX8, "beginDuty", "(LPromiseTries$Pledge;J)V"⟩
abbrev cX8_settleDuty : ByteArray := prog_10_method_8_code
def yX8_settleDuty : MethodName := ⟨RX8, "settleDuty", "(LPromiseTries$Sequence;I)V"⟩
abbrev cX8_judgeTries : ByteArray := prog_10_method_9_code
def yX8_judgeTries : MethodName := ⟨RX8, "judgeTries", "(LPromiseTries$Pledge;Z)V"⟩
abbrev cX8_judge : ByteArray := prog_10_method_10_code
def yX8_judge : MethodName := ⟨RX8, "judge", "(LPromiseTries$Sequence;I)I"⟩
abbrev cX8_howMany : ByteArray := prog_10_method_11_code
def yX8_howMany : MethodName := ⟨RX8, "howMany", "(I)I"⟩
abbrev cX8_earliest : ByteArray := prog_10_method_12_code
def yX8_earliest : MethodName := ⟨RX8, "earliest", "(I)I"⟩
abbrev cX8_failedBy : ByteArray := prog_10_method_13_code
def yX8_failedBy : MethodName := ⟨RX8, "failedBy", "(I)I"⟩
abbrev cX8_allDuties : ByteArray := prog_10_method_14_code
def yX8_allDuties : MethodName := ⟨RX8, "allDuties", "()I"⟩
abbrev cX8_dutyTick : ByteArray := prog_10_method_15_code
def yX8_dutyTick : MethodName := ⟨RX8, "dutyTick", "(II)I"⟩
abbrev cX8_dutyState : ByteArray := prog_10_method_16_code
def yX8_dutyState : MethodName := ⟨RX8, "dutyState", "(I)I"⟩
def RX9 : String := "PromiseTries"
def TX9 : u_T := fun k => match k with
  | 0 => ("PromiseTries", "reader", "LPromiseTries$Reader;", true)
  | 1 => ("PromiseTries", "tape", "LPromiseTries$Tape;", true)
  | 2 => ("PromiseTries", "watches", "[LPromiseTries$Watch;", true)
  | 3 => ("PromiseTries", "trace", "LPromiseTries$Trace;", true)
  | 4 => ("PromiseTries", "images", "[LPromiseTries$Trace;", true)
  | 5 => ("PromiseTries", "kept", "[Z", true)
  | 6 => ("PromiseTries", "sheets", "[LPromiseTries$Sheet;", true)
  | 7 => ("PromiseTries", "told", "[LPromiseTries$Pledge;", false)
  | 8 => ("PromiseTries", "spare", "[LPromiseTries$Pledge;", false)
  | 9 => ("PromiseTries", "promises", "I", false)
  | 10 => ("PromiseTries", "latestFault", "I", false)
  | _ => ("PromiseTries", "latestTear", "I", false)
def tyX9 : Nat → FieldType := fun k => match k with
  | 0 => .object "PromiseTries$Reader"
  | 1 => .object "PromiseTries$Tape"
  | 2 => .array (.object "PromiseTries$Watch")
  | 3 => .object "PromiseTries$Trace"
  | 4 => .array (.object "PromiseTries$Trace")
  | 5 => .array .boolean
  | 6 => .array (.object "PromiseTries$Sheet")
  | 7 => .array (.object "PromiseTries$Pledge")
  | 8 => .array (.object "PromiseTries$Pledge")
  | 9 => .int
  | 10 => .int
  | _ => .int
theorem nmX9 : ∀ a, a < 12 → ∀ b, b < 12 → a ≠ b → (TX9 a).2.1 ≠ (TX9 b).2.1 := by decide +kernel
theorem tyX9_ok : ∀ k, k < 12 → parseFieldDescriptor (TX9 k).2.2.1 = some (tyX9 k) := by decide +kernel
abbrev cX9_init : ByteArray := prog_1_method_1_code
def yX9_init : MethodName := ⟨RX9, "<init>", "()V"⟩
abbrev cX9_feed : ByteArray := prog_1_method_2_code
def yX9_feed : MethodName := ⟨RX9, "feed", "(I)I"⟩
abbrev cX9_end : ByteArray := prog_1_method_3_code
def yX9_end : MethodName := ⟨RX9, "end", "(I)I"⟩
abbrev cX9_text : ByteArray := prog_1_method_4_code
def yX9_text : MethodName := ⟨RX9, "text", "()I"⟩
abbrev cX9_fault : ByteArray := prog_1_method_5_code
def yX9_fault : MethodName := ⟨RX9, "fault", "()I"⟩
abbrev cX9_rule : ByteArray := prog_1_method_6_code
def yX9_rule : MethodName := ⟨RX9, "rule", "(I)I"⟩
abbrev cX9_promise : ByteArray := prog_1_method_7_code
def yX9_promise : MethodName := ⟨RX9, "promise", "(II)I"⟩
abbrev cX9_fulfils : ByteArray := prog_1_method_8_code
def yX9_fulfils : MethodName := ⟨RX9, "fulfils", "(IIII)I"⟩
abbrev cX9_fulfilled : ByteArray := prog_1_method_9_code
def yX9_fulfilled : MethodName := ⟨RX9, "fulfilled", "(III)I"⟩
abbrev cX9_matches : ByteArray := prog_1_method_10_code
def yX9_matches : MethodName := ⟨RX9, "matches", "(IIII)I"⟩
abbrev cX9_might : ByteArray := prog_1_method_11_code
def yX9_might : MethodName := ⟨RX9, "might", "(III)I"⟩
abbrev cX9_tick : ByteArray := prog_1_method_12_code
def yX9_tick : MethodName := ⟨RX9, "tick", "(I)I"⟩
abbrev cX9_bits : ByteArray := prog_1_method_13_code
def yX9_bits : MethodName := ⟨RX9, "bits", "(I)I"⟩
abbrev cX9_put : ByteArray := prog_1_method_14_code
def yX9_put : MethodName := ⟨RX9, "put", "(II)I"⟩
abbrev cX9_keeps : ByteArray := prog_1_method_15_code
def yX9_keeps : MethodName := ⟨RX9, "keeps", "(I)I"⟩
abbrev cX9_draw : ByteArray := prog_1_method_16_code
def yX9_draw : MethodName := ⟨RX9, "draw", "(II)I"⟩
abbrev cX9_verdict : ByteArray := prog_1_method_17_code
def yX9_verdict : MethodName := ⟨RX9, "verdict", "(II)I"⟩
abbrev cX9_decided : ByteArray := prog_1_method_18_code
def yX9_decided : MethodName := ⟨RX9, "decided", "(II)I"⟩
abbrev cX9_duties : ByteArray := prog_1_method_19_code
def yX9_duties : MethodName := ⟨RX9, "duties", "(II)I"⟩
abbrev cX9_duty : ByteArray := prog_1_method_20_code
def yX9_duty : MethodName := ⟨RX9, "duty", "(IIII)I"⟩
abbrev cX9_tries : ByteArray := prog_1_method_21_code
def yX9_tries : MethodName := ⟨RX9, "tries", "(II)I"⟩
abbrev cX9_first : ByteArray := prog_1_method_22_code
def yX9_first : MethodName := ⟨RX9, "first", "(II)I"⟩
abbrev cX9_keep : ByteArray := prog_1_method_23_code
def yX9_keep : MethodName := ⟨RX9, "keep", "(I)I"⟩
abbrev cX9_back : ByteArray := prog_1_method_24_code
def yX9_back : MethodName := ⟨RX9, "back", "(I)I"⟩
abbrev cX9_sheet : ByteArray := prog_1_method_25_code
def yX9_sheet : MethodName := ⟨RX9, "sheet", "(III)I"⟩
abbrev cX9_lay : ByteArray := prog_1_method_26_code
def yX9_lay : MethodName := ⟨RX9, "lay", "(III)I"⟩
abbrev cX9_run : ByteArray := prog_1_method_27_code
def yX9_run : MethodName := ⟨RX9, "run", "(IIII)I"⟩
abbrev cX9_torn : ByteArray := prog_1_method_28_code
def yX9_torn : MethodName := ⟨RX9, "torn", "()I"⟩
abbrev cX9_count : ByteArray := prog_1_method_29_code
def yX9_count : MethodName := ⟨RX9, "count", "(I)I"⟩
abbrev cX9_isPromise : ByteArray := prog_1_method_30_code
def yX9_isPromise : MethodName := ⟨RX9, "isPromise", "(I)Z"⟩
abbrev cX9_isTick : ByteArray := prog_1_method_31_code
def yX9_isTick : MethodName := ⟨RX9, "isTick", "(I)Z"⟩
abbrev cX9_isTry : ByteArray := prog_1_method_32_code
def yX9_isTry : MethodName := ⟨RX9, "isTry", "(II)Z"⟩
abbrev cX9_isCondition : ByteArray := prog_1_method_33_code
def yX9_isCondition : MethodName := ⟨RX9, "isCondition", "(III)Z"⟩
abbrev cX9_isBits : ByteArray := prog_1_method_34_code
def yX9_isBits : MethodName := ⟨RX9, "isBits", "(I)Z"⟩
abbrev cX9_isSide : ByteArray := prog_1_method_35_code
def yX9_isSide : MethodName := ⟨RX9, "isSide", "(I)Z"⟩
abbrev cX9_isVerdict : ByteArray := prog_1_method_36_code
def yX9_isVerdict : MethodName := ⟨RX9, "isVerdict", "(I)Z"⟩
abbrev cX9_isImage : ByteArray := prog_1_method_37_code
def yX9_isImage : MethodName := ⟨RX9, "isImage", "(I)Z"⟩
abbrev cX9_isSheet : ByteArray := prog_1_method_38_code
def yX9_isSheet : MethodName := ⟨RX9, "isSheet", "(I)Z"⟩
abbrev cX9_isLane : ByteArray := prog_1_method_39_code
def yX9_isLane : MethodName := ⟨RX9, "isLane", "(I)Z"⟩
abbrev cX9_nextSeed : ByteArray := prog_1_method_40_code
def yX9_nextSeed : MethodName := ⟨RX9, "nextSeed", "(I)I"⟩
abbrev cX9_got : ByteArray := prog_1_method_41_code
def yX9_got : MethodName := ⟨RX9, "got", "(I)I"⟩
abbrev cX9_howManyImages : ByteArray := prog_1_method_42_code
def yX9_howManyImages : MethodName := ⟨RX9, "howManyImages", "()I"⟩
abbrev cX9_watchOf : ByteArray := prog_1_method_43_code
def yX9_watchOf : MethodName := ⟨RX9, "watchOf", "(I)LPromiseTries$Watch;"⟩
abbrev cX9_watchAnew : ByteArray := prog_1_method_44_code
def yX9_watchAnew : MethodName := ⟨RX9, "watchAnew", "()V"⟩
abbrev cX9_isFulfilled : ByteArray := prog_1_method_45_code
def yX9_isFulfilled : MethodName := ⟨RX9, "isFulfilled", "([JII)Z"⟩
abbrev cX9_howManyFulfil : ByteArray := prog_1_method_46_code
def yX9_howManyFulfil : MethodName := ⟨RX9, "howManyFulfil", "([JI)I"⟩
def RX10 : String := "PromiseTriesModel"
def TX10 : u_T := fun k => match k with
  | 0 => ("PromiseTriesModel", "sides", "[I", true)
  | 1 => ("PromiseTriesModel", "draftSides", "[I", true)
  | 2 => ("PromiseTriesModel", "bits", "[J", true)
  | 3 => ("PromiseTriesModel", "draftBits", "[J", true)
  | 4 => ("PromiseTriesModel", "heads", "[I", true)
  | 5 => ("PromiseTriesModel", "draftHeads", "[I", true)
  | 6 => ("PromiseTriesModel", "offs", "[J", true)
  | 7 => ("PromiseTriesModel", "draftOffs", "[J", true)
  | 8 => ("PromiseTriesModel", "promises", "I", false)
  | 9 => ("PromiseTriesModel", "trace", "[I", true)
  | 10 => ("PromiseTriesModel", "kept", "[I", true)
  | 11 => ("PromiseTriesModel", "isKept", "[Z", true)
  | 12 => ("PromiseTriesModel", "tape", "[I", true)
  | 13 => ("PromiseTriesModel", "taped", "I", false)
  | 14 => ("PromiseTriesModel", "pos", "I", false)
  | 15 => ("PromiseTriesModel", "begun", "I", false)
  | 16 => ("PromiseTriesModel", "sort", "I", false)
  | 17 => ("PromiseTriesModel", "figure", "I", false)
  | 18 => ("PromiseTriesModel", "fault", "I", false)
  | 19 => ("PromiseTriesModel", "wrongAt", "I", false)
  | 20 => ("PromiseTriesModel", "open", "I", false)
  | 21 => ("PromiseTriesModel", "ors", "[J", true)
  | 22 => ("PromiseTriesModel", "ands", "[J", true)
  | 23 => ("PromiseTriesModel", "hasOr", "[Z", true)
  | 24 => ("PromiseTriesModel", "hasAnd", "[Z", true)
  | 25 => ("PromiseTriesModel", "isNot", "[Z", true)
  | 26 => ("PromiseTriesModel", "now", "[J", true)
  | 27 => ("PromiseTriesModel", "deep", "I", false)
  | 28 => ("PromiseTriesModel", "patterns", "[J", true)
  | 29 => ("PromiseTriesModel", "begins", "[I", true)
  | 30 => ("PromiseTriesModel", "firsts", "[J", true)
  | 31 => ("PromiseTriesModel", "lasts", "[J", true)
  | 32 => ("PromiseTriesModel", "areNone", "[Z", true)
  | 33 => ("PromiseTriesModel", "longs", "[I", true)
  | 34 => ("PromiseTriesModel", "fews", "[I", true)
  | 35 => ("PromiseTriesModel", "mosts", "[I", true)
  | 36 => ("PromiseTriesModel", "isThere", "[Z", true)
  | 37 => ("PromiseTriesModel", "depth", "I", false)
  | 38 => ("PromiseTriesModel", "side", "I", false)
  | 39 => ("PromiseTriesModel", "isOver", "Z", false)
  | 40 => ("PromiseTriesModel", "fulfilling", "[J", true)
  | 41 => ("PromiseTriesModel", "thenNext", "[J", true)
  | 42 => ("PromiseTriesModel", "dutyIs", "[I", true)
  | 43 => ("PromiseTriesModel", "dutyBy", "[I", true)
  | 44 => ("PromiseTriesModel", "isDuty", "[Z", true)
  | 45 => ("PromiseTriesModel", "verdict", "I", false)
  | 46 => ("PromiseTriesModel", "decidedBy", "I", false)
  | 47 => ("PromiseTriesModel", "seeded", "I", false)
  | 48 => ("PromiseTriesModel", "lanes", "[I", true)
  | 49 => ("PromiseTriesModel", "sizes", "[I", true)
  | 50 => ("PromiseTriesModel", "cells", "[I", true)
  | _ => ("PromiseTriesModel", "torn", "I", false)
def tyX10 : Nat → FieldType := fun k => match k with
  | 0 => .array .int
  | 1 => .array .int
  | 2 => .array .long
  | 3 => .array .long
  | 4 => .array .int
  | 5 => .array .int
  | 6 => .array .long
  | 7 => .array .long
  | 8 => .int
  | 9 => .array .int
  | 10 => .array .int
  | 11 => .array .boolean
  | 12 => .array .int
  | 13 => .int
  | 14 => .int
  | 15 => .int
  | 16 => .int
  | 17 => .int
  | 18 => .int
  | 19 => .int
  | 20 => .int
  | 21 => .array .long
  | 22 => .array .long
  | 23 => .array .boolean
  | 24 => .array .boolean
  | 25 => .array .boolean
  | 26 => .array .long
  | 27 => .int
  | 28 => .array .long
  | 29 => .array .int
  | 30 => .array .long
  | 31 => .array .long
  | 32 => .array .boolean
  | 33 => .array .int
  | 34 => .array .int
  | 35 => .array .int
  | 36 => .array .boolean
  | 37 => .int
  | 38 => .int
  | 39 => .boolean
  | 40 => .array .long
  | 41 => .array .long
  | 42 => .array .int
  | 43 => .array .int
  | 44 => .array .boolean
  | 45 => .int
  | 46 => .int
  | 47 => .int
  | 48 => .array .int
  | 49 => .array .int
  | 50 => .array .int
  | _ => .int
theorem nmX10 : ∀ a, a < 52 → ∀ b, b < 52 → a ≠ b → (TX10 a).2.1 ≠ (TX10 b).2.1 := by decide +kernel
theorem tyX10_ok : ∀ k, k < 52 → parseFieldDescriptor (TX10 k).2.2.1 = some (tyX10 k) := by decide +kernel
abbrev cX10_init : ByteArray := prog_12_method_1_code
def yX10_init : MethodName := ⟨RX10, "<init>", "()V"⟩
abbrev cX10_in : ByteArray := prog_12_method_3_code
def yX10_in : MethodName := ⟨RX10, "in", "(JJJ)Z"⟩
abbrev cX10_flag : ByteArray := prog_12_method_4_code
def yX10_flag : MethodName := ⟨RX10, "flag", "(Z)I"⟩
abbrev cX10_least : ByteArray := prog_12_method_5_code
def yX10_least : MethodName := ⟨RX10, "least", "(II)I"⟩
abbrev cX10_greatest : ByteArray := prog_12_method_6_code
def yX10_greatest : MethodName := ⟨RX10, "greatest", "(II)I"⟩
abbrev cX10_feed : ByteArray := prog_12_method_7_code
def yX10_feed : MethodName := ⟨RX10, "feed", "(I)I"⟩
abbrev cX10_end : ByteArray := prog_12_method_8_code
def yX10_end : MethodName := ⟨RX10, "end", "(I)I"⟩
abbrev cX10_requires : ByteArray := prog_12_method_9_code
def yX10_requires : MethodName := ⟨RX10, "requires", "(ZI)V"⟩
abbrev cX10_byteAt : ByteArray := prog_12_method_10_code
def yX10_byteAt : MethodName := ⟨RX10, "byteAt", "(I)I"⟩
abbrev cX10_isSignByte : ByteArray := prog_12_method_11_code
def yX10_isSignByte : MethodName := ⟨RX10, "isSignByte", "(I)Z"⟩
abbrev cX10_reads : ByteArray := prog_12_method_12_code
def yX10_reads : MethodName := ⟨RX10, "reads", "()V"⟩
abbrev cX10_isSign : ByteArray := prog_12_method_13_code
def yX10_isSign : MethodName := ⟨RX10, "isSign", "(I)Z"⟩
abbrev cX10_readNumber : ByteArray := prog_12_method_14_code
def yX10_readNumber : MethodName := ⟨RX10, "readNumber", "(II)I"⟩
abbrev cX10_nests : ByteArray := prog_12_method_15_code
def yX10_nests : MethodName := ⟨RX10, "nests", "()V"⟩
abbrev cX10_wires : ByteArray := prog_12_method_16_code
def yX10_wires : MethodName := ⟨RX10, "wires", "(I)V"⟩
abbrev cX10_opensDepth : ByteArray := prog_12_method_17_code
def yX10_opensDepth : MethodName := ⟨RX10, "opensDepth", "()V"⟩
abbrev cX10_joinsAnds : ByteArray := prog_12_method_18_code
def yX10_joinsAnds : MethodName := ⟨RX10, "joinsAnds", "()V"⟩
abbrev cX10_joinsOrs : ByteArray := prog_12_method_19_code
def yX10_joinsOrs : MethodName := ⟨RX10, "joinsOrs", "()V"⟩
abbrev cX10_readOperand : ByteArray := prog_12_method_20_code
def yX10_readOperand : MethodName := ⟨RX10, "readOperand", "()V"⟩
abbrev cX10_readCondition : ByteArray := prog_12_method_21_code
def yX10_readCondition : MethodName := ⟨RX10, "readCondition", "(Z)V"⟩
abbrev cX10_placesNow : ByteArray := prog_12_method_22_code
def yX10_placesNow : MethodName := ⟨RX10, "placesNow", "()I"⟩
abbrev cX10_takes : ByteArray := prog_12_method_23_code
def yX10_takes : MethodName := ⟨RX10, "takes", "(II)V"⟩
abbrev cX10_sum : ByteArray := prog_12_method_24_code
def yX10_sum : MethodName := ⟨RX10, "sum", "(II)I"⟩
abbrev cX10_follows : ByteArray := prog_12_method_25_code
def yX10_follows : MethodName := ⟨RX10, "follows", "(JJ)V"⟩
abbrev cX10_chains : ByteArray := prog_12_method_26_code
def yX10_chains : MethodName := ⟨RX10, "chains", "(II)V"⟩
abbrev cX10_chooses : ByteArray := prog_12_method_27_code
def yX10_chooses : MethodName := ⟨RX10, "chooses", "(II)V"⟩
abbrev cX10_onePlace : ByteArray := prog_12_method_28_code
def yX10_onePlace : MethodName := ⟨RX10, "onePlace", "()V"⟩
abbrev cX10_repeats : ByteArray := prog_12_method_29_code
def yX10_repeats : MethodName := ⟨RX10, "repeats", "(II)V"⟩
abbrev cX10_opensSequence : ByteArray := prog_12_method_30_code
def yX10_opensSequence : MethodName := ⟨RX10, "opensSequence", "()V"⟩
abbrev cX10_readBegin : ByteArray := prog_12_method_31_code
def yX10_readBegin : MethodName := ⟨RX10, "readBegin", "()V"⟩
abbrev cX10_readTimes : ByteArray := prog_12_method_32_code
def yX10_readTimes : MethodName := ⟨RX10, "readTimes", "()V"⟩
abbrev cX10_readEnds : ByteArray := prog_12_method_33_code
def yX10_readEnds : MethodName := ⟨RX10, "readEnds", "()V"⟩
abbrev cX10_readSequence : ByteArray := prog_12_method_34_code
def yX10_readSequence : MethodName := ⟨RX10, "readSequence", "(I)V"⟩
abbrev cX10_isFulfillable : ByteArray := prog_12_method_35_code
def yX10_isFulfillable : MethodName := ⟨RX10, "isFulfillable", "(II)Z"⟩
abbrev cX10_ends : ByteArray := prog_12_method_36_code
def yX10_ends : MethodName := ⟨RX10, "ends", "(I)V"⟩
abbrev cX10_isBegin : ByteArray := prog_12_method_37_code
def yX10_isBegin : MethodName := ⟨RX10, "isBegin", "()Z"⟩
abbrev cX10_readPromise : ByteArray := prog_12_method_38_code
def yX10_readPromise : MethodName := ⟨RX10, "readPromise", "(I)V"⟩
abbrev cX10_text : ByteArray := prog_12_method_39_code
def yX10_text : MethodName := ⟨RX10, "text", "()I"⟩
abbrev cX10_fault : ByteArray := prog_12_method_40_code
def yX10_fault : MethodName := ⟨RX10, "fault", "()I"⟩
abbrev cX10_isPromise : ByteArray := prog_12_method_41_code
def yX10_isPromise : MethodName := ⟨RX10, "isPromise", "(I)Z"⟩
abbrev cX10_isSide : ByteArray := prog_12_method_42_code
def yX10_isSide : MethodName := ⟨RX10, "isSide", "(I)Z"⟩
abbrev cX10_areBits : ByteArray := prog_12_method_43_code
def yX10_areBits : MethodName := ⟨RX10, "areBits", "(I)Z"⟩
abbrev cX10_fulfilsOne : ByteArray := prog_12_method_44_code
def yX10_fulfilsOne : MethodName := ⟨RX10, "fulfilsOne", "(III)Z"⟩
abbrev cX10_fulfilsOff : ByteArray := prog_12_method_45_code
def yX10_fulfilsOff : MethodName := ⟨RX10, "fulfilsOff", "(II)Z"⟩
abbrev cX10_findsFulfilling : ByteArray := prog_12_method_46_code
def yX10_findsFulfilling : MethodName := ⟨RX10, "findsFulfilling", "(I)V"⟩
abbrev cX10_nextOf : ByteArray := prog_12_method_47_code
def yX10_nextOf : MethodName := ⟨RX10, "nextOf", "(IJ)J"⟩
abbrev cX10_firstOf : ByteArray := prog_12_method_48_code
def yX10_firstOf : MethodName := ⟨RX10, "firstOf", "(I)J"⟩
abbrev cX10_isEnd : ByteArray := prog_12_method_49_code
def yX10_isEnd : MethodName := ⟨RX10, "isEnd", "(IJ)Z"⟩
abbrev cX10_canEnd : ByteArray := prog_12_method_50_code
def yX10_canEnd : MethodName := ⟨RX10, "canEnd", "(IJ)Z"⟩
abbrev cX10_isConditionAsked : ByteArray := prog_12_method_51_code
def yX10_isConditionAsked : MethodName := ⟨RX10, "isConditionAsked", "(III)Z"⟩
abbrev cX10_fulfils : ByteArray := prog_12_method_52_code
def yX10_fulfils : MethodName := ⟨RX10, "fulfils", "(IIII)I"⟩
abbrev cX10_fulfilled : ByteArray := prog_12_method_53_code
def yX10_fulfilled : MethodName := ⟨RX10, "fulfilled", "(III)I"⟩
abbrev cX10_matches : ByteArray := prog_12_method_54_code
def yX10_matches : MethodName := ⟨RX10, "matches", "(IIII)I"⟩
abbrev cX10_might : ByteArray := prog_12_method_55_code
def yX10_might : MethodName := ⟨RX10, "might", "(III)I"⟩
abbrev cX10_promise : ByteArray := prog_12_method_56_code
def yX10_promise : MethodName := ⟨RX10, "promise", "(II)I"⟩
abbrev cX10_goesOn : ByteArray := prog_12_method_57_code
def yX10_goesOn : MethodName := ⟨RX10, "goesOn", "(III)V"⟩
abbrev cX10_dies : ByteArray := prog_12_method_58_code
def yX10_dies : MethodName := ⟨RX10, "dies", "(III)V"⟩
abbrev cX10_begins : ByteArray := prog_12_method_59_code
def yX10_begins : MethodName := ⟨RX10, "begins", "(II)V"⟩
abbrev cX10_isAny : ByteArray := prog_12_method_60_code
def yX10_isAny : MethodName := ⟨RX10, "isAny", "(III)Z"⟩
abbrev cX10_goesThrough : ByteArray := prog_12_method_61_code
def yX10_goesThrough : MethodName := ⟨RX10, "goesThrough", "(II)V"⟩
abbrev cX10_verdictBy : ByteArray := prog_12_method_62_code
def yX10_verdictBy : MethodName := ⟨RX10, "verdictBy", "(IIIJ)I"⟩
abbrev cX10_isTick : ByteArray := prog_12_method_63_code
def yX10_isTick : MethodName := ⟨RX10, "isTick", "(I)Z"⟩
abbrev cX10_isTry : ByteArray := prog_12_method_64_code
def yX10_isTry : MethodName := ⟨RX10, "isTry", "(II)Z"⟩
abbrev cX10_dutiesFrom : ByteArray := prog_12_method_65_code
def yX10_dutiesFrom : MethodName := ⟨RX10, "dutiesFrom", "(I)I"⟩
abbrev cX10_verdict : ByteArray := prog_12_method_66_code
def yX10_verdict : MethodName := ⟨RX10, "verdict", "(II)I"⟩
abbrev cX10_decided : ByteArray := prog_12_method_67_code
def yX10_decided : MethodName := ⟨RX10, "decided", "(II)I"⟩
abbrev cX10_duties : ByteArray := prog_12_method_68_code
def yX10_duties : MethodName := ⟨RX10, "duties", "(II)I"⟩
abbrev cX10_duty : ByteArray := prog_12_method_69_code
def yX10_duty : MethodName := ⟨RX10, "duty", "(IIII)I"⟩
abbrev cX10_triesOf : ByteArray := prog_12_method_70_code
def yX10_triesOf : MethodName := ⟨RX10, "triesOf", "(II)I"⟩
abbrev cX10_tries : ByteArray := prog_12_method_71_code
def yX10_tries : MethodName := ⟨RX10, "tries", "(II)I"⟩
abbrev cX10_first : ByteArray := prog_12_method_72_code
def yX10_first : MethodName := ⟨RX10, "first", "(II)I"⟩
abbrev cX10_allDuties : ByteArray := prog_12_method_73_code
def yX10_allDuties : MethodName := ⟨RX10, "allDuties", "()I"⟩
abbrev cX10_allTries : ByteArray := prog_12_method_74_code
def yX10_allTries : MethodName := ⟨RX10, "allTries", "(I)I"⟩
abbrev cX10_rule : ByteArray := prog_12_method_75_code
def yX10_rule : MethodName := ⟨RX10, "rule", "(I)I"⟩
abbrev cX10_failedBy : ByteArray := prog_12_method_76_code
def yX10_failedBy : MethodName := ⟨RX10, "failedBy", "(I)I"⟩
abbrev cX10_tick : ByteArray := prog_12_method_77_code
def yX10_tick : MethodName := ⟨RX10, "tick", "(I)I"⟩
abbrev cX10_bits : ByteArray := prog_12_method_78_code
def yX10_bits : MethodName := ⟨RX10, "bits", "(I)I"⟩
abbrev cX10_put : ByteArray := prog_12_method_79_code
def yX10_put : MethodName := ⟨RX10, "put", "(II)I"⟩
abbrev cX10_keeps : ByteArray := prog_12_method_80_code
def yX10_keeps : MethodName := ⟨RX10, "keeps", "(I)I"⟩
abbrev cX10_gets : ByteArray := prog_12_method_81_code
def yX10_gets : MethodName := ⟨RX10, "gets", "()I"⟩
abbrev cX10_draw : ByteArray := prog_12_method_82_code
def yX10_draw : MethodName := ⟨RX10, "draw", "(II)I"⟩
abbrev cX10_keep : ByteArray := prog_12_method_83_code
def yX10_keep : MethodName := ⟨RX10, "keep", "(I)I"⟩
abbrev cX10_back : ByteArray := prog_12_method_84_code
def yX10_back : MethodName := ⟨RX10, "back", "(I)I"⟩
abbrev cX10_isSheet : ByteArray := prog_12_method_85_code
def yX10_isSheet : MethodName := ⟨RX10, "isSheet", "(II)Z"⟩
abbrev cX10_sheet : ByteArray := prog_12_method_86_code
def yX10_sheet : MethodName := ⟨RX10, "sheet", "(III)I"⟩
abbrev cX10_lay : ByteArray := prog_12_method_87_code
def yX10_lay : MethodName := ⟨RX10, "lay", "(III)I"⟩
abbrev cX10_run : ByteArray := prog_12_method_88_code
def yX10_run : MethodName := ⟨RX10, "run", "(IIII)I"⟩
abbrev cX10_torn : ByteArray := prog_12_method_89_code
def yX10_torn : MethodName := ⟨RX10, "torn", "()I"⟩
abbrev cX10_count : ByteArray := prog_12_method_90_code
def yX10_count : MethodName := ⟨RX10, "count", "(I)I"⟩
def RJ13 : String := "java/lang/Long"
abbrev cJ13_bitCount_95d88 : ByteArray := prog_13_method_50_code
def yJ13_bitCount_95d88 : MethodName := ⟨RJ13, "bitCount", "(J)I"⟩
def RJ9 : String := "java/lang/Math"
abbrev cJ9_max_7cf53 : ByteArray := prog_14_method_65_code
def yJ9_max_7cf53 : MethodName := ⟨RJ9, "max", "(II)I"⟩
abbrev cJ9_min_7cf53 : ByteArray := prog_14_method_69_code
def yJ9_min_7cf53 : MethodName := ⟨RJ9, "min", "(II)I"⟩
def RJ10 : String := "java/lang/System"
def RL : String := "PromiseTriesLaw"
abbrev cL_law : ByteArray := code
def yL_law : MethodName := ⟨RL, "law", "([I)Z"⟩
abbrev vwCl : List vw_C := [(RX0, TX0, 7), (RX1, TX1, 5), (RX2, TX2, 3), (RX3, TX3, 11), (RX4, TX4, 3), (RX5, TX5, 8), (RX6, TX6, 2), (RX7, TX7, 2), (RX8, TX8, 9), (RX9, TX9, 12), (RX10, TX10, 52)]
end
section
/-! The abstract machine: memory of numbered cells with typed contents, one step of the bytecode in continuation form. -/
/-- how many cells; of each its tag and its length; ints, longs, references by cell and place -/
abbrev zM : Type := Nat × (Nat → Nat × Nat) × (Nat → Nat → Int32) × (Nat → Nat → Int64) × (Nat → Nat → Option Nat)
def zN (M : zM) : Nat := M.1
def zK (M : zM) : Nat → Nat × Nat := M.2.1
def zI (M : zM) : Nat → Nat → Int32 := M.2.2.1
def zL (M : zM) : Nat → Nat → Int64 := M.2.2.2.1
def zR (M : zM) : Nat → Nat → Option Nat := M.2.2.2.2
def zu {α : Type} (f : Nat → Nat → α) (a i : Nat) (v : α) : Nat → Nat → α := fun b j => if b = a ∧ j = i then v else f b j
def zrow {α : Type} (f : Nat → Nat → α) (a : Nat) (g : Nat → α) : Nat → Nat → α := fun b j => if b = a then g j else f b j
def zsI (M : zM) (a i : Nat) (x : Int32) : zM := (M.1, M.2.1, zu M.2.2.1 a i x, M.2.2.2.1, M.2.2.2.2)
def zsL (M : zM) (a i : Nat) (x : Int64) : zM := (M.1, M.2.1, M.2.2.1, zu M.2.2.2.1 a i x, M.2.2.2.2)
def zsR (M : zM) (a i : Nat) (x : Option Nat) : zM := (M.1, M.2.1, M.2.2.1, M.2.2.2.1, zu M.2.2.2.2 a i x)
/-- a new cell of this tag and length, all default -/
def znew (M : zM) (tag n : Nat) : zM := (M.1 + 1, fun b => if b = M.1 then (tag, n) else M.2.1 b, zrow M.2.2.1 M.1 (fun _ => 0), zrow M.2.2.2.1 M.1 (fun _ => 0), zrow M.2.2.2.2 M.1 (fun _ => none))
/-- System.arraycopy between two rows of ints -/
def zcopy (M : zM) (src sp dst dp n : Nat) : zM := (M.1, M.2.1, zrow M.2.2.1 dst (va_cpy (M.2.2.1 src) (M.2.2.1 dst) sp dp n), M.2.2.2.1, M.2.2.2.2)
abbrev zO : Type := Option (Option Value × zM)
abbrev zLs : Type := List (Option Value)
abbrev zKt : Type := Nat → zLs → List Value → zM → zO
/-- pc, instruction, length, resolved operands -/
abbrev zC : Type := Nat × Instr × Nat × List Nat
def zok (b : Bool) (x : zO) : zO := match b with
  | true => x
  | false => none
def zif (c : Prop) [Decidable c] (x : zO) : zO := if c then x else none
def zin (j : Int32) (n : Nat) : Bool := decide (¬ j < 0) && decide (j.toNatClampNeg < n)
/-- a number out of its operands: [n], or [n, 1] for -n -/
def zci (r : List Nat) : Int32 := match r with
  | [n] => Int32.ofNat n
  | [n, _] => - Int32.ofNat n
  | _ => 0
def zcl (r : List Nat) : Int64 := match r with
  | [n] => Int64.ofNat n
  | [n, _] => - Int64.ofNat n
  | _ => 0
def z1i (st : List Value) (f : Int32 → List Value → zO) : zO := match st with
  | .int x :: s => f x s
  | _ => none
def z2i (st : List Value) (f : Int32 → Int32 → List Value → zO) : zO := match st with
  | .int y :: .int x :: s => f x y s
  | _ => none
def z1l (st : List Value) (f : Int64 → List Value → zO) : zO := match st with
  | .long x :: s => f x s
  | _ => none
def z2l (st : List Value) (f : Int64 → Int64 → List Value → zO) : zO := match st with
  | .long y :: .long x :: s => f x y s
  | _ => none
def zli (st : List Value) (f : Int64 → Int32 → List Value → zO) : zO := match st with
  | .int y :: .long x :: s => f x y s
  | _ => none
def z1r (st : List Value) (f : Nat → List Value → zO) : zO := match st with
  | .ref a :: s => f a s
  | _ => none
def zri (st : List Value) (f : Nat → Int32 → List Value → zO) : zO := match st with
  | .int j :: .ref a :: s => f a j s
  | _ => none
def zrl (st : List Value) (f : Nat → Int64 → List Value → zO) : zO := match st with
  | .long j :: .ref a :: s => f a j s
  | _ => none
def zrr (st : List Value) (f : Nat → Nat → List Value → zO) : zO := match st with
  | .ref q :: .ref a :: s => f a q s
  | _ => none
def zrii (st : List Value) (f : Nat → Int32 → Int32 → List Value → zO) : zO := match st with
  | .int x :: .int j :: .ref a :: s => f a j x s
  | _ => none
def zril (st : List Value) (f : Nat → Int32 → Int64 → List Value → zO) : zO := match st with
  | .long x :: .int j :: .ref a :: s => f a j x s
  | _ => none
def zrir (st : List Value) (f : Nat → Int32 → Nat → List Value → zO) : zO := match st with
  | .ref q :: .int j :: .ref a :: s => f a j q s
  | _ => none
/-- a place of the locals -/
def zld (l : zLs) (i : Nat) (f : Value → zO) : zO := match l[i]? with
  | some (some v) => f v
  | _ => none
def zvi (v : Value) (f : Int32 → zO) : zO := match v with
  | .int x => f x
  | _ => none
def zvl (v : Value) (f : Int64 → zO) : zO := match v with
  | .long x => f x
  | _ => none
def zvr (v : Value) (f : Nat → zO) : zO := match v with
  | .ref x => f x
  | _ => none
/-- a long ahead of a place that is stored to is forgotten -/
def zcut (l : zLs) (i : Nat) : zLs := match i with
  | 0 => l
  | j + 1 => match l[j]? with
    | some (some v) => (match v.category with
      | 2 => l.set j none
      | _ => l)
    | _ => l
def zst1 (l : zLs) (i : Nat) (v : Value) : zLs := (zcut l i).set i (some v)
def zst2 (l : zLs) (i : Nat) (v : Value) : zLs := ((zcut l i).set i (some v)).set (i + 1) none
def zbI (o : zO) (f : Int32 → zM → zO) : zO := match o with
  | some (some (.int r), M) => f r M
  | _ => none
def zbL (o : zO) (f : Int64 → zM → zO) : zO := match o with
  | some (some (.long r), M) => f r M
  | _ => none
def zbR (o : zO) (f : Nat → zM → zO) : zO := match o with
  | some (some (.ref r), M) => f r M
  | _ => none
def zbV (o : zO) (f : zM → zO) : zO := match o with
  | some (none, M) => f M
  | _ => none
def zoR (o : Option Nat) (f : Nat → zO) : zO := match o with
  | some q => f q
  | none => none
/-- a switch over numbers one behind another -/
def zsw (x : Int32) (lo : Nat) (ts : List Nat) (d : Nat) (K : Nat → zO) : zO := match ts with
  | [] => K d
  | t :: ts => if x = Int32.ofNat lo then K t else zsw x (lo + 1) ts d K
/-- a switch over listed numbers -/
def zlk (x : Int32) (ts : List Nat) (d : Nat) (K : Nat → zO) : zO := match ts with
  | k :: t :: ts => if x = Int32.ofNat k then K t else zlk x ts d K
  | _ => K d
abbrev zE0 : Type := Nat → List Value → zM → zO
def zroomy (st : List Value) : Bool := Nat.ble ((st.map fun v => v.category).sum) 8
/-- the return of a call: what kind, and then on -/
def zret (rt : Nat) (o : zO) (rest : List Value) (K : List Value → zM → zO) : zO := match rt with
  | 0 => zbV o (fun M => K rest M)
  | 1 => zbI o (fun r M => K (.int r :: rest) M)
  | 2 => zbL o (fun r M => K (.long r :: rest) M)
  | _ => zbR o (fun r M => K (.ref r :: rest) M)
/-- a call of y with n arguments off the stack; tag: of the receiver (0: not asked) -/
def zcall (E : zE0) (y n rt tag : Nat) (st : List Value) (M : zM) (K : List Value → zM → zO) : zO :=
  match Nat.ble n st.length && zroomy (st.drop n) with
  | false => none
  | true => match tag with
    | 0 => zret rt (E y (st.take n).reverse M) (st.drop n) K
    | t + 1 => match (st.take n).reverse with
      | .ref b :: _ => zif ((zK M b).1 = t + 1) (zret rt (E y (st.take n).reverse M) (st.drop n) K)
      | _ => none
def zcond (c : ClassFile.Cond) (x y : Int32) (a b : zO) : zO := match c with
  | .eq => if x = y then a else b
  | .ne => if x ≠ y then a else b
  | .lt => if x < y then a else b
  | .ge => if y ≤ x then a else b
  | .gt => if y < x then a else b
  | .le => if x ≤ y then a else b
def zgetf (r : List Nat) (a : Nat) (st : List Value) (M : zM) (K : List Value → zO) : zO := match r with
  | ty :: ci :: k :: _ => zif ((zK M a).1 = ci + 1) (match ty with
    | 1 => K (.long (zL M a k) :: st)
    | 2 => zoR (zR M a k) (fun q => K (.ref q :: st))
    | _ => K (.int (zI M a k) :: st))
  | _ => none
def zputf (r : List Nat) (st : List Value) (M : zM) (K : List Value → zM → zO) : zO := match r with
  | ty :: ci :: k :: _ => (match ty with
    | 1 => zrl st (fun a x s => zif ((zK M a).1 = ci + 1) (K s (zsL M a k x)))
    | 2 => zrr st (fun a q s => zif ((zK M a).1 = ci + 1) (K s (zsR M a k (some q))))
    | 3 => zri st (fun a x s => zif ((zK M a).1 = ci + 1 ∧ (x = 0 ∨ x = 1)) (K s (zsI M a k x)))
    | _ => zri st (fun a x s => zif ((zK M a).1 = ci + 1) (K s (zsI M a k x))))
  | _ => none
def zinvoke (E : zE0) (r : List Nat) (st : List Value) (M : zM) (K : List Value → zM → zO) : zO := match r with
  | y :: n :: rt :: tag :: _ => (match y with
    | 1000 => z1r st (fun _ s => zok (zroomy s) (K s M))
    | 1001 => (match st with
      | .int n :: .int dp :: .ref b :: .int sp :: .ref a :: s => zif ((zK M a).1 = 20 ∧ (zK M b).1 = 20 ∧ zroomy s = true ∧ (¬ sp < 0) ∧ (¬ dp < 0) ∧ (¬ n < 0) ∧ sp.toNatClampNeg + n.toNatClampNeg ≤ (zK M a).2 ∧ dp.toNatClampNeg + n.toNatClampNeg ≤ (zK M b).2) (K s (zcopy M a sp.toNatClampNeg b dp.toNatClampNeg n.toNatClampNeg))
      | _ => none)
    | 1002 => z2i st (fun x y s => zok (zroomy s) (K (.int (if x < y then y else x) :: s) M))
    | 1003 => z2i st (fun x y s => zok (zroomy s) (K (.int (if y < x then y else x) :: s) M))
    | y => zcall E y n rt tag st M K)
  | _ => none
def zstep (E : zE0) (rt : Nat) (i : Instr) (r : List Nat) (pc : Nat) (l : zLs) (st : List Value) (M : zM) (K : zKt) : zO := match i with
  | .iconst _ => K (pc + 1) l (.int (zci r) :: st) M
  | .bipush _ => K (pc + 2) l (.int (zci r) :: st) M
  | .sipush _ => K (pc + 3) l (.int (zci r) :: st) M
  | .ldc _ => K (pc + 2) l (.int (zci r) :: st) M
  | .ldc_w _ => K (pc + 3) l (.int (zci r) :: st) M
  | .lconst _ => K (pc + 1) l (.long (zcl r) :: st) M
  | .ldc2_w _ => K (pc + 3) l (.long (zcl r) :: st) M
  | .iload_n n => zld l n.val (fun v => zvi v (fun x => K (pc + 1) l (.int x :: st) M))
  | .iload n => zld l n (fun v => zvi v (fun x => K (pc + 2) l (.int x :: st) M))
  | .lload_n n => zld l n.val (fun v => zvl v (fun x => K (pc + 1) l (.long x :: st) M))
  | .lload n => zld l n (fun v => zvl v (fun x => K (pc + 2) l (.long x :: st) M))
  | .aload_n n => zld l n.val (fun v => zvr v (fun x => K (pc + 1) l (.ref x :: st) M))
  | .aload n => zld l n (fun v => zvr v (fun x => K (pc + 2) l (.ref x :: st) M))
  | .istore_n n => z1i st (fun x s => zok (Nat.blt (n.val) l.length) (K (pc + 1) (zst1 l n.val (.int x)) s M))
  | .istore n => z1i st (fun x s => zok (Nat.blt (n) l.length) (K (pc + 2) (zst1 l n (.int x)) s M))
  | .lstore_n n => z1l st (fun x s => zok (Nat.blt (n.val + 1) l.length) (K (pc + 1) (zst2 l n.val (.long x)) s M))
  | .lstore n => z1l st (fun x s => zok (Nat.blt (n + 1) l.length) (K (pc + 2) (zst2 l n (.long x)) s M))
  | .astore_n n => z1r st (fun x s => zok (Nat.blt (n.val) l.length) (K (pc + 1) (zst1 l n.val (.ref x)) s M))
  | .astore n => z1r st (fun x s => zok (Nat.blt (n) l.length) (K (pc + 2) (zst1 l n (.ref x)) s M))
  | .iinc n _ => zld l n (fun v => zvi v (fun x => zok (Nat.blt (n) l.length) (K (pc + 3) (zst1 l n (.int (x + zci r))) st M)))
  | .iadd => z2i st (fun x y s => K (pc + 1) l (.int (x + y) :: s) M)
  | .isub => z2i st (fun x y s => K (pc + 1) l (.int (x - y) :: s) M)
  | .imul => z2i st (fun x y s => K (pc + 1) l (.int (x * y) :: s) M)
  | .iand => z2i st (fun x y s => K (pc + 1) l (.int (x &&& y) :: s) M)
  | .idiv => z2i st (fun x y s => zif (¬ y = 0) (K (pc + 1) l (.int (x / y) :: s) M))
  | .irem => z2i st (fun x y s => zif (¬ y = 0) (K (pc + 1) l (.int (x - x / y * y) :: s) M))
  | .ishr => z2i st (fun x y s => K (pc + 1) l (.int (x >>> (y &&& 31)) :: s) M)
  | .iushr => z2i st (fun x y s => K (pc + 1) l (.int (x.toUInt32 >>> (y.toUInt32 &&& Int32.toUInt32 31)).toInt32 :: s) M)
  | .ladd => z2l st (fun x y s => K (pc + 1) l (.long (x + y) :: s) M)
  | .lsub => z2l st (fun x y s => K (pc + 1) l (.long (x - y) :: s) M)
  | .land => z2l st (fun x y s => K (pc + 1) l (.long (x &&& y) :: s) M)
  | .lor => z2l st (fun x y s => K (pc + 1) l (.long (x ||| y) :: s) M)
  | .lxor => z2l st (fun x y s => K (pc + 1) l (.long (x ^^^ y) :: s) M)
  | .lcmp => z2l st (fun x y s => K (pc + 1) l (.int (lg_cmp x y) :: s) M)
  | .lshl => zli st (fun x y s => K (pc + 1) l (.long (x <<< (y.toInt64 &&& 63)) :: s) M)
  | .lshr => zli st (fun x y s => K (pc + 1) l (.long (x >>> (y.toInt64 &&& 63)) :: s) M)
  | .lushr => zli st (fun x y s => K (pc + 1) l (.long (x.toUInt64 >>> (y.toInt64.toUInt64 &&& Int64.toUInt64 63)).toInt64 :: s) M)
  | .i2l => z1i st (fun x s => K (pc + 1) l (.long x.toInt64 :: s) M)
  | .l2i => z1l st (fun x s => K (pc + 1) l (.int x.toInt32 :: s) M)
  | .i2b => z1i st (fun x s => K (pc + 1) l (.int x.toInt8.toInt32 :: s) M)
  | .i2c => z1i st (fun x s => K (pc + 1) l (.int (x.toUInt32 % 65536).toInt32 :: s) M)
  | .dup => (match st with
    | .int x :: s => K (pc + 1) l (.int x :: .int x :: s) M
    | .ref x :: s => K (pc + 1) l (.ref x :: .ref x :: s) M
    | _ => none)
  | .pop => (match st with
    | .int _ :: s => K (pc + 1) l s M
    | .ref _ :: s => K (pc + 1) l s M
    | _ => none)
  | .dup2 => (match st with
    | .long x :: s => K (pc + 1) l (.long x :: .long x :: s) M
    | .int y :: .int x :: s => K (pc + 1) l (.int y :: .int x :: .int y :: .int x :: s) M
    | .int y :: .ref x :: s => K (pc + 1) l (.int y :: .ref x :: .int y :: .ref x :: s) M
    | _ => none)
  | .goto _ => K (r.headD 0) l st M
  | .ifCond c _ => z1i st (fun x s => zcond c x 0 (K (r.headD 0) l s M) (K (pc + 3) l s M))
  | .if_icmp c _ => z2i st (fun x y s => zcond c x y (K (r.headD 0) l s M) (K (pc + 3) l s M))
  | .tableswitch _ _ _ _ => z1i st (fun x s => match r with
    | d :: lo :: ts => zsw x lo ts d (fun t => K t l s M)
    | _ => none)
  | .lookupswitch _ _ => z1i st (fun x s => match r with
    | d :: ts => zlk x ts d (fun t => K t l s M)
    | _ => none)
  | .getfield _ => z1r st (fun a s => zgetf r a s M (fun s' => K (pc + 3) l s' M))
  | .putfield _ => zputf r st M (fun s M' => K (pc + 3) l s M')
  | .getstatic _ => K (pc + 3) l (.ref 0 :: st) M
  | .iaload => zri st (fun a j s => zif (((zK M a).1 = 20 ∨ (zK M a).1 = 24) ∧ zin j (zK M a).2 = true) (K (pc + 1) l (.int (zI M a j.toNatClampNeg) :: s) M))
  | .baload => zri st (fun a j s => zif (((zK M a).1 = 21 ∨ (zK M a).1 = 22) ∧ zin j (zK M a).2 = true) (K (pc + 1) l (.int (zI M a j.toNatClampNeg) :: s) M))
  | .laload => zri st (fun a j s => zif (((zK M a).1 = 23 ∨ (zK M a).1 = 25) ∧ zin j (zK M a).2 = true) (K (pc + 1) l (.long (zL M a j.toNatClampNeg) :: s) M))
  | .aaload => zri st (fun a j s => zif (30 ≤ (zK M a).1 ∧ zin j (zK M a).2 = true) (zoR (zR M a j.toNatClampNeg) (fun q => K (pc + 1) l (.ref q :: s) M)))
  | .iastore => zrii st (fun a j x s => zif ((zK M a).1 = 20 ∧ zin j (zK M a).2 = true) (K (pc + 1) l s (zsI M a j.toNatClampNeg x)))
  | .bastore => zrii st (fun a j x s => if (zK M a).1 = 21 then zif (zin j (zK M a).2 = true) (K (pc + 1) l s (zsI M a j.toNatClampNeg (vp_nar .boolean x))) else zif ((zK M a).1 = 22 ∧ zin j (zK M a).2 = true) (K (pc + 1) l s (zsI M a j.toNatClampNeg (vp_nar .byte x))))
  | .lastore => zril st (fun a j x s => zif ((zK M a).1 = 23 ∧ zin j (zK M a).2 = true) (K (pc + 1) l s (zsL M a j.toNatClampNeg x)))
  | .aastore => zrir st (fun a j q s => zif (30 ≤ (zK M a).1 ∧ (zK M a).1 = (zK M q).1 + 29 ∧ 1 ≤ (zK M q).1 ∧ (zK M q).1 < 20 ∧ zin j (zK M a).2 = true) (K (pc + 1) l s (zsR M a j.toNatClampNeg (some q))))
  | .arraylength => z1r st (fun a s => zif (20 ≤ (zK M a).1) (K (pc + 1) l (.int (Int32.ofNat (zK M a).2) :: s) M))
  | .new _ => K (pc + 3) l (.ref (zN M) :: st) (znew M (r.headD 0 + 1) ((r.drop 1).headD 0))
  | .newarray _ => z1i st (fun n s => zif ((¬ n < 0) ∧ n.toNatClampNeg ≤ 100000) (K (pc + 2) l (.ref (zN M) :: s) (znew M (r.headD 0) n.toNatClampNeg)))
  | .anewarray _ => z1i st (fun n s => zif ((¬ n < 0) ∧ n.toNatClampNeg ≤ 100000) (K (pc + 3) l (.ref (zN M) :: s) (znew M (30 + r.headD 0) n.toNatClampNeg)))
  | .invokevirtual _ => zinvoke E r st M (fun s M' => K (pc + 3) l s M')
  | .invokespecial _ => zinvoke E r st M (fun s M' => K (pc + 3) l s M')
  | .invokestatic _ => zinvoke E r st M (fun s M' => K (pc + 3) l s M')
  | .ireturn => (match st with
    | [.int x] => (match rt with
      | 1 => some (some (.int x), M)
      | 2 => zif (x = 0 ∨ x = 1) (some (some (.int x), M))
      | _ => none)
    | _ => none)
  | .lreturn => (match st with
    | [.long x] => zok (Nat.beq rt 3) (some (some (.long x), M))
    | _ => none)
  | .areturn => (match st with
    | [.ref x] => zok (Nat.beq rt 4) (some (some (.ref x), M))
    | _ => none)
  | .return_ => (match st with
    | [] => zok (Nat.beq rt 0) (some (none, M))
    | _ => none)
  | _ => none
/-! one step is one continuation at most -/
abbrev zNx : Type := Nat × zLs × List Value × zM
def zap (o : Option (zNx ⊕ (Option Value × zM))) (K : zKt) : zO := match o with
  | none => none
  | some (.inl q) => K q.1 q.2.1 q.2.2.1 q.2.2.2
  | some (.inr r) => some r
end
section
def zsz (M : zM) : Nat := ((List.range (zN M)).map (fun a => (zK M a).2)).sum
def zle (M M' : zM) : Prop := zN M ≤ zN M' ∧ zsz M ≤ zsz M'
theorem zle.rf (M : zM) : zle M M := ⟨Nat.le_refl _, Nat.le_refl _⟩
theorem zle.tr {M M1 M2 : zM} (h : zle M M1) (k : zle M1 M2) : zle M M2 := ⟨Nat.le_trans h.1 k.1, Nat.le_trans h.2 k.2⟩
theorem zsz_new (M : zM) (t n : Nat) : zsz (znew M t n) = zsz M + n := by
  have h : zN (znew M t n) = zN M + 1 := rfl
  unfold zsz
  rw [h, List.range_succ, List.map_append, List.sum_append]
  have e : (List.range (zN M)).map (fun a => (zK (znew M t n) a).2) = (List.range (zN M)).map (fun a => (zK M a).2) := by
    apply List.map_congr_left
    intro a ha
    have hl : a < zN M := List.mem_range.mp ha
    have hne : ¬ a = M.1 := Nat.ne_of_lt hl
    simp [zK, znew, hne]
  rw [e]
  simp [zK, znew, zN]
theorem zle.new (M : zM) (t n : Nat) : zle M (znew M t n) := ⟨Nat.le_succ _, by rw [zsz_new]; exact Nat.le_add_right _ _⟩
def zOne (M : zM) (F : zKt → zO) : Prop := ∃ o : Option (zNx ⊕ (Option Value × zM)), (∀ K, F K = zap o K) ∧ (∀ q, o = some (.inl q) → zle M q.2.2.2) ∧ ∀ q, o = some (.inr q) → q.2 = M
theorem zOne_k {M M1 : zM} (h : zle M M1) (pc : Nat) (l : zLs) (st : List Value) : zOne M (fun K => K pc l st M1) :=
  ⟨some (.inl (pc, l, st, M1)), fun _ => rfl, fun q hq => (by cases hq; exact h), fun q hq => (by cases hq)⟩
theorem zOne_n {M : zM} : zOne M (fun _ => none) := ⟨none, fun _ => rfl, fun q hq => (by cases hq), fun q hq => (by cases hq)⟩
theorem zOne_r {M : zM} (r : Option Value) : zOne M (fun _ => some (r, M)) := ⟨some (.inr (r, M)), fun _ => rfl, fun q hq => (by cases hq), fun q hq => (by cases hq; rfl)⟩
theorem zOne_zif {M : zM} {c : Prop} [Decidable c] {F : zKt → zO} (h : zOne M F) : zOne M (fun K => zif c (F K)) := by
  by_cases hc : c
  · simpa [zif, hc] using h
  · simpa [zif, hc] using zOne_n
theorem zOne_zok {M : zM} {b : Bool} {F : zKt → zO} (h : zOne M F) : zOne M (fun K => zok b (F K)) := by
  cases b
  · exact zOne_n
  · exact h
theorem zOne_ite {M : zM} {c : Prop} [Decidable c] {F G : zKt → zO} (h : zOne M F) (k : zOne M G) : zOne M (fun K => if c then F K else G K) := by
  by_cases hc : c
  · simpa [hc] using h
  · simpa [hc] using k
theorem zOne_z1i {M : zM} {st : List Value} {F : Int32 → List Value → zKt → zO} (h : ∀ x s, zOne M (F x s)) : zOne M (fun K => z1i st (fun x s => F x s K)) := by
  unfold z1i; split; exact h _ _; exact zOne_n
theorem zOne_z2i {M : zM} {st : List Value} {F : Int32 → Int32 → List Value → zKt → zO} (h : ∀ x y s, zOne M (F x y s)) : zOne M (fun K => z2i st (fun x y s => F x y s K)) := by
  unfold z2i; split; exact h _ _ _; exact zOne_n
theorem zOne_z1l {M : zM} {st : List Value} {F : Int64 → List Value → zKt → zO} (h : ∀ x s, zOne M (F x s)) : zOne M (fun K => z1l st (fun x s => F x s K)) := by
  unfold z1l; split; exact h _ _; exact zOne_n
theorem zOne_z2l {M : zM} {st : List Value} {F : Int64 → Int64 → List Value → zKt → zO} (h : ∀ x y s, zOne M (F x y s)) : zOne M (fun K => z2l st (fun x y s => F x y s K)) := by
  unfold z2l; split; exact h _ _ _; exact zOne_n
theorem zOne_zli {M : zM} {st : List Value} {F : Int64 → Int32 → List Value → zKt → zO} (h : ∀ x y s, zOne M (F x y s)) : zOne M (fun K => zli st (fun x y s => F x y s K)) := by
  unfold zli; split; exact h _ _ _; exact zOne_n
theorem zOne_z1r {M : zM} {st : List Value} {F : Nat → List Value → zKt → zO} (h : ∀ x s, zOne M (F x s)) : zOne M (fun K => z1r st (fun x s => F x s K)) := by
  unfold z1r; split; exact h _ _; exact zOne_n
theorem zOne_zri {M : zM} {st : List Value} {F : Nat → Int32 → List Value → zKt → zO} (h : ∀ x y s, zOne M (F x y s)) : zOne M (fun K => zri st (fun x y s => F x y s K)) := by
  unfold zri; split; exact h _ _ _; exact zOne_n
theorem zOne_zrl {M : zM} {st : List Value} {F : Nat → Int64 → List Value → zKt → zO} (h : ∀ x y s, zOne M (F x y s)) : zOne M (fun K => zrl st (fun x y s => F x y s K)) := by
  unfold zrl; split; exact h _ _ _; exact zOne_n
theorem zOne_zrr {M : zM} {st : List Value} {F : Nat → Nat → List Value → zKt → zO} (h : ∀ x y s, zOne M (F x y s)) : zOne M (fun K => zrr st (fun x y s => F x y s K)) := by
  unfold zrr; split; exact h _ _ _; exact zOne_n
theorem zOne_zrii {M : zM} {st : List Value} {F : Nat → Int32 → Int32 → List Value → zKt → zO} (h : ∀ x y z s, zOne M (F x y z s)) : zOne M (fun K => zrii st (fun x y z s => F x y z s K)) := by
  unfold zrii; split; exact h _ _ _ _; exact zOne_n
theorem zOne_zril {M : zM} {st : List Value} {F : Nat → Int32 → Int64 → List Value → zKt → zO} (h : ∀ x y z s, zOne M (F x y z s)) : zOne M (fun K => zril st (fun x y z s => F x y z s K)) := by
  unfold zril; split; exact h _ _ _ _; exact zOne_n
theorem zOne_zrir {M : zM} {st : List Value} {F : Nat → Int32 → Nat → List Value → zKt → zO} (h : ∀ x y z s, zOne M (F x y z s)) : zOne M (fun K => zrir st (fun x y z s => F x y z s K)) := by
  unfold zrir; split; exact h _ _ _ _; exact zOne_n
theorem zOne_zld {M : zM} {l : zLs} {i : Nat} {F : Value → zKt → zO} (h : ∀ v, zOne M (F v)) : zOne M (fun K => zld l i (fun v => F v K)) := by
  unfold zld; split; exact h _; exact zOne_n
theorem zOne_zvi {M : zM} {v : Value} {F : Int32 → zKt → zO} (h : ∀ v, zOne M (F v)) : zOne M (fun K => zvi v (fun v => F v K)) := by
  unfold zvi; split; exact h _; exact zOne_n
theorem zOne_zvl {M : zM} {v : Value} {F : Int64 → zKt → zO} (h : ∀ v, zOne M (F v)) : zOne M (fun K => zvl v (fun v => F v K)) := by
  unfold zvl; split; exact h _; exact zOne_n
theorem zOne_zvr {M : zM} {v : Value} {F : Nat → zKt → zO} (h : ∀ v, zOne M (F v)) : zOne M (fun K => zvr v (fun v => F v K)) := by
  unfold zvr; split; exact h _; exact zOne_n
theorem zOne_zoR {M : zM} {v : Option Nat} {F : Nat → zKt → zO} (h : ∀ v, zOne M (F v)) : zOne M (fun K => zoR v (fun v => F v K)) := by
  unfold zoR; split; exact h _; exact zOne_n
theorem zOne_zcond {M : zM} {c : ClassFile.Cond} {x y : Int32} {F G : zKt → zO} (h : zOne M F) (k : zOne M G) : zOne M (fun K => zcond c x y (F K) (G K)) := by
  unfold zcond; split <;> exact zOne_ite h k
theorem zOne_zsw {M : zM} {x : Int32} {d : Nat} {F : Nat → zKt → zO} (h : ∀ t, zOne M (F t)) : ∀ (ts : List Nat) (lo : Nat), zOne M (fun K => zsw x lo ts d (fun t => F t K))
  | [], _ => h d
  | t :: ts, lo => zOne_ite (h t) (zOne_zsw h ts (lo + 1))
theorem zOne_zlk {M : zM} {x : Int32} {d : Nat} {F : Nat → zKt → zO} (h : ∀ t, zOne M (F t)) : ∀ (ts : List Nat), zOne M (fun K => zlk x ts d (fun t => F t K))
  | [] => h d
  | [_] => h d
  | _ :: t :: ts => zOne_ite (h t) (zOne_zlk h ts)
theorem zOne_zret {M : zM} {rt : Nat} {o : zO} {rest : List Value} {F : List Value → zM → zKt → zO} (ho : ∀ r M', o = some (r, M') → zle M M') (h : ∀ s M', zle M M' → zOne M (F s M')) : zOne M (fun K => zret rt o rest (fun s M' => F s M' K)) := by
  unfold zret
  split
  · unfold zbV; split
    · exact h _ _ (ho _ _ rfl)
    · exact zOne_n
  · unfold zbI; split
    · exact h _ _ (ho _ _ rfl)
    · exact zOne_n
  · unfold zbL; split
    · exact h _ _ (ho _ _ rfl)
    · exact zOne_n
  · unfold zbR; split
    · exact h _ _ (ho _ _ rfl)
    · exact zOne_n
theorem zOne_zcall {M : zM} {E : zE0} (hE : ∀ y as M r M', E y as M = some (r, M') → zle M M') {y n rt tag : Nat} {st : List Value} {F : List Value → zM → zKt → zO} (h : ∀ s M', zle M M' → zOne M (F s M')) : zOne M (fun K => zcall E y n rt tag st M (fun s M' => F s M' K)) := by
  unfold zcall
  split
  · exact zOne_n
  split
  · exact zOne_zret (fun r M' q => hE _ _ _ _ _ q) h
  · split
    · exact zOne_zif (zOne_zret (fun r M' q => hE _ _ _ _ _ q) h)
    · exact zOne_n
theorem zOne_zinvoke {M : zM} {E : zE0} (hE : ∀ y as M r M', E y as M = some (r, M') → zle M M') {r : List Nat} {st : List Value} {F : List Value → zM → zKt → zO} (h : ∀ s M', zle M M' → zOne M (F s M')) : zOne M (fun K => zinvoke E r st M (fun s M' => F s M' K)) := by
  unfold zinvoke
  split
  · split
    · exact zOne_z1r (fun _ s => zOne_zok (h s M (zle.rf M)))
    · split
      · exact zOne_zif (h _ _ ⟨Nat.le_refl _, Nat.le_refl _⟩)
      · exact zOne_n
    · exact zOne_z2i (fun _ _ s => zOne_zok (h _ M (zle.rf M)))
    · exact zOne_z2i (fun _ _ s => zOne_zok (h _ M (zle.rf M)))
    · exact zOne_zcall hE h
  · exact zOne_n
theorem zOne_zgetf {M : zM} {r : List Nat} {a : Nat} {st : List Value} {F : List Value → zKt → zO} (h : ∀ s, zOne M (F s)) : zOne M (fun K => zgetf r a st M (fun s => F s K)) := by
  unfold zgetf
  split
  · refine zOne_zif ?_
    split
    · exact h _
    · exact zOne_zoR (fun q => h _)
    · exact h _
  · exact zOne_n
theorem zOne_zputf {M : zM} {r : List Nat} {st : List Value} {F : List Value → zM → zKt → zO} (h : ∀ s M', zle M M' → zOne M (F s M')) : zOne M (fun K => zputf r st M (fun s M' => F s M' K)) := by
  unfold zputf
  split
  · split
    · exact zOne_zrl (fun a x s => zOne_zif (h _ _ ⟨Nat.le_refl _, Nat.le_refl _⟩))
    · exact zOne_zrr (fun a x s => zOne_zif (h _ _ ⟨Nat.le_refl _, Nat.le_refl _⟩))
    · exact zOne_zri (fun a x s => zOne_zif (h _ _ ⟨Nat.le_refl _, Nat.le_refl _⟩))
    · exact zOne_zri (fun a x s => zOne_zif (h _ _ ⟨Nat.le_refl _, Nat.le_refl _⟩))
  · exact zOne_n
theorem zle.sI (M : zM) (a i : Nat) (x : Int32) : zle M (zsI M a i x) := ⟨Nat.le_refl _, Nat.le_refl _⟩
theorem zle.sL (M : zM) (a i : Nat) (x : Int64) : zle M (zsL M a i x) := ⟨Nat.le_refl _, Nat.le_refl _⟩
theorem zle.sR (M : zM) (a i : Nat) (x : Option Nat) : zle M (zsR M a i x) := ⟨Nat.le_refl _, Nat.le_refl _⟩
set_option maxHeartbeats 4000000 in
theorem zstep_one {E : zE0} (hE : ∀ y as M r M', E y as M = some (r, M') → zle M M') (rt : Nat) (i : Instr) (r : List Nat) (pc : Nat) (l : zLs) (st : List Value) (M : zM) : zOne M (zstep E rt i r pc l st M) := by
  cases i
  case iconst => exact zOne_k (zle.rf M) _ _ _
  case bipush => exact zOne_k (zle.rf M) _ _ _
  case sipush => exact zOne_k (zle.rf M) _ _ _
  case ldc => exact zOne_k (zle.rf M) _ _ _
  case ldc_w => exact zOne_k (zle.rf M) _ _ _
  case lconst => exact zOne_k (zle.rf M) _ _ _
  case ldc2_w => exact zOne_k (zle.rf M) _ _ _
  case iload_n => exact zOne_zld fun v => zOne_zvi fun x => zOne_k (zle.rf M) _ _ _
  case iload => exact zOne_zld fun v => zOne_zvi fun x => zOne_k (zle.rf M) _ _ _
  case lload_n => exact zOne_zld fun v => zOne_zvl fun x => zOne_k (zle.rf M) _ _ _
  case lload => exact zOne_zld fun v => zOne_zvl fun x => zOne_k (zle.rf M) _ _ _
  case aload_n => exact zOne_zld fun v => zOne_zvr fun x => zOne_k (zle.rf M) _ _ _
  case aload => exact zOne_zld fun v => zOne_zvr fun x => zOne_k (zle.rf M) _ _ _
  case istore_n => exact zOne_z1i fun x s => zOne_zok (zOne_k (zle.rf M) _ _ _)
  case istore => exact zOne_z1i fun x s => zOne_zok (zOne_k (zle.rf M) _ _ _)
  case lstore_n => exact zOne_z1l fun x s => zOne_zok (zOne_k (zle.rf M) _ _ _)
  case lstore => exact zOne_z1l fun x s => zOne_zok (zOne_k (zle.rf M) _ _ _)
  case astore_n => exact zOne_z1r fun x s => zOne_zok (zOne_k (zle.rf M) _ _ _)
  case astore => exact zOne_z1r fun x s => zOne_zok (zOne_k (zle.rf M) _ _ _)
  case iinc => exact zOne_zld fun v => zOne_zvi fun x => zOne_zok (zOne_k (zle.rf M) _ _ _)
  case iadd => exact zOne_z2i fun x y s => zOne_k (zle.rf M) _ _ _
  case isub => exact zOne_z2i fun x y s => zOne_k (zle.rf M) _ _ _
  case imul => exact zOne_z2i fun x y s => zOne_k (zle.rf M) _ _ _
  case iand => exact zOne_z2i fun x y s => zOne_k (zle.rf M) _ _ _
  case idiv => exact zOne_z2i fun x y s => zOne_zif (zOne_k (zle.rf M) _ _ _)
  case irem => exact zOne_z2i fun x y s => zOne_zif (zOne_k (zle.rf M) _ _ _)
  case ishr => exact zOne_z2i fun x y s => zOne_k (zle.rf M) _ _ _
  case iushr => exact zOne_z2i fun x y s => zOne_k (zle.rf M) _ _ _
  case ladd => exact zOne_z2l fun x y s => zOne_k (zle.rf M) _ _ _
  case lsub => exact zOne_z2l fun x y s => zOne_k (zle.rf M) _ _ _
  case land => exact zOne_z2l fun x y s => zOne_k (zle.rf M) _ _ _
  case lor => exact zOne_z2l fun x y s => zOne_k (zle.rf M) _ _ _
  case lxor => exact zOne_z2l fun x y s => zOne_k (zle.rf M) _ _ _
  case lcmp => exact zOne_z2l fun x y s => zOne_k (zle.rf M) _ _ _
  case lshl => exact zOne_zli fun x y s => zOne_k (zle.rf M) _ _ _
  case lshr => exact zOne_zli fun x y s => zOne_k (zle.rf M) _ _ _
  case lushr => exact zOne_zli fun x y s => zOne_k (zle.rf M) _ _ _
  case i2l => exact zOne_z1i fun x s => zOne_k (zle.rf M) _ _ _
  case l2i => exact zOne_z1l fun x s => zOne_k (zle.rf M) _ _ _
  case i2b => exact zOne_z1i fun x s => zOne_k (zle.rf M) _ _ _
  case i2c => exact zOne_z1i fun x s => zOne_k (zle.rf M) _ _ _
  case dup => unfold zstep; dsimp only; split <;> first | exact zOne_k (zle.rf M) _ _ _ | exact zOne_n
  case pop => unfold zstep; dsimp only; split <;> first | exact zOne_k (zle.rf M) _ _ _ | exact zOne_n
  case dup2 => unfold zstep; dsimp only; split <;> first | exact zOne_k (zle.rf M) _ _ _ | exact zOne_n
  case goto => exact zOne_k (zle.rf M) _ _ _
  case ifCond => exact zOne_z1i fun x s => zOne_zcond (zOne_k (zle.rf M) _ _ _) (zOne_k (zle.rf M) _ _ _)
  case if_icmp => exact zOne_z2i fun x y s => zOne_zcond (zOne_k (zle.rf M) _ _ _) (zOne_k (zle.rf M) _ _ _)
  case tableswitch =>
    refine zOne_z1i (F := fun x s K => match r with
      | d :: lo :: ts => zsw x lo ts d (fun t => K t l s M)
      | _ => none) fun x s => ?_
    split
    · exact zOne_zsw (F := fun t K => K t l s M) (fun t => zOne_k (zle.rf M) _ _ _) _ _
    · exact zOne_n
  case lookupswitch =>
    refine zOne_z1i (F := fun x s K => match r with
      | d :: ts => zlk x ts d (fun t => K t l s M)
      | _ => none) fun x s => ?_
    split
    · exact zOne_zlk (F := fun t K => K t l s M) (fun t => zOne_k (zle.rf M) _ _ _) _
    · exact zOne_n
  case getfield => exact zOne_z1r fun a s => zOne_zgetf fun s' => zOne_k (zle.rf M) _ _ _
  case putfield => exact zOne_zputf fun s M' h => zOne_k h _ _ _
  case getstatic => exact zOne_k (zle.rf M) _ _ _
  case iaload => exact zOne_zri fun a j s => zOne_zif (zOne_k (zle.rf M) _ _ _)
  case baload => exact zOne_zri fun a j s => zOne_zif (zOne_k (zle.rf M) _ _ _)
  case laload => exact zOne_zri fun a j s => zOne_zif (zOne_k (zle.rf M) _ _ _)
  case aaload => exact zOne_zri fun a j s => zOne_zif (zOne_zoR fun q => zOne_k (zle.rf M) _ _ _)
  case iastore => exact zOne_zrii fun a j x s => zOne_zif (zOne_k (zle.sI M _ _ _) _ _ _)
  case bastore => exact zOne_zrii fun a j x s => zOne_ite (zOne_zif (zOne_k (zle.sI M _ _ _) _ _ _)) (zOne_zif (zOne_k (zle.sI M _ _ _) _ _ _))
  case lastore => exact zOne_zril fun a j x s => zOne_zif (zOne_k (zle.sL M _ _ _) _ _ _)
  case aastore => exact zOne_zrir fun a j x s => zOne_zif (zOne_k (zle.sR M _ _ _) _ _ _)
  case arraylength => exact zOne_z1r fun a s => zOne_zif (zOne_k (zle.rf M) _ _ _)
  case new => exact zOne_k (zle.new M _ _) _ _ _
  case newarray => exact zOne_z1i fun x s => zOne_zif (zOne_k (zle.new M _ _) _ _ _)
  case anewarray => exact zOne_z1i fun x s => zOne_zif (zOne_k (zle.new M _ _) _ _ _)
  case invokevirtual => exact zOne_zinvoke hE fun s M' h => zOne_k h _ _ _
  case invokespecial => exact zOne_zinvoke hE fun s M' h => zOne_k h _ _ _
  case invokestatic => exact zOne_zinvoke hE fun s M' h => zOne_k h _ _ _
  case ireturn => unfold zstep; dsimp only; split <;> first | (split <;> first | exact zOne_zif (zOne_r _) | exact zOne_r _ | exact zOne_n) | exact zOne_n
  case lreturn => unfold zstep; dsimp only; split <;> first | exact zOne_zok (zOne_r _) | exact zOne_n
  case areturn => unfold zstep; dsimp only; split <;> first | exact zOne_zok (zOne_r _) | exact zOne_n
  case return_ => unfold zstep; dsimp only; split <;> first | exact zOne_zok (zOne_r _) | exact zOne_n
  all_goals exact zOne_n
end
section
/-- most locals, kind of answer, code, heads of loops with the places that are dead there -/
abbrev zMi : Type := Nat × Nat × List zC × List (Nat × List Nat)
abbrev zTab : Type := Nat → zMi
def zat (C : List zC) (pc : Nat) : Option (Instr × Nat × List Nat) := match C with
  | [] => none
  | e :: C => match Nat.beq e.1 pc with
    | true => some e.2
    | false => zat C pc
def zhd (H : List (Nat × List Nat)) (pc : Nat) : Option (List Nat) := match H with
  | [] => none
  | e :: H => match Nat.beq e.1 pc with
    | true => some e.2
    | false => zhd H pc
def zforget (ds : List Nat) (l : zLs) : zLs := match ds with
  | [] => l
  | i :: ds => zforget ds (l.set i none)
def zfg (H : List (Nat × List Nat)) (pc : Nat) (l : zLs) : zLs := match zhd H pc with
  | none => l
  | some ds => zforget ds l
def zent : List Value → zLs
  | [] => []
  | v :: vs => match v.category with
    | 2 => some v :: none :: zent vs
    | _ => some v :: zent vs
def zpad (n : Nat) (l : zLs) : zLs := match n, l with
  | 0, l => l
  | n + 1, [] => none :: zpad n []
  | n + 1, x :: l => x :: zpad n l
def zloc (n : Nat) (as : List Value) : zLs := zpad n (zent as)
def zrun (T : zTab) (E : zE0) (y : Nat) : Nat → zKt
  | 0, _, _, _, _ => none
  | n + 1, pc, l, st, M => match zat (T y).2.2.1 pc with
    | none => none
    | some q => zstep E (T y).2.1 q.1 q.2.2 pc l st M (fun pc' l' st' M' => zrun T E y n pc' (zfg (T y).2.2.2 pc' l') st' M')
noncomputable def zF (T : zTab) (E : zE0) (y : Nat) : zKt := fun pc l st M =>
  @dite zO (∃ res n, zrun T E y n pc l st M = some res) (Classical.propDecidable _) (fun h => some h.choose) (fun _ => none)
noncomputable def zE (T : zTab) : Nat → zE0
  | 0 => fun _ _ _ => none
  | d + 1 => fun y as M => zok (Nat.ble (zent as).length (T y).1) (zF T (zE T d) y 0 (zloc (T y).1 as) [] M)
def zEn (T : zTab) (n : Nat) : Nat → zE0
  | 0 => fun _ _ _ => none
  | d + 1 => fun y as M => zok (Nat.ble (zent as).length (T y).1) (zrun T (zEn T n d) y n 0 (zloc (T y).1 as) [] M)
theorem zok_inv {b : Bool} {x : zO} {r : Option Value × zM} (h : zok b x = some r) : b = true ∧ x = some r := by
  cases b with
  | true => exact ⟨rfl, h⟩
  | false => cases h
theorem zok_mk {b : Bool} {x : zO} {r : Option Value × zM} (hb : b = true) (h : x = some r) : zok b x = some r := by
  subst hb; exact h
def zKle (K1 K2 : zKt) : Prop := ∀ pc l st M res, K1 pc l st M = some res → K2 pc l st M = some res
def zEle (E1 E2 : zE0) : Prop := ∀ y as M res, E1 y as M = some res → E2 y as M = some res
def zEok (E : zE0) : Prop := ∀ y as M r M', E y as M = some (r, M') → zle M M'
theorem zret_mono {rt : Nat} {o1 o2 : zO} (ho : ∀ res, o1 = some res → o2 = some res) {rest : List Value} {K : List Value → zM → zO} {res : Option Value × zM} (h : zret rt o1 rest K = some res) : zret rt o2 rest K = some res := by
  cases o1 with
  | none =>
    exfalso
    unfold zret at h
    split at h <;> first | (unfold zbV at h; simp at h; done) | (unfold zbI at h; simp at h; done) | (unfold zbL at h; simp at h; done) | (unfold zbR at h; simp at h; done)
  | some q => rw [ho q rfl]; exact h
theorem zcall_mono {E1 E2 : zE0} (hE : zEle E1 E2) {y n rt tag : Nat} {st : List Value} {M : zM} {K : List Value → zM → zO} {res : Option Value × zM} (h : zcall E1 y n rt tag st M K = some res) : zcall E2 y n rt tag st M K = some res := by
  unfold zcall at h ⊢
  cases hb : (Nat.ble n st.length && zroomy (st.drop n)) with
  | false => rw [hb] at h; cases h
  | true =>
    rw [hb] at h
    try dsimp only at h ⊢
    match tag, h with
    | 0, h => exact zret_mono (fun res q => hE _ _ _ _ q) h
    | t + 1, h =>
      try dsimp only at h ⊢
      generalize ha : (st.take n).reverse = as at h ⊢
      match as, h with
      | .ref b :: as, h =>
        try dsimp only at h ⊢
        unfold zif at h ⊢
        by_cases hk : (zK M b).1 = t + 1
        · rw [if_pos hk] at h ⊢
          exact zret_mono (fun res q => hE _ _ _ _ q) h
        · rw [if_neg hk] at h; cases h
theorem zinvoke_mono {E1 E2 : zE0} (hE : zEle E1 E2) {r : List Nat} {st : List Value} {M : zM} {K : List Value → zM → zO} {res : Option Value × zM} (h : zinvoke E1 r st M K = some res) : zinvoke E2 r st M K = some res := by
  unfold zinvoke at h ⊢
  split at h
  · split at h
    · exact h
    · exact h
    · exact h
    · exact h
    · exact zcall_mono hE h
  · cases h
theorem zstep_E {E1 E2 : zE0} (hE : zEle E1 E2) {rt : Nat} {i : Instr} {r : List Nat} {pc : Nat} {l : zLs} {st : List Value} {M : zM} {K : zKt} {res : Option Value × zM} (h : zstep E1 rt i r pc l st M K = some res) : zstep E2 rt i r pc l st M K = some res := by
  cases i
  case invokevirtual => exact zinvoke_mono hE h
  case invokespecial => exact zinvoke_mono hE h
  case invokestatic => exact zinvoke_mono hE h
  all_goals exact h
theorem zap_mono {o : Option (zNx ⊕ (Option Value × zM))} {K1 K2 : zKt} (hK : zKle K1 K2) {res : Option Value × zM} (h : zap o K1 = some res) : zap o K2 = some res := by
  match o, h with
  | some (.inl q), h => exact hK _ _ _ _ _ h
  | some (.inr q), h => exact h
theorem zstep_K {E : zE0} (hE : zEok E) {rt : Nat} {i : Instr} {r : List Nat} {pc : Nat} {l : zLs} {st : List Value} {M : zM} {K1 K2 : zKt} (hK : zKle K1 K2) {res : Option Value × zM} (h : zstep E rt i r pc l st M K1 = some res) : zstep E rt i r pc l st M K2 = some res := by
  obtain ⟨o, ho, -, -⟩ := zstep_one hE rt i r pc l st M
  rw [ho] at h ⊢
  exact zap_mono hK h
theorem zrun_le {T : zTab} {E : zE0} (hE : zEok E) {y : Nat} : ∀ n pc l st M r M', zrun T E y n pc l st M = some (r, M') → zle M M' := by
  intro n
  induction n with
  | zero => intro pc l st M r M' h; cases h
  | succ n ih =>
    intro pc l st M r M' h
    unfold zrun at h
    split at h
    · cases h
    · rename_i q hq
      obtain ⟨o, ho, h1, h2⟩ := zstep_one hE (T y).2.1 q.1 q.2.2 pc l st M
      rw [ho] at h
      match o, h, h1, h2 with
      | some (.inl q), h, h1, _ => exact (h1 q rfl).tr (ih _ _ _ _ _ _ h)
      | some (.inr q), h, _, h2 =>
        have e := h2 q rfl
        have e2 : q = (r, M') := Option.some.inj h
        rw [e2] at e
        dsimp only at e
        rw [e]
        exact zle.rf M
theorem zrun_succ {T : zTab} {E : zE0} (hE : zEok E) {y : Nat} : ∀ n, zKle (zrun T E y n) (zrun T E y (n + 1)) := by
  intro n
  induction n with
  | zero => intro pc l st M res h; cases h
  | succ n ih =>
    intro pc l st M res h
    unfold zrun at h ⊢
    split at h
    · cases h
    · rename_i q hq
      exact zstep_K hE (fun pc l st M res h => ih _ _ _ _ _ h) h
theorem zrun_mono {T : zTab} {E : zE0} (hE : zEok E) {y : Nat} {n k : Nat} (hk : n ≤ k) : zKle (zrun T E y n) (zrun T E y k) := by
  induction hk with
  | refl => exact fun _ _ _ _ _ h => h
  | step _ ih => exact fun pc l st M res h => zrun_succ hE _ _ _ _ _ _ (ih _ _ _ _ _ h)
theorem zF_of {T : zTab} {E : zE0} (hE : zEok E) {y n pc : Nat} {l : zLs} {st : List Value} {M : zM} {res : Option Value × zM} (h : zrun T E y n pc l st M = some res) : zF T E y pc l st M = some res := by
  have hex : ∃ res n, zrun T E y n pc l st M = some res := ⟨res, n, h⟩
  unfold zF
  rw [dif_pos hex]
  obtain ⟨k, hk⟩ := hex.choose_spec
  have a := zrun_mono hE (Nat.le_max_left n k) _ _ _ _ _ h
  have b := zrun_mono hE (Nat.le_max_right n k) _ _ _ _ _ hk
  rw [a] at b
  exact b.symm
theorem zF_ex {T : zTab} {E : zE0} {y pc : Nat} {l : zLs} {st : List Value} {M : zM} {res : Option Value × zM} (h : zF T E y pc l st M = some res) : ∃ n, zrun T E y n pc l st M = some res := by
  unfold zF at h
  by_cases hex : ∃ res n, zrun T E y n pc l st M = some res
  · rw [dif_pos hex] at h
    obtain ⟨k, hk⟩ := hex.choose_spec
    exact ⟨k, by rw [hk]; exact h⟩
  · rw [dif_neg hex] at h
    cases h
def zgo (T : zTab) (E : zE0) (y : Nat) (K : zKt) : zKt := fun pc l st M => match zat (T y).2.2.1 pc with
  | none => none
  | some q => zstep E (T y).2.1 q.1 q.2.2 pc l st M (fun pc' l' st' M' => K pc' (zfg (T y).2.2.2 pc' l') st' M')
theorem zF_eq {T : zTab} {E : zE0} (hE : zEok E) {y pc : Nat} {l : zLs} {st : List Value} {M : zM} : zF T E y pc l st M = zgo T E y (zF T E y) pc l st M := by
  cases hL : zF T E y pc l st M with
  | some res =>
    obtain ⟨n, hn⟩ := zF_ex hL
    cases n with
    | zero => cases hn
    | succ n =>
      unfold zrun at hn
      unfold zgo
      split at hn
      · cases hn
      · rename_i q hq
        exact (zstep_K hE (fun pc l st M res h => zF_of hE h) hn).symm
  | none =>
    cases hR : zgo T E y (zF T E y) pc l st M with
    | none => rfl
    | some res =>
      exfalso
      unfold zgo at hR
      split at hR
      · cases hR
      · rename_i q hq
        obtain ⟨o, ho, -, -⟩ := zstep_one hE (T y).2.1 q.1 q.2.2 pc l st M
        rw [ho] at hR
        have hex : ∃ n, zrun T E y n pc l st M = some res := by
          match o, hR, ho with
          | some (.inl w), hR, ho =>
            obtain ⟨n, hn⟩ := zF_ex (show zF T E y _ _ _ _ = some res from hR)
            refine ⟨n + 1, ?_⟩
            unfold zrun
            rw [hq]
            dsimp only
            rw [ho]
            exact hn
          | some (.inr w), hR, ho =>
            refine ⟨1, ?_⟩
            unfold zrun
            rw [hq]
            dsimp only
            rw [ho]
            exact hR
        obtain ⟨n, hn⟩ := hex
        rw [zF_of hE hn] at hL
        cases hL
theorem zE_ok (T : zTab) : ∀ d, zEok (zE T d)
  | 0 => fun _ _ _ _ _ h => by cases h
  | d + 1 => fun y as M r M' h => by
    obtain ⟨n, hn⟩ := zF_ex (zok_inv h).2
    exact zrun_le (zE_ok T d) _ _ _ _ _ _ _ hn
theorem zrun_E {T : zTab} {E1 E2 : zE0} (h1 : zEok E1) (h2 : zEok E2) (hE : zEle E1 E2) {y : Nat} : ∀ n, zKle (zrun T E1 y n) (zrun T E2 y n) := by
  intro n
  induction n with
  | zero => intro pc l st M res h; cases h
  | succ n ih =>
    intro pc l st M res h
    unfold zrun at h ⊢
    split at h
    · cases h
    · rename_i q hq
      exact zstep_E hE (zstep_K h1 (fun pc l st M res h => ih _ _ _ _ _ h) h)
theorem zE_succ (T : zTab) : ∀ d, zEle (zE T d) (zE T (d + 1))
  | 0 => fun _ _ _ _ h => by cases h
  | d + 1 => fun y as M res h => by
    obtain ⟨n, hn⟩ := zF_ex (zok_inv h).2
    refine zok_mk (zok_inv h).1 ?_
    exact zF_of (zE_ok T (d + 1)) (zrun_E (zE_ok T d) (zE_ok T (d + 1)) (zE_succ T d) n _ _ _ _ _ hn)
theorem zE_mono (T : zTab) {d k : Nat} (hk : d ≤ k) {y : Nat} {as : List Value} {M : zM} {res : Option Value × zM} (h : zE T d y as M = some res) : zE T k y as M = some res := by
  induction hk with
  | refl => exact h
  | step _ ih => exact zE_succ T _ _ _ _ _ ih
theorem zEn_ok (T : zTab) (n : Nat) : ∀ d, zEok (zEn T n d)
  | 0 => fun _ _ _ _ _ h => by cases h
  | d + 1 => fun y as M r M' h => zrun_le (zEn_ok T n d) _ _ _ _ _ _ _ (zok_inv h).2
theorem zE_of (T : zTab) (n : Nat) : ∀ d, zEle (zEn T n d) (zE T d)
  | 0 => fun _ _ _ _ h => by cases h
  | d + 1 => fun y as M res h => zok_mk (zok_inv h).1 (zF_of (zE_ok T d) (zrun_E (zEn_ok T n d) (zE_ok T d) (zE_of T n d) n _ _ _ _ _ (zok_inv h).2))
/-- a stretch of steps, up to a head of a loop: what a region's equation says -/
def zsg (m : zMi) (E : zE0) (K : zKt) : Nat → zKt
  | 0, pc, l, st, M => K pc l st M
  | n + 1, pc, l, st, M => match zat m.2.2.1 pc with
    | none => none
    | some q => zstep E m.2.1 q.1 q.2.2 pc l st M (fun pc' l' st' M' => match zhd m.2.2.2 pc' with
      | none => zsg m E K n pc' l' st' M'
      | some ds => K pc' (zforget ds l') st' M')
theorem zstep_congr {E : zE0} {rt : Nat} {i : Instr} {r : List Nat} {pc : Nat} {l : zLs} {st : List Value} {M : zM} {K1 K2 : zKt} (h : ∀ pc l st M, K1 pc l st M = K2 pc l st M) : zstep E rt i r pc l st M K1 = zstep E rt i r pc l st M K2 := by
  have e : K1 = K2 := by funext a b c d; exact h a b c d
  rw [e]
theorem zF_sg {T : zTab} {E : zE0} (hE : zEok E) {y : Nat} {m : zMi} (hm : T y = m) : ∀ (n pc : Nat) (l : zLs) (st : List Value) (M : zM), zF T E y pc l st M = zsg m E (zF T E y) n pc l st M := by
  subst hm
  intro n
  induction n with
  | zero => intro pc l st M; rfl
  | succ n ih =>
    intro pc l st M
    rw [zF_eq hE]
    unfold zgo zsg
    split
    · rfl
    · refine zstep_congr fun pc' l' st' M' => ?_
      unfold zfg
      split
      · exact ih _ _ _ _
      · rfl
/-! names for what a region's equation shares -/
def zbi (x : Int32) (f : Int32 → zO) : zO := f x
def zbl (x : Int64) (f : Int64 → zO) : zO := f x
def zbm (M : zM) (f : zM → zO) : zO := f M
end
section
def zc_Bu_init : List zC := [(0, .aload_n 0, 1, []), (1, .invokespecial 3, 3, [1000, 1, 0, 0]), (4, .aload_n 0, 1, []), (5, .bipush 27, 2, [27]), (7, .newarray .long, 2, [23]), (9, .putfield 9, 3, [2, 0, 0]), (12, .aload_n 0, 1, []), (13, .bipush 27, 2, [27]), (15, .newarray .long, 2, [23]), (17, .putfield 15, 3, [2, 0, 1]), (20, .aload_n 0, 1, []), (21, .bipush 27, 2, [27]), (23, .newarray .int, 2, [20]), (25, .putfield 18, 3, [2, 0, 2]), (28, .aload_n 0, 1, []), (29, .bipush 27, 2, [27]), (31, .newarray .int, 2, [20]), (33, .putfield 22, 3, [2, 0, 3]), (36, .aload_n 0, 1, []), (37, .bipush 27, 2, [27]), (39, .newarray .int, 2, [20]), (41, .putfield 25, 3, [2, 0, 4]), (44, .aload_n 0, 1, []), (45, .new 28, 3, [3, 11]), (48, .dup, 1, []), (49, .invokespecial 30, 3, [24, 1, 0, 0]), (52, .putfield 31, 3, [2, 0, 6]), (55, .return_, 1, [])]
def zm_Bu_init : zMi := (1, 0, zc_Bu_init, [])
def zc_Bu_begin : List zC := [(0, .aload_n 0, 1, []), (1, .aload_n 1, 1, []), (2, .putfield 31, 3, [2, 0, 6]), (5, .aload_n 0, 1, []), (6, .getfield 31, 3, [2, 0, 6]), (9, .invokevirtual 35, 3, [25, 1, 0, 4]), (12, .aload_n 0, 1, []), (13, .iconst 0, 1, [0]), (14, .putfield 38, 3, [0, 0, 5]), (17, .return_, 1, [])]
def zm_Bu_begin : zMi := (2, 0, zc_Bu_begin, [])
def zc_Bu_condition : List zC := [(0, .aload_n 0, 1, []), (1, .getfield 31, 3, [2, 0, 6]), (4, .aload_n 1, 1, []), (5, .invokevirtual 42, 3, [26, 2, 2, 4]), (8, .lstore_n 2, 1, []), (9, .aload_n 0, 1, []), (10, .getfield 38, 3, [0, 0, 5]), (13, .bipush 27, 2, [27]), (15, .if_icmp .ge 69, 3, [84]), (18, .aload_n 0, 1, []), (19, .getfield 9, 3, [2, 0, 0]), (22, .aload_n 0, 1, []), (23, .getfield 38, 3, [0, 0, 5]), (26, .lload_n 2, 1, []), (27, .lastore, 1, []), (28, .aload_n 0, 1, []), (29, .getfield 15, 3, [2, 0, 1]), (32, .aload_n 0, 1, []), (33, .getfield 38, 3, [0, 0, 5]), (36, .lload_n 2, 1, []), (37, .lastore, 1, []), (38, .aload_n 0, 1, []), (39, .getfield 18, 3, [2, 0, 2]), (42, .aload_n 0, 1, []), (43, .getfield 38, 3, [0, 0, 5]), (46, .aload_n 0, 1, []), (47, .getfield 31, 3, [2, 0, 6]), (50, .getfield 46, 3, [0, 3, 7]), (53, .iastore, 1, []), (54, .aload_n 0, 1, []), (55, .getfield 22, 3, [2, 0, 3]), (58, .aload_n 0, 1, []), (59, .getfield 38, 3, [0, 0, 5]), (62, .iconst 1, 1, [1]), (63, .iastore, 1, []), (64, .aload_n 0, 1, []), (65, .getfield 25, 3, [2, 0, 4]), (68, .aload_n 0, 1, []), (69, .getfield 38, 3, [0, 0, 5]), (72, .iconst 1, 1, [1]), (73, .iastore, 1, []), (74, .aload_n 0, 1, []), (75, .dup, 1, []), (76, .getfield 38, 3, [0, 0, 5]), (79, .iconst 1, 1, [1]), (80, .iadd, 1, []), (81, .putfield 38, 3, [0, 0, 5]), (84, .return_, 1, [])]
def zm_Bu_condition : zMi := (4, 0, zc_Bu_condition, [])
def zc_Bu_chainTwo : List zC := [(0, .aload_n 0, 1, []), (1, .getfield 38, 3, [0, 0, 5]), (4, .iconst 2, 1, [2]), (5, .if_icmp .ge 4, 3, [9]), (8, .return_, 1, []), (9, .aload_n 0, 1, []), (10, .dup, 1, []), (11, .getfield 38, 3, [0, 0, 5]), (14, .iconst 1, 1, [1]), (15, .isub, 1, []), (16, .putfield 38, 3, [0, 0, 5]), (19, .aload_n 0, 1, []), (20, .getfield 38, 3, [0, 0, 5]), (23, .iconst 1, 1, [1]), (24, .isub, 1, []), (25, .istore_n 1, 1, []), (26, .aload_n 0, 1, []), (27, .getfield 31, 3, [2, 0, 6]), (30, .aload_n 0, 1, []), (31, .getfield 15, 3, [2, 0, 1]), (34, .iload_n 1, 1, []), (35, .laload, 1, []), (36, .aload_n 0, 1, []), (37, .getfield 9, 3, [2, 0, 0]), (40, .aload_n 0, 1, []), (41, .getfield 38, 3, [0, 0, 5]), (44, .laload, 1, []), (45, .invokevirtual 49, 3, [27, 3, 0, 4]), (48, .aload_n 0, 1, []), (49, .getfield 22, 3, [2, 0, 3]), (52, .iload_n 1, 1, []), (53, .iaload, 1, []), (54, .ifCond .ne 21, 3, [75]), (57, .aload_n 0, 1, []), (58, .getfield 9, 3, [2, 0, 0]), (61, .iload_n 1, 1, []), (62, .dup2, 1, []), (63, .laload, 1, []), (64, .aload_n 0, 1, []), (65, .getfield 9, 3, [2, 0, 0]), (68, .aload_n 0, 1, []), (69, .getfield 38, 3, [0, 0, 5]), (72, .laload, 1, []), (73, .lor, 1, []), (74, .lastore, 1, []), (75, .aload_n 0, 1, []), (76, .getfield 15, 3, [2, 0, 1]), (79, .iload_n 1, 1, []), (80, .aload_n 0, 1, []), (81, .getfield 22, 3, [2, 0, 3]), (84, .aload_n 0, 1, []), (85, .getfield 38, 3, [0, 0, 5]), (88, .iaload, 1, []), (89, .ifCond .ne 22, 3, [111]), (92, .aload_n 0, 1, []), (93, .getfield 15, 3, [2, 0, 1]), (96, .iload_n 1, 1, []), (97, .laload, 1, []), (98, .aload_n 0, 1, []), (99, .getfield 15, 3, [2, 0, 1]), (102, .aload_n 0, 1, []), (103, .getfield 38, 3, [0, 0, 5]), (106, .laload, 1, []), (107, .lor, 1, []), (108, .goto 12, 3, [120]), (111, .aload_n 0, 1, []), (112, .getfield 15, 3, [2, 0, 1]), (115, .aload_n 0, 1, []), (116, .getfield 38, 3, [0, 0, 5]), (119, .laload, 1, []), (120, .lastore, 1, []), (121, .aload_n 0, 1, []), (122, .getfield 22, 3, [2, 0, 3]), (125, .iload_n 1, 1, []), (126, .sipush 1000, 3, [1000]), (129, .aload_n 0, 1, []), (130, .getfield 22, 3, [2, 0, 3]), (133, .iload_n 1, 1, []), (134, .iaload, 1, []), (135, .aload_n 0, 1, []), (136, .getfield 22, 3, [2, 0, 3]), (139, .aload_n 0, 1, []), (140, .getfield 38, 3, [0, 0, 5]), (143, .iaload, 1, []), (144, .iadd, 1, []), (145, .invokestatic 53, 3, [1003, 2, 1, 0]), (148, .iastore, 1, []), (149, .aload_n 0, 1, []), (150, .getfield 25, 3, [2, 0, 4]), (153, .iload_n 1, 1, []), (154, .sipush 1000, 3, [1000]), (157, .aload_n 0, 1, []), (158, .getfield 25, 3, [2, 0, 4]), (161, .iload_n 1, 1, []), (162, .iaload, 1, []), (163, .aload_n 0, 1, []), (164, .getfield 25, 3, [2, 0, 4]), (167, .aload_n 0, 1, []), (168, .getfield 38, 3, [0, 0, 5]), (171, .iaload, 1, []), (172, .iadd, 1, []), (173, .invokestatic 53, 3, [1003, 2, 1, 0]), (176, .iastore, 1, []), (177, .return_, 1, [])]
def zm_Bu_chainTwo : zMi := (2, 0, zc_Bu_chainTwo, [(75, []), (120, [])])
def zc_Bu_chooseOfTwo : List zC := [(0, .aload_n 0, 1, []), (1, .getfield 38, 3, [0, 0, 5]), (4, .iconst 2, 1, [2]), (5, .if_icmp .ge 4, 3, [9]), (8, .return_, 1, []), (9, .aload_n 0, 1, []), (10, .dup, 1, []), (11, .getfield 38, 3, [0, 0, 5]), (14, .iconst 1, 1, [1]), (15, .isub, 1, []), (16, .putfield 38, 3, [0, 0, 5]), (19, .aload_n 0, 1, []), (20, .getfield 38, 3, [0, 0, 5]), (23, .iconst 1, 1, [1]), (24, .isub, 1, []), (25, .istore_n 1, 1, []), (26, .aload_n 0, 1, []), (27, .getfield 9, 3, [2, 0, 0]), (30, .iload_n 1, 1, []), (31, .dup2, 1, []), (32, .laload, 1, []), (33, .aload_n 0, 1, []), (34, .getfield 9, 3, [2, 0, 0]), (37, .aload_n 0, 1, []), (38, .getfield 38, 3, [0, 0, 5]), (41, .laload, 1, []), (42, .lor, 1, []), (43, .lastore, 1, []), (44, .aload_n 0, 1, []), (45, .getfield 15, 3, [2, 0, 1]), (48, .iload_n 1, 1, []), (49, .dup2, 1, []), (50, .laload, 1, []), (51, .aload_n 0, 1, []), (52, .getfield 15, 3, [2, 0, 1]), (55, .aload_n 0, 1, []), (56, .getfield 38, 3, [0, 0, 5]), (59, .laload, 1, []), (60, .lor, 1, []), (61, .lastore, 1, []), (62, .aload_n 0, 1, []), (63, .getfield 22, 3, [2, 0, 3]), (66, .iload_n 1, 1, []), (67, .aload_n 0, 1, []), (68, .getfield 22, 3, [2, 0, 3]), (71, .iload_n 1, 1, []), (72, .iaload, 1, []), (73, .aload_n 0, 1, []), (74, .getfield 22, 3, [2, 0, 3]), (77, .aload_n 0, 1, []), (78, .getfield 38, 3, [0, 0, 5]), (81, .iaload, 1, []), (82, .invokestatic 53, 3, [1003, 2, 1, 0]), (85, .iastore, 1, []), (86, .aload_n 0, 1, []), (87, .getfield 25, 3, [2, 0, 4]), (90, .iload_n 1, 1, []), (91, .aload_n 0, 1, []), (92, .getfield 25, 3, [2, 0, 4]), (95, .iload_n 1, 1, []), (96, .iaload, 1, []), (97, .aload_n 0, 1, []), (98, .getfield 25, 3, [2, 0, 4]), (101, .aload_n 0, 1, []), (102, .getfield 38, 3, [0, 0, 5]), (105, .iaload, 1, []), (106, .invokestatic 59, 3, [1002, 2, 1, 0]), (109, .iastore, 1, []), (110, .return_, 1, [])]
def zm_Bu_chooseOfTwo : zMi := (2, 0, zc_Bu_chooseOfTwo, [])
def zc_Bu_repeat : List zC := [(0, .aload_n 0, 1, []), (1, .getfield 38, 3, [0, 0, 5]), (4, .iconst 1, 1, [1]), (5, .if_icmp .ge 4, 3, [9]), (8, .return_, 1, []), (9, .aload_n 0, 1, []), (10, .getfield 38, 3, [0, 0, 5]), (13, .iconst 1, 1, [1]), (14, .isub, 1, []), (15, .istore_n 3, 1, []), (16, .aload_n 0, 1, []), (17, .getfield 31, 3, [2, 0, 6]), (20, .getfield 46, 3, [0, 3, 7]), (23, .aload_n 0, 1, []), (24, .getfield 18, 3, [2, 0, 2]), (27, .iload_n 3, 1, []), (28, .iaload, 1, []), (29, .isub, 1, []), (30, .iconst 1, 1, [1]), (31, .iadd, 1, []), (32, .istore 4, 2, []), (34, .aload_n 0, 1, []), (35, .getfield 31, 3, [2, 0, 6]), (38, .getfield 62, 3, [0, 3, 10]), (41, .ifCond .ne 17, 3, [58]), (44, .aload_n 0, 1, []), (45, .getfield 31, 3, [2, 0, 6]), (48, .aload_n 0, 1, []), (49, .getfield 18, 3, [2, 0, 2]), (52, .iload_n 3, 1, []), (53, .iaload, 1, []), (54, .iload_n 2, 1, []), (55, .invokevirtual 66, 3, [28, 3, 0, 4]), (58, .aload_n 0, 1, []), (59, .getfield 31, 3, [2, 0, 6]), (62, .getfield 62, 3, [0, 3, 10]), (65, .ifCond .ne 12, 3, [77]), (68, .aload_n 0, 1, []), (69, .iload_n 3, 1, []), (70, .iload 4, 2, []), (72, .iload_n 1, 1, []), (73, .iload_n 2, 1, []), (74, .invokevirtual 70, 3, [6, 5, 0, 1]), (77, .aload_n 0, 1, []), (78, .getfield 22, 3, [2, 0, 3]), (81, .iload_n 3, 1, []), (82, .sipush 1000, 3, [1000]), (85, .aload_n 0, 1, []), (86, .getfield 22, 3, [2, 0, 3]), (89, .iload_n 3, 1, []), (90, .iaload, 1, []), (91, .iload_n 1, 1, []), (92, .imul, 1, []), (93, .invokestatic 53, 3, [1003, 2, 1, 0]), (96, .iastore, 1, []), (97, .aload_n 0, 1, []), (98, .getfield 25, 3, [2, 0, 4]), (101, .iload_n 3, 1, []), (102, .sipush 1000, 3, [1000]), (105, .aload_n 0, 1, []), (106, .getfield 25, 3, [2, 0, 4]), (109, .iload_n 3, 1, []), (110, .iaload, 1, []), (111, .iload_n 2, 1, []), (112, .imul, 1, []), (113, .invokestatic 53, 3, [1003, 2, 1, 0]), (116, .iastore, 1, []), (117, .return_, 1, [])]
def zm_Bu_repeat : zMi := (5, 0, zc_Bu_repeat, [(77, [4])])
def zc_Bu_chainCopies : List zC := [(0, .aload_n 0, 1, []), (1, .getfield 9, 3, [2, 0, 0]), (4, .iload_n 1, 1, []), (5, .laload, 1, []), (6, .lstore 5, 2, []), (8, .aload_n 0, 1, []), (9, .getfield 15, 3, [2, 0, 1]), (12, .iload_n 1, 1, []), (13, .laload, 1, []), (14, .lstore 7, 2, []), (16, .aload_n 0, 1, []), (17, .getfield 22, 3, [2, 0, 3]), (20, .iload_n 1, 1, []), (21, .iaload, 1, []), (22, .ifCond .ne 7, 3, [29]), (25, .iconst 1, 1, [1]), (26, .goto 8, 3, [34]), (29, .iconst 1, 1, [1]), (30, .iload_n 3, 1, []), (31, .invokestatic 59, 3, [1002, 2, 1, 0]), (34, .istore 9, 2, []), (36, .aload_n 0, 1, []), (37, .getfield 15, 3, [2, 0, 1]), (40, .iload_n 1, 1, []), (41, .lconst 0, 1, [0]), (42, .lastore, 1, []), (43, .iconst 0, 1, [0]), (44, .istore 10, 2, []), (46, .iload 10, 2, []), (48, .iload 4, 2, []), (50, .if_icmp .ge 62, 3, [112]), (53, .iload 10, 2, []), (55, .iload_n 2, 1, []), (56, .imul, 1, []), (57, .istore 11, 2, []), (59, .iload 10, 2, []), (61, .ifCond .le 22, 3, [83]), (64, .aload_n 0, 1, []), (65, .getfield 31, 3, [2, 0, 6]), (68, .lload 7, 2, []), (70, .iload 11, 2, []), (72, .iload_n 2, 1, []), (73, .isub, 1, []), (74, .lshl, 1, []), (75, .lload 5, 2, []), (77, .iload 11, 2, []), (79, .lshl, 1, []), (80, .invokevirtual 49, 3, [27, 3, 0, 4]), (83, .iload 10, 2, []), (85, .iload 9, 2, []), (87, .iconst 1, 1, [1]), (88, .isub, 1, []), (89, .if_icmp .lt 17, 3, [106]), (92, .aload_n 0, 1, []), (93, .getfield 15, 3, [2, 0, 1]), (96, .iload_n 1, 1, []), (97, .dup2, 1, []), (98, .laload, 1, []), (99, .lload 7, 2, []), (101, .iload 11, 2, []), (103, .lshl, 1, []), (104, .lor, 1, []), (105, .lastore, 1, []), (106, .iinc 10 1, 3, [1]), (109, .goto (-63), 3, [46]), (112, .return_, 1, [])]
def zm_Bu_chainCopies : zMi := (12, 0, zc_Bu_chainCopies, [(46, [3, 6, 8, 11])])
def zc_Bu_finish : List zC := [(0, .aload_n 0, 1, []), (1, .getfield 38, 3, [0, 0, 5]), (4, .iconst 1, 1, [1]), (5, .if_icmp .ge 4, 3, [9]), (8, .return_, 1, []), (9, .aload_n 0, 1, []), (10, .getfield 31, 3, [2, 0, 6]), (13, .getfield 74, 3, [2, 3, 0]), (16, .iconst 0, 1, [0]), (17, .aload_n 0, 1, []), (18, .getfield 9, 3, [2, 0, 0]), (21, .iconst 0, 1, [0]), (22, .laload, 1, []), (23, .lastore, 1, []), (24, .aload_n 0, 1, []), (25, .getfield 31, 3, [2, 0, 6]), (28, .aload_n 0, 1, []), (29, .getfield 15, 3, [2, 0, 1]), (32, .iconst 0, 1, [0]), (33, .laload, 1, []), (34, .putfield 77, 3, [1, 3, 3]), (37, .aload_n 0, 1, []), (38, .getfield 31, 3, [2, 0, 6]), (41, .aload_n 0, 1, []), (42, .getfield 22, 3, [2, 0, 3]), (45, .iconst 0, 1, [0]), (46, .iaload, 1, []), (47, .putfield 80, 3, [0, 3, 8]), (50, .aload_n 0, 1, []), (51, .getfield 31, 3, [2, 0, 6]), (54, .aload_n 0, 1, []), (55, .getfield 25, 3, [2, 0, 4]), (58, .iconst 0, 1, [0]), (59, .iaload, 1, []), (60, .putfield 82, 3, [0, 3, 9]), (63, .aload_n 0, 1, []), (64, .getfield 31, 3, [2, 0, 6]), (67, .getfield 62, 3, [0, 3, 10]), (70, .ifCond .ne 10, 3, [80]), (73, .aload_n 0, 1, []), (74, .getfield 31, 3, [2, 0, 6]), (77, .invokevirtual 84, 3, [29, 1, 0, 4]), (80, .return_, 1, [])]
def zm_Bu_finish : zMi := (1, 0, zc_Bu_finish, [])
def zc_Pl_init : List zC := [(0, .aload_n 0, 1, []), (1, .invokespecial 3, 3, [1000, 1, 0, 0]), (4, .aload_n 0, 1, []), (5, .new 9, 3, [3, 11]), (8, .dup, 1, []), (9, .invokespecial 11, 3, [24, 1, 0, 0]), (12, .putfield 12, 3, [2, 1, 0]), (15, .aload_n 0, 1, []), (16, .new 9, 3, [3, 11]), (19, .dup, 1, []), (20, .invokespecial 11, 3, [24, 1, 0, 0]), (23, .putfield 18, 3, [2, 1, 1]), (26, .aload_n 0, 1, []), (27, .iconst 4, 1, [4]), (28, .newarray .long, 2, [23]), (30, .putfield 21, 3, [2, 1, 2]), (33, .return_, 1, [])]
def zm_Pl_init : zMi := (1, 0, zc_Pl_init, [])
def zc_Pl_sideOf : List zC := [(0, .iload_n 1, 1, []), (1, .ifCond .ne 10, 3, [11]), (4, .aload_n 0, 1, []), (5, .getfield 12, 3, [2, 1, 0]), (8, .goto 7, 3, [15]), (11, .aload_n 0, 1, []), (12, .getfield 18, 3, [2, 1, 1]), (15, .areturn, 1, [])]
def zm_Pl_sideOf : zMi := (2, 4, zc_Pl_sideOf, [])
def zc_Pl_isPutOffBy : List zC := [(0, .aload_n 0, 1, []), (1, .getfield 25, 3, [0, 1, 3]), (4, .ifCond .eq 19, 3, [23]), (7, .aload_n 0, 1, []), (8, .getfield 21, 3, [2, 1, 2]), (11, .iconst 0, 1, [0]), (12, .iload_n 1, 1, []), (13, .invokestatic 29, 3, [118, 3, 1, 0]), (16, .ifCond .eq 7, 3, [23]), (19, .iconst 1, 1, [1]), (20, .goto 4, 3, [24]), (23, .iconst 0, 1, [0]), (24, .ireturn, 1, [])]
def zm_Pl_isPutOffBy : zMi := (2, 2, zc_Pl_isPutOffBy, [])
def zc_Re_init : List zC := [(0, .aload_n 0, 1, []), (1, .invokespecial 3, 3, [1000, 1, 0, 0]), (4, .aload_n 0, 1, []), (5, .new 9, 3, [5, 8]), (8, .dup, 1, []), (9, .invokespecial 11, 3, [39, 1, 0, 0]), (12, .putfield 12, 3, [2, 2, 0]), (15, .aload_n 0, 1, []), (16, .new 18, 3, [7, 2]), (19, .dup, 1, []), (20, .invokespecial 20, 3, [50, 1, 0, 0]), (23, .putfield 21, 3, [2, 2, 1]), (26, .aload_n 0, 1, []), (27, .new 25, 3, [0, 7]), (30, .dup, 1, []), (31, .invokespecial 27, 3, [0, 1, 0, 0]), (34, .putfield 28, 3, [2, 2, 2]), (37, .return_, 1, [])]
def zm_Re_init : zMi := (1, 0, zc_Re_init, [])
def zc_Re_readAll : List zC := [(0, .aload_n 0, 1, []), (1, .getfield 12, 3, [2, 2, 0]), (4, .invokevirtual 32, 3, [40, 1, 0, 6]), (7, .aload_n 0, 1, []), (8, .getfield 21, 3, [2, 2, 1]), (11, .invokevirtual 35, 3, [51, 1, 0, 8]), (14, .iconst 0, 1, [0]), (15, .istore_n 2, 1, []), (16, .iload_n 2, 1, []), (17, .iconst 4, 1, [4]), (18, .if_icmp .gt 71, 3, [89]), (21, .aload_n 0, 1, []), (22, .getfield 12, 3, [2, 2, 0]), (25, .getfield 38, 3, [0, 5, 3]), (28, .ifCond .ne 5, 3, [33]), (31, .iload_n 2, 1, []), (32, .ireturn, 1, []), (33, .aload_n 0, 1, []), (34, .getfield 12, 3, [2, 2, 0]), (37, .invokevirtual 42, 3, [46, 1, 1, 6]), (40, .ifCond .ne 14, 3, [54]), (43, .aload_n 0, 1, []), (44, .getfield 12, 3, [2, 2, 0]), (47, .iconst 2, 1, [2]), (48, .invokevirtual 46, 3, [41, 2, 1, 6]), (51, .pop, 1, []), (52, .iconst (-1), 1, [1, 1]), (53, .ireturn, 1, []), (54, .iload_n 2, 1, []), (55, .aload_n 1, 1, []), (56, .arraylength, 1, []), (57, .if_icmp .lt 14, 3, [71]), (60, .aload_n 0, 1, []), (61, .getfield 12, 3, [2, 2, 0]), (64, .iconst 4, 1, [4]), (65, .invokevirtual 46, 3, [41, 2, 1, 6]), (68, .pop, 1, []), (69, .iconst (-1), 1, [1, 1]), (70, .ireturn, 1, []), (71, .aload_n 0, 1, []), (72, .aload_n 1, 1, []), (73, .iload_n 2, 1, []), (74, .aaload, 1, []), (75, .invokevirtual 50, 3, [13, 2, 1, 3]), (78, .ifCond .ne 5, 3, [83]), (81, .iconst (-1), 1, [1, 1]), (82, .ireturn, 1, []), (83, .iinc 2 1, 3, [1]), (86, .goto (-70), 3, [16]), (89, .iconst (-1), 1, [1, 1]), (90, .ireturn, 1, [])]
def zm_Re_readAll : zMi := (3, 1, zc_Re_readAll, [(16, [])])
def zc_Re_readPromise : List zC := [(0, .aload_n 0, 1, []), (1, .getfield 28, 3, [2, 2, 2]), (4, .aload_n 1, 1, []), (5, .getfield 54, 3, [2, 1, 0]), (8, .invokevirtual 60, 3, [1, 2, 0, 1]), (11, .aload_n 0, 1, []), (12, .iconst 0, 1, [0]), (13, .invokevirtual 63, 3, [15, 2, 1, 3]), (16, .ifCond .ne 5, 3, [21]), (19, .iconst 0, 1, [0]), (20, .ireturn, 1, []), (21, .aload_n 0, 1, []), (22, .getfield 28, 3, [2, 2, 2]), (25, .invokevirtual 66, 3, [7, 1, 0, 1]), (28, .aload_n 0, 1, []), (29, .getfield 12, 3, [2, 2, 0]), (32, .getfield 38, 3, [0, 5, 3]), (35, .bipush 61, 2, [61]), (37, .if_icmp .eq 24, 3, [61]), (40, .aload_n 0, 1, []), (41, .getfield 12, 3, [2, 2, 0]), (44, .getfield 38, 3, [0, 5, 3]), (47, .bipush 62, 2, [62]), (49, .if_icmp .eq 12, 3, [61]), (52, .aload_n 0, 1, []), (53, .getfield 12, 3, [2, 2, 0]), (56, .iconst 2, 1, [2]), (57, .invokevirtual 46, 3, [41, 2, 1, 6]), (60, .ireturn, 1, []), (61, .aload_n 1, 1, []), (62, .aload_n 0, 1, []), (63, .getfield 12, 3, [2, 2, 0]), (66, .getfield 38, 3, [0, 5, 3]), (69, .bipush 62, 2, [62]), (71, .if_icmp .ne 7, 3, [78]), (74, .iconst 1, 1, [1]), (75, .goto 4, 3, [79]), (78, .iconst 0, 1, [0]), (79, .putfield 69, 3, [0, 1, 4]), (82, .aload_n 0, 1, []), (83, .getfield 12, 3, [2, 2, 0]), (86, .invokevirtual 70, 3, [42, 1, 0, 6]), (89, .aload_n 0, 1, []), (90, .getfield 28, 3, [2, 2, 2]), (93, .aload_n 1, 1, []), (94, .getfield 73, 3, [2, 1, 1]), (97, .invokevirtual 60, 3, [1, 2, 0, 1]), (100, .aload_n 0, 1, []), (101, .iconst 0, 1, [0]), (102, .invokevirtual 63, 3, [15, 2, 1, 3]), (105, .ifCond .ne 5, 3, [110]), (108, .iconst 0, 1, [0]), (109, .ireturn, 1, []), (110, .aload_n 0, 1, []), (111, .getfield 28, 3, [2, 2, 2]), (114, .invokevirtual 66, 3, [7, 1, 0, 1]), (117, .aload_n 0, 1, []), (118, .aload_n 1, 1, []), (119, .invokevirtual 76, 3, [14, 2, 1, 3]), (122, .ifCond .ne 5, 3, [127]), (125, .iconst 0, 1, [0]), (126, .ireturn, 1, []), (127, .aload_n 0, 1, []), (128, .getfield 12, 3, [2, 2, 0]), (131, .getfield 38, 3, [0, 5, 3]), (134, .bipush 59, 2, [59]), (136, .if_icmp .eq 12, 3, [148]), (139, .aload_n 0, 1, []), (140, .getfield 12, 3, [2, 2, 0]), (143, .iconst 2, 1, [2]), (144, .invokevirtual 46, 3, [41, 2, 1, 6]), (147, .ireturn, 1, []), (148, .aload_n 1, 1, []), (149, .getfield 54, 3, [2, 1, 0]), (152, .getfield 79, 3, [0, 3, 8]), (155, .ifCond .eq 13, 3, [168]), (158, .aload_n 1, 1, []), (159, .getfield 73, 3, [2, 1, 1]), (162, .getfield 79, 3, [0, 3, 8]), (165, .ifCond .ne 12, 3, [177]), (168, .aload_n 0, 1, []), (169, .getfield 12, 3, [2, 2, 0]), (172, .iconst 5, 1, [5]), (173, .invokevirtual 46, 3, [41, 2, 1, 6]), (176, .ireturn, 1, []), (177, .aload_n 1, 1, []), (178, .getfield 54, 3, [2, 1, 0]), (181, .getfield 84, 3, [0, 3, 10]), (184, .ifCond .ne 13, 3, [197]), (187, .aload_n 1, 1, []), (188, .getfield 73, 3, [2, 1, 1]), (191, .getfield 84, 3, [0, 3, 10]), (194, .ifCond .eq 13, 3, [207]), (197, .aload_n 0, 1, []), (198, .getfield 12, 3, [2, 2, 0]), (201, .bipush 6, 2, [6]), (203, .invokevirtual 46, 3, [41, 2, 1, 6]), (206, .ireturn, 1, []), (207, .aload_n 0, 1, []), (208, .getfield 12, 3, [2, 2, 0]), (211, .invokevirtual 70, 3, [42, 1, 0, 6]), (214, .iconst 1, 1, [1]), (215, .ireturn, 1, [])]
def zm_Re_readPromise : zMi := (2, 2, zc_Re_readPromise, [(79, [])])
def zc_Re_readOff : List zC := [(0, .aload_n 1, 1, []), (1, .aload_n 0, 1, []), (2, .getfield 12, 3, [2, 2, 0]), (5, .getfield 38, 3, [0, 5, 3]), (8, .bipush 126, 2, [126]), (10, .if_icmp .ne 7, 3, [17]), (13, .iconst 1, 1, [1]), (14, .goto 4, 3, [18]), (17, .iconst 0, 1, [0]), (18, .putfield 88, 3, [3, 1, 3]), (21, .aload_n 1, 1, []), (22, .getfield 88, 3, [0, 1, 3]), (25, .ifCond .ne 5, 3, [30]), (28, .iconst 1, 1, [1]), (29, .ireturn, 1, []), (30, .aload_n 0, 1, []), (31, .getfield 12, 3, [2, 2, 0]), (34, .invokevirtual 70, 3, [42, 1, 0, 6]), (37, .aload_n 0, 1, []), (38, .iconst 0, 1, [0]), (39, .invokevirtual 91, 3, [22, 2, 1, 3]), (42, .ifCond .ne 5, 3, [47]), (45, .iconst 0, 1, [0]), (46, .ireturn, 1, []), (47, .aload_n 0, 1, []), (48, .getfield 21, 3, [2, 2, 1]), (51, .aload_n 1, 1, []), (52, .getfield 94, 3, [2, 1, 2]), (55, .iconst 0, 1, [0]), (56, .invokevirtual 98, 3, [57, 3, 0, 8]), (59, .iconst 1, 1, [1]), (60, .ireturn, 1, [])]
def zm_Re_readOff : zMi := (2, 2, zc_Re_readOff, [])
def zc_Re_readChoice : List zC := [(0, .aload_n 0, 1, []), (1, .iload_n 1, 1, []), (2, .invokevirtual 102, 3, [16, 2, 1, 3]), (5, .ifCond .ne 5, 3, [10]), (8, .iconst 0, 1, [0]), (9, .ireturn, 1, []), (10, .iconst 0, 1, [0]), (11, .istore_n 2, 1, []), (12, .iload_n 2, 1, []), (13, .sipush 200, 3, [200]), (16, .if_icmp .ge 45, 3, [61]), (19, .aload_n 0, 1, []), (20, .getfield 12, 3, [2, 2, 0]), (23, .getfield 38, 3, [0, 5, 3]), (26, .bipush 47, 2, [47]), (28, .if_icmp .ne 33, 3, [61]), (31, .aload_n 0, 1, []), (32, .getfield 12, 3, [2, 2, 0]), (35, .invokevirtual 70, 3, [42, 1, 0, 6]), (38, .aload_n 0, 1, []), (39, .iload_n 1, 1, []), (40, .invokevirtual 102, 3, [16, 2, 1, 3]), (43, .ifCond .ne 5, 3, [48]), (46, .iconst 0, 1, [0]), (47, .ireturn, 1, []), (48, .aload_n 0, 1, []), (49, .getfield 28, 3, [2, 2, 2]), (52, .invokevirtual 105, 3, [4, 1, 0, 1]), (55, .iinc 2 1, 3, [1]), (58, .goto (-46), 3, [12]), (61, .iconst 1, 1, [1]), (62, .ireturn, 1, [])]
def zm_Re_readChoice : zMi := (3, 2, zc_Re_readChoice, [(12, [])])
def zc_Re_readChain : List zC := [(0, .aload_n 0, 1, []), (1, .iload_n 1, 1, []), (2, .invokevirtual 108, 3, [17, 2, 1, 3]), (5, .ifCond .ne 5, 3, [10]), (8, .iconst 0, 1, [0]), (9, .ireturn, 1, []), (10, .iconst 0, 1, [0]), (11, .istore_n 2, 1, []), (12, .iload_n 2, 1, []), (13, .sipush 200, 3, [200]), (16, .if_icmp .ge 45, 3, [61]), (19, .aload_n 0, 1, []), (20, .getfield 12, 3, [2, 2, 0]), (23, .getfield 38, 3, [0, 5, 3]), (26, .bipush 44, 2, [44]), (28, .if_icmp .ne 33, 3, [61]), (31, .aload_n 0, 1, []), (32, .getfield 12, 3, [2, 2, 0]), (35, .invokevirtual 70, 3, [42, 1, 0, 6]), (38, .aload_n 0, 1, []), (39, .iload_n 1, 1, []), (40, .invokevirtual 108, 3, [17, 2, 1, 3]), (43, .ifCond .ne 5, 3, [48]), (46, .iconst 0, 1, [0]), (47, .ireturn, 1, []), (48, .aload_n 0, 1, []), (49, .getfield 28, 3, [2, 2, 2]), (52, .invokevirtual 111, 3, [3, 1, 0, 1]), (55, .iinc 2 1, 3, [1]), (58, .goto (-46), 3, [12]), (61, .iconst 1, 1, [1]), (62, .ireturn, 1, [])]
def zm_Re_readChain : zMi := (3, 2, zc_Re_readChain, [(12, [])])
def zc_Re_readRepeated : List zC := [(0, .aload_n 0, 1, []), (1, .iload_n 1, 1, []), (2, .invokevirtual 114, 3, [19, 2, 1, 3]), (5, .ifCond .ne 5, 3, [10]), (8, .iconst 0, 1, [0]), (9, .ireturn, 1, []), (10, .aload_n 0, 1, []), (11, .getfield 12, 3, [2, 2, 0]), (14, .getfield 38, 3, [0, 5, 3]), (17, .bipush 42, 2, [42]), (19, .if_icmp .eq 5, 3, [24]), (22, .iconst 1, 1, [1]), (23, .ireturn, 1, []), (24, .aload_n 0, 1, []), (25, .getfield 12, 3, [2, 2, 0]), (28, .invokevirtual 70, 3, [42, 1, 0, 6]), (31, .aload_n 0, 1, []), (32, .getfield 12, 3, [2, 2, 0]), (35, .getfield 117, 3, [0, 5, 4]), (38, .istore_n 2, 1, []), (39, .aload_n 0, 1, []), (40, .iconst 0, 1, [0]), (41, .invokevirtual 120, 3, [18, 2, 1, 3]), (44, .ifCond .ne 5, 3, [49]), (47, .iconst 0, 1, [0]), (48, .ireturn, 1, []), (49, .aload_n 0, 1, []), (50, .getfield 12, 3, [2, 2, 0]), (53, .getfield 117, 3, [0, 5, 4]), (56, .istore_n 3, 1, []), (57, .aload_n 0, 1, []), (58, .iconst 1, 1, [1]), (59, .iload_n 2, 1, []), (60, .invokestatic 123, 3, [1002, 2, 1, 0]), (63, .invokevirtual 120, 3, [18, 2, 1, 3]), (66, .ifCond .ne 5, 3, [71]), (69, .iconst 0, 1, [0]), (70, .ireturn, 1, []), (71, .aload_n 0, 1, []), (72, .getfield 28, 3, [2, 2, 2]), (75, .iload_n 2, 1, []), (76, .iload_n 3, 1, []), (77, .invokevirtual 129, 3, [5, 3, 0, 1]), (80, .iconst 1, 1, [1]), (81, .ireturn, 1, [])]
def zm_Re_readRepeated : zMi := (4, 2, zc_Re_readRepeated, [])
def zc_Re_readNumber : List zC := [(0, .aload_n 0, 1, []), (1, .getfield 12, 3, [2, 2, 0]), (4, .getfield 38, 3, [0, 5, 3]), (7, .iconst 2, 1, [2]), (8, .if_icmp .eq 12, 3, [20]), (11, .aload_n 0, 1, []), (12, .getfield 12, 3, [2, 2, 0]), (15, .iconst 2, 1, [2]), (16, .invokevirtual 46, 3, [41, 2, 1, 6]), (19, .ireturn, 1, []), (20, .aload_n 0, 1, []), (21, .getfield 12, 3, [2, 2, 0]), (24, .getfield 117, 3, [0, 5, 4]), (27, .iload_n 1, 1, []), (28, .if_icmp .lt 15, 3, [43]), (31, .aload_n 0, 1, []), (32, .getfield 12, 3, [2, 2, 0]), (35, .getfield 117, 3, [0, 5, 4]), (38, .bipush 9, 2, [9]), (40, .if_icmp .le 12, 3, [52]), (43, .aload_n 0, 1, []), (44, .getfield 12, 3, [2, 2, 0]), (47, .iconst 3, 1, [3]), (48, .invokevirtual 46, 3, [41, 2, 1, 6]), (51, .ireturn, 1, []), (52, .aload_n 0, 1, []), (53, .getfield 12, 3, [2, 2, 0]), (56, .invokevirtual 70, 3, [42, 1, 0, 6]), (59, .iconst 1, 1, [1]), (60, .ireturn, 1, [])]
def zm_Re_readNumber : zMi := (2, 2, zc_Re_readNumber, [])
def zc_Re_readPart : List zC := [(0, .aload_n 0, 1, []), (1, .getfield 12, 3, [2, 2, 0]), (4, .getfield 38, 3, [0, 5, 3]), (7, .bipush 123, 2, [123]), (9, .if_icmp .eq 26, 3, [35]), (12, .aload_n 0, 1, []), (13, .iload_n 1, 1, []), (14, .invokevirtual 133, 3, [20, 2, 1, 3]), (17, .ifCond .ne 5, 3, [22]), (20, .iconst 0, 1, [0]), (21, .ireturn, 1, []), (22, .aload_n 0, 1, []), (23, .getfield 28, 3, [2, 2, 2]), (26, .aload_n 0, 1, []), (27, .getfield 21, 3, [2, 2, 1]), (30, .invokevirtual 136, 3, [2, 2, 0, 1]), (33, .iconst 1, 1, [1]), (34, .ireturn, 1, []), (35, .iload_n 1, 1, []), (36, .bipush 8, 2, [8]), (38, .if_icmp .lt 12, 3, [50]), (41, .aload_n 0, 1, []), (42, .getfield 12, 3, [2, 2, 0]), (45, .iconst 4, 1, [4]), (46, .invokevirtual 46, 3, [41, 2, 1, 6]), (49, .ireturn, 1, []), (50, .aload_n 0, 1, []), (51, .getfield 12, 3, [2, 2, 0]), (54, .invokevirtual 70, 3, [42, 1, 0, 6]), (57, .aload_n 0, 1, []), (58, .iload_n 1, 1, []), (59, .iconst 1, 1, [1]), (60, .iadd, 1, []), (61, .invokevirtual 63, 3, [15, 2, 1, 3]), (64, .ifCond .ne 5, 3, [69]), (67, .iconst 0, 1, [0]), (68, .ireturn, 1, []), (69, .aload_n 0, 1, []), (70, .getfield 12, 3, [2, 2, 0]), (73, .getfield 38, 3, [0, 5, 3]), (76, .bipush 125, 2, [125]), (78, .if_icmp .eq 12, 3, [90]), (81, .aload_n 0, 1, []), (82, .getfield 12, 3, [2, 2, 0]), (85, .iconst 2, 1, [2]), (86, .invokevirtual 46, 3, [41, 2, 1, 6]), (89, .ireturn, 1, []), (90, .aload_n 0, 1, []), (91, .getfield 12, 3, [2, 2, 0]), (94, .invokevirtual 70, 3, [42, 1, 0, 6]), (97, .iconst 1, 1, [1]), (98, .ireturn, 1, [])]
def zm_Re_readPart : zMi := (2, 2, zc_Re_readPart, [])
def zc_Re_readCondition : List zC := [(0, .iconst 0, 1, [0]), (1, .istore_n 2, 1, []), (2, .iconst 0, 1, [0]), (3, .istore_n 3, 1, []), (4, .iload_n 3, 1, []), (5, .sipush 200, 3, [200]), (8, .if_icmp .ge 38, 3, [46]), (11, .aload_n 0, 1, []), (12, .getfield 12, 3, [2, 2, 0]), (15, .getfield 38, 3, [0, 5, 3]), (18, .bipush 33, 2, [33]), (20, .if_icmp .ne 26, 3, [46]), (23, .iload_n 2, 1, []), (24, .ifCond .ne 7, 3, [31]), (27, .iconst 1, 1, [1]), (28, .goto 4, 3, [32]), (31, .iconst 0, 1, [0]), (32, .istore_n 2, 1, []), (33, .aload_n 0, 1, []), (34, .getfield 12, 3, [2, 2, 0]), (37, .invokevirtual 70, 3, [42, 1, 0, 6]), (40, .iinc 3 1, 3, [1]), (43, .goto (-39), 3, [4]), (46, .aload_n 0, 1, []), (47, .iload_n 1, 1, []), (48, .invokevirtual 140, 3, [21, 2, 1, 3]), (51, .ifCond .ne 5, 3, [56]), (54, .iconst 0, 1, [0]), (55, .ireturn, 1, []), (56, .iload_n 2, 1, []), (57, .ifCond .eq 10, 3, [67]), (60, .aload_n 0, 1, []), (61, .getfield 21, 3, [2, 2, 1]), (64, .invokevirtual 143, 3, [54, 1, 0, 8]), (67, .iconst 1, 1, [1]), (68, .ireturn, 1, [])]
def zm_Re_readCondition : zMi := (4, 2, zc_Re_readCondition, [(4, [])])
def zc_Re_readPlain : List zC := [(0, .aload_n 0, 1, []), (1, .getfield 12, 3, [2, 2, 0]), (4, .getfield 38, 3, [0, 5, 3]), (7, .iconst 1, 1, [1]), (8, .if_icmp .ne 26, 3, [34]), (11, .aload_n 0, 1, []), (12, .getfield 21, 3, [2, 2, 1]), (15, .aload_n 0, 1, []), (16, .getfield 12, 3, [2, 2, 0]), (19, .getfield 117, 3, [0, 5, 4]), (22, .invokevirtual 146, 3, [52, 2, 0, 8]), (25, .aload_n 0, 1, []), (26, .getfield 12, 3, [2, 2, 0]), (29, .invokevirtual 70, 3, [42, 1, 0, 6]), (32, .iconst 1, 1, [1]), (33, .ireturn, 1, []), (34, .aload_n 0, 1, []), (35, .getfield 12, 3, [2, 2, 0]), (38, .getfield 38, 3, [0, 5, 3]), (41, .bipush 40, 2, [40]), (43, .if_icmp .eq 12, 3, [55]), (46, .aload_n 0, 1, []), (47, .getfield 12, 3, [2, 2, 0]), (50, .iconst 2, 1, [2]), (51, .invokevirtual 46, 3, [41, 2, 1, 6]), (54, .ireturn, 1, []), (55, .iload_n 1, 1, []), (56, .bipush 8, 2, [8]), (58, .if_icmp .lt 12, 3, [70]), (61, .aload_n 0, 1, []), (62, .getfield 12, 3, [2, 2, 0]), (65, .iconst 4, 1, [4]), (66, .invokevirtual 46, 3, [41, 2, 1, 6]), (69, .ireturn, 1, []), (70, .aload_n 0, 1, []), (71, .getfield 12, 3, [2, 2, 0]), (74, .invokevirtual 70, 3, [42, 1, 0, 6]), (77, .aload_n 0, 1, []), (78, .iload_n 1, 1, []), (79, .iconst 1, 1, [1]), (80, .iadd, 1, []), (81, .invokevirtual 91, 3, [22, 2, 1, 3]), (84, .ifCond .ne 5, 3, [89]), (87, .iconst 0, 1, [0]), (88, .ireturn, 1, []), (89, .aload_n 0, 1, []), (90, .getfield 12, 3, [2, 2, 0]), (93, .getfield 38, 3, [0, 5, 3]), (96, .bipush 41, 2, [41]), (98, .if_icmp .eq 12, 3, [110]), (101, .aload_n 0, 1, []), (102, .getfield 12, 3, [2, 2, 0]), (105, .iconst 2, 1, [2]), (106, .invokevirtual 46, 3, [41, 2, 1, 6]), (109, .ireturn, 1, []), (110, .aload_n 0, 1, []), (111, .getfield 12, 3, [2, 2, 0]), (114, .invokevirtual 70, 3, [42, 1, 0, 6]), (117, .iconst 1, 1, [1]), (118, .ireturn, 1, [])]
def zm_Re_readPlain : zMi := (2, 2, zc_Re_readPlain, [])
def zc_Re_readAnyOf : List zC := [(0, .aload_n 0, 1, []), (1, .iload_n 1, 1, []), (2, .invokevirtual 150, 3, [23, 2, 1, 3]), (5, .ifCond .ne 5, 3, [10]), (8, .iconst 0, 1, [0]), (9, .ireturn, 1, []), (10, .iconst 0, 1, [0]), (11, .istore_n 2, 1, []), (12, .iload_n 2, 1, []), (13, .sipush 200, 3, [200]), (16, .if_icmp .ge 46, 3, [62]), (19, .aload_n 0, 1, []), (20, .getfield 12, 3, [2, 2, 0]), (23, .getfield 38, 3, [0, 5, 3]), (26, .bipush 124, 2, [124]), (28, .if_icmp .ne 34, 3, [62]), (31, .aload_n 0, 1, []), (32, .getfield 12, 3, [2, 2, 0]), (35, .invokevirtual 70, 3, [42, 1, 0, 6]), (38, .aload_n 0, 1, []), (39, .iload_n 1, 1, []), (40, .invokevirtual 150, 3, [23, 2, 1, 3]), (43, .ifCond .ne 5, 3, [48]), (46, .iconst 0, 1, [0]), (47, .ireturn, 1, []), (48, .aload_n 0, 1, []), (49, .getfield 21, 3, [2, 2, 1]), (52, .iconst 0, 1, [0]), (53, .invokevirtual 153, 3, [55, 2, 0, 8]), (56, .iinc 2 1, 3, [1]), (59, .goto (-47), 3, [12]), (62, .iconst 1, 1, [1]), (63, .ireturn, 1, [])]
def zm_Re_readAnyOf : zMi := (3, 2, zc_Re_readAnyOf, [(12, [])])
def zc_Re_readAllOf : List zC := [(0, .aload_n 0, 1, []), (1, .iload_n 1, 1, []), (2, .invokevirtual 133, 3, [20, 2, 1, 3]), (5, .ifCond .ne 5, 3, [10]), (8, .iconst 0, 1, [0]), (9, .ireturn, 1, []), (10, .iconst 0, 1, [0]), (11, .istore_n 2, 1, []), (12, .iload_n 2, 1, []), (13, .sipush 200, 3, [200]), (16, .if_icmp .ge 46, 3, [62]), (19, .aload_n 0, 1, []), (20, .getfield 12, 3, [2, 2, 0]), (23, .getfield 38, 3, [0, 5, 3]), (26, .bipush 38, 2, [38]), (28, .if_icmp .ne 34, 3, [62]), (31, .aload_n 0, 1, []), (32, .getfield 12, 3, [2, 2, 0]), (35, .invokevirtual 70, 3, [42, 1, 0, 6]), (38, .aload_n 0, 1, []), (39, .iload_n 1, 1, []), (40, .invokevirtual 133, 3, [20, 2, 1, 3]), (43, .ifCond .ne 5, 3, [48]), (46, .iconst 0, 1, [0]), (47, .ireturn, 1, []), (48, .aload_n 0, 1, []), (49, .getfield 21, 3, [2, 2, 1]), (52, .iconst 1, 1, [1]), (53, .invokevirtual 153, 3, [55, 2, 0, 8]), (56, .iinc 2 1, 3, [1]), (59, .goto (-47), 3, [12]), (62, .iconst 1, 1, [1]), (63, .ireturn, 1, [])]
def zm_Re_readAllOf : zMi := (3, 2, zc_Re_readAllOf, [(12, [])])
def zc_Se_init : List zC := [(0, .aload_n 0, 1, []), (1, .invokespecial 3, 3, [1000, 1, 0, 0]), (4, .aload_n 0, 1, []), (5, .bipush 41, 2, [41]), (7, .newarray .long, 2, [23]), (9, .putfield 9, 3, [2, 3, 0]), (12, .aload_n 0, 1, []), (13, .bipush 40, 2, [40]), (15, .newarray .long, 2, [23]), (17, .putfield 15, 3, [2, 3, 1]), (20, .aload_n 0, 1, []), (21, .sipush 160, 3, [160]), (24, .newarray .long, 2, [23]), (26, .putfield 18, 3, [2, 3, 2]), (29, .return_, 1, [])]
def zm_Se_init : zMi := (1, 0, zc_Se_init, [])
def zc_Se_clear : List zC := [(0, .aload_n 0, 1, []), (1, .iconst 0, 1, [0]), (2, .putfield 21, 3, [0, 3, 6]), (5, .aload_n 0, 1, []), (6, .iconst 0, 1, [0]), (7, .putfield 25, 3, [0, 3, 7]), (10, .aload_n 0, 1, []), (11, .iconst 0, 1, [0]), (12, .putfield 28, 3, [3, 3, 10]), (15, .return_, 1, [])]
def zm_Se_clear : zMi := (1, 0, zc_Se_clear, [])
def zc_Se_addCondition : List zC := [(0, .aload_n 0, 1, []), (1, .getfield 25, 3, [0, 3, 7]), (4, .bipush 40, 2, [40]), (6, .if_icmp .ge 12, 3, [18]), (9, .aload_n 0, 1, []), (10, .getfield 21, 3, [0, 3, 6]), (13, .bipush 40, 2, [40]), (15, .if_icmp .lt 8, 3, [23]), (18, .aload_n 0, 1, []), (19, .iconst 1, 1, [1]), (20, .putfield 28, 3, [3, 3, 10]), (23, .aload_n 0, 1, []), (24, .getfield 28, 3, [0, 3, 10]), (27, .ifCond .eq 9, 3, [36]), (30, .aload_n 1, 1, []), (31, .invokevirtual 32, 3, [56, 1, 0, 8]), (34, .lconst 0, 1, [0]), (35, .lreturn, 1, []), (36, .aload_n 1, 1, []), (37, .aload_n 0, 1, []), (38, .getfield 18, 3, [2, 3, 2]), (41, .aload_n 0, 1, []), (42, .getfield 21, 3, [0, 3, 6]), (45, .invokevirtual 37, 3, [57, 3, 0, 8]), (48, .aload_n 0, 1, []), (49, .dup, 1, []), (50, .getfield 25, 3, [0, 3, 7]), (53, .iconst 1, 1, [1]), (54, .iadd, 1, []), (55, .putfield 25, 3, [0, 3, 7]), (58, .aload_n 0, 1, []), (59, .getfield 9, 3, [2, 3, 0]), (62, .aload_n 0, 1, []), (63, .getfield 25, 3, [0, 3, 7]), (66, .lconst 0, 1, [0]), (67, .lastore, 1, []), (68, .aload_n 0, 1, []), (69, .getfield 15, 3, [2, 3, 1]), (72, .aload_n 0, 1, []), (73, .getfield 21, 3, [0, 3, 6]), (76, .lconst 1, 1, [1]), (77, .aload_n 0, 1, []), (78, .getfield 25, 3, [0, 3, 7]), (81, .lshl, 1, []), (82, .lastore, 1, []), (83, .aload_n 0, 1, []), (84, .dup, 1, []), (85, .getfield 21, 3, [0, 3, 6]), (88, .iconst 1, 1, [1]), (89, .iadd, 1, []), (90, .putfield 21, 3, [0, 3, 6]), (93, .lconst 1, 1, [1]), (94, .aload_n 0, 1, []), (95, .getfield 25, 3, [0, 3, 7]), (98, .lshl, 1, []), (99, .lreturn, 1, [])]
def zm_Se_addCondition : zMi := (2, 3, zc_Se_addCondition, [(23, [])])
def zc_Se_link : List zC := [(0, .lload_n 1, 1, []), (1, .lstore 5, 2, []), (3, .iconst 0, 1, [0]), (4, .istore 7, 2, []), (6, .iload 7, 2, []), (8, .aload_n 0, 1, []), (9, .getfield 25, 3, [0, 3, 7]), (12, .if_icmp .gt 42, 3, [54]), (15, .lload 5, 2, []), (17, .lconst 0, 1, [0]), (18, .lcmp, 1, []), (19, .ifCond .eq 35, 3, [54]), (22, .lload 5, 2, []), (24, .lconst 1, 1, [1]), (25, .land, 1, []), (26, .lconst 0, 1, [0]), (27, .lcmp, 1, []), (28, .ifCond .eq 14, 3, [42]), (31, .aload_n 0, 1, []), (32, .getfield 9, 3, [2, 3, 0]), (35, .iload 7, 2, []), (37, .dup2, 1, []), (38, .laload, 1, []), (39, .lload_n 3, 1, []), (40, .lor, 1, []), (41, .lastore, 1, []), (42, .lload 5, 2, []), (44, .iconst 1, 1, [1]), (45, .lushr, 1, []), (46, .lstore 5, 2, []), (48, .iinc 7 1, 3, [1]), (51, .goto (-45), 3, [6]), (54, .return_, 1, [])]
def zm_Se_link : zMi := (8, 0, zc_Se_link, [(6, [1, 2, 4, 6])])
def zc_Se_copyBlock : List zC := [(0, .aload_n 0, 1, []), (1, .getfield 25, 3, [0, 3, 7]), (4, .istore_n 3, 1, []), (5, .iload_n 3, 1, []), (6, .iload_n 1, 1, []), (7, .isub, 1, []), (8, .iconst 1, 1, [1]), (9, .iadd, 1, []), (10, .istore 4, 2, []), (12, .iload_n 3, 1, []), (13, .iload 4, 2, []), (15, .iload_n 2, 1, []), (16, .iconst 1, 1, [1]), (17, .isub, 1, []), (18, .imul, 1, []), (19, .iadd, 1, []), (20, .bipush 40, 2, [40]), (22, .if_icmp .le 9, 3, [31]), (25, .aload_n 0, 1, []), (26, .iconst 1, 1, [1]), (27, .putfield 28, 3, [3, 3, 10]), (30, .return_, 1, []), (31, .lconst 1, 1, [1]), (32, .iload 4, 2, []), (34, .lshl, 1, []), (35, .lconst 1, 1, [1]), (36, .lsub, 1, []), (37, .iload_n 1, 1, []), (38, .lshl, 1, []), (39, .lstore 5, 2, []), (41, .iconst 1, 1, [1]), (42, .istore 7, 2, []), (44, .iload 7, 2, []), (46, .iload_n 2, 1, []), (47, .if_icmp .ge 51, 3, [98]), (50, .iload 7, 2, []), (52, .iload 4, 2, []), (54, .imul, 1, []), (55, .istore 8, 2, []), (57, .iload_n 1, 1, []), (58, .istore 9, 2, []), (60, .iload 9, 2, []), (62, .iload_n 3, 1, []), (63, .if_icmp .gt 29, 3, [92]), (66, .aload_n 0, 1, []), (67, .getfield 9, 3, [2, 3, 0]), (70, .iload 9, 2, []), (72, .iload 8, 2, []), (74, .iadd, 1, []), (75, .aload_n 0, 1, []), (76, .getfield 9, 3, [2, 3, 0]), (79, .iload 9, 2, []), (81, .laload, 1, []), (82, .iload 8, 2, []), (84, .lshl, 1, []), (85, .lastore, 1, []), (86, .iinc 9 1, 3, [1]), (89, .goto (-29), 3, [60]), (92, .iinc 7 1, 3, [1]), (95, .goto (-51), 3, [44]), (98, .iconst 0, 1, [0]), (99, .istore 7, 2, []), (101, .iload 7, 2, []), (103, .aload_n 0, 1, []), (104, .getfield 21, 3, [0, 3, 6]), (107, .if_icmp .ge 54, 3, [161]), (110, .aload_n 0, 1, []), (111, .getfield 15, 3, [2, 3, 1]), (114, .iload 7, 2, []), (116, .laload, 1, []), (117, .lload 5, 2, []), (119, .land, 1, []), (120, .lstore 8, 2, []), (122, .iconst 1, 1, [1]), (123, .istore 10, 2, []), (125, .iload 10, 2, []), (127, .iload_n 2, 1, []), (128, .if_icmp .ge 27, 3, [155]), (131, .aload_n 0, 1, []), (132, .getfield 15, 3, [2, 3, 1]), (135, .iload 7, 2, []), (137, .dup2, 1, []), (138, .laload, 1, []), (139, .lload 8, 2, []), (141, .iload 10, 2, []), (143, .iload 4, 2, []), (145, .imul, 1, []), (146, .lshl, 1, []), (147, .lor, 1, []), (148, .lastore, 1, []), (149, .iinc 10 1, 3, [1]), (152, .goto (-27), 3, [125]), (155, .iinc 7 1, 3, [1]), (158, .goto (-57), 3, [101]), (161, .aload_n 0, 1, []), (162, .iload_n 3, 1, []), (163, .iload 4, 2, []), (165, .iload_n 2, 1, []), (166, .iconst 1, 1, [1]), (167, .isub, 1, []), (168, .imul, 1, []), (169, .iadd, 1, []), (170, .putfield 25, 3, [0, 3, 7]), (173, .return_, 1, [])]
def zm_Se_copyBlock : zMi := (11, 0, zc_Se_copyBlock, [(44, [6, 8, 9, 10]), (60, [6, 10]), (101, [1, 6, 8, 9, 10]), (125, [1, 6, 9])])
def zc_Se_findUseful : List zC := [(0, .aload_n 0, 1, []), (1, .lconst 0, 1, [0]), (2, .putfield 41, 3, [1, 3, 4]), (5, .aload_n 0, 1, []), (6, .lconst 0, 1, [0]), (7, .putfield 45, 3, [1, 3, 5]), (10, .lconst 1, 1, [1]), (11, .lstore_n 1, 1, []), (12, .iconst 0, 1, [0]), (13, .istore_n 3, 1, []), (14, .iload_n 3, 1, []), (15, .aload_n 0, 1, []), (16, .getfield 21, 3, [0, 3, 6]), (19, .if_icmp .ge 29, 3, [48]), (22, .aload_n 0, 1, []), (23, .getfield 18, 3, [2, 3, 2]), (26, .iload_n 3, 1, []), (27, .invokestatic 48, 3, [119, 2, 1, 0]), (30, .ifCond .le 12, 3, [42]), (33, .lload_n 1, 1, []), (34, .aload_n 0, 1, []), (35, .getfield 15, 3, [2, 3, 1]), (38, .iload_n 3, 1, []), (39, .laload, 1, []), (40, .lor, 1, []), (41, .lstore_n 1, 1, []), (42, .iinc 3 1, 3, [1]), (45, .goto (-31), 3, [14]), (48, .aload_n 0, 1, []), (49, .getfield 25, 3, [0, 3, 7]), (52, .istore_n 3, 1, []), (53, .iload_n 3, 1, []), (54, .ifCond .lt 90, 3, [144]), (57, .lconst 1, 1, [1]), (58, .iload_n 3, 1, []), (59, .lshl, 1, []), (60, .lstore 4, 2, []), (62, .aload_n 0, 1, []), (63, .getfield 9, 3, [2, 3, 0]), (66, .iload_n 3, 1, []), (67, .laload, 1, []), (68, .aload_n 0, 1, []), (69, .getfield 41, 3, [1, 3, 4]), (72, .land, 1, []), (73, .lconst 0, 1, [0]), (74, .lcmp, 1, []), (75, .ifCond .eq 7, 3, [82]), (78, .iconst 1, 1, [1]), (79, .goto 4, 3, [83]), (82, .iconst 0, 1, [0]), (83, .istore 6, 2, []), (85, .iload 6, 2, []), (87, .ifCond .eq 14, 3, [101]), (90, .aload_n 0, 1, []), (91, .dup, 1, []), (92, .getfield 45, 3, [1, 3, 5]), (95, .lload 4, 2, []), (97, .lor, 1, []), (98, .putfield 45, 3, [1, 3, 5]), (101, .lload_n 1, 1, []), (102, .lload 4, 2, []), (104, .land, 1, []), (105, .lconst 0, 1, [0]), (106, .lcmp, 1, []), (107, .ifCond .eq 31, 3, [138]), (110, .iload 6, 2, []), (112, .ifCond .ne 15, 3, [127]), (115, .aload_n 0, 1, []), (116, .getfield 52, 3, [1, 3, 3]), (119, .lload 4, 2, []), (121, .land, 1, []), (122, .lconst 0, 1, [0]), (123, .lcmp, 1, []), (124, .ifCond .eq 14, 3, [138]), (127, .aload_n 0, 1, []), (128, .dup, 1, []), (129, .getfield 41, 3, [1, 3, 4]), (132, .lload 4, 2, []), (134, .lor, 1, []), (135, .putfield 41, 3, [1, 3, 4]), (138, .iinc 3 (-1), 3, [1, 1]), (141, .goto (-88), 3, [53]), (144, .return_, 1, [])]
def zm_Se_findUseful : zMi := (7, 0, zc_Se_findUseful, [(14, [2, 4, 5, 6]), (53, [2, 4, 5, 6]), (101, [2, 5])])
def zc_Se_openTo : List zC := [(0, .lconst 0, 1, [0]), (1, .lstore_n 2, 1, []), (2, .iconst 0, 1, [0]), (3, .istore 4, 2, []), (5, .iload 4, 2, []), (7, .aload_n 0, 1, []), (8, .getfield 21, 3, [0, 3, 6]), (11, .if_icmp .ge 32, 3, [43]), (14, .aload_n 0, 1, []), (15, .getfield 18, 3, [2, 3, 2]), (18, .iload 4, 2, []), (20, .iload_n 1, 1, []), (21, .invokestatic 55, 3, [118, 3, 1, 0]), (24, .ifCond .eq 13, 3, [37]), (27, .lload_n 2, 1, []), (28, .aload_n 0, 1, []), (29, .getfield 15, 3, [2, 3, 1]), (32, .iload 4, 2, []), (34, .laload, 1, []), (35, .lor, 1, []), (36, .lstore_n 2, 1, []), (37, .iinc 4 1, 3, [1]), (40, .goto (-35), 3, [5]), (43, .lload_n 2, 1, []), (44, .aload_n 0, 1, []), (45, .getfield 41, 3, [1, 3, 4]), (48, .land, 1, []), (49, .lreturn, 1, [])]
def zm_Se_openTo : zMi := (5, 3, zc_Se_openTo, [(5, [3])])
def zc_Se_after : List zC := [(0, .lconst 0, 1, [0]), (1, .lstore 5, 2, []), (3, .lload_n 1, 1, []), (4, .lstore 7, 2, []), (6, .iconst 0, 1, [0]), (7, .istore 9, 2, []), (9, .iload 9, 2, []), (11, .aload_n 0, 1, []), (12, .getfield 25, 3, [0, 3, 7]), (15, .if_icmp .gt 43, 3, [58]), (18, .lload 7, 2, []), (20, .lconst 0, 1, [0]), (21, .lcmp, 1, []), (22, .ifCond .eq 36, 3, [58]), (25, .lload 7, 2, []), (27, .lconst 1, 1, [1]), (28, .land, 1, []), (29, .lconst 0, 1, [0]), (30, .lcmp, 1, []), (31, .ifCond .eq 15, 3, [46]), (34, .lload 5, 2, []), (36, .aload_n 0, 1, []), (37, .getfield 9, 3, [2, 3, 0]), (40, .iload 9, 2, []), (42, .laload, 1, []), (43, .lor, 1, []), (44, .lstore 5, 2, []), (46, .lload 7, 2, []), (48, .iconst 1, 1, [1]), (49, .lushr, 1, []), (50, .lstore 7, 2, []), (52, .iinc 9 1, 3, [1]), (55, .goto (-46), 3, [9]), (58, .lload 5, 2, []), (60, .lload_n 3, 1, []), (61, .land, 1, []), (62, .lreturn, 1, [])]
def zm_Se_after : zMi := (10, 3, zc_Se_after, [(9, [1, 2, 4, 6, 8])])
def zc_Se_walk : List zC := [(0, .lconst 1, 1, [1]), (1, .lstore 4, 2, []), (3, .iload_n 2, 1, []), (4, .istore 6, 2, []), (6, .iload 6, 2, []), (8, .iload_n 3, 1, []), (9, .if_icmp .ge 35, 3, [44]), (12, .lload 4, 2, []), (14, .lconst 0, 1, [0]), (15, .lcmp, 1, []), (16, .ifCond .eq 28, 3, [44]), (19, .aload_n 0, 1, []), (20, .lload 4, 2, []), (22, .aload_n 0, 1, []), (23, .aload_n 1, 1, []), (24, .getfield 59, 3, [2, 6, 0]), (27, .iload 6, 2, []), (29, .iaload, 1, []), (30, .invokevirtual 65, 3, [30, 2, 2, 4]), (33, .invokevirtual 69, 3, [31, 3, 2, 4]), (36, .lstore 4, 2, []), (38, .iinc 6 1, 3, [1]), (41, .goto (-35), 3, [6]), (44, .lload 4, 2, []), (46, .lreturn, 1, [])]
def zm_Se_walk : zMi := (7, 3, zc_Se_walk, [(6, [2, 5])])
def zc_Se_hasEnded : List zC := [(0, .lload_n 1, 1, []), (1, .aload_n 0, 1, []), (2, .getfield 52, 3, [1, 3, 3]), (5, .land, 1, []), (6, .lconst 0, 1, [0]), (7, .lcmp, 1, []), (8, .ifCond .eq 7, 3, [15]), (11, .iconst 1, 1, [1]), (12, .goto 4, 3, [16]), (15, .iconst 0, 1, [0]), (16, .ireturn, 1, [])]
def zm_Se_hasEnded : zMi := (3, 2, zc_Se_hasEnded, [])
def zc_Se_goesOn : List zC := [(0, .lload_n 1, 1, []), (1, .aload_n 0, 1, []), (2, .getfield 45, 3, [1, 3, 5]), (5, .land, 1, []), (6, .lconst 0, 1, [0]), (7, .lcmp, 1, []), (8, .ifCond .eq 7, 3, [15]), (11, .iconst 1, 1, [1]), (12, .goto 4, 3, [16]), (15, .iconst 0, 1, [0]), (16, .ireturn, 1, [])]
def zm_Se_goesOn : zMi := (3, 2, zc_Se_goesOn, [])
def zc_Sh_init : List zC := [(0, .aload_n 0, 1, []), (1, .invokespecial 3, 3, [1000, 1, 0, 0]), (4, .aload_n 0, 1, []), (5, .bipush 40, 2, [40]), (7, .newarray .int, 2, [20]), (9, .putfield 9, 3, [2, 4, 0]), (12, .aload_n 0, 1, []), (13, .iconst (-1), 1, [1, 1]), (14, .putfield 15, 3, [0, 4, 2]), (17, .return_, 1, [])]
def zm_Sh_init : zMi := (1, 0, zc_Sh_init, [])
def zc_Sh_renew : List zC := [(0, .aload_n 0, 1, []), (1, .iload_n 1, 1, []), (2, .putfield 19, 3, [0, 4, 1]), (5, .aload_n 0, 1, []), (6, .iload_n 2, 1, []), (7, .putfield 15, 3, [0, 4, 2]), (10, .iconst 0, 1, [0]), (11, .istore_n 3, 1, []), (12, .iload_n 3, 1, []), (13, .bipush 40, 2, [40]), (15, .if_icmp .ge 16, 3, [31]), (18, .aload_n 0, 1, []), (19, .getfield 9, 3, [2, 4, 0]), (22, .iload_n 3, 1, []), (23, .iconst 0, 1, [0]), (24, .iastore, 1, []), (25, .iinc 3 1, 3, [1]), (28, .goto (-16), 3, [12]), (31, .return_, 1, [])]
def zm_Sh_renew : zMi := (4, 0, zc_Sh_renew, [(12, [1, 2])])
def zc_Sh_tearAt : List zC := [(0, .aload_n 0, 1, []), (1, .getfield 15, 3, [0, 4, 2]), (4, .ifCond .ge 5, 3, [9]), (7, .iconst 1, 1, [1]), (8, .ireturn, 1, []), (9, .iload_n 1, 1, []), (10, .aload_n 0, 1, []), (11, .getfield 19, 3, [0, 4, 1]), (14, .if_icmp .eq 5, 3, [19]), (17, .iconst 2, 1, [2]), (18, .ireturn, 1, []), (19, .iload_n 2, 1, []), (20, .ifCond .lt 11, 3, [31]), (23, .iload_n 2, 1, []), (24, .aload_n 0, 1, []), (25, .getfield 15, 3, [0, 4, 2]), (28, .if_icmp .lt 7, 3, [35]), (31, .iconst 3, 1, [3]), (32, .goto 4, 3, [36]), (35, .iconst 0, 1, [0]), (36, .ireturn, 1, [])]
def zm_Sh_tearAt : zMi := (3, 1, zc_Sh_tearAt, [])
def zc_Sh_setCell : List zC := [(0, .aload_n 0, 1, []), (1, .getfield 19, 3, [0, 4, 1]), (4, .lookupswitch 50 #[(0, 28), (1, 39)], 28, [54, 0, 32, 1, 43]), (32, .aload_n 0, 1, []), (33, .getfield 9, 3, [2, 4, 0]), (36, .iload_n 1, 1, []), (37, .iload_n 2, 1, []), (38, .i2b, 1, []), (39, .iastore, 1, []), (40, .goto 21, 3, [61]), (43, .aload_n 0, 1, []), (44, .getfield 9, 3, [2, 4, 0]), (47, .iload_n 1, 1, []), (48, .iload_n 2, 1, []), (49, .i2c, 1, []), (50, .iastore, 1, []), (51, .goto 10, 3, [61]), (54, .aload_n 0, 1, []), (55, .getfield 9, 3, [2, 4, 0]), (58, .iload_n 1, 1, []), (59, .iload_n 2, 1, []), (60, .iastore, 1, []), (61, .return_, 1, [])]
def zm_Sh_setCell : zMi := (3, 0, zc_Sh_setCell, [])
def zc_Ta_init : List zC := [(0, .aload_n 0, 1, []), (1, .invokespecial 3, 3, [1000, 1, 0, 0]), (4, .aload_n 0, 1, []), (5, .sipush 200, 3, [200]), (8, .newarray .byte, 2, [22]), (10, .putfield 9, 3, [2, 5, 0]), (13, .return_, 1, [])]
def zm_Ta_init : zMi := (1, 0, zc_Ta_init, [])
def zc_Ta_begin : List zC := [(0, .aload_n 0, 1, []), (1, .iconst 0, 1, [0]), (2, .putfield 15, 3, [0, 5, 2]), (5, .aload_n 0, 1, []), (6, .iconst 0, 1, [0]), (7, .putfield 19, 3, [0, 5, 6]), (10, .aload_n 0, 1, []), (11, .iconst 0, 1, [0]), (12, .putfield 22, 3, [0, 5, 7]), (15, .aload_n 0, 1, []), (16, .invokevirtual 25, 3, [42, 1, 0, 6]), (19, .return_, 1, [])]
def zm_Ta_begin : zMi := (1, 0, zc_Ta_begin, [])
def zc_Ta_refuse : List zC := [(0, .aload_n 0, 1, []), (1, .getfield 19, 3, [0, 5, 6]), (4, .ifCond .ne 16, 3, [20]), (7, .aload_n 0, 1, []), (8, .iload_n 1, 1, []), (9, .putfield 19, 3, [0, 5, 6]), (12, .aload_n 0, 1, []), (13, .aload_n 0, 1, []), (14, .getfield 28, 3, [0, 5, 5]), (17, .putfield 22, 3, [0, 5, 7]), (20, .iconst 0, 1, [0]), (21, .ireturn, 1, [])]
def zm_Ta_refuse : zMi := (2, 2, zc_Ta_refuse, [])
def zc_Ta_advance : List zC := [(0, .aload_n 0, 1, []), (1, .getfield 15, 3, [0, 5, 2]), (4, .aload_n 0, 1, []), (5, .getfield 31, 3, [0, 5, 1]), (8, .if_icmp .ge 30, 3, [38]), (11, .aload_n 0, 1, []), (12, .getfield 9, 3, [2, 5, 0]), (15, .aload_n 0, 1, []), (16, .getfield 15, 3, [0, 5, 2]), (19, .baload, 1, []), (20, .bipush 32, 2, [32]), (22, .if_icmp .ne 16, 3, [38]), (25, .aload_n 0, 1, []), (26, .dup, 1, []), (27, .getfield 15, 3, [0, 5, 2]), (30, .iconst 1, 1, [1]), (31, .iadd, 1, []), (32, .putfield 15, 3, [0, 5, 2]), (35, .goto (-35), 3, [0]), (38, .aload_n 0, 1, []), (39, .aload_n 0, 1, []), (40, .getfield 15, 3, [0, 5, 2]), (43, .putfield 28, 3, [0, 5, 5]), (46, .aload_n 0, 1, []), (47, .getfield 15, 3, [0, 5, 2]), (50, .aload_n 0, 1, []), (51, .getfield 31, 3, [0, 5, 1]), (54, .if_icmp .lt 9, 3, [63]), (57, .aload_n 0, 1, []), (58, .iconst 0, 1, [0]), (59, .putfield 34, 3, [0, 5, 3]), (62, .return_, 1, []), (63, .aload_n 0, 1, []), (64, .getfield 9, 3, [2, 5, 0]), (67, .aload_n 0, 1, []), (68, .getfield 15, 3, [0, 5, 2]), (71, .baload, 1, []), (72, .istore_n 1, 1, []), (73, .aload_n 0, 1, []), (74, .dup, 1, []), (75, .getfield 15, 3, [0, 5, 2]), (78, .iconst 1, 1, [1]), (79, .iadd, 1, []), (80, .putfield 15, 3, [0, 5, 2]), (83, .iload_n 1, 1, []), (84, .bipush 97, 2, [97]), (86, .if_icmp .lt 25, 3, [111]), (89, .iload_n 1, 1, []), (90, .bipush 104, 2, [104]), (92, .if_icmp .gt 19, 3, [111]), (95, .aload_n 0, 1, []), (96, .iconst 1, 1, [1]), (97, .putfield 34, 3, [0, 5, 3]), (100, .aload_n 0, 1, []), (101, .iload_n 1, 1, []), (102, .bipush 97, 2, [97]), (104, .isub, 1, []), (105, .putfield 37, 3, [0, 5, 4]), (108, .goto 44, 3, [152]), (111, .iload_n 1, 1, []), (112, .invokestatic 40, 3, [44, 1, 1, 0]), (115, .ifCond .eq 11, 3, [126]), (118, .aload_n 0, 1, []), (119, .iload_n 1, 1, []), (120, .invokevirtual 44, 3, [43, 2, 0, 6]), (123, .goto 29, 3, [152]), (126, .iload_n 1, 1, []), (127, .invokestatic 48, 3, [45, 1, 1, 0]), (130, .ifCond .eq 11, 3, [141]), (133, .aload_n 0, 1, []), (134, .iload_n 1, 1, []), (135, .putfield 34, 3, [0, 5, 3]), (138, .goto 14, 3, [152]), (141, .aload_n 0, 1, []), (142, .iconst 3, 1, [3]), (143, .putfield 34, 3, [0, 5, 3]), (146, .aload_n 0, 1, []), (147, .iconst 1, 1, [1]), (148, .invokevirtual 51, 3, [41, 2, 1, 6]), (151, .pop, 1, []), (152, .return_, 1, [])]
def zm_Ta_advance : zMi := (2, 0, zc_Ta_advance, [(0, [1]), (38, [1])])
def zc_Ta_advanceNumber : List zC := [(0, .aload_n 0, 1, []), (1, .iconst 2, 1, [2]), (2, .putfield 34, 3, [0, 5, 3]), (5, .aload_n 0, 1, []), (6, .iload_n 1, 1, []), (7, .bipush 48, 2, [48]), (9, .isub, 1, []), (10, .putfield 37, 3, [0, 5, 4]), (13, .iconst 1, 1, [1]), (14, .istore_n 2, 1, []), (15, .aload_n 0, 1, []), (16, .getfield 15, 3, [0, 5, 2]), (19, .aload_n 0, 1, []), (20, .getfield 31, 3, [0, 5, 1]), (23, .if_icmp .ge 63, 3, [86]), (26, .aload_n 0, 1, []), (27, .getfield 9, 3, [2, 5, 0]), (30, .aload_n 0, 1, []), (31, .getfield 15, 3, [0, 5, 2]), (34, .baload, 1, []), (35, .invokestatic 40, 3, [44, 1, 1, 0]), (38, .ifCond .eq 48, 3, [86]), (41, .iload_n 2, 1, []), (42, .iconst 1, 1, [1]), (43, .if_icmp .ne 27, 3, [70]), (46, .aload_n 0, 1, []), (47, .aload_n 0, 1, []), (48, .getfield 37, 3, [0, 5, 4]), (51, .bipush 10, 2, [10]), (53, .imul, 1, []), (54, .aload_n 0, 1, []), (55, .getfield 9, 3, [2, 5, 0]), (58, .aload_n 0, 1, []), (59, .getfield 15, 3, [0, 5, 2]), (62, .baload, 1, []), (63, .iadd, 1, []), (64, .bipush 48, 2, [48]), (66, .isub, 1, []), (67, .putfield 37, 3, [0, 5, 4]), (70, .iinc 2 1, 3, [1]), (73, .aload_n 0, 1, []), (74, .dup, 1, []), (75, .getfield 15, 3, [0, 5, 2]), (78, .iconst 1, 1, [1]), (79, .iadd, 1, []), (80, .putfield 15, 3, [0, 5, 2]), (83, .goto (-68), 3, [15]), (86, .iload_n 2, 1, []), (87, .iconst 2, 1, [2]), (88, .if_icmp .le 14, 3, [102]), (91, .aload_n 0, 1, []), (92, .iconst 3, 1, [3]), (93, .putfield 34, 3, [0, 5, 3]), (96, .aload_n 0, 1, []), (97, .iconst 1, 1, [1]), (98, .invokevirtual 51, 3, [41, 2, 1, 6]), (101, .pop, 1, []), (102, .return_, 1, [])]
def zm_Ta_advanceNumber : zMi := (3, 0, zc_Ta_advanceNumber, [(15, [1])])
def zc_Ta_isFigure : List zC := [(0, .iload_n 0, 1, []), (1, .bipush 48, 2, [48]), (3, .if_icmp .lt 13, 3, [16]), (6, .iload_n 0, 1, []), (7, .bipush 57, 2, [57]), (9, .if_icmp .gt 7, 3, [16]), (12, .iconst 1, 1, [1]), (13, .goto 4, 3, [17]), (16, .iconst 0, 1, [0]), (17, .ireturn, 1, [])]
def zm_Ta_isFigure : zMi := (1, 2, zc_Ta_isFigure, [])
def zc_Ta_isSign : List zC := [(0, .iload_n 0, 1, []), (1, .lookupswitch 125 #[(33, 123), (38, 123), (40, 123), (41, 123), (42, 123), (44, 123), (47, 123), (59, 123), (61, 123), (62, 123), (123, 123), (124, 123), (125, 123), (126, 123)], 123, [126, 33, 124, 38, 124, 40, 124, 41, 124, 42, 124, 44, 124, 47, 124, 59, 124, 61, 124, 62, 124, 123, 124, 124, 124, 125, 124, 126, 124]), (124, .iconst 1, 1, [1]), (125, .ireturn, 1, []), (126, .iconst 0, 1, [0]), (127, .ireturn, 1, [])]
def zm_Ta_isSign : zMi := (1, 2, zc_Ta_isSign, [])
def zc_Ta_beginsSequence : List zC := [(0, .aload_n 0, 1, []), (1, .getfield 34, 3, [0, 5, 3]), (4, .iconst 1, 1, [1]), (5, .if_icmp .eq 30, 3, [35]), (8, .aload_n 0, 1, []), (9, .getfield 34, 3, [0, 5, 3]), (12, .bipush 33, 2, [33]), (14, .if_icmp .eq 21, 3, [35]), (17, .aload_n 0, 1, []), (18, .getfield 34, 3, [0, 5, 3]), (21, .bipush 40, 2, [40]), (23, .if_icmp .eq 12, 3, [35]), (26, .aload_n 0, 1, []), (27, .getfield 34, 3, [0, 5, 3]), (30, .bipush 123, 2, [123]), (32, .if_icmp .ne 7, 3, [39]), (35, .iconst 1, 1, [1]), (36, .goto 4, 3, [40]), (39, .iconst 0, 1, [0]), (40, .ireturn, 1, [])]
def zm_Ta_beginsSequence : zMi := (1, 2, zc_Ta_beginsSequence, [])
def zc_Tr_init : List zC := [(0, .aload_n 0, 1, []), (1, .invokespecial 3, 3, [1000, 1, 0, 0]), (4, .aload_n 0, 1, []), (5, .bipush 48, 2, [48]), (7, .newarray .int, 2, [20]), (9, .putfield 9, 3, [2, 6, 0]), (12, .return_, 1, [])]
def zm_Tr_init : zMi := (1, 0, zc_Tr_init, [])
def zc_Tr_add : List zC := [(0, .aload_n 0, 1, []), (1, .getfield 15, 3, [0, 6, 1]), (4, .bipush 48, 2, [48]), (6, .if_icmp .ge 23, 3, [29]), (9, .aload_n 0, 1, []), (10, .getfield 9, 3, [2, 6, 0]), (13, .aload_n 0, 1, []), (14, .getfield 15, 3, [0, 6, 1]), (17, .iload_n 1, 1, []), (18, .iastore, 1, []), (19, .aload_n 0, 1, []), (20, .dup, 1, []), (21, .getfield 15, 3, [0, 6, 1]), (24, .iconst 1, 1, [1]), (25, .iadd, 1, []), (26, .putfield 15, 3, [0, 6, 1]), (29, .return_, 1, [])]
def zm_Tr_add : zMi := (2, 0, zc_Tr_add, [])
def zc_Tr_become : List zC := [(0, .aload_n 1, 1, []), (1, .getfield 9, 3, [2, 6, 0]), (4, .iconst 0, 1, [0]), (5, .aload_n 0, 1, []), (6, .getfield 9, 3, [2, 6, 0]), (9, .iconst 0, 1, [0]), (10, .aload_n 1, 1, []), (11, .getfield 15, 3, [0, 6, 1]), (14, .invokestatic 19, 3, [1001, 5, 0, 0]), (17, .aload_n 0, 1, []), (18, .aload_n 1, 1, []), (19, .getfield 15, 3, [0, 6, 1]), (22, .putfield 15, 3, [0, 6, 1]), (25, .return_, 1, [])]
def zm_Tr_become : zMi := (2, 0, zc_Tr_become, [])
def zc_TS_init : List zC := [(0, .aload_n 0, 1, []), (1, .invokespecial 3, 3, [1000, 1, 0, 0]), (4, .aload_n 0, 1, []), (5, .bipush 108, 2, [108]), (7, .newarray .long, 2, [23]), (9, .putfield 9, 3, [2, 7, 0]), (12, .return_, 1, [])]
def zm_TS_init : zMi := (1, 0, zc_TS_init, [])
def zc_TS_clear : List zC := [(0, .aload_n 0, 1, []), (1, .iconst 0, 1, [0]), (2, .putfield 15, 3, [0, 7, 1]), (5, .return_, 1, [])]
def zm_TS_clear : zMi := (1, 0, zc_TS_clear, [])
def zc_TS_pushWire : List zC := [(0, .aload_n 0, 1, []), (1, .getfield 15, 3, [0, 7, 1]), (4, .bipush 27, 2, [27]), (6, .if_icmp .ge 7, 3, [13]), (9, .iload_n 1, 1, []), (10, .ifCond .ge 4, 3, [14]), (13, .return_, 1, []), (14, .iconst 0, 1, [0]), (15, .istore_n 2, 1, []), (16, .iload_n 2, 1, []), (17, .iconst 4, 1, [4]), (18, .if_icmp .ge 27, 3, [45]), (21, .aload_n 0, 1, []), (22, .getfield 9, 3, [2, 7, 0]), (25, .aload_n 0, 1, []), (26, .getfield 15, 3, [0, 7, 1]), (29, .iconst 4, 1, [4]), (30, .imul, 1, []), (31, .iload_n 2, 1, []), (32, .iadd, 1, []), (33, .iload_n 1, 1, []), (34, .iload_n 2, 1, []), (35, .invokestatic 19, 3, [53, 2, 2, 0]), (38, .lastore, 1, []), (39, .iinc 2 1, 3, [1]), (42, .goto (-26), 3, [16]), (45, .aload_n 0, 1, []), (46, .dup, 1, []), (47, .getfield 15, 3, [0, 7, 1]), (50, .iconst 1, 1, [1]), (51, .iadd, 1, []), (52, .putfield 15, 3, [0, 7, 1]), (55, .return_, 1, [])]
def zm_TS_pushWire : zMi := (3, 0, zc_TS_pushWire, [(16, [])])
def zc_TS_wordOfWire : List zC := [(0, .iload_n 0, 1, []), (1, .getstatic 23, 3, []), (4, .arraylength, 1, []), (5, .if_icmp .ge 9, 3, [14]), (8, .getstatic 23, 3, []), (11, .iload_n 0, 1, []), (12, .laload, 1, []), (13, .lreturn, 1, []), (14, .iload_n 1, 1, []), (15, .iload_n 0, 1, []), (16, .getstatic 23, 3, []), (19, .arraylength, 1, []), (20, .isub, 1, []), (21, .iushr, 1, []), (22, .iconst 1, 1, [1]), (23, .iand, 1, []), (24, .ifCond .eq 9, 3, [33]), (27, .ldc2_w 26, 3, [1, 1]), (30, .goto 4, 3, [34]), (33, .lconst 0, 1, [0]), (34, .lreturn, 1, [])]
def zm_TS_wordOfWire : zMi := (2, 3, zc_TS_wordOfWire, [])
def zc_TS_negate : List zC := [(0, .aload_n 0, 1, []), (1, .getfield 15, 3, [0, 7, 1]), (4, .iconst 1, 1, [1]), (5, .if_icmp .ge 4, 3, [9]), (8, .return_, 1, []), (9, .iconst 0, 1, [0]), (10, .istore_n 1, 1, []), (11, .iload_n 1, 1, []), (12, .iconst 4, 1, [4]), (13, .if_icmp .ge 43, 3, [56]), (16, .aload_n 0, 1, []), (17, .getfield 9, 3, [2, 7, 0]), (20, .aload_n 0, 1, []), (21, .getfield 15, 3, [0, 7, 1]), (24, .iconst 1, 1, [1]), (25, .isub, 1, []), (26, .iconst 4, 1, [4]), (27, .imul, 1, []), (28, .iload_n 1, 1, []), (29, .iadd, 1, []), (30, .aload_n 0, 1, []), (31, .getfield 9, 3, [2, 7, 0]), (34, .aload_n 0, 1, []), (35, .getfield 15, 3, [0, 7, 1]), (38, .iconst 1, 1, [1]), (39, .isub, 1, []), (40, .iconst 4, 1, [4]), (41, .imul, 1, []), (42, .iload_n 1, 1, []), (43, .iadd, 1, []), (44, .laload, 1, []), (45, .ldc2_w 26, 3, [1, 1]), (48, .lxor, 1, []), (49, .lastore, 1, []), (50, .iinc 1 1, 3, [1]), (53, .goto (-42), 3, [11]), (56, .return_, 1, [])]
def zm_TS_negate : zMi := (2, 0, zc_TS_negate, [(11, [])])
def zc_TS_joinTwo : List zC := [(0, .aload_n 0, 1, []), (1, .getfield 15, 3, [0, 7, 1]), (4, .iconst 2, 1, [2]), (5, .if_icmp .ge 4, 3, [9]), (8, .return_, 1, []), (9, .aload_n 0, 1, []), (10, .dup, 1, []), (11, .getfield 15, 3, [0, 7, 1]), (14, .iconst 1, 1, [1]), (15, .isub, 1, []), (16, .putfield 15, 3, [0, 7, 1]), (19, .iconst 0, 1, [0]), (20, .istore_n 2, 1, []), (21, .iload_n 2, 1, []), (22, .iconst 4, 1, [4]), (23, .if_icmp .ge 66, 3, [89]), (26, .aload_n 0, 1, []), (27, .getfield 15, 3, [0, 7, 1]), (30, .iconst 1, 1, [1]), (31, .isub, 1, []), (32, .iconst 4, 1, [4]), (33, .imul, 1, []), (34, .iload_n 2, 1, []), (35, .iadd, 1, []), (36, .istore_n 3, 1, []), (37, .aload_n 0, 1, []), (38, .getfield 9, 3, [2, 7, 0]), (41, .aload_n 0, 1, []), (42, .getfield 15, 3, [0, 7, 1]), (45, .iconst 4, 1, [4]), (46, .imul, 1, []), (47, .iload_n 2, 1, []), (48, .iadd, 1, []), (49, .laload, 1, []), (50, .lstore 4, 2, []), (52, .aload_n 0, 1, []), (53, .getfield 9, 3, [2, 7, 0]), (56, .iload_n 3, 1, []), (57, .iload_n 1, 1, []), (58, .ifCond .eq 15, 3, [73]), (61, .aload_n 0, 1, []), (62, .getfield 9, 3, [2, 7, 0]), (65, .iload_n 3, 1, []), (66, .laload, 1, []), (67, .lload 4, 2, []), (69, .land, 1, []), (70, .goto 12, 3, [82]), (73, .aload_n 0, 1, []), (74, .getfield 9, 3, [2, 7, 0]), (77, .iload_n 3, 1, []), (78, .laload, 1, []), (79, .lload 4, 2, []), (81, .lor, 1, []), (82, .lastore, 1, []), (83, .iinc 2 1, 3, [1]), (86, .goto (-65), 3, [21]), (89, .return_, 1, [])]
def zm_TS_joinTwo : zMi := (6, 0, zc_TS_joinTwo, [(21, [3, 4, 5])])
def zc_TS_drop : List zC := [(0, .aload_n 0, 1, []), (1, .getfield 15, 3, [0, 7, 1]), (4, .ifCond .le 13, 3, [17]), (7, .aload_n 0, 1, []), (8, .dup, 1, []), (9, .getfield 15, 3, [0, 7, 1]), (12, .iconst 1, 1, [1]), (13, .isub, 1, []), (14, .putfield 15, 3, [0, 7, 1]), (17, .return_, 1, [])]
def zm_TS_drop : zMi := (1, 0, zc_TS_drop, [])
def zc_TS_moveTop : List zC := [(0, .aload_n 0, 1, []), (1, .getfield 15, 3, [0, 7, 1]), (4, .iconst 1, 1, [1]), (5, .if_icmp .ge 4, 3, [9]), (8, .return_, 1, []), (9, .aload_n 0, 1, []), (10, .dup, 1, []), (11, .getfield 15, 3, [0, 7, 1]), (14, .iconst 1, 1, [1]), (15, .isub, 1, []), (16, .putfield 15, 3, [0, 7, 1]), (19, .iconst 0, 1, [0]), (20, .istore_n 3, 1, []), (21, .iload_n 3, 1, []), (22, .iconst 4, 1, [4]), (23, .if_icmp .ge 29, 3, [52]), (26, .aload_n 1, 1, []), (27, .iload_n 2, 1, []), (28, .iconst 4, 1, [4]), (29, .imul, 1, []), (30, .iload_n 3, 1, []), (31, .iadd, 1, []), (32, .aload_n 0, 1, []), (33, .getfield 9, 3, [2, 7, 0]), (36, .aload_n 0, 1, []), (37, .getfield 15, 3, [0, 7, 1]), (40, .iconst 4, 1, [4]), (41, .imul, 1, []), (42, .iload_n 3, 1, []), (43, .iadd, 1, []), (44, .laload, 1, []), (45, .lastore, 1, []), (46, .iinc 3 1, 3, [1]), (49, .goto (-28), 3, [21]), (52, .return_, 1, [])]
def zm_TS_moveTop : zMi := (4, 0, zc_TS_moveTop, [(21, [])])
def zc_Wa_init : List zC := [(0, .aload_n 0, 1, []), (1, .invokespecial 3, 3, [1000, 1, 0, 0]), (4, .aload_n 0, 1, []), (5, .bipush 48, 2, [48]), (7, .newarray .long, 2, [23]), (9, .putfield 9, 3, [2, 8, 0]), (12, .aload_n 0, 1, []), (13, .bipush 48, 2, [48]), (15, .newarray .long, 2, [23]), (17, .putfield 15, 3, [2, 8, 1]), (20, .aload_n 0, 1, []), (21, .bipush 48, 2, [48]), (23, .newarray .int, 2, [20]), (25, .putfield 18, 3, [2, 8, 2]), (28, .aload_n 0, 1, []), (29, .bipush 48, 2, [48]), (31, .newarray .long, 2, [23]), (33, .putfield 22, 3, [2, 8, 3]), (36, .aload_n 0, 1, []), (37, .bipush 48, 2, [48]), (39, .newarray .int, 2, [20]), (41, .putfield 25, 3, [2, 8, 4]), (44, .aload_n 0, 1, []), (45, .bipush 48, 2, [48]), (47, .newarray .int, 2, [20]), (49, .putfield 28, 3, [2, 8, 5]), (52, .return_, 1, [])]
def zm_Wa_init : zMi := (1, 0, zc_Wa_init, [])
def zc_Wa_restart : List zC := [(0, .aload_n 0, 1, []), (1, .lconst 0, 1, [0]), (2, .putfield 31, 3, [1, 8, 6]), (5, .aload_n 0, 1, []), (6, .lconst 0, 1, [0]), (7, .putfield 35, 3, [1, 8, 7]), (10, .aload_n 0, 1, []), (11, .iconst 0, 1, [0]), (12, .putfield 38, 3, [0, 8, 8]), (15, .return_, 1, [])]
def zm_Wa_restart : zMi := (1, 0, zc_Wa_restart, [])
def zc_Wa_catchUp : List zC := [(0, .aload_n 0, 1, []), (1, .getfield 38, 3, [0, 8, 8]), (4, .aload_n 2, 1, []), (5, .getfield 42, 3, [0, 6, 1]), (8, .if_icmp .ge 30, 3, [38]), (11, .aload_n 0, 1, []), (12, .aload_n 1, 1, []), (13, .aload_n 2, 1, []), (14, .getfield 47, 3, [2, 6, 0]), (17, .aload_n 0, 1, []), (18, .getfield 38, 3, [0, 8, 8]), (21, .iaload, 1, []), (22, .invokevirtual 50, 3, [61, 3, 0, 9]), (25, .aload_n 0, 1, []), (26, .dup, 1, []), (27, .getfield 38, 3, [0, 8, 8]), (30, .iconst 1, 1, [1]), (31, .iadd, 1, []), (32, .putfield 38, 3, [0, 8, 8]), (35, .goto (-35), 3, [0]), (38, .return_, 1, [])]
def zm_Wa_catchUp : zMi := (3, 0, zc_Wa_catchUp, [(0, [])])
def zc_Wa_takeIn : List zC := [(0, .aload_n 0, 1, []), (1, .getfield 9, 3, [2, 8, 0]), (4, .aload_n 0, 1, []), (5, .getfield 38, 3, [0, 8, 8]), (8, .lconst 1, 1, [1]), (9, .lastore, 1, []), (10, .aload_n 0, 1, []), (11, .getfield 15, 3, [2, 8, 1]), (14, .aload_n 0, 1, []), (15, .getfield 38, 3, [0, 8, 8]), (18, .lconst 0, 1, [0]), (19, .lastore, 1, []), (20, .aload_n 0, 1, []), (21, .getfield 22, 3, [2, 8, 3]), (24, .aload_n 0, 1, []), (25, .getfield 38, 3, [0, 8, 8]), (28, .lconst 0, 1, [0]), (29, .lastore, 1, []), (30, .aload_n 0, 1, []), (31, .getfield 25, 3, [2, 8, 4]), (34, .aload_n 0, 1, []), (35, .getfield 38, 3, [0, 8, 8]), (38, .iconst 0, 1, [0]), (39, .iastore, 1, []), (40, .aload_n 1, 1, []), (41, .getfield 56, 3, [2, 1, 1]), (44, .iload_n 2, 1, []), (45, .invokevirtual 62, 3, [30, 2, 2, 4]), (48, .lstore_n 3, 1, []), (49, .aload_n 0, 1, []), (50, .aload_n 1, 1, []), (51, .getfield 56, 3, [2, 1, 1]), (54, .lload_n 3, 1, []), (55, .invokevirtual 66, 3, [62, 3, 0, 9]), (58, .aload_n 0, 1, []), (59, .aload_n 1, 1, []), (60, .getfield 70, 3, [2, 1, 0]), (63, .aload_n 1, 1, []), (64, .getfield 70, 3, [2, 1, 0]), (67, .iload_n 2, 1, []), (68, .invokevirtual 62, 3, [30, 2, 2, 4]), (71, .invokevirtual 73, 3, [63, 3, 1, 9]), (74, .ifCond .eq 9, 3, [83]), (77, .aload_n 0, 1, []), (78, .aload_n 1, 1, []), (79, .lload_n 3, 1, []), (80, .invokevirtual 77, 3, [64, 3, 0, 9]), (83, .aload_n 0, 1, []), (84, .aload_n 1, 1, []), (85, .aload_n 1, 1, []), (86, .iload_n 2, 1, []), (87, .invokevirtual 81, 3, [10, 2, 1, 2]), (90, .invokevirtual 85, 3, [66, 3, 0, 9]), (93, .return_, 1, [])]
def zm_Wa_takeIn : zMi := (5, 0, zc_Wa_takeIn, [])
def zc_Wa_moveDuties : List zC := [(0, .iconst 0, 1, [0]), (1, .istore 4, 2, []), (3, .iload 4, 2, []), (5, .aload_n 0, 1, []), (6, .getfield 38, 3, [0, 8, 8]), (9, .if_icmp .ge 47, 3, [56]), (12, .aload_n 0, 1, []), (13, .getfield 15, 3, [2, 8, 1]), (16, .iload 4, 2, []), (18, .laload, 1, []), (19, .lconst 0, 1, [0]), (20, .lcmp, 1, []), (21, .ifCond .eq 29, 3, [50]), (24, .aload_n 0, 1, []), (25, .getfield 15, 3, [2, 8, 1]), (28, .iload 4, 2, []), (30, .aload_n 1, 1, []), (31, .aload_n 0, 1, []), (32, .getfield 15, 3, [2, 8, 1]), (35, .iload 4, 2, []), (37, .laload, 1, []), (38, .lload_n 2, 1, []), (39, .invokevirtual 89, 3, [31, 3, 2, 4]), (42, .lastore, 1, []), (43, .aload_n 0, 1, []), (44, .aload_n 1, 1, []), (45, .iload 4, 2, []), (47, .invokevirtual 93, 3, [65, 3, 0, 9]), (50, .iinc 4 1, 3, [1]), (53, .goto (-50), 3, [3]), (56, .return_, 1, [])]
def zm_Wa_moveDuties : zMi := (5, 0, zc_Wa_moveDuties, [(3, [3])])
def zc_Wa_moveTries : List zC := [(0, .iconst 0, 1, [0]), (1, .istore 4, 2, []), (3, .iconst 0, 1, [0]), (4, .istore 5, 2, []), (6, .iload 5, 2, []), (8, .aload_n 0, 1, []), (9, .getfield 38, 3, [0, 8, 8]), (12, .if_icmp .gt 73, 3, [85]), (15, .aload_n 0, 1, []), (16, .getfield 9, 3, [2, 8, 0]), (19, .iload 5, 2, []), (21, .laload, 1, []), (22, .lconst 0, 1, [0]), (23, .lcmp, 1, []), (24, .ifCond .eq 55, 3, [79]), (27, .aload_n 0, 1, []), (28, .getfield 9, 3, [2, 8, 0]), (31, .iload 5, 2, []), (33, .aload_n 1, 1, []), (34, .aload_n 0, 1, []), (35, .getfield 9, 3, [2, 8, 0]), (38, .iload 5, 2, []), (40, .laload, 1, []), (41, .lload_n 2, 1, []), (42, .invokevirtual 89, 3, [31, 3, 2, 4]), (45, .lastore, 1, []), (46, .aload_n 1, 1, []), (47, .aload_n 0, 1, []), (48, .getfield 9, 3, [2, 8, 0]), (51, .iload 5, 2, []), (53, .laload, 1, []), (54, .invokevirtual 97, 3, [33, 2, 1, 4]), (57, .ifCond .eq 22, 3, [79]), (60, .aload_n 0, 1, []), (61, .getfield 22, 3, [2, 8, 3]), (64, .iload 5, 2, []), (66, .dup2, 1, []), (67, .laload, 1, []), (68, .lconst 1, 1, [1]), (69, .aload_n 0, 1, []), (70, .getfield 38, 3, [0, 8, 8]), (73, .lshl, 1, []), (74, .lor, 1, []), (75, .lastore, 1, []), (76, .iconst 1, 1, [1]), (77, .istore 4, 2, []), (79, .iinc 5 1, 3, [1]), (82, .goto (-76), 3, [6]), (85, .iload 4, 2, []), (87, .ireturn, 1, [])]
def zm_Wa_moveTries : zMi := (6, 2, zc_Wa_moveTries, [(6, [3])])
def zc_Wa_beginDuty : List zC := [(0, .aload_n 1, 1, []), (1, .getfield 56, 3, [2, 1, 1]), (4, .astore 4, 2, []), (6, .aload_n 0, 1, []), (7, .getfield 15, 3, [2, 8, 1]), (10, .aload_n 0, 1, []), (11, .getfield 38, 3, [0, 8, 8]), (14, .aload_n 1, 1, []), (15, .getfield 101, 3, [0, 1, 4]), (18, .iconst 1, 1, [1]), (19, .if_icmp .ne 7, 3, [26]), (22, .lconst 1, 1, [1]), (23, .goto 10, 3, [33]), (26, .aload 4, 2, []), (28, .lconst 1, 1, [1]), (29, .lload_n 2, 1, []), (30, .invokevirtual 89, 3, [31, 3, 2, 4]), (33, .lastore, 1, []), (34, .aload_n 0, 1, []), (35, .aload 4, 2, []), (37, .aload_n 0, 1, []), (38, .getfield 38, 3, [0, 8, 8]), (41, .invokevirtual 93, 3, [65, 3, 0, 9]), (44, .return_, 1, [])]
def zm_Wa_beginDuty : zMi := (5, 0, zc_Wa_beginDuty, [])
def zc_Wa_settleDuty : List zC := [(0, .aload_n 0, 1, []), (1, .getfield 15, 3, [2, 8, 1]), (4, .iload_n 2, 1, []), (5, .laload, 1, []), (6, .lstore_n 3, 1, []), (7, .aload_n 1, 1, []), (8, .lload_n 3, 1, []), (9, .invokevirtual 97, 3, [33, 2, 1, 4]), (12, .ifCond .eq 18, 3, [30]), (15, .aload_n 0, 1, []), (16, .dup, 1, []), (17, .getfield 31, 3, [1, 8, 6]), (20, .lconst 1, 1, [1]), (21, .iload_n 2, 1, []), (22, .lshl, 1, []), (23, .lor, 1, []), (24, .putfield 31, 3, [1, 8, 6]), (27, .goto 27, 3, [54]), (30, .aload_n 1, 1, []), (31, .lload_n 3, 1, []), (32, .invokevirtual 104, 3, [34, 2, 1, 4]), (35, .ifCond .ne 18, 3, [53]), (38, .aload_n 0, 1, []), (39, .dup, 1, []), (40, .getfield 35, 3, [1, 8, 7]), (43, .lconst 1, 1, [1]), (44, .iload_n 2, 1, []), (45, .lshl, 1, []), (46, .lor, 1, []), (47, .putfield 35, 3, [1, 8, 7]), (50, .goto 4, 3, [54]), (53, .return_, 1, []), (54, .aload_n 0, 1, []), (55, .getfield 18, 3, [2, 8, 2]), (58, .iload_n 2, 1, []), (59, .aload_n 0, 1, []), (60, .getfield 38, 3, [0, 8, 8]), (63, .iastore, 1, []), (64, .aload_n 0, 1, []), (65, .getfield 15, 3, [2, 8, 1]), (68, .iload_n 2, 1, []), (69, .lconst 0, 1, [0]), (70, .lastore, 1, []), (71, .return_, 1, [])]
def zm_Wa_settleDuty : zMi := (5, 0, zc_Wa_settleDuty, [])
def zc_Wa_judgeTries : List zC := [(0, .iconst 0, 1, [0]), (1, .istore_n 3, 1, []), (2, .iload_n 3, 1, []), (3, .aload_n 0, 1, []), (4, .getfield 38, 3, [0, 8, 8]), (7, .if_icmp .gt 51, 3, [58]), (10, .aload_n 0, 1, []), (11, .getfield 25, 3, [2, 8, 4]), (14, .iload_n 3, 1, []), (15, .iaload, 1, []), (16, .ifCond .ne 36, 3, [52]), (19, .aload_n 0, 1, []), (20, .getfield 25, 3, [2, 8, 4]), (23, .iload_n 3, 1, []), (24, .iload_n 2, 1, []), (25, .ifCond .eq 7, 3, [32]), (28, .iconst 4, 1, [4]), (29, .goto 12, 3, [41]), (32, .aload_n 0, 1, []), (33, .aload_n 1, 1, []), (34, .getfield 70, 3, [2, 1, 0]), (37, .iload_n 3, 1, []), (38, .invokevirtual 107, 3, [67, 3, 1, 9]), (41, .iastore, 1, []), (42, .aload_n 0, 1, []), (43, .getfield 28, 3, [2, 8, 5]), (46, .iload_n 3, 1, []), (47, .aload_n 0, 1, []), (48, .getfield 38, 3, [0, 8, 8]), (51, .iastore, 1, []), (52, .iinc 3 1, 3, [1]), (55, .goto (-53), 3, [2]), (58, .return_, 1, [])]
def zm_Wa_judgeTries : zMi := (4, 0, zc_Wa_judgeTries, [(2, [])])
def zc_Wa_judge : List zC := [(0, .aload_n 0, 1, []), (1, .getfield 22, 3, [2, 8, 3]), (4, .iload_n 2, 1, []), (5, .laload, 1, []), (6, .aload_n 0, 1, []), (7, .getfield 35, 3, [1, 8, 7]), (10, .land, 1, []), (11, .lconst 0, 1, [0]), (12, .lcmp, 1, []), (13, .ifCond .eq 5, 3, [18]), (16, .iconst 2, 1, [2]), (17, .ireturn, 1, []), (18, .aload_n 0, 1, []), (19, .getfield 22, 3, [2, 8, 3]), (22, .iload_n 2, 1, []), (23, .laload, 1, []), (24, .aload_n 0, 1, []), (25, .getfield 31, 3, [1, 8, 6]), (28, .ldc2_w 111, 3, [1, 1]), (31, .lxor, 1, []), (32, .land, 1, []), (33, .lconst 0, 1, [0]), (34, .lcmp, 1, []), (35, .ifCond .ne 16, 3, [51]), (38, .aload_n 1, 1, []), (39, .aload_n 0, 1, []), (40, .getfield 9, 3, [2, 8, 0]), (43, .iload_n 2, 1, []), (44, .laload, 1, []), (45, .invokevirtual 104, 3, [34, 2, 1, 4]), (48, .ifCond .eq 5, 3, [53]), (51, .iconst 0, 1, [0]), (52, .ireturn, 1, []), (53, .aload_n 0, 1, []), (54, .getfield 22, 3, [2, 8, 3]), (57, .iload_n 2, 1, []), (58, .laload, 1, []), (59, .lconst 0, 1, [0]), (60, .lcmp, 1, []), (61, .ifCond .eq 7, 3, [68]), (64, .iconst 1, 1, [1]), (65, .goto 4, 3, [69]), (68, .iconst 3, 1, [3]), (69, .ireturn, 1, [])]
def zm_Wa_judge : zMi := (3, 1, zc_Wa_judge, [])
def zc_Wa_howMany : List zC := [(0, .iconst 0, 1, [0]), (1, .istore_n 2, 1, []), (2, .iconst 0, 1, [0]), (3, .istore_n 3, 1, []), (4, .iload_n 3, 1, []), (5, .aload_n 0, 1, []), (6, .getfield 38, 3, [0, 8, 8]), (9, .if_icmp .ge 22, 3, [31]), (12, .aload_n 0, 1, []), (13, .getfield 25, 3, [2, 8, 4]), (16, .iload_n 3, 1, []), (17, .iaload, 1, []), (18, .iload_n 1, 1, []), (19, .if_icmp .ne 6, 3, [25]), (22, .iinc 2 1, 3, [1]), (25, .iinc 3 1, 3, [1]), (28, .goto (-24), 3, [4]), (31, .iload_n 2, 1, []), (32, .ireturn, 1, [])]
def zm_Wa_howMany : zMi := (4, 1, zc_Wa_howMany, [(4, [])])
def zc_Wa_earliest : List zC := [(0, .iconst 0, 1, [0]), (1, .istore_n 2, 1, []), (2, .iload_n 2, 1, []), (3, .aload_n 0, 1, []), (4, .getfield 38, 3, [0, 8, 8]), (7, .if_icmp .ge 21, 3, [28]), (10, .aload_n 0, 1, []), (11, .getfield 25, 3, [2, 8, 4]), (14, .iload_n 2, 1, []), (15, .iaload, 1, []), (16, .iload_n 1, 1, []), (17, .if_icmp .ne 5, 3, [22]), (20, .iload_n 2, 1, []), (21, .ireturn, 1, []), (22, .iinc 2 1, 3, [1]), (25, .goto (-23), 3, [2]), (28, .bipush (-4), 2, [4, 1]), (30, .ireturn, 1, [])]
def zm_Wa_earliest : zMi := (3, 1, zc_Wa_earliest, [(2, [])])
def zc_Wa_failedBy : List zC := [(0, .iconst 0, 1, [0]), (1, .istore_n 2, 1, []), (2, .iconst 0, 1, [0]), (3, .istore_n 3, 1, []), (4, .iload_n 3, 1, []), (5, .aload_n 0, 1, []), (6, .getfield 38, 3, [0, 8, 8]), (9, .if_icmp .ge 32, 3, [41]), (12, .aload_n 0, 1, []), (13, .getfield 25, 3, [2, 8, 4]), (16, .iload_n 3, 1, []), (17, .iaload, 1, []), (18, .iconst 2, 1, [2]), (19, .if_icmp .ne 16, 3, [35]), (22, .aload_n 0, 1, []), (23, .getfield 28, 3, [2, 8, 5]), (26, .iload_n 3, 1, []), (27, .iaload, 1, []), (28, .iload_n 1, 1, []), (29, .if_icmp .ne 6, 3, [35]), (32, .iinc 2 1, 3, [1]), (35, .iinc 3 1, 3, [1]), (38, .goto (-34), 3, [4]), (41, .iload_n 2, 1, []), (42, .ireturn, 1, [])]
def zm_Wa_failedBy : zMi := (4, 1, zc_Wa_failedBy, [(4, [])])
def zc_Wa_allDuties : List zC := [(0, .iconst 0, 1, [0]), (1, .istore_n 1, 1, []), (2, .iconst 0, 1, [0]), (3, .istore_n 2, 1, []), (4, .iload_n 2, 1, []), (5, .aload_n 0, 1, []), (6, .getfield 38, 3, [0, 8, 8]), (9, .if_icmp .ge 21, 3, [30]), (12, .iload_n 1, 1, []), (13, .aload_n 0, 1, []), (14, .getfield 22, 3, [2, 8, 3]), (17, .iload_n 2, 1, []), (18, .laload, 1, []), (19, .invokestatic 113, 3, [209, 1, 1, 0]), (22, .iadd, 1, []), (23, .istore_n 1, 1, []), (24, .iinc 2 1, 3, [1]), (27, .goto (-23), 3, [4]), (30, .iload_n 1, 1, []), (31, .ireturn, 1, [])]
def zm_Wa_allDuties : zMi := (3, 1, zc_Wa_allDuties, [(4, [])])
def zc_Wa_dutyTick : List zC := [(0, .iconst 0, 1, [0]), (1, .istore_n 3, 1, []), (2, .iload_n 1, 1, []), (3, .istore 4, 2, []), (5, .iload 4, 2, []), (7, .aload_n 0, 1, []), (8, .getfield 38, 3, [0, 8, 8]), (11, .if_icmp .ge 36, 3, [47]), (14, .aload_n 0, 1, []), (15, .getfield 22, 3, [2, 8, 3]), (18, .iload_n 1, 1, []), (19, .laload, 1, []), (20, .iload 4, 2, []), (22, .lushr, 1, []), (23, .lconst 1, 1, [1]), (24, .land, 1, []), (25, .lconst 0, 1, [0]), (26, .lcmp, 1, []), (27, .ifCond .eq 14, 3, [41]), (30, .iload_n 3, 1, []), (31, .iload_n 2, 1, []), (32, .if_icmp .ne 6, 3, [38]), (35, .iload 4, 2, []), (37, .ireturn, 1, []), (38, .iinc 3 1, 3, [1]), (41, .iinc 4 1, 3, [1]), (44, .goto (-39), 3, [5]), (47, .iconst (-1), 1, [1, 1]), (48, .ireturn, 1, [])]
def zm_Wa_dutyTick : zMi := (5, 1, zc_Wa_dutyTick, [(5, [])])
def zc_Wa_dutyState : List zC := [(0, .aload_n 0, 1, []), (1, .getfield 31, 3, [1, 8, 6]), (4, .iload_n 1, 1, []), (5, .lushr, 1, []), (6, .lconst 1, 1, [1]), (7, .land, 1, []), (8, .lconst 0, 1, [0]), (9, .lcmp, 1, []), (10, .ifCond .eq 5, 3, [15]), (13, .iconst 1, 1, [1]), (14, .ireturn, 1, []), (15, .aload_n 0, 1, []), (16, .getfield 35, 3, [1, 8, 7]), (19, .iload_n 1, 1, []), (20, .lushr, 1, []), (21, .lconst 1, 1, [1]), (22, .land, 1, []), (23, .lconst 0, 1, [0]), (24, .lcmp, 1, []), (25, .ifCond .eq 7, 3, [32]), (28, .iconst 2, 1, [2]), (29, .goto 4, 3, [33]), (32, .iconst 0, 1, [0]), (33, .ireturn, 1, [])]
def zm_Wa_dutyState : zMi := (2, 1, zc_Wa_dutyState, [])
def zc_PT_init : List zC := [(0, .aload_n 0, 1, []), (1, .invokespecial 3, 3, [1000, 1, 0, 0]), (4, .aload_n 0, 1, []), (5, .new 9, 3, [2, 3]), (8, .dup, 1, []), (9, .invokespecial 11, 3, [11, 1, 0, 0]), (12, .putfield 12, 3, [2, 9, 0]), (15, .aload_n 0, 1, []), (16, .aload_n 0, 1, []), (17, .getfield 12, 3, [2, 9, 0]), (20, .getfield 16, 3, [2, 2, 0]), (23, .putfield 20, 3, [2, 9, 1]), (26, .aload_n 0, 1, []), (27, .iconst 4, 1, [4]), (28, .anewarray 21, 3, [8]), (31, .putfield 23, 3, [2, 9, 2]), (34, .aload_n 0, 1, []), (35, .new 27, 3, [6, 2]), (38, .dup, 1, []), (39, .invokespecial 29, 3, [47, 1, 0, 0]), (42, .putfield 30, 3, [2, 9, 3]), (45, .aload_n 0, 1, []), (46, .iconst 2, 1, [2]), (47, .anewarray 27, 3, [6]), (50, .putfield 34, 3, [2, 9, 4]), (53, .aload_n 0, 1, []), (54, .iconst 2, 1, [2]), (55, .newarray .boolean, 2, [21]), (57, .putfield 38, 3, [2, 9, 5]), (60, .aload_n 0, 1, []), (61, .iconst 4, 1, [4]), (62, .anewarray 42, 3, [4]), (65, .putfield 44, 3, [2, 9, 6]), (68, .aload_n 0, 1, []), (69, .iconst 4, 1, [4]), (70, .anewarray 48, 3, [1]), (73, .putfield 50, 3, [2, 9, 7]), (76, .aload_n 0, 1, []), (77, .iconst 4, 1, [4]), (78, .anewarray 48, 3, [1]), (81, .putfield 54, 3, [2, 9, 8]), (84, .iconst 0, 1, [0]), (85, .istore_n 1, 1, []), (86, .iload_n 1, 1, []), (87, .iconst 4, 1, [4]), (88, .if_icmp .ge 48, 3, [136]), (91, .aload_n 0, 1, []), (92, .getfield 50, 3, [2, 9, 7]), (95, .iload_n 1, 1, []), (96, .new 48, 3, [1, 5]), (99, .dup, 1, []), (100, .invokespecial 57, 3, [8, 1, 0, 0]), (103, .aastore, 1, []), (104, .aload_n 0, 1, []), (105, .getfield 54, 3, [2, 9, 8]), (108, .iload_n 1, 1, []), (109, .new 48, 3, [1, 5]), (112, .dup, 1, []), (113, .invokespecial 57, 3, [8, 1, 0, 0]), (116, .aastore, 1, []), (117, .aload_n 0, 1, []), (118, .getfield 23, 3, [2, 9, 2]), (121, .iload_n 1, 1, []), (122, .new 21, 3, [8, 9]), (125, .dup, 1, []), (126, .invokespecial 58, 3, [58, 1, 0, 0]), (129, .aastore, 1, []), (130, .iinc 1 1, 3, [1]), (133, .goto (-47), 3, [86]), (136, .iconst 0, 1, [0]), (137, .istore_n 1, 1, []), (138, .iload_n 1, 1, []), (139, .iconst 2, 1, [2]), (140, .if_icmp .ge 22, 3, [162]), (143, .aload_n 0, 1, []), (144, .getfield 34, 3, [2, 9, 4]), (147, .iload_n 1, 1, []), (148, .new 27, 3, [6, 2]), (151, .dup, 1, []), (152, .invokespecial 29, 3, [47, 1, 0, 0]), (155, .aastore, 1, []), (156, .iinc 1 1, 3, [1]), (159, .goto (-21), 3, [138]), (162, .iconst 0, 1, [0]), (163, .istore_n 1, 1, []), (164, .iload_n 1, 1, []), (165, .iconst 4, 1, [4]), (166, .if_icmp .ge 22, 3, [188]), (169, .aload_n 0, 1, []), (170, .getfield 44, 3, [2, 9, 6]), (173, .iload_n 1, 1, []), (174, .new 42, 3, [4, 3]), (177, .dup, 1, []), (178, .invokespecial 59, 3, [35, 1, 0, 0]), (181, .aastore, 1, []), (182, .iinc 1 1, 3, [1]), (185, .goto (-21), 3, [164]), (188, .return_, 1, [])]
def zm_PT_init : zMi := (2, 0, zc_PT_init, [(86, []), (138, []), (164, [])])
def zc_PT_feed : List zC := [(0, .iload_n 1, 1, []), (1, .ifCond .lt 9, 3, [10]), (4, .iload_n 1, 1, []), (5, .bipush 127, 2, [127]), (7, .if_icmp .le 5, 3, [12]), (10, .iconst (-1), 1, [1, 1]), (11, .ireturn, 1, []), (12, .aload_n 0, 1, []), (13, .getfield 20, 3, [2, 9, 1]), (16, .getfield 60, 3, [0, 5, 1]), (19, .sipush 200, 3, [200]), (22, .if_icmp .lt 6, 3, [28]), (25, .bipush (-3), 2, [3, 1]), (27, .ireturn, 1, []), (28, .aload_n 0, 1, []), (29, .getfield 20, 3, [2, 9, 1]), (32, .getfield 66, 3, [2, 5, 0]), (35, .aload_n 0, 1, []), (36, .getfield 20, 3, [2, 9, 1]), (39, .getfield 60, 3, [0, 5, 1]), (42, .iload_n 1, 1, []), (43, .i2b, 1, []), (44, .bastore, 1, []), (45, .aload_n 0, 1, []), (46, .getfield 20, 3, [2, 9, 1]), (49, .dup, 1, []), (50, .getfield 60, 3, [0, 5, 1]), (53, .iconst 1, 1, [1]), (54, .iadd, 1, []), (55, .putfield 60, 3, [0, 5, 1]), (58, .aload_n 0, 1, []), (59, .getfield 20, 3, [2, 9, 1]), (62, .getfield 60, 3, [0, 5, 1]), (65, .ireturn, 1, [])]
def zm_PT_feed : zMi := (2, 1, zc_PT_feed, [])
def zc_PT_end : List zC := [(0, .aload_n 0, 1, []), (1, .getfield 20, 3, [2, 9, 1]), (4, .getfield 60, 3, [0, 5, 1]), (7, .istore_n 2, 1, []), (8, .iload_n 1, 1, []), (9, .ifCond .lt 8, 3, [17]), (12, .iload_n 1, 1, []), (13, .iload_n 2, 1, []), (14, .if_icmp .le 5, 3, [19]), (17, .iconst (-1), 1, [1, 1]), (18, .ireturn, 1, []), (19, .aload_n 0, 1, []), (20, .getfield 20, 3, [2, 9, 1]), (23, .iload_n 1, 1, []), (24, .putfield 60, 3, [0, 5, 1]), (27, .iload_n 2, 1, []), (28, .ireturn, 1, [])]
def zm_PT_end : zMi := (3, 1, zc_PT_end, [])
def zc_PT_text : List zC := [(0, .aload_n 0, 1, []), (1, .getfield 12, 3, [2, 9, 0]), (4, .aload_n 0, 1, []), (5, .getfield 54, 3, [2, 9, 8]), (8, .invokevirtual 70, 3, [12, 2, 1, 3]), (11, .istore_n 1, 1, []), (12, .aload_n 0, 1, []), (13, .getfield 20, 3, [2, 9, 1]), (16, .iconst 0, 1, [0]), (17, .putfield 60, 3, [0, 5, 1]), (20, .aload_n 0, 1, []), (21, .aload_n 0, 1, []), (22, .getfield 20, 3, [2, 9, 1]), (25, .getfield 74, 3, [0, 5, 6]), (28, .putfield 77, 3, [0, 9, 10]), (31, .iload_n 1, 1, []), (32, .ifCond .ge 14, 3, [46]), (35, .bipush (-10), 2, [10, 1]), (37, .aload_n 0, 1, []), (38, .getfield 20, 3, [2, 9, 1]), (41, .getfield 80, 3, [0, 5, 7]), (44, .isub, 1, []), (45, .ireturn, 1, []), (46, .aload_n 0, 1, []), (47, .getfield 50, 3, [2, 9, 7]), (50, .astore_n 2, 1, []), (51, .aload_n 0, 1, []), (52, .aload_n 0, 1, []), (53, .getfield 54, 3, [2, 9, 8]), (56, .putfield 50, 3, [2, 9, 7]), (59, .aload_n 0, 1, []), (60, .aload_n 2, 1, []), (61, .putfield 54, 3, [2, 9, 8]), (64, .aload_n 0, 1, []), (65, .iload_n 1, 1, []), (66, .putfield 83, 3, [0, 9, 9]), (69, .iconst 0, 1, [0]), (70, .istore_n 3, 1, []), (71, .iload_n 3, 1, []), (72, .iconst 2, 1, [2]), (73, .if_icmp .ge 16, 3, [89]), (76, .aload_n 0, 1, []), (77, .getfield 38, 3, [2, 9, 5]), (80, .iload_n 3, 1, []), (81, .iconst 0, 1, [0]), (82, .bastore, 1, []), (83, .iinc 3 1, 3, [1]), (86, .goto (-15), 3, [71]), (89, .aload_n 0, 1, []), (90, .invokevirtual 86, 3, [117, 1, 0, 10]), (93, .iload_n 1, 1, []), (94, .ireturn, 1, [])]
def zm_PT_text : zMi := (4, 1, zc_PT_text, [(71, [2])])
def zc_PT_fault : List zC := [(0, .aload_n 0, 1, []), (1, .getfield 77, 3, [0, 9, 10]), (4, .ireturn, 1, [])]
def zm_PT_fault : zMi := (1, 1, zc_PT_fault, [])
def zc_PT_rule : List zC := [(0, .iload_n 1, 1, []), (1, .ifCond .lt 9, 3, [10]), (4, .iload_n 1, 1, []), (5, .bipush 7, 2, [7]), (7, .if_icmp .le 5, 3, [12]), (10, .iconst (-1), 1, [1, 1]), (11, .ireturn, 1, []), (12, .iload_n 1, 1, []), (13, .ifCond .ne 8, 3, [21]), (16, .aload_n 0, 1, []), (17, .getfield 83, 3, [0, 9, 9]), (20, .ireturn, 1, []), (21, .iload_n 1, 1, []), (22, .iconst 1, 1, [1]), (23, .if_icmp .ne 11, 3, [34]), (26, .aload_n 0, 1, []), (27, .getfield 30, 3, [2, 9, 3]), (30, .getfield 89, 3, [0, 6, 1]), (33, .ireturn, 1, []), (34, .iconst 0, 1, [0]), (35, .istore_n 2, 1, []), (36, .iconst 0, 1, [0]), (37, .istore_n 3, 1, []), (38, .iload_n 3, 1, []), (39, .aload_n 0, 1, []), (40, .getfield 83, 3, [0, 9, 9]), (43, .if_icmp .ge 41, 3, [84]), (46, .aload_n 0, 1, []), (47, .iload_n 3, 1, []), (48, .invokevirtual 90, 3, [116, 2, 3, 10]), (51, .astore 4, 2, []), (53, .iload_n 2, 1, []), (54, .iload_n 1, 1, []), (55, .bipush 7, 2, [7]), (57, .if_icmp .ne 11, 3, [68]), (60, .aload 4, 2, []), (62, .invokevirtual 94, 3, [71, 1, 1, 9]), (65, .goto 11, 3, [76]), (68, .aload 4, 2, []), (70, .iload_n 1, 1, []), (71, .iconst 2, 1, [2]), (72, .isub, 1, []), (73, .invokevirtual 98, 3, [68, 2, 1, 9]), (76, .iadd, 1, []), (77, .istore_n 2, 1, []), (78, .iinc 3 1, 3, [1]), (81, .goto (-43), 3, [38]), (84, .iload_n 2, 1, []), (85, .ireturn, 1, [])]
def zm_PT_rule : zMi := (5, 1, zc_PT_rule, [(38, [4])])
def zc_PT_promise : List zC := [(0, .aload_n 0, 1, []), (1, .iload_n 1, 1, []), (2, .invokevirtual 102, 3, [103, 2, 1, 10]), (5, .ifCond .ne 5, 3, [10]), (8, .iconst (-1), 1, [1, 1]), (9, .ireturn, 1, []), (10, .aload_n 0, 1, []), (11, .getfield 50, 3, [2, 9, 7]), (14, .iload_n 1, 1, []), (15, .aaload, 1, []), (16, .astore_n 3, 1, []), (17, .iload_n 2, 1, []), (18, .tableswitch 136 0 9 #[54, 59, 72, 80, 88, 96, 104, 112, 120, 128], 54, [154, 0, 72, 77, 90, 98, 106, 114, 122, 130, 138, 146]), (72, .aload_n 3, 1, []), (73, .getfield 106, 3, [0, 1, 4]), (76, .ireturn, 1, []), (77, .aload_n 3, 1, []), (78, .getfield 109, 3, [0, 1, 3]), (81, .ifCond .eq 7, 3, [88]), (84, .iconst 1, 1, [1]), (85, .goto 4, 3, [89]), (88, .iconst 0, 1, [0]), (89, .ireturn, 1, []), (90, .aload_n 3, 1, []), (91, .getfield 113, 3, [2, 1, 0]), (94, .getfield 117, 3, [0, 3, 6]), (97, .ireturn, 1, []), (98, .aload_n 3, 1, []), (99, .getfield 122, 3, [2, 1, 1]), (102, .getfield 117, 3, [0, 3, 6]), (105, .ireturn, 1, []), (106, .aload_n 3, 1, []), (107, .getfield 113, 3, [2, 1, 0]), (110, .getfield 125, 3, [0, 3, 7]), (113, .ireturn, 1, []), (114, .aload_n 3, 1, []), (115, .getfield 122, 3, [2, 1, 1]), (118, .getfield 125, 3, [0, 3, 7]), (121, .ireturn, 1, []), (122, .aload_n 3, 1, []), (123, .getfield 113, 3, [2, 1, 0]), (126, .getfield 128, 3, [0, 3, 8]), (129, .ireturn, 1, []), (130, .aload_n 3, 1, []), (131, .getfield 122, 3, [2, 1, 1]), (134, .getfield 128, 3, [0, 3, 8]), (137, .ireturn, 1, []), (138, .aload_n 3, 1, []), (139, .getfield 113, 3, [2, 1, 0]), (142, .getfield 131, 3, [0, 3, 9]), (145, .ireturn, 1, []), (146, .aload_n 3, 1, []), (147, .getfield 122, 3, [2, 1, 1]), (150, .getfield 131, 3, [0, 3, 9]), (153, .ireturn, 1, []), (154, .iconst (-1), 1, [1, 1]), (155, .ireturn, 1, [])]
def zm_PT_promise : zMi := (4, 1, zc_PT_promise, [])
def zc_PT_fulfils : List zC := [(0, .aload_n 0, 1, []), (1, .iload_n 1, 1, []), (2, .iload_n 2, 1, []), (3, .iload_n 3, 1, []), (4, .invokevirtual 134, 3, [106, 4, 1, 10]), (7, .ifCond .eq 11, 3, [18]), (10, .iload 4, 2, []), (12, .invokestatic 138, 3, [107, 1, 1, 0]), (15, .ifCond .ne 5, 3, [20]), (18, .iconst (-1), 1, [1, 1]), (19, .ireturn, 1, []), (20, .iload_n 2, 1, []), (21, .iconst 2, 1, [2]), (22, .if_icmp .ne 21, 3, [43]), (25, .aload_n 0, 1, []), (26, .getfield 50, 3, [2, 9, 7]), (29, .iload_n 1, 1, []), (30, .aaload, 1, []), (31, .getfield 141, 3, [2, 1, 2]), (34, .iconst 0, 1, [0]), (35, .iload 4, 2, []), (37, .invokestatic 145, 3, [118, 3, 1, 0]), (40, .goto 22, 3, [62]), (43, .aload_n 0, 1, []), (44, .getfield 50, 3, [2, 9, 7]), (47, .iload_n 1, 1, []), (48, .aaload, 1, []), (49, .iload_n 2, 1, []), (50, .invokevirtual 149, 3, [9, 2, 3, 2]), (53, .getfield 153, 3, [2, 3, 2]), (56, .iload_n 3, 1, []), (57, .iload 4, 2, []), (59, .invokestatic 145, 3, [118, 3, 1, 0]), (62, .istore 5, 2, []), (64, .iload 5, 2, []), (66, .ifCond .eq 7, 3, [73]), (69, .iconst 1, 1, [1]), (70, .goto 4, 3, [74]), (73, .iconst 0, 1, [0]), (74, .ireturn, 1, [])]
def zm_PT_fulfils : zMi := (6, 1, zc_PT_fulfils, [])
def zc_PT_fulfilled : List zC := [(0, .aload_n 0, 1, []), (1, .iload_n 1, 1, []), (2, .iload_n 2, 1, []), (3, .iload_n 3, 1, []), (4, .invokevirtual 134, 3, [106, 4, 1, 10]), (7, .ifCond .ne 5, 3, [12]), (10, .iconst (-1), 1, [1, 1]), (11, .ireturn, 1, []), (12, .iload_n 2, 1, []), (13, .iconst 2, 1, [2]), (14, .if_icmp .ne 19, 3, [33]), (17, .aload_n 0, 1, []), (18, .getfield 50, 3, [2, 9, 7]), (21, .iload_n 1, 1, []), (22, .aaload, 1, []), (23, .getfield 141, 3, [2, 1, 2]), (26, .iconst 0, 1, [0]), (27, .invokestatic 156, 3, [119, 2, 1, 0]), (30, .goto 20, 3, [50]), (33, .aload_n 0, 1, []), (34, .getfield 50, 3, [2, 9, 7]), (37, .iload_n 1, 1, []), (38, .aaload, 1, []), (39, .iload_n 2, 1, []), (40, .invokevirtual 149, 3, [9, 2, 3, 2]), (43, .getfield 153, 3, [2, 3, 2]), (46, .iload_n 3, 1, []), (47, .invokestatic 156, 3, [119, 2, 1, 0]), (50, .ireturn, 1, [])]
def zm_PT_fulfilled : zMi := (4, 1, zc_PT_fulfilled, [])
def zc_PT_matches : List zC := [(0, .aload_n 0, 1, []), (1, .iload_n 1, 1, []), (2, .invokevirtual 102, 3, [103, 2, 1, 10]), (5, .ifCond .eq 45, 3, [50]), (8, .iload_n 2, 1, []), (9, .invokestatic 160, 3, [108, 1, 1, 0]), (12, .ifCond .eq 38, 3, [50]), (15, .iload_n 3, 1, []), (16, .ifCond .lt 34, 3, [50]), (19, .iload_n 3, 1, []), (20, .aload_n 0, 1, []), (21, .getfield 30, 3, [2, 9, 3]), (24, .getfield 89, 3, [0, 6, 1]), (27, .if_icmp .gt 23, 3, [50]), (30, .iload 4, 2, []), (32, .iload_n 3, 1, []), (33, .iconst 1, 1, [1]), (34, .isub, 1, []), (35, .if_icmp .lt 15, 3, [50]), (38, .iload 4, 2, []), (40, .aload_n 0, 1, []), (41, .getfield 30, 3, [2, 9, 3]), (44, .getfield 89, 3, [0, 6, 1]), (47, .if_icmp .lt 5, 3, [52]), (50, .iconst (-1), 1, [1, 1]), (51, .ireturn, 1, []), (52, .aload_n 0, 1, []), (53, .getfield 50, 3, [2, 9, 7]), (56, .iload_n 1, 1, []), (57, .aaload, 1, []), (58, .iload_n 2, 1, []), (59, .invokevirtual 149, 3, [9, 2, 3, 2]), (62, .astore 5, 2, []), (64, .aload 5, 2, []), (66, .aload 5, 2, []), (68, .aload_n 0, 1, []), (69, .getfield 30, 3, [2, 9, 3]), (72, .iload_n 3, 1, []), (73, .iload 4, 2, []), (75, .iconst 1, 1, [1]), (76, .iadd, 1, []), (77, .invokevirtual 163, 3, [32, 4, 2, 4]), (80, .invokevirtual 167, 3, [33, 2, 1, 4]), (83, .ifCond .eq 7, 3, [90]), (86, .iconst 1, 1, [1]), (87, .goto 4, 3, [91]), (90, .iconst 0, 1, [0]), (91, .ireturn, 1, [])]
def zm_PT_matches : zMi := (6, 1, zc_PT_matches, [])
def zc_PT_might : List zC := [(0, .aload_n 0, 1, []), (1, .iload_n 1, 1, []), (2, .invokevirtual 102, 3, [103, 2, 1, 10]), (5, .ifCond .eq 25, 3, [30]), (8, .iload_n 2, 1, []), (9, .invokestatic 160, 3, [108, 1, 1, 0]), (12, .ifCond .eq 18, 3, [30]), (15, .iload_n 3, 1, []), (16, .ifCond .lt 14, 3, [30]), (19, .iload_n 3, 1, []), (20, .aload_n 0, 1, []), (21, .getfield 30, 3, [2, 9, 3]), (24, .getfield 89, 3, [0, 6, 1]), (27, .if_icmp .le 5, 3, [32]), (30, .iconst (-1), 1, [1, 1]), (31, .ireturn, 1, []), (32, .aload_n 0, 1, []), (33, .getfield 50, 3, [2, 9, 7]), (36, .iload_n 1, 1, []), (37, .aaload, 1, []), (38, .iload_n 2, 1, []), (39, .invokevirtual 149, 3, [9, 2, 3, 2]), (42, .astore 4, 2, []), (44, .aload 4, 2, []), (46, .aload 4, 2, []), (48, .aload_n 0, 1, []), (49, .getfield 30, 3, [2, 9, 3]), (52, .iload_n 3, 1, []), (53, .aload_n 0, 1, []), (54, .getfield 30, 3, [2, 9, 3]), (57, .getfield 89, 3, [0, 6, 1]), (60, .invokevirtual 163, 3, [32, 4, 2, 4]), (63, .invokevirtual 171, 3, [34, 2, 1, 4]), (66, .ifCond .eq 7, 3, [73]), (69, .iconst 1, 1, [1]), (70, .goto 4, 3, [74]), (73, .iconst 0, 1, [0]), (74, .ireturn, 1, [])]
def zm_PT_might : zMi := (5, 1, zc_PT_might, [])
def zc_PT_tick : List zC := [(0, .iload_n 1, 1, []), (1, .invokestatic 138, 3, [107, 1, 1, 0]), (4, .ifCond .ne 5, 3, [9]), (7, .iconst (-1), 1, [1, 1]), (8, .ireturn, 1, []), (9, .aload_n 0, 1, []), (10, .getfield 30, 3, [2, 9, 3]), (13, .getfield 89, 3, [0, 6, 1]), (16, .bipush 48, 2, [48]), (18, .if_icmp .lt 6, 3, [24]), (21, .bipush (-3), 2, [3, 1]), (23, .ireturn, 1, []), (24, .aload_n 0, 1, []), (25, .getfield 30, 3, [2, 9, 3]), (28, .iload_n 1, 1, []), (29, .invokevirtual 174, 3, [48, 2, 0, 7]), (32, .iconst 0, 1, [0]), (33, .istore_n 2, 1, []), (34, .iconst 0, 1, [0]), (35, .istore_n 3, 1, []), (36, .iload_n 3, 1, []), (37, .aload_n 0, 1, []), (38, .getfield 83, 3, [0, 9, 9]), (41, .if_icmp .ge 29, 3, [70]), (44, .iload_n 2, 1, []), (45, .aload_n 0, 1, []), (46, .iload_n 3, 1, []), (47, .invokevirtual 90, 3, [116, 2, 3, 10]), (50, .aload_n 0, 1, []), (51, .getfield 30, 3, [2, 9, 3]), (54, .getfield 89, 3, [0, 6, 1]), (57, .iconst 1, 1, [1]), (58, .isub, 1, []), (59, .invokevirtual 178, 3, [70, 2, 1, 9]), (62, .iadd, 1, []), (63, .istore_n 2, 1, []), (64, .iinc 3 1, 3, [1]), (67, .goto (-31), 3, [36]), (70, .iload_n 2, 1, []), (71, .ireturn, 1, [])]
def zm_PT_tick : zMi := (4, 1, zc_PT_tick, [(36, [1])])
def zc_PT_bits : List zC := [(0, .aload_n 0, 1, []), (1, .iload_n 1, 1, []), (2, .invokevirtual 181, 3, [104, 2, 1, 10]), (5, .ifCond .eq 15, 3, [20]), (8, .aload_n 0, 1, []), (9, .getfield 30, 3, [2, 9, 3]), (12, .getfield 184, 3, [2, 6, 0]), (15, .iload_n 1, 1, []), (16, .iaload, 1, []), (17, .goto 4, 3, [21]), (20, .iconst (-1), 1, [1, 1]), (21, .ireturn, 1, [])]
def zm_PT_bits : zMi := (2, 1, zc_PT_bits, [])
def zc_PT_put : List zC := [(0, .aload_n 0, 1, []), (1, .iload_n 1, 1, []), (2, .invokevirtual 181, 3, [104, 2, 1, 10]), (5, .ifCond .eq 10, 3, [15]), (8, .iload_n 2, 1, []), (9, .invokestatic 138, 3, [107, 1, 1, 0]), (12, .ifCond .ne 5, 3, [17]), (15, .iconst (-1), 1, [1, 1]), (16, .ireturn, 1, []), (17, .aload_n 0, 1, []), (18, .getfield 30, 3, [2, 9, 3]), (21, .getfield 184, 3, [2, 6, 0]), (24, .iload_n 1, 1, []), (25, .iaload, 1, []), (26, .istore_n 3, 1, []), (27, .aload_n 0, 1, []), (28, .getfield 30, 3, [2, 9, 3]), (31, .getfield 184, 3, [2, 6, 0]), (34, .iload_n 1, 1, []), (35, .iload_n 2, 1, []), (36, .iastore, 1, []), (37, .aload_n 0, 1, []), (38, .invokevirtual 86, 3, [117, 1, 0, 10]), (41, .iload_n 3, 1, []), (42, .ireturn, 1, [])]
def zm_PT_put : zMi := (4, 1, zc_PT_put, [])
def zc_PT_keeps : List zC := [(0, .aload_n 0, 1, []), (1, .getfield 30, 3, [2, 9, 3]), (4, .getfield 89, 3, [0, 6, 1]), (7, .istore_n 2, 1, []), (8, .iload_n 1, 1, []), (9, .ifCond .lt 8, 3, [17]), (12, .iload_n 1, 1, []), (13, .iload_n 2, 1, []), (14, .if_icmp .le 5, 3, [19]), (17, .iconst (-1), 1, [1, 1]), (18, .ireturn, 1, []), (19, .aload_n 0, 1, []), (20, .getfield 30, 3, [2, 9, 3]), (23, .iload_n 1, 1, []), (24, .putfield 89, 3, [0, 6, 1]), (27, .aload_n 0, 1, []), (28, .invokevirtual 86, 3, [117, 1, 0, 10]), (31, .iload_n 2, 1, []), (32, .ireturn, 1, [])]
def zm_PT_keeps : zMi := (3, 1, zc_PT_keeps, [])
def zc_PT_draw : List zC := [(0, .iload_n 2, 1, []), (1, .iconst 1, 1, [1]), (2, .if_icmp .lt 9, 3, [11]), (5, .iload_n 2, 1, []), (6, .bipush 20, 2, [20]), (8, .if_icmp .le 5, 3, [13]), (11, .iconst (-1), 1, [1, 1]), (12, .ireturn, 1, []), (13, .aload_n 0, 1, []), (14, .getfield 30, 3, [2, 9, 3]), (17, .getfield 89, 3, [0, 6, 1]), (20, .iload_n 2, 1, []), (21, .iadd, 1, []), (22, .bipush 48, 2, [48]), (24, .if_icmp .le 6, 3, [30]), (27, .bipush (-3), 2, [3, 1]), (29, .ireturn, 1, []), (30, .iload_n 1, 1, []), (31, .istore_n 3, 1, []), (32, .iconst 0, 1, [0]), (33, .istore 4, 2, []), (35, .iload 4, 2, []), (37, .iload_n 2, 1, []), (38, .if_icmp .ge 39, 3, [77]), (41, .iload_n 3, 1, []), (42, .invokestatic 188, 3, [113, 1, 1, 0]), (45, .istore_n 3, 1, []), (46, .iload_n 3, 1, []), (47, .invokestatic 191, 3, [114, 1, 1, 0]), (50, .istore 5, 2, []), (52, .iload_n 3, 1, []), (53, .invokestatic 188, 3, [113, 1, 1, 0]), (56, .istore_n 3, 1, []), (57, .aload_n 0, 1, []), (58, .getfield 30, 3, [2, 9, 3]), (61, .iload 5, 2, []), (63, .iload_n 3, 1, []), (64, .invokestatic 191, 3, [114, 1, 1, 0]), (67, .iand, 1, []), (68, .invokevirtual 174, 3, [48, 2, 0, 7]), (71, .iinc 4 1, 3, [1]), (74, .goto (-39), 3, [35]), (77, .aload_n 0, 1, []), (78, .getfield 30, 3, [2, 9, 3]), (81, .getfield 89, 3, [0, 6, 1]), (84, .ireturn, 1, [])]
def zm_PT_draw : zMi := (6, 1, zc_PT_draw, [(35, [1, 5])])
def zc_PT_verdict : List zC := [(0, .aload_n 0, 1, []), (1, .iload_n 1, 1, []), (2, .iload_n 2, 1, []), (3, .invokevirtual 194, 3, [105, 3, 1, 10]), (6, .ifCond .eq 16, 3, [22]), (9, .aload_n 0, 1, []), (10, .iload_n 1, 1, []), (11, .invokevirtual 90, 3, [116, 2, 3, 10]), (14, .getfield 198, 3, [2, 8, 4]), (17, .iload_n 2, 1, []), (18, .iaload, 1, []), (19, .goto 4, 3, [23]), (22, .iconst (-1), 1, [1, 1]), (23, .ireturn, 1, [])]
def zm_PT_verdict : zMi := (3, 1, zc_PT_verdict, [])
def zc_PT_decided : List zC := [(0, .aload_n 0, 1, []), (1, .iload_n 1, 1, []), (2, .iload_n 2, 1, []), (3, .invokevirtual 194, 3, [105, 3, 1, 10]), (6, .ifCond .ne 5, 3, [11]), (9, .iconst (-1), 1, [1, 1]), (10, .ireturn, 1, []), (11, .aload_n 0, 1, []), (12, .iload_n 1, 1, []), (13, .invokevirtual 90, 3, [116, 2, 3, 10]), (16, .astore_n 3, 1, []), (17, .aload_n 3, 1, []), (18, .getfield 198, 3, [2, 8, 4]), (21, .iload_n 2, 1, []), (22, .iaload, 1, []), (23, .ifCond .ne 8, 3, [31]), (26, .bipush (-4), 2, [4, 1]), (28, .goto 9, 3, [37]), (31, .aload_n 3, 1, []), (32, .getfield 201, 3, [2, 8, 5]), (35, .iload_n 2, 1, []), (36, .iaload, 1, []), (37, .ireturn, 1, [])]
def zm_PT_decided : zMi := (4, 1, zc_PT_decided, [])
def zc_PT_duties : List zC := [(0, .aload_n 0, 1, []), (1, .iload_n 1, 1, []), (2, .iload_n 2, 1, []), (3, .invokevirtual 194, 3, [105, 3, 1, 10]), (6, .ifCond .eq 19, 3, [25]), (9, .aload_n 0, 1, []), (10, .iload_n 1, 1, []), (11, .invokevirtual 90, 3, [116, 2, 3, 10]), (14, .getfield 204, 3, [2, 8, 3]), (17, .iload_n 2, 1, []), (18, .laload, 1, []), (19, .invokestatic 207, 3, [209, 1, 1, 0]), (22, .goto 4, 3, [26]), (25, .iconst (-1), 1, [1, 1]), (26, .ireturn, 1, [])]
def zm_PT_duties : zMi := (3, 1, zc_PT_duties, [])
def zc_PT_duty : List zC := [(0, .aload_n 0, 1, []), (1, .iload_n 1, 1, []), (2, .iload_n 2, 1, []), (3, .invokevirtual 194, 3, [105, 3, 1, 10]), (6, .ifCond .eq 18, 3, [24]), (9, .iload_n 3, 1, []), (10, .ifCond .lt 14, 3, [24]), (13, .iload 4, 2, []), (15, .ifCond .lt 9, 3, [24]), (18, .iload 4, 2, []), (20, .iconst 2, 1, [2]), (21, .if_icmp .le 5, 3, [26]), (24, .iconst (-1), 1, [1, 1]), (25, .ireturn, 1, []), (26, .aload_n 0, 1, []), (27, .iload_n 1, 1, []), (28, .invokevirtual 90, 3, [116, 2, 3, 10]), (31, .astore 5, 2, []), (33, .aload 5, 2, []), (35, .iload_n 2, 1, []), (36, .iload_n 3, 1, []), (37, .invokevirtual 213, 3, [72, 3, 1, 9]), (40, .istore 6, 2, []), (42, .iload 6, 2, []), (44, .ifCond .ge 6, 3, [50]), (47, .bipush (-4), 2, [4, 1]), (49, .ireturn, 1, []), (50, .iload 4, 2, []), (52, .ifCond .ne 6, 3, [58]), (55, .iload 6, 2, []), (57, .ireturn, 1, []), (58, .aload 5, 2, []), (60, .iload 6, 2, []), (62, .invokevirtual 217, 3, [73, 2, 1, 9]), (65, .istore 7, 2, []), (67, .iload 4, 2, []), (69, .iconst 1, 1, [1]), (70, .if_icmp .ne 6, 3, [76]), (73, .iload 7, 2, []), (75, .ireturn, 1, []), (76, .iload 7, 2, []), (78, .ifCond .ne 8, 3, [86]), (81, .bipush (-4), 2, [4, 1]), (83, .goto 11, 3, [94]), (86, .aload 5, 2, []), (88, .getfield 220, 3, [2, 8, 2]), (91, .iload 6, 2, []), (93, .iaload, 1, []), (94, .ireturn, 1, [])]
def zm_PT_duty : zMi := (8, 1, zc_PT_duty, [])
def zc_PT_tries : List zC := [(0, .aload_n 0, 1, []), (1, .iload_n 1, 1, []), (2, .invokevirtual 102, 3, [103, 2, 1, 10]), (5, .ifCond .eq 22, 3, [27]), (8, .iload_n 2, 1, []), (9, .invokestatic 223, 3, [109, 1, 1, 0]), (12, .ifCond .eq 15, 3, [27]), (15, .aload_n 0, 1, []), (16, .iload_n 1, 1, []), (17, .invokevirtual 90, 3, [116, 2, 3, 10]), (20, .iload_n 2, 1, []), (21, .invokevirtual 98, 3, [68, 2, 1, 9]), (24, .goto 4, 3, [28]), (27, .iconst (-1), 1, [1, 1]), (28, .ireturn, 1, [])]
def zm_PT_tries : zMi := (3, 1, zc_PT_tries, [])
def zc_PT_first : List zC := [(0, .aload_n 0, 1, []), (1, .iload_n 1, 1, []), (2, .invokevirtual 102, 3, [103, 2, 1, 10]), (5, .ifCond .eq 22, 3, [27]), (8, .iload_n 2, 1, []), (9, .invokestatic 223, 3, [109, 1, 1, 0]), (12, .ifCond .eq 15, 3, [27]), (15, .aload_n 0, 1, []), (16, .iload_n 1, 1, []), (17, .invokevirtual 90, 3, [116, 2, 3, 10]), (20, .iload_n 2, 1, []), (21, .invokevirtual 226, 3, [69, 2, 1, 9]), (24, .goto 4, 3, [28]), (27, .iconst (-1), 1, [1, 1]), (28, .ireturn, 1, [])]
def zm_PT_first : zMi := (3, 1, zc_PT_first, [])
def zc_PT_keep : List zC := [(0, .iload_n 1, 1, []), (1, .invokestatic 229, 3, [110, 1, 1, 0]), (4, .ifCond .ne 5, 3, [9]), (7, .iconst (-1), 1, [1, 1]), (8, .ireturn, 1, []), (9, .aload_n 0, 1, []), (10, .getfield 38, 3, [2, 9, 5]), (13, .iload_n 1, 1, []), (14, .baload, 1, []), (15, .ifCond .eq 7, 3, [22]), (18, .iconst 1, 1, [1]), (19, .goto 4, 3, [23]), (22, .iconst 0, 1, [0]), (23, .istore_n 2, 1, []), (24, .aload_n 0, 1, []), (25, .getfield 34, 3, [2, 9, 4]), (28, .iload_n 1, 1, []), (29, .aaload, 1, []), (30, .aload_n 0, 1, []), (31, .getfield 30, 3, [2, 9, 3]), (34, .invokevirtual 232, 3, [49, 2, 0, 7]), (37, .aload_n 0, 1, []), (38, .getfield 38, 3, [2, 9, 5]), (41, .iload_n 1, 1, []), (42, .iconst 1, 1, [1]), (43, .bastore, 1, []), (44, .iload_n 2, 1, []), (45, .ireturn, 1, [])]
def zm_PT_keep : zMi := (3, 1, zc_PT_keep, [])
def zc_PT_back : List zC := [(0, .iload_n 1, 1, []), (1, .invokestatic 229, 3, [110, 1, 1, 0]), (4, .ifCond .ne 5, 3, [9]), (7, .iconst (-1), 1, [1, 1]), (8, .ireturn, 1, []), (9, .aload_n 0, 1, []), (10, .getfield 38, 3, [2, 9, 5]), (13, .iload_n 1, 1, []), (14, .baload, 1, []), (15, .ifCond .ne 6, 3, [21]), (18, .bipush (-2), 2, [2, 1]), (20, .ireturn, 1, []), (21, .aload_n 0, 1, []), (22, .getfield 30, 3, [2, 9, 3]), (25, .aload_n 0, 1, []), (26, .getfield 34, 3, [2, 9, 4]), (29, .iload_n 1, 1, []), (30, .aaload, 1, []), (31, .invokevirtual 232, 3, [49, 2, 0, 7]), (34, .aload_n 0, 1, []), (35, .invokevirtual 86, 3, [117, 1, 0, 10]), (38, .aload_n 0, 1, []), (39, .getfield 30, 3, [2, 9, 3]), (42, .getfield 89, 3, [0, 6, 1]), (45, .ireturn, 1, [])]
def zm_PT_back : zMi := (2, 1, zc_PT_back, [])
def zc_PT_sheet : List zC := [(0, .iload_n 1, 1, []), (1, .invokestatic 236, 3, [111, 1, 1, 0]), (4, .ifCond .eq 16, 3, [20]), (7, .iload_n 2, 1, []), (8, .invokestatic 239, 3, [112, 1, 1, 0]), (11, .ifCond .eq 9, 3, [20]), (14, .iload_n 3, 1, []), (15, .bipush 40, 2, [40]), (17, .if_icmp .le 5, 3, [22]), (20, .iconst (-1), 1, [1, 1]), (21, .ireturn, 1, []), (22, .iload_n 3, 1, []), (23, .ifCond .ge 6, 3, [29]), (26, .bipush (-14), 2, [14, 1]), (28, .ireturn, 1, []), (29, .aload_n 0, 1, []), (30, .getfield 44, 3, [2, 9, 6]), (33, .iload_n 1, 1, []), (34, .aaload, 1, []), (35, .iload_n 2, 1, []), (36, .iload_n 3, 1, []), (37, .invokevirtual 242, 3, [36, 3, 0, 5]), (40, .iconst 1, 1, [1]), (41, .ireturn, 1, [])]
def zm_PT_sheet : zMi := (4, 1, zc_PT_sheet, [])
def zc_PT_lay : List zC := [(0, .iload_n 1, 1, []), (1, .invokestatic 236, 3, [111, 1, 1, 0]), (4, .ifCond .ne 5, 3, [9]), (7, .iconst (-1), 1, [1, 1]), (8, .ireturn, 1, []), (9, .aload_n 0, 1, []), (10, .getfield 44, 3, [2, 9, 6]), (13, .iload_n 1, 1, []), (14, .aaload, 1, []), (15, .astore 4, 2, []), (17, .aload 4, 2, []), (19, .aload 4, 2, []), (21, .getfield 246, 3, [0, 4, 1]), (24, .iload_n 2, 1, []), (25, .invokevirtual 249, 3, [37, 3, 1, 5]), (28, .istore 5, 2, []), (30, .iload 5, 2, []), (32, .ifCond .eq 9, 3, [41]), (35, .bipush (-10), 2, [10, 1]), (37, .iload 5, 2, []), (39, .isub, 1, []), (40, .ireturn, 1, []), (41, .aload 4, 2, []), (43, .iload_n 2, 1, []), (44, .iload_n 3, 1, []), (45, .invokevirtual 252, 3, [38, 3, 0, 5]), (48, .iconst 1, 1, [1]), (49, .ireturn, 1, [])]
def zm_PT_lay : zMi := (6, 1, zc_PT_lay, [])
def zc_PT_run : List zC := [(0, .iload_n 1, 1, []), (1, .invokestatic 236, 3, [111, 1, 1, 0]), (4, .ifCond .eq 22, 3, [26]), (7, .iload_n 2, 1, []), (8, .invokestatic 239, 3, [112, 1, 1, 0]), (11, .ifCond .eq 15, 3, [26]), (14, .iload 4, 2, []), (16, .ifCond .lt 10, 3, [26]), (19, .iload 4, 2, []), (21, .bipush 20, 2, [20]), (23, .if_icmp .le 5, 3, [28]), (26, .iconst (-1), 1, [1, 1]), (27, .ireturn, 1, []), (28, .aload_n 0, 1, []), (29, .iconst 0, 1, [0]), (30, .putfield 255, 3, [0, 9, 11]), (33, .aload_n 0, 1, []), (34, .getfield 44, 3, [2, 9, 6]), (37, .iload_n 1, 1, []), (38, .aaload, 1, []), (39, .astore 5, 2, []), (41, .iload_n 3, 1, []), (42, .istore 6, 2, []), (44, .iconst 0, 1, [0]), (45, .istore 7, 2, []), (47, .iload 7, 2, []), (49, .iload 4, 2, []), (51, .if_icmp .ge 68, 3, [119]), (54, .aload_n 0, 1, []), (55, .getfield 30, 3, [2, 9, 3]), (58, .getfield 89, 3, [0, 6, 1]), (61, .bipush 48, 2, [48]), (63, .if_icmp .lt 6, 3, [69]), (66, .iload 7, 2, []), (68, .ireturn, 1, []), (69, .aload_n 0, 1, []), (70, .aload 5, 2, []), (72, .iload_n 2, 1, []), (73, .iload 6, 2, []), (75, .invokevirtual 249, 3, [37, 3, 1, 5]), (78, .putfield 255, 3, [0, 9, 11]), (81, .aload_n 0, 1, []), (82, .getfield 255, 3, [0, 9, 11]), (85, .ifCond .eq 6, 3, [91]), (88, .iload 7, 2, []), (90, .ireturn, 1, []), (91, .aload_n 0, 1, []), (92, .getfield 30, 3, [2, 9, 3]), (95, .aload 5, 2, []), (97, .getfield 258, 3, [2, 4, 0]), (100, .iload 6, 2, []), (102, .iaload, 1, []), (103, .sipush 255, 3, [255]), (106, .iand, 1, []), (107, .invokevirtual 174, 3, [48, 2, 0, 7]), (110, .iinc 6 1, 3, [1]), (113, .iinc 7 1, 3, [1]), (116, .goto (-69), 3, [47]), (119, .iload 4, 2, []), (121, .ireturn, 1, [])]
def zm_PT_run : zMi := (8, 1, zc_PT_run, [(47, [1, 3])])
def zc_PT_torn : List zC := [(0, .aload_n 0, 1, []), (1, .getfield 255, 3, [0, 9, 11]), (4, .ireturn, 1, [])]
def zm_PT_torn : zMi := (1, 1, zc_PT_torn, [])
def zc_PT_count : List zC := [(0, .iload_n 1, 1, []), (1, .tableswitch 67 0 2 #[27, 32, 40], 27, [68, 0, 28, 33, 41]), (28, .aload_n 0, 1, []), (29, .invokevirtual 261, 3, [115, 1, 1, 10]), (32, .ireturn, 1, []), (33, .aload_n 0, 1, []), (34, .getfield 20, 3, [2, 9, 1]), (37, .getfield 60, 3, [0, 5, 1]), (40, .ireturn, 1, []), (41, .aload_n 0, 1, []), (42, .getfield 44, 3, [2, 9, 6]), (45, .iconst 0, 1, [0]), (46, .aaload, 1, []), (47, .getfield 264, 3, [0, 4, 2]), (50, .ifCond .ge 8, 3, [58]), (53, .bipush (-4), 2, [4, 1]), (55, .goto 12, 3, [67]), (58, .aload_n 0, 1, []), (59, .getfield 44, 3, [2, 9, 6]), (62, .iconst 0, 1, [0]), (63, .aaload, 1, []), (64, .getfield 264, 3, [0, 4, 2]), (67, .ireturn, 1, []), (68, .iconst (-1), 1, [1, 1]), (69, .ireturn, 1, [])]
def zm_PT_count : zMi := (2, 1, zc_PT_count, [])
def zc_PT_isPromise : List zC := [(0, .iload_n 1, 1, []), (1, .ifCond .lt 15, 3, [16]), (4, .iload_n 1, 1, []), (5, .aload_n 0, 1, []), (6, .getfield 83, 3, [0, 9, 9]), (9, .if_icmp .ge 7, 3, [16]), (12, .iconst 1, 1, [1]), (13, .goto 4, 3, [17]), (16, .iconst 0, 1, [0]), (17, .ireturn, 1, [])]
def zm_PT_isPromise : zMi := (2, 2, zc_PT_isPromise, [])
def zc_PT_isTick : List zC := [(0, .iload_n 1, 1, []), (1, .ifCond .lt 18, 3, [19]), (4, .iload_n 1, 1, []), (5, .aload_n 0, 1, []), (6, .getfield 30, 3, [2, 9, 3]), (9, .getfield 89, 3, [0, 6, 1]), (12, .if_icmp .ge 7, 3, [19]), (15, .iconst 1, 1, [1]), (16, .goto 4, 3, [20]), (19, .iconst 0, 1, [0]), (20, .ireturn, 1, [])]
def zm_PT_isTick : zMi := (2, 2, zc_PT_isTick, [])
def zc_PT_isTry : List zC := [(0, .aload_n 0, 1, []), (1, .iload_n 1, 1, []), (2, .invokevirtual 102, 3, [103, 2, 1, 10]), (5, .ifCond .eq 15, 3, [20]), (8, .aload_n 0, 1, []), (9, .iload_n 2, 1, []), (10, .invokevirtual 181, 3, [104, 2, 1, 10]), (13, .ifCond .eq 7, 3, [20]), (16, .iconst 1, 1, [1]), (17, .goto 4, 3, [21]), (20, .iconst 0, 1, [0]), (21, .ireturn, 1, [])]
def zm_PT_isTry : zMi := (3, 2, zc_PT_isTry, [])
def zc_PT_isCondition : List zC := [(0, .aload_n 0, 1, []), (1, .iload_n 1, 1, []), (2, .invokevirtual 102, 3, [103, 2, 1, 10]), (5, .ifCond .ne 5, 3, [10]), (8, .iconst 0, 1, [0]), (9, .ireturn, 1, []), (10, .iload_n 2, 1, []), (11, .iconst 2, 1, [2]), (12, .if_icmp .ne 13, 3, [25]), (15, .aload_n 0, 1, []), (16, .getfield 50, 3, [2, 9, 7]), (19, .iload_n 1, 1, []), (20, .aaload, 1, []), (21, .getfield 109, 3, [0, 1, 3]), (24, .ireturn, 1, []), (25, .iload_n 2, 1, []), (26, .invokestatic 160, 3, [108, 1, 1, 0]), (29, .ifCond .eq 28, 3, [57]), (32, .iload_n 3, 1, []), (33, .ifCond .lt 24, 3, [57]), (36, .iload_n 3, 1, []), (37, .aload_n 0, 1, []), (38, .getfield 50, 3, [2, 9, 7]), (41, .iload_n 1, 1, []), (42, .aaload, 1, []), (43, .iload_n 2, 1, []), (44, .invokevirtual 149, 3, [9, 2, 3, 2]), (47, .getfield 117, 3, [0, 3, 6]), (50, .if_icmp .ge 7, 3, [57]), (53, .iconst 1, 1, [1]), (54, .goto 4, 3, [58]), (57, .iconst 0, 1, [0]), (58, .ireturn, 1, [])]
def zm_PT_isCondition : zMi := (4, 2, zc_PT_isCondition, [])
def zc_PT_isBits : List zC := [(0, .iload_n 0, 1, []), (1, .ifCond .lt 14, 3, [15]), (4, .iload_n 0, 1, []), (5, .sipush 256, 3, [256]), (8, .if_icmp .ge 7, 3, [15]), (11, .iconst 1, 1, [1]), (12, .goto 4, 3, [16]), (15, .iconst 0, 1, [0]), (16, .ireturn, 1, [])]
def zm_PT_isBits : zMi := (1, 2, zc_PT_isBits, [])
def zc_PT_isSide : List zC := [(0, .iload_n 0, 1, []), (1, .ifCond .eq 8, 3, [9]), (4, .iload_n 0, 1, []), (5, .iconst 1, 1, [1]), (6, .if_icmp .ne 7, 3, [13]), (9, .iconst 1, 1, [1]), (10, .goto 4, 3, [14]), (13, .iconst 0, 1, [0]), (14, .ireturn, 1, [])]
def zm_PT_isSide : zMi := (1, 2, zc_PT_isSide, [])
def zc_PT_isVerdict : List zC := [(0, .iload_n 0, 1, []), (1, .ifCond .lt 12, 3, [13]), (4, .iload_n 0, 1, []), (5, .iconst 4, 1, [4]), (6, .if_icmp .gt 7, 3, [13]), (9, .iconst 1, 1, [1]), (10, .goto 4, 3, [14]), (13, .iconst 0, 1, [0]), (14, .ireturn, 1, [])]
def zm_PT_isVerdict : zMi := (1, 2, zc_PT_isVerdict, [])
def zc_PT_isImage : List zC := [(0, .iload_n 0, 1, []), (1, .ifCond .lt 12, 3, [13]), (4, .iload_n 0, 1, []), (5, .iconst 2, 1, [2]), (6, .if_icmp .ge 7, 3, [13]), (9, .iconst 1, 1, [1]), (10, .goto 4, 3, [14]), (13, .iconst 0, 1, [0]), (14, .ireturn, 1, [])]
def zm_PT_isImage : zMi := (1, 2, zc_PT_isImage, [])
def zc_PT_isSheet : List zC := [(0, .iload_n 0, 1, []), (1, .ifCond .lt 12, 3, [13]), (4, .iload_n 0, 1, []), (5, .iconst 4, 1, [4]), (6, .if_icmp .ge 7, 3, [13]), (9, .iconst 1, 1, [1]), (10, .goto 4, 3, [14]), (13, .iconst 0, 1, [0]), (14, .ireturn, 1, [])]
def zm_PT_isSheet : zMi := (1, 2, zc_PT_isSheet, [])
def zc_PT_isLane : List zC := [(0, .iload_n 0, 1, []), (1, .ifCond .lt 12, 3, [13]), (4, .iload_n 0, 1, []), (5, .iconst 3, 1, [3]), (6, .if_icmp .ge 7, 3, [13]), (9, .iconst 1, 1, [1]), (10, .goto 4, 3, [14]), (13, .iconst 0, 1, [0]), (14, .ireturn, 1, [])]
def zm_PT_isLane : zMi := (1, 2, zc_PT_isLane, [])
def zc_PT_nextSeed : List zC := [(0, .iload_n 0, 1, []), (1, .ldc_w 265, 3, [1103515245]), (4, .imul, 1, []), (5, .sipush 12345, 3, [12345]), (8, .iadd, 1, []), (9, .ireturn, 1, [])]
def zm_PT_nextSeed : zMi := (1, 1, zc_PT_nextSeed, [])
def zc_PT_got : List zC := [(0, .iload_n 0, 1, []), (1, .bipush 16, 2, [16]), (3, .iushr, 1, []), (4, .sipush 255, 3, [255]), (7, .iand, 1, []), (8, .ireturn, 1, [])]
def zm_PT_got : zMi := (1, 1, zc_PT_got, [])
def zc_PT_howManyImages : List zC := [(0, .iconst 0, 1, [0]), (1, .istore_n 1, 1, []), (2, .iconst 0, 1, [0]), (3, .istore_n 2, 1, []), (4, .iload_n 2, 1, []), (5, .iconst 2, 1, [2]), (6, .if_icmp .ge 21, 3, [27]), (9, .aload_n 0, 1, []), (10, .getfield 38, 3, [2, 9, 5]), (13, .iload_n 2, 1, []), (14, .baload, 1, []), (15, .ifCond .eq 6, 3, [21]), (18, .iinc 1 1, 3, [1]), (21, .iinc 2 1, 3, [1]), (24, .goto (-20), 3, [4]), (27, .iload_n 1, 1, []), (28, .ireturn, 1, [])]
def zm_PT_howManyImages : zMi := (3, 1, zc_PT_howManyImages, [(4, [])])
def zc_PT_watchOf : List zC := [(0, .aload_n 0, 1, []), (1, .getfield 23, 3, [2, 9, 2]), (4, .iload_n 1, 1, []), (5, .aaload, 1, []), (6, .astore_n 2, 1, []), (7, .aload_n 2, 1, []), (8, .aload_n 0, 1, []), (9, .getfield 50, 3, [2, 9, 7]), (12, .iload_n 1, 1, []), (13, .aaload, 1, []), (14, .aload_n 0, 1, []), (15, .getfield 30, 3, [2, 9, 3]), (18, .invokevirtual 266, 3, [60, 3, 0, 9]), (21, .aload_n 2, 1, []), (22, .areturn, 1, [])]
def zm_PT_watchOf : zMi := (3, 4, zc_PT_watchOf, [])
def zc_PT_watchAnew : List zC := [(0, .iconst 0, 1, [0]), (1, .istore_n 1, 1, []), (2, .iload_n 1, 1, []), (3, .iconst 4, 1, [4]), (4, .if_icmp .ge 18, 3, [22]), (7, .aload_n 0, 1, []), (8, .getfield 23, 3, [2, 9, 2]), (11, .iload_n 1, 1, []), (12, .aaload, 1, []), (13, .invokevirtual 270, 3, [59, 1, 0, 9]), (16, .iinc 1 1, 3, [1]), (19, .goto (-17), 3, [2]), (22, .return_, 1, [])]
def zm_PT_watchAnew : zMi := (2, 0, zc_PT_watchAnew, [(2, [])])
def zc_PT_isFulfilled : List zC := [(0, .aload_n 0, 1, []), (1, .iload_n 1, 1, []), (2, .iconst 4, 1, [4]), (3, .imul, 1, []), (4, .iload_n 2, 1, []), (5, .bipush 64, 2, [64]), (7, .idiv, 1, []), (8, .iadd, 1, []), (9, .laload, 1, []), (10, .iload_n 2, 1, []), (11, .bipush 64, 2, [64]), (13, .irem, 1, []), (14, .lushr, 1, []), (15, .lconst 1, 1, [1]), (16, .land, 1, []), (17, .lconst 0, 1, [0]), (18, .lcmp, 1, []), (19, .ifCond .eq 7, 3, [26]), (22, .iconst 1, 1, [1]), (23, .goto 4, 3, [27]), (26, .iconst 0, 1, [0]), (27, .ireturn, 1, [])]
def zm_PT_isFulfilled : zMi := (3, 2, zc_PT_isFulfilled, [])
def zc_PT_howManyFulfil : List zC := [(0, .iconst 0, 1, [0]), (1, .istore_n 2, 1, []), (2, .iconst 0, 1, [0]), (3, .istore_n 3, 1, []), (4, .iload_n 3, 1, []), (5, .iconst 4, 1, [4]), (6, .if_icmp .ge 22, 3, [28]), (9, .iload_n 2, 1, []), (10, .aload_n 0, 1, []), (11, .iload_n 1, 1, []), (12, .iconst 4, 1, [4]), (13, .imul, 1, []), (14, .iload_n 3, 1, []), (15, .iadd, 1, []), (16, .laload, 1, []), (17, .invokestatic 207, 3, [209, 1, 1, 0]), (20, .iadd, 1, []), (21, .istore_n 2, 1, []), (22, .iinc 3 1, 3, [1]), (25, .goto (-21), 3, [4]), (28, .iload_n 2, 1, []), (29, .ireturn, 1, [])]
def zm_PT_howManyFulfil : zMi := (4, 1, zc_PT_howManyFulfil, [(4, [])])
def zc_Mo_init : List zC := [(0, .aload_n 0, 1, []), (1, .invokespecial 1, 3, [1000, 1, 0, 0]), (4, .aload_n 0, 1, []), (5, .sipush 360, 3, [360]), (8, .newarray .int, 2, [20]), (10, .putfield 7, 3, [2, 10, 0]), (13, .aload_n 0, 1, []), (14, .sipush 360, 3, [360]), (17, .newarray .int, 2, [20]), (19, .putfield 13, 3, [2, 10, 1]), (22, .aload_n 0, 1, []), (23, .sipush 1624, 3, [1624]), (26, .newarray .long, 2, [23]), (28, .putfield 16, 3, [2, 10, 2]), (31, .aload_n 0, 1, []), (32, .sipush 1624, 3, [1624]), (35, .newarray .long, 2, [23]), (37, .putfield 20, 3, [2, 10, 3]), (40, .aload_n 0, 1, []), (41, .bipush 8, 2, [8]), (43, .newarray .int, 2, [20]), (45, .putfield 23, 3, [2, 10, 4]), (48, .aload_n 0, 1, []), (49, .bipush 8, 2, [8]), (51, .newarray .int, 2, [20]), (53, .putfield 26, 3, [2, 10, 5]), (56, .aload_n 0, 1, []), (57, .bipush 16, 2, [16]), (59, .newarray .long, 2, [23]), (61, .putfield 29, 3, [2, 10, 6]), (64, .aload_n 0, 1, []), (65, .bipush 16, 2, [16]), (67, .newarray .long, 2, [23]), (69, .putfield 32, 3, [2, 10, 7]), (72, .aload_n 0, 1, []), (73, .bipush 49, 2, [49]), (75, .newarray .int, 2, [20]), (77, .putfield 35, 3, [2, 10, 9]), (80, .aload_n 0, 1, []), (81, .bipush 98, 2, [98]), (83, .newarray .int, 2, [20]), (85, .putfield 38, 3, [2, 10, 10]), (88, .aload_n 0, 1, []), (89, .iconst 2, 1, [2]), (90, .newarray .boolean, 2, [21]), (92, .putfield 41, 3, [2, 10, 11]), (95, .aload_n 0, 1, []), (96, .sipush 200, 3, [200]), (99, .newarray .int, 2, [20]), (101, .putfield 45, 3, [2, 10, 12]), (104, .aload_n 0, 1, []), (105, .bipush 40, 2, [40]), (107, .newarray .long, 2, [23]), (109, .putfield 48, 3, [2, 10, 21]), (112, .aload_n 0, 1, []), (113, .bipush 40, 2, [40]), (115, .newarray .long, 2, [23]), (117, .putfield 51, 3, [2, 10, 22]), (120, .aload_n 0, 1, []), (121, .bipush 10, 2, [10]), (123, .newarray .boolean, 2, [21]), (125, .putfield 54, 3, [2, 10, 23]), (128, .aload_n 0, 1, []), (129, .bipush 10, 2, [10]), (131, .newarray .boolean, 2, [21]), (133, .putfield 57, 3, [2, 10, 24]), (136, .aload_n 0, 1, []), (137, .bipush 10, 2, [10]), (139, .newarray .boolean, 2, [21]), (141, .putfield 60, 3, [2, 10, 25]), (144, .aload_n 0, 1, []), (145, .iconst 4, 1, [4]), (146, .newarray .long, 2, [23]), (148, .putfield 63, 3, [2, 10, 26]), (151, .aload_n 0, 1, []), (152, .bipush 6, 2, [6]), (154, .newarray .long, 2, [23]), (156, .dup, 1, []), (157, .iconst 0, 1, [0]), (158, .ldc2_w 66, 3, [6148914691236517206, 1]), (161, .lastore, 1, []), (162, .dup, 1, []), (163, .iconst 1, 1, [1]), (164, .ldc2_w 68, 3, [3689348814741910324, 1]), (167, .lastore, 1, []), (168, .dup, 1, []), (169, .iconst 2, 1, [2]), (170, .ldc2_w 70, 3, [1085102592571150096, 1]), (173, .lastore, 1, []), (174, .dup, 1, []), (175, .iconst 3, 1, [3]), (176, .ldc2_w 72, 3, [71777214294589696, 1]), (179, .lastore, 1, []), (180, .dup, 1, []), (181, .iconst 4, 1, [4]), (182, .ldc2_w 74, 3, [281470681808896, 1]), (185, .lastore, 1, []), (186, .dup, 1, []), (187, .iconst 5, 1, [5]), (188, .ldc2_w 76, 3, [4294967296, 1]), (191, .lastore, 1, []), (192, .putfield 78, 3, [2, 10, 28]), (195, .aload_n 0, 1, []), (196, .bipush 21, 2, [21]), (198, .newarray .int, 2, [20]), (200, .putfield 81, 3, [2, 10, 29]), (203, .aload_n 0, 1, []), (204, .bipush 21, 2, [21]), (206, .newarray .long, 2, [23]), (208, .putfield 84, 3, [2, 10, 30]), (211, .aload_n 0, 1, []), (212, .bipush 21, 2, [21]), (214, .newarray .long, 2, [23]), (216, .putfield 87, 3, [2, 10, 31]), (219, .aload_n 0, 1, []), (220, .bipush 21, 2, [21]), (222, .newarray .boolean, 2, [21]), (224, .putfield 90, 3, [2, 10, 32]), (227, .aload_n 0, 1, []), (228, .bipush 21, 2, [21]), (230, .newarray .int, 2, [20]), (232, .putfield 93, 3, [2, 10, 33]), (235, .aload_n 0, 1, []), (236, .bipush 21, 2, [21]), (238, .newarray .int, 2, [20]), (240, .putfield 96, 3, [2, 10, 34]), (243, .aload_n 0, 1, []), (244, .bipush 21, 2, [21]), (246, .newarray .int, 2, [20]), (248, .putfield 99, 3, [2, 10, 35]), (251, .aload_n 0, 1, []), (252, .bipush 21, 2, [21]), (254, .newarray .boolean, 2, [21]), (256, .putfield 102, 3, [2, 10, 36]), (259, .aload_n 0, 1, []), (260, .bipush 96, 2, [96]), (262, .newarray .long, 2, [23]), (264, .putfield 105, 3, [2, 10, 40]), (267, .aload_n 0, 1, []), (268, .bipush 48, 2, [48]), (270, .newarray .long, 2, [23]), (272, .putfield 108, 3, [2, 10, 41]), (275, .aload_n 0, 1, []), (276, .bipush 48, 2, [48]), (278, .newarray .int, 2, [20]), (280, .putfield 111, 3, [2, 10, 42]), (283, .aload_n 0, 1, []), (284, .bipush 48, 2, [48]), (286, .newarray .int, 2, [20]), (288, .putfield 114, 3, [2, 10, 43]), (291, .aload_n 0, 1, []), (292, .bipush 48, 2, [48]), (294, .newarray .boolean, 2, [21]), (296, .putfield 117, 3, [2, 10, 44]), (299, .aload_n 0, 1, []), (300, .iconst 4, 1, [4]), (301, .newarray .int, 2, [20]), (303, .putfield 120, 3, [2, 10, 48]), (306, .aload_n 0, 1, []), (307, .iconst 4, 1, [4]), (308, .newarray .int, 2, [20]), (310, .putfield 123, 3, [2, 10, 49]), (313, .aload_n 0, 1, []), (314, .sipush 160, 3, [160]), (317, .newarray .int, 2, [20]), (319, .putfield 126, 3, [2, 10, 50]), (322, .iconst 0, 1, [0]), (323, .istore_n 1, 1, []), (324, .iload_n 1, 1, []), (325, .iconst 4, 1, [4]), (326, .if_icmp .ge 17, 3, [343]), (329, .aload_n 0, 1, []), (330, .getfield 120, 3, [2, 10, 48]), (333, .iload_n 1, 1, []), (334, .bipush (-4), 2, [4, 1]), (336, .iastore, 1, []), (337, .iinc 1 1, 3, [1]), (340, .goto (-16), 3, [324]), (343, .return_, 1, [])]
def zm_Mo_init : zMi := (2, 0, zc_Mo_init, [(324, [])])
def zc_Mo_in : List zC := [(0, .lload_n 0, 1, []), (1, .lload_n 2, 1, []), (2, .lcmp, 1, []), (3, .ifCond .lt 14, 3, [17]), (6, .lload_n 0, 1, []), (7, .lload 4, 2, []), (9, .lcmp, 1, []), (10, .ifCond .gt 7, 3, [17]), (13, .iconst 1, 1, [1]), (14, .goto 4, 3, [18]), (17, .iconst 0, 1, [0]), (18, .ireturn, 1, [])]
def zm_Mo_in : zMi := (6, 2, zc_Mo_in, [])
def zc_Mo_flag : List zC := [(0, .iload_n 0, 1, []), (1, .ifCond .eq 7, 3, [8]), (4, .iconst 1, 1, [1]), (5, .goto 4, 3, [9]), (8, .iconst 0, 1, [0]), (9, .ireturn, 1, [])]
def zm_Mo_flag : zMi := (1, 1, zc_Mo_flag, [])
def zc_Mo_least : List zC := [(0, .iload_n 0, 1, []), (1, .iload_n 1, 1, []), (2, .if_icmp .ge 7, 3, [9]), (5, .iload_n 0, 1, []), (6, .goto 4, 3, [10]), (9, .iload_n 1, 1, []), (10, .ireturn, 1, [])]
def zm_Mo_least : zMi := (2, 1, zc_Mo_least, [])
def zc_Mo_greatest : List zC := [(0, .iload_n 0, 1, []), (1, .iload_n 1, 1, []), (2, .if_icmp .le 7, 3, [9]), (5, .iload_n 0, 1, []), (6, .goto 4, 3, [10]), (9, .iload_n 1, 1, []), (10, .ireturn, 1, [])]
def zm_Mo_greatest : zMi := (2, 1, zc_Mo_greatest, [])
def zc_Mo_feed : List zC := [(0, .iload_n 1, 1, []), (1, .i2l, 1, []), (2, .lconst 0, 1, [0]), (3, .ldc2_w 129, 3, [127]), (6, .invokestatic 131, 3, [121, 3, 1, 0]), (9, .ifCond .ne 5, 3, [14]), (12, .iconst (-1), 1, [1, 1]), (13, .ireturn, 1, []), (14, .aload_n 0, 1, []), (15, .getfield 135, 3, [0, 10, 13]), (18, .sipush 200, 3, [200]), (21, .if_icmp .ne 6, 3, [27]), (24, .bipush (-3), 2, [3, 1]), (26, .ireturn, 1, []), (27, .aload_n 0, 1, []), (28, .getfield 45, 3, [2, 10, 12]), (31, .aload_n 0, 1, []), (32, .getfield 135, 3, [0, 10, 13]), (35, .iload_n 1, 1, []), (36, .iastore, 1, []), (37, .aload_n 0, 1, []), (38, .dup, 1, []), (39, .getfield 135, 3, [0, 10, 13]), (42, .iconst 1, 1, [1]), (43, .iadd, 1, []), (44, .putfield 135, 3, [0, 10, 13]), (47, .aload_n 0, 1, []), (48, .getfield 135, 3, [0, 10, 13]), (51, .ireturn, 1, [])]
def zm_Mo_feed : zMi := (2, 1, zc_Mo_feed, [])
def zc_Mo_end : List zC := [(0, .iload_n 1, 1, []), (1, .i2l, 1, []), (2, .lconst 0, 1, [0]), (3, .aload_n 0, 1, []), (4, .getfield 135, 3, [0, 10, 13]), (7, .i2l, 1, []), (8, .invokestatic 131, 3, [121, 3, 1, 0]), (11, .ifCond .ne 5, 3, [16]), (14, .iconst (-1), 1, [1, 1]), (15, .ireturn, 1, []), (16, .aload_n 0, 1, []), (17, .getfield 135, 3, [0, 10, 13]), (20, .istore_n 2, 1, []), (21, .aload_n 0, 1, []), (22, .iload_n 1, 1, []), (23, .putfield 135, 3, [0, 10, 13]), (26, .iload_n 2, 1, []), (27, .ireturn, 1, [])]
def zm_Mo_end : zMi := (3, 1, zc_Mo_end, [])
def zc_Mo_requires : List zC := [(0, .iload_n 1, 1, []), (1, .ifCond .ne 23, 3, [24]), (4, .aload_n 0, 1, []), (5, .getfield 139, 3, [0, 10, 18]), (8, .ifCond .ne 16, 3, [24]), (11, .aload_n 0, 1, []), (12, .iload_n 2, 1, []), (13, .putfield 139, 3, [0, 10, 18]), (16, .aload_n 0, 1, []), (17, .aload_n 0, 1, []), (18, .getfield 142, 3, [0, 10, 15]), (21, .putfield 145, 3, [0, 10, 19]), (24, .return_, 1, [])]
def zm_Mo_requires : zMi := (3, 0, zc_Mo_requires, [])
def zc_Mo_byteAt : List zC := [(0, .iload_n 1, 1, []), (1, .aload_n 0, 1, []), (2, .getfield 135, 3, [0, 10, 13]), (5, .if_icmp .ge 12, 3, [17]), (8, .aload_n 0, 1, []), (9, .getfield 45, 3, [2, 10, 12]), (12, .iload_n 1, 1, []), (13, .iaload, 1, []), (14, .goto 4, 3, [18]), (17, .iconst (-1), 1, [1, 1]), (18, .ireturn, 1, [])]
def zm_Mo_byteAt : zMi := (2, 1, zc_Mo_byteAt, [])
def zc_Mo_isSignByte : List zC := [(0, .iload_n 0, 1, []), (1, .bipush 33, 2, [33]), (3, .if_icmp .eq 81, 3, [84]), (6, .iload_n 0, 1, []), (7, .bipush 38, 2, [38]), (9, .if_icmp .eq 75, 3, [84]), (12, .iload_n 0, 1, []), (13, .bipush 124, 2, [124]), (15, .if_icmp .eq 69, 3, [84]), (18, .iload_n 0, 1, []), (19, .bipush 40, 2, [40]), (21, .if_icmp .eq 63, 3, [84]), (24, .iload_n 0, 1, []), (25, .bipush 41, 2, [41]), (27, .if_icmp .eq 57, 3, [84]), (30, .iload_n 0, 1, []), (31, .bipush 123, 2, [123]), (33, .if_icmp .eq 51, 3, [84]), (36, .iload_n 0, 1, []), (37, .bipush 125, 2, [125]), (39, .if_icmp .eq 45, 3, [84]), (42, .iload_n 0, 1, []), (43, .bipush 44, 2, [44]), (45, .if_icmp .eq 39, 3, [84]), (48, .iload_n 0, 1, []), (49, .bipush 47, 2, [47]), (51, .if_icmp .eq 33, 3, [84]), (54, .iload_n 0, 1, []), (55, .bipush 42, 2, [42]), (57, .if_icmp .eq 27, 3, [84]), (60, .iload_n 0, 1, []), (61, .bipush 61, 2, [61]), (63, .if_icmp .eq 21, 3, [84]), (66, .iload_n 0, 1, []), (67, .bipush 62, 2, [62]), (69, .if_icmp .eq 15, 3, [84]), (72, .iload_n 0, 1, []), (73, .bipush 126, 2, [126]), (75, .if_icmp .eq 9, 3, [84]), (78, .iload_n 0, 1, []), (79, .bipush 59, 2, [59]), (81, .if_icmp .ne 7, 3, [88]), (84, .iconst 1, 1, [1]), (85, .goto 4, 3, [89]), (88, .iconst 0, 1, [0]), (89, .ireturn, 1, [])]
def zm_Mo_isSignByte : zMi := (1, 2, zc_Mo_isSignByte, [])
def zc_Mo_reads : List zC := [(0, .aload_n 0, 1, []), (1, .getfield 139, 3, [0, 10, 18]), (4, .ifCond .le 4, 3, [8]), (7, .return_, 1, []), (8, .aload_n 0, 1, []), (9, .aload_n 0, 1, []), (10, .getfield 148, 3, [0, 10, 14]), (13, .invokevirtual 151, 3, [128, 2, 1, 11]), (16, .bipush 32, 2, [32]), (18, .if_icmp .ne 16, 3, [34]), (21, .aload_n 0, 1, []), (22, .dup, 1, []), (23, .getfield 148, 3, [0, 10, 14]), (26, .iconst 1, 1, [1]), (27, .iadd, 1, []), (28, .putfield 148, 3, [0, 10, 14]), (31, .goto (-23), 3, [8]), (34, .aload_n 0, 1, []), (35, .aload_n 0, 1, []), (36, .getfield 148, 3, [0, 10, 14]), (39, .putfield 142, 3, [0, 10, 15]), (42, .aload_n 0, 1, []), (43, .aload_n 0, 1, []), (44, .getfield 148, 3, [0, 10, 14]), (47, .invokevirtual 151, 3, [128, 2, 1, 11]), (50, .istore_n 1, 1, []), (51, .iload_n 1, 1, []), (52, .ifCond .ge 11, 3, [63]), (55, .aload_n 0, 1, []), (56, .iconst 0, 1, [0]), (57, .putfield 155, 3, [0, 10, 16]), (60, .goto 188, 3, [248]), (63, .iload_n 1, 1, []), (64, .i2l, 1, []), (65, .ldc2_w 158, 3, [48]), (68, .ldc2_w 160, 3, [57]), (71, .invokestatic 131, 3, [121, 3, 1, 0]), (74, .ifCond .eq 116, 3, [190]), (77, .aload_n 0, 1, []), (78, .iconst 2, 1, [2]), (79, .putfield 155, 3, [0, 10, 16]), (82, .aload_n 0, 1, []), (83, .iconst 0, 1, [0]), (84, .putfield 162, 3, [0, 10, 17]), (87, .aload_n 0, 1, []), (88, .aload_n 0, 1, []), (89, .getfield 148, 3, [0, 10, 14]), (92, .invokevirtual 151, 3, [128, 2, 1, 11]), (95, .i2l, 1, []), (96, .ldc2_w 158, 3, [48]), (99, .ldc2_w 160, 3, [57]), (102, .invokestatic 131, 3, [121, 3, 1, 0]), (105, .ifCond .eq 59, 3, [164]), (108, .aload_n 0, 1, []), (109, .aload_n 0, 1, []), (110, .getfield 148, 3, [0, 10, 14]), (113, .aload_n 0, 1, []), (114, .getfield 142, 3, [0, 10, 15]), (117, .isub, 1, []), (118, .iconst 2, 1, [2]), (119, .if_icmp .ge 25, 3, [144]), (122, .bipush 10, 2, [10]), (124, .aload_n 0, 1, []), (125, .getfield 162, 3, [0, 10, 17]), (128, .imul, 1, []), (129, .aload_n 0, 1, []), (130, .aload_n 0, 1, []), (131, .getfield 148, 3, [0, 10, 14]), (134, .invokevirtual 151, 3, [128, 2, 1, 11]), (137, .iadd, 1, []), (138, .bipush 48, 2, [48]), (140, .isub, 1, []), (141, .goto 7, 3, [148]), (144, .aload_n 0, 1, []), (145, .getfield 162, 3, [0, 10, 17]), (148, .putfield 162, 3, [0, 10, 17]), (151, .aload_n 0, 1, []), (152, .dup, 1, []), (153, .getfield 148, 3, [0, 10, 14]), (156, .iconst 1, 1, [1]), (157, .iadd, 1, []), (158, .putfield 148, 3, [0, 10, 14]), (161, .goto (-74), 3, [87]), (164, .aload_n 0, 1, []), (165, .aload_n 0, 1, []), (166, .getfield 148, 3, [0, 10, 14]), (169, .aload_n 0, 1, []), (170, .getfield 142, 3, [0, 10, 15]), (173, .isub, 1, []), (174, .iconst 2, 1, [2]), (175, .if_icmp .gt 7, 3, [182]), (178, .iconst 1, 1, [1]), (179, .goto 4, 3, [183]), (182, .iconst 0, 1, [0]), (183, .iconst 1, 1, [1]), (184, .invokevirtual 165, 3, [127, 3, 0, 11]), (187, .goto 61, 3, [248]), (190, .aload_n 0, 1, []), (191, .iload_n 1, 1, []), (192, .i2l, 1, []), (193, .ldc2_w 169, 3, [97]), (196, .ldc2_w 171, 3, [104]), (199, .invokestatic 131, 3, [121, 3, 1, 0]), (202, .ifCond .eq 7, 3, [209]), (205, .iconst 1, 1, [1]), (206, .goto 4, 3, [210]), (209, .iconst 3, 1, [3]), (210, .putfield 155, 3, [0, 10, 16]), (213, .aload_n 0, 1, []), (214, .aload_n 0, 1, []), (215, .getfield 155, 3, [0, 10, 16]), (218, .iconst 1, 1, [1]), (219, .if_icmp .eq 10, 3, [229]), (222, .iload_n 1, 1, []), (223, .invokestatic 173, 3, [129, 1, 1, 0]), (226, .ifCond .eq 7, 3, [233]), (229, .iconst 1, 1, [1]), (230, .goto 4, 3, [234]), (233, .iconst 0, 1, [0]), (234, .iconst 1, 1, [1]), (235, .invokevirtual 165, 3, [127, 3, 0, 11]), (238, .aload_n 0, 1, []), (239, .dup, 1, []), (240, .getfield 148, 3, [0, 10, 14]), (243, .iconst 1, 1, [1]), (244, .iadd, 1, []), (245, .putfield 148, 3, [0, 10, 14]), (248, .return_, 1, [])]
def zm_Mo_reads : zMi := (2, 0, zc_Mo_reads, [(8, [1]), (87, [1]), (210, [])])
def zc_Mo_isSign : List zC := [(0, .aload_n 0, 1, []), (1, .getfield 139, 3, [0, 10, 18]), (4, .ifCond .ne 27, 3, [31]), (7, .aload_n 0, 1, []), (8, .getfield 155, 3, [0, 10, 16]), (11, .iconst 3, 1, [3]), (12, .if_icmp .ne 19, 3, [31]), (15, .aload_n 0, 1, []), (16, .aload_n 0, 1, []), (17, .getfield 142, 3, [0, 10, 15]), (20, .invokevirtual 151, 3, [128, 2, 1, 11]), (23, .iload_n 1, 1, []), (24, .if_icmp .ne 7, 3, [31]), (27, .iconst 1, 1, [1]), (28, .goto 4, 3, [32]), (31, .iconst 0, 1, [0]), (32, .ireturn, 1, [])]
def zm_Mo_isSign : zMi := (2, 2, zc_Mo_isSign, [])
def zc_Mo_readNumber : List zC := [(0, .aload_n 0, 1, []), (1, .getfield 139, 3, [0, 10, 18]), (4, .ifCond .ne 21, 3, [25]), (7, .aload_n 0, 1, []), (8, .aload_n 0, 1, []), (9, .getfield 155, 3, [0, 10, 16]), (12, .iconst 2, 1, [2]), (13, .if_icmp .ne 7, 3, [20]), (16, .iconst 1, 1, [1]), (17, .goto 4, 3, [21]), (20, .iconst 0, 1, [0]), (21, .iconst 2, 1, [2]), (22, .invokevirtual 165, 3, [127, 3, 0, 11]), (25, .aload_n 0, 1, []), (26, .getfield 139, 3, [0, 10, 18]), (29, .ifCond .ne 20, 3, [49]), (32, .aload_n 0, 1, []), (33, .aload_n 0, 1, []), (34, .getfield 162, 3, [0, 10, 17]), (37, .i2l, 1, []), (38, .iload_n 1, 1, []), (39, .i2l, 1, []), (40, .iload_n 2, 1, []), (41, .i2l, 1, []), (42, .invokestatic 131, 3, [121, 3, 1, 0]), (45, .iconst 3, 1, [3]), (46, .invokevirtual 165, 3, [127, 3, 0, 11]), (49, .aload_n 0, 1, []), (50, .getfield 139, 3, [0, 10, 18]), (53, .ifCond .ne 10, 3, [63]), (56, .aload_n 0, 1, []), (57, .getfield 162, 3, [0, 10, 17]), (60, .goto 4, 3, [64]), (63, .iconst 0, 1, [0]), (64, .istore_n 3, 1, []), (65, .aload_n 0, 1, []), (66, .invokevirtual 177, 3, [130, 1, 0, 11]), (69, .iload_n 3, 1, []), (70, .ireturn, 1, [])]
def zm_Mo_readNumber : zMi := (4, 1, zc_Mo_readNumber, [(25, [3])])
def zc_Mo_nests : List zC := [(0, .aload_n 0, 1, []), (1, .aload_n 0, 1, []), (2, .getfield 180, 3, [0, 10, 20]), (5, .bipush 8, 2, [8]), (7, .if_icmp .ge 7, 3, [14]), (10, .iconst 1, 1, [1]), (11, .goto 4, 3, [15]), (14, .iconst 0, 1, [0]), (15, .iconst 4, 1, [4]), (16, .invokevirtual 165, 3, [127, 3, 0, 11]), (19, .aload_n 0, 1, []), (20, .dup, 1, []), (21, .getfield 180, 3, [0, 10, 20]), (24, .iconst 1, 1, [1]), (25, .iadd, 1, []), (26, .putfield 180, 3, [0, 10, 20]), (29, .aload_n 0, 1, []), (30, .invokevirtual 177, 3, [130, 1, 0, 11]), (33, .return_, 1, [])]
def zm_Mo_nests : zMi := (1, 0, zc_Mo_nests, [])
def zc_Mo_wires : List zC := [(0, .iconst 0, 1, [0]), (1, .istore_n 2, 1, []), (2, .iload_n 2, 1, []), (3, .iconst 4, 1, [4]), (4, .if_icmp .ge 49, 3, [53]), (7, .aload_n 0, 1, []), (8, .getfield 63, 3, [2, 10, 26]), (11, .iload_n 2, 1, []), (12, .iload_n 1, 1, []), (13, .bipush 6, 2, [6]), (15, .if_icmp .ge 12, 3, [27]), (18, .aload_n 0, 1, []), (19, .getfield 78, 3, [2, 10, 28]), (22, .iload_n 1, 1, []), (23, .laload, 1, []), (24, .goto 22, 3, [46]), (27, .iload_n 2, 1, []), (28, .iload_n 1, 1, []), (29, .bipush 6, 2, [6]), (31, .isub, 1, []), (32, .ishr, 1, []), (33, .iconst 1, 1, [1]), (34, .iand, 1, []), (35, .iconst 1, 1, [1]), (36, .if_icmp .ne 9, 3, [45]), (39, .ldc2_w 183, 3, [1, 1]), (42, .goto 4, 3, [46]), (45, .lconst 0, 1, [0]), (46, .lastore, 1, []), (47, .iinc 2 1, 3, [1]), (50, .goto (-48), 3, [2]), (53, .return_, 1, [])]
def zm_Mo_wires : zMi := (3, 0, zc_Mo_wires, [(2, [])])
def zc_Mo_opensDepth : List zC := [(0, .aload_n 0, 1, []), (1, .getfield 54, 3, [2, 10, 23]), (4, .aload_n 0, 1, []), (5, .getfield 185, 3, [0, 10, 27]), (8, .iconst 0, 1, [0]), (9, .bastore, 1, []), (10, .aload_n 0, 1, []), (11, .getfield 57, 3, [2, 10, 24]), (14, .aload_n 0, 1, []), (15, .getfield 185, 3, [0, 10, 27]), (18, .iconst 0, 1, [0]), (19, .bastore, 1, []), (20, .aload_n 0, 1, []), (21, .getfield 60, 3, [2, 10, 25]), (24, .aload_n 0, 1, []), (25, .getfield 185, 3, [0, 10, 27]), (28, .iconst 0, 1, [0]), (29, .bastore, 1, []), (30, .return_, 1, [])]
def zm_Mo_opensDepth : zMi := (1, 0, zc_Mo_opensDepth, [])
def zc_Mo_joinsAnds : List zC := [(0, .iconst 0, 1, [0]), (1, .istore_n 1, 1, []), (2, .iload_n 1, 1, []), (3, .iconst 4, 1, [4]), (4, .if_icmp .ge 85, 3, [89]), (7, .aload_n 0, 1, []), (8, .getfield 60, 3, [2, 10, 25]), (11, .aload_n 0, 1, []), (12, .getfield 185, 3, [0, 10, 27]), (15, .baload, 1, []), (16, .ifCond .eq 16, 3, [32]), (19, .aload_n 0, 1, []), (20, .getfield 63, 3, [2, 10, 26]), (23, .iload_n 1, 1, []), (24, .laload, 1, []), (25, .ldc2_w 183, 3, [1, 1]), (28, .lxor, 1, []), (29, .goto 9, 3, [38]), (32, .aload_n 0, 1, []), (33, .getfield 63, 3, [2, 10, 26]), (36, .iload_n 1, 1, []), (37, .laload, 1, []), (38, .lstore_n 2, 1, []), (39, .aload_n 0, 1, []), (40, .getfield 51, 3, [2, 10, 22]), (43, .iconst 4, 1, [4]), (44, .aload_n 0, 1, []), (45, .getfield 185, 3, [0, 10, 27]), (48, .imul, 1, []), (49, .iload_n 1, 1, []), (50, .iadd, 1, []), (51, .aload_n 0, 1, []), (52, .getfield 57, 3, [2, 10, 24]), (55, .aload_n 0, 1, []), (56, .getfield 185, 3, [0, 10, 27]), (59, .baload, 1, []), (60, .ifCond .eq 21, 3, [81]), (63, .aload_n 0, 1, []), (64, .getfield 51, 3, [2, 10, 22]), (67, .iconst 4, 1, [4]), (68, .aload_n 0, 1, []), (69, .getfield 185, 3, [0, 10, 27]), (72, .imul, 1, []), (73, .iload_n 1, 1, []), (74, .iadd, 1, []), (75, .laload, 1, []), (76, .lload_n 2, 1, []), (77, .land, 1, []), (78, .goto 4, 3, [82]), (81, .lload_n 2, 1, []), (82, .lastore, 1, []), (83, .iinc 1 1, 3, [1]), (86, .goto (-84), 3, [2]), (89, .aload_n 0, 1, []), (90, .getfield 57, 3, [2, 10, 24]), (93, .aload_n 0, 1, []), (94, .getfield 185, 3, [0, 10, 27]), (97, .iconst 1, 1, [1]), (98, .bastore, 1, []), (99, .aload_n 0, 1, []), (100, .getfield 60, 3, [2, 10, 25]), (103, .aload_n 0, 1, []), (104, .getfield 185, 3, [0, 10, 27]), (107, .iconst 0, 1, [0]), (108, .bastore, 1, []), (109, .return_, 1, [])]
def zm_Mo_joinsAnds : zMi := (4, 0, zc_Mo_joinsAnds, [(2, [2, 3]), (38, [2, 3])])
def zc_Mo_joinsOrs : List zC := [(0, .iconst 0, 1, [0]), (1, .istore_n 1, 1, []), (2, .iload_n 1, 1, []), (3, .iconst 4, 1, [4]), (4, .if_icmp .ge 77, 3, [81]), (7, .aload_n 0, 1, []), (8, .getfield 48, 3, [2, 10, 21]), (11, .iconst 4, 1, [4]), (12, .aload_n 0, 1, []), (13, .getfield 185, 3, [0, 10, 27]), (16, .imul, 1, []), (17, .iload_n 1, 1, []), (18, .iadd, 1, []), (19, .aload_n 0, 1, []), (20, .getfield 54, 3, [2, 10, 23]), (23, .aload_n 0, 1, []), (24, .getfield 185, 3, [0, 10, 27]), (27, .baload, 1, []), (28, .ifCond .eq 33, 3, [61]), (31, .aload_n 0, 1, []), (32, .getfield 48, 3, [2, 10, 21]), (35, .iconst 4, 1, [4]), (36, .aload_n 0, 1, []), (37, .getfield 185, 3, [0, 10, 27]), (40, .imul, 1, []), (41, .iload_n 1, 1, []), (42, .iadd, 1, []), (43, .laload, 1, []), (44, .aload_n 0, 1, []), (45, .getfield 51, 3, [2, 10, 22]), (48, .iconst 4, 1, [4]), (49, .aload_n 0, 1, []), (50, .getfield 185, 3, [0, 10, 27]), (53, .imul, 1, []), (54, .iload_n 1, 1, []), (55, .iadd, 1, []), (56, .laload, 1, []), (57, .lor, 1, []), (58, .goto 16, 3, [74]), (61, .aload_n 0, 1, []), (62, .getfield 51, 3, [2, 10, 22]), (65, .iconst 4, 1, [4]), (66, .aload_n 0, 1, []), (67, .getfield 185, 3, [0, 10, 27]), (70, .imul, 1, []), (71, .iload_n 1, 1, []), (72, .iadd, 1, []), (73, .laload, 1, []), (74, .lastore, 1, []), (75, .iinc 1 1, 3, [1]), (78, .goto (-76), 3, [2]), (81, .aload_n 0, 1, []), (82, .getfield 54, 3, [2, 10, 23]), (85, .aload_n 0, 1, []), (86, .getfield 185, 3, [0, 10, 27]), (89, .iconst 1, 1, [1]), (90, .bastore, 1, []), (91, .aload_n 0, 1, []), (92, .getfield 57, 3, [2, 10, 24]), (95, .aload_n 0, 1, []), (96, .getfield 185, 3, [0, 10, 27]), (99, .iconst 0, 1, [0]), (100, .bastore, 1, []), (101, .return_, 1, [])]
def zm_Mo_joinsOrs : zMi := (2, 0, zc_Mo_joinsOrs, [(2, [])])
def zc_Mo_readOperand : List zC := [(0, .iconst 1, 1, [1]), (1, .istore_n 1, 1, []), (2, .iload_n 1, 1, []), (3, .ifCond .eq 111, 3, [114]), (6, .aload_n 0, 1, []), (7, .bipush 33, 2, [33]), (9, .invokevirtual 188, 3, [131, 2, 1, 11]), (12, .ifCond .eq 36, 3, [48]), (15, .aload_n 0, 1, []), (16, .getfield 60, 3, [2, 10, 25]), (19, .aload_n 0, 1, []), (20, .getfield 185, 3, [0, 10, 27]), (23, .aload_n 0, 1, []), (24, .getfield 60, 3, [2, 10, 25]), (27, .aload_n 0, 1, []), (28, .getfield 185, 3, [0, 10, 27]), (31, .baload, 1, []), (32, .ifCond .ne 7, 3, [39]), (35, .iconst 1, 1, [1]), (36, .goto 4, 3, [40]), (39, .iconst 0, 1, [0]), (40, .bastore, 1, []), (41, .aload_n 0, 1, []), (42, .invokevirtual 177, 3, [130, 1, 0, 11]), (45, .goto (-43), 3, [2]), (48, .aload_n 0, 1, []), (49, .bipush 40, 2, [40]), (51, .invokevirtual 188, 3, [131, 2, 1, 11]), (54, .ifCond .eq 55, 3, [109]), (57, .aload_n 0, 1, []), (58, .invokevirtual 191, 3, [133, 1, 0, 11]), (61, .aload_n 0, 1, []), (62, .dup, 1, []), (63, .getfield 185, 3, [0, 10, 27]), (66, .aload_n 0, 1, []), (67, .getfield 139, 3, [0, 10, 18]), (70, .ifCond .ne 7, 3, [77]), (73, .iconst 1, 1, [1]), (74, .goto 4, 3, [78]), (77, .iconst 0, 1, [0]), (78, .invokestatic 194, 3, [122, 1, 1, 0]), (81, .iadd, 1, []), (82, .putfield 185, 3, [0, 10, 27]), (85, .aload_n 0, 1, []), (86, .getfield 139, 3, [0, 10, 18]), (89, .ifCond .ne 7, 3, [96]), (92, .iconst 1, 1, [1]), (93, .goto 4, 3, [97]), (96, .iconst 0, 1, [0]), (97, .istore_n 1, 1, []), (98, .iload_n 1, 1, []), (99, .ifCond .eq (-97), 3, [2]), (102, .aload_n 0, 1, []), (103, .invokevirtual 198, 3, [135, 1, 0, 11]), (106, .goto (-104), 3, [2]), (109, .iconst 0, 1, [0]), (110, .istore_n 1, 1, []), (111, .goto (-109), 3, [2]), (114, .aload_n 0, 1, []), (115, .getfield 139, 3, [0, 10, 18]), (118, .ifCond .ne 21, 3, [139]), (121, .aload_n 0, 1, []), (122, .aload_n 0, 1, []), (123, .getfield 155, 3, [0, 10, 16]), (126, .iconst 1, 1, [1]), (127, .if_icmp .ne 7, 3, [134]), (130, .iconst 1, 1, [1]), (131, .goto 4, 3, [135]), (134, .iconst 0, 1, [0]), (135, .iconst 2, 1, [2]), (136, .invokevirtual 165, 3, [127, 3, 0, 11]), (139, .aload_n 0, 1, []), (140, .getfield 139, 3, [0, 10, 18]), (143, .ifCond .ne 22, 3, [165]), (146, .aload_n 0, 1, []), (147, .aload_n 0, 1, []), (148, .aload_n 0, 1, []), (149, .getfield 142, 3, [0, 10, 15]), (152, .invokevirtual 151, 3, [128, 2, 1, 11]), (155, .bipush 97, 2, [97]), (157, .isub, 1, []), (158, .invokevirtual 201, 3, [134, 2, 0, 11]), (161, .aload_n 0, 1, []), (162, .invokevirtual 205, 3, [136, 1, 0, 11]), (165, .aload_n 0, 1, []), (166, .invokevirtual 177, 3, [130, 1, 0, 11]), (169, .return_, 1, [])]
def zm_Mo_readOperand : zMi := (2, 0, zc_Mo_readOperand, [(2, []), (78, [1])])
def zc_Mo_readCondition : List zC := [(0, .aload_n 0, 1, []), (1, .iconst 0, 1, [0]), (2, .putfield 185, 3, [0, 10, 27]), (5, .aload_n 0, 1, []), (6, .invokevirtual 198, 3, [135, 1, 0, 11]), (9, .aload_n 0, 1, []), (10, .getfield 139, 3, [0, 10, 18]), (13, .ifCond .ne 7, 3, [20]), (16, .iconst 1, 1, [1]), (17, .goto 4, 3, [21]), (20, .iconst 0, 1, [0]), (21, .istore_n 2, 1, []), (22, .iload_n 2, 1, []), (23, .ifCond .eq 201, 3, [224]), (26, .aload_n 0, 1, []), (27, .invokevirtual 208, 3, [138, 1, 0, 11]), (30, .iconst 1, 1, [1]), (31, .istore_n 3, 1, []), (32, .iload_n 3, 1, []), (33, .ifCond .eq 107, 3, [140]), (36, .aload_n 0, 1, []), (37, .getfield 139, 3, [0, 10, 18]), (40, .ifCond .ne 100, 3, [140]), (43, .aload_n 0, 1, []), (44, .getfield 185, 3, [0, 10, 27]), (47, .ifCond .le 16, 3, [63]), (50, .aload_n 0, 1, []), (51, .bipush 41, 2, [41]), (53, .invokevirtual 188, 3, [131, 2, 1, 11]), (56, .ifCond .eq 7, 3, [63]), (59, .iconst 1, 1, [1]), (60, .goto 4, 3, [64]), (63, .iconst 0, 1, [0]), (64, .istore_n 3, 1, []), (65, .iload_n 3, 1, []), (66, .ifCond .eq (-34), 3, [32]), (69, .aload_n 0, 1, []), (70, .invokevirtual 211, 3, [137, 1, 0, 11]), (73, .iconst 0, 1, [0]), (74, .istore 4, 2, []), (76, .iload 4, 2, []), (78, .iconst 4, 1, [4]), (79, .if_icmp .ge 30, 3, [109]), (82, .aload_n 0, 1, []), (83, .getfield 63, 3, [2, 10, 26]), (86, .iload 4, 2, []), (88, .aload_n 0, 1, []), (89, .getfield 48, 3, [2, 10, 21]), (92, .iconst 4, 1, [4]), (93, .aload_n 0, 1, []), (94, .getfield 185, 3, [0, 10, 27]), (97, .imul, 1, []), (98, .iload 4, 2, []), (100, .iadd, 1, []), (101, .laload, 1, []), (102, .lastore, 1, []), (103, .iinc 4 1, 3, [1]), (106, .goto (-30), 3, [76]), (109, .aload_n 0, 1, []), (110, .dup, 1, []), (111, .getfield 185, 3, [0, 10, 27]), (114, .iconst 1, 1, [1]), (115, .isub, 1, []), (116, .putfield 185, 3, [0, 10, 27]), (119, .aload_n 0, 1, []), (120, .dup, 1, []), (121, .getfield 180, 3, [0, 10, 20]), (124, .iconst 1, 1, [1]), (125, .isub, 1, []), (126, .putfield 180, 3, [0, 10, 20]), (129, .aload_n 0, 1, []), (130, .invokevirtual 205, 3, [136, 1, 0, 11]), (133, .aload_n 0, 1, []), (134, .invokevirtual 177, 3, [130, 1, 0, 11]), (137, .goto (-105), 3, [32]), (140, .aload_n 0, 1, []), (141, .getfield 185, 3, [0, 10, 27]), (144, .ifCond .gt 7, 3, [151]), (147, .iload_n 1, 1, []), (148, .ifCond .eq 7, 3, [155]), (151, .iconst 1, 1, [1]), (152, .goto 4, 3, [156]), (155, .iconst 0, 1, [0]), (156, .istore 4, 2, []), (158, .iload 4, 2, []), (160, .ifCond .eq 25, 3, [185]), (163, .aload_n 0, 1, []), (164, .bipush 38, 2, [38]), (166, .invokevirtual 188, 3, [131, 2, 1, 11]), (169, .ifCond .ne 12, 3, [181]), (172, .aload_n 0, 1, []), (173, .bipush 124, 2, [124]), (175, .invokevirtual 188, 3, [131, 2, 1, 11]), (178, .ifCond .eq 7, 3, [185]), (181, .iconst 1, 1, [1]), (182, .goto 4, 3, [186]), (185, .iconst 0, 1, [0]), (186, .istore_n 2, 1, []), (187, .iload_n 2, 1, []), (188, .ifCond .eq 33, 3, [221]), (191, .aload_n 0, 1, []), (192, .bipush 124, 2, [124]), (194, .invokevirtual 188, 3, [131, 2, 1, 11]), (197, .ifCond .eq 7, 3, [204]), (200, .aload_n 0, 1, []), (201, .invokevirtual 211, 3, [137, 1, 0, 11]), (204, .aload_n 0, 1, []), (205, .invokevirtual 177, 3, [130, 1, 0, 11]), (208, .aload_n 0, 1, []), (209, .getfield 139, 3, [0, 10, 18]), (212, .ifCond .ne 7, 3, [219]), (215, .iconst 1, 1, [1]), (216, .goto 4, 3, [220]), (219, .iconst 0, 1, [0]), (220, .istore_n 2, 1, []), (221, .goto (-199), 3, [22]), (224, .aload_n 0, 1, []), (225, .getfield 139, 3, [0, 10, 18]), (228, .ifCond .ne 20, 3, [248]), (231, .aload_n 0, 1, []), (232, .aload_n 0, 1, []), (233, .getfield 185, 3, [0, 10, 27]), (236, .ifCond .ne 7, 3, [243]), (239, .iconst 1, 1, [1]), (240, .goto 4, 3, [244]), (243, .iconst 0, 1, [0]), (244, .iconst 2, 1, [2]), (245, .invokevirtual 165, 3, [127, 3, 0, 11]), (248, .aload_n 0, 1, []), (249, .getfield 139, 3, [0, 10, 18]), (252, .ifCond .ne 32, 3, [284]), (255, .aload_n 0, 1, []), (256, .invokevirtual 211, 3, [137, 1, 0, 11]), (259, .iconst 0, 1, [0]), (260, .istore_n 3, 1, []), (261, .iload_n 3, 1, []), (262, .iconst 4, 1, [4]), (263, .if_icmp .ge 21, 3, [284]), (266, .aload_n 0, 1, []), (267, .getfield 63, 3, [2, 10, 26]), (270, .iload_n 3, 1, []), (271, .aload_n 0, 1, []), (272, .getfield 48, 3, [2, 10, 21]), (275, .iload_n 3, 1, []), (276, .laload, 1, []), (277, .lastore, 1, []), (278, .iinc 3 1, 3, [1]), (281, .goto (-20), 3, [261]), (284, .return_, 1, [])]
def zm_Mo_readCondition : zMi := (5, 0, zc_Mo_readCondition, [(22, [3, 4]), (32, [2, 4]), (76, [2]), (140, [2, 3, 4]), (186, [2, 3, 4]), (261, [1, 2, 4])])
def zc_Mo_placesNow : List zC := [(0, .aload_n 0, 1, []), (1, .getfield 13, 3, [2, 10, 1]), (4, .bipush 45, 2, [45]), (6, .aload_n 0, 1, []), (7, .getfield 214, 3, [0, 10, 38]), (10, .imul, 1, []), (11, .iconst 0, 1, [0]), (12, .iadd, 1, []), (13, .iaload, 1, []), (14, .ireturn, 1, [])]
def zm_Mo_placesNow : zMi := (1, 1, zc_Mo_placesNow, [])
def zc_Mo_takes : List zC := [(0, .aload_n 0, 1, []), (1, .getfield 81, 3, [2, 10, 29]), (4, .iload_n 2, 1, []), (5, .aload_n 0, 1, []), (6, .getfield 81, 3, [2, 10, 29]), (9, .iload_n 1, 1, []), (10, .iaload, 1, []), (11, .iastore, 1, []), (12, .aload_n 0, 1, []), (13, .getfield 84, 3, [2, 10, 30]), (16, .iload_n 2, 1, []), (17, .aload_n 0, 1, []), (18, .getfield 84, 3, [2, 10, 30]), (21, .iload_n 1, 1, []), (22, .laload, 1, []), (23, .lastore, 1, []), (24, .aload_n 0, 1, []), (25, .getfield 87, 3, [2, 10, 31]), (28, .iload_n 2, 1, []), (29, .aload_n 0, 1, []), (30, .getfield 87, 3, [2, 10, 31]), (33, .iload_n 1, 1, []), (34, .laload, 1, []), (35, .lastore, 1, []), (36, .aload_n 0, 1, []), (37, .getfield 90, 3, [2, 10, 32]), (40, .iload_n 2, 1, []), (41, .aload_n 0, 1, []), (42, .getfield 90, 3, [2, 10, 32]), (45, .iload_n 1, 1, []), (46, .baload, 1, []), (47, .bastore, 1, []), (48, .aload_n 0, 1, []), (49, .getfield 93, 3, [2, 10, 33]), (52, .iload_n 2, 1, []), (53, .aload_n 0, 1, []), (54, .getfield 93, 3, [2, 10, 33]), (57, .iload_n 1, 1, []), (58, .iaload, 1, []), (59, .iastore, 1, []), (60, .aload_n 0, 1, []), (61, .getfield 96, 3, [2, 10, 34]), (64, .iload_n 2, 1, []), (65, .aload_n 0, 1, []), (66, .getfield 96, 3, [2, 10, 34]), (69, .iload_n 1, 1, []), (70, .iaload, 1, []), (71, .iastore, 1, []), (72, .aload_n 0, 1, []), (73, .getfield 99, 3, [2, 10, 35]), (76, .iload_n 2, 1, []), (77, .aload_n 0, 1, []), (78, .getfield 99, 3, [2, 10, 35]), (81, .iload_n 1, 1, []), (82, .iaload, 1, []), (83, .iastore, 1, []), (84, .aload_n 0, 1, []), (85, .getfield 102, 3, [2, 10, 36]), (88, .iload_n 2, 1, []), (89, .iconst 1, 1, [1]), (90, .bastore, 1, []), (91, .return_, 1, [])]
def zm_Mo_takes : zMi := (3, 0, zc_Mo_takes, [])
def zc_Mo_sum : List zC := [(0, .iload_n 0, 1, []), (1, .iload_n 1, 1, []), (2, .iadd, 1, []), (3, .ldc 217, 2, [1000000]), (5, .invokestatic 218, 3, [123, 2, 1, 0]), (8, .ireturn, 1, [])]
def zm_Mo_sum : zMi := (2, 1, zc_Mo_sum, [])
def zc_Mo_follows : List zC := [(0, .iconst 0, 1, [0]), (1, .istore 5, 2, []), (3, .iload 5, 2, []), (5, .bipush 40, 2, [40]), (7, .if_icmp .ge 42, 3, [49]), (10, .lload_n 1, 1, []), (11, .iload 5, 2, []), (13, .lshr, 1, []), (14, .lconst 1, 1, [1]), (15, .land, 1, []), (16, .lconst 1, 1, [1]), (17, .lcmp, 1, []), (18, .ifCond .ne 25, 3, [43]), (21, .aload_n 0, 1, []), (22, .getfield 20, 3, [2, 10, 3]), (25, .sipush 203, 3, [203]), (28, .aload_n 0, 1, []), (29, .getfield 214, 3, [0, 10, 38]), (32, .imul, 1, []), (33, .iconst 3, 1, [3]), (34, .iadd, 1, []), (35, .iload 5, 2, []), (37, .iadd, 1, []), (38, .dup2, 1, []), (39, .laload, 1, []), (40, .lload_n 3, 1, []), (41, .lor, 1, []), (42, .lastore, 1, []), (43, .iinc 5 1, 3, [1]), (46, .goto (-43), 3, [3]), (49, .return_, 1, [])]
def zm_Mo_follows : zMi := (6, 0, zc_Mo_follows, [(3, [2, 4])])
def zc_Mo_chains : List zC := [(0, .aload_n 0, 1, []), (1, .getfield 102, 3, [2, 10, 36]), (4, .iload_n 1, 1, []), (5, .baload, 1, []), (6, .ifCond .ne 10, 3, [16]), (9, .aload_n 0, 1, []), (10, .iload_n 2, 1, []), (11, .iload_n 1, 1, []), (12, .invokevirtual 222, 3, [141, 3, 0, 11]), (15, .return_, 1, []), (16, .aload_n 0, 1, []), (17, .aload_n 0, 1, []), (18, .getfield 87, 3, [2, 10, 31]), (21, .iload_n 1, 1, []), (22, .laload, 1, []), (23, .aload_n 0, 1, []), (24, .getfield 84, 3, [2, 10, 30]), (27, .iload_n 2, 1, []), (28, .laload, 1, []), (29, .invokevirtual 226, 3, [143, 3, 0, 11]), (32, .aload_n 0, 1, []), (33, .getfield 84, 3, [2, 10, 30]), (36, .iload_n 1, 1, []), (37, .dup2, 1, []), (38, .laload, 1, []), (39, .aload_n 0, 1, []), (40, .getfield 90, 3, [2, 10, 32]), (43, .iload_n 1, 1, []), (44, .baload, 1, []), (45, .ifCond .eq 12, 3, [57]), (48, .aload_n 0, 1, []), (49, .getfield 84, 3, [2, 10, 30]), (52, .iload_n 2, 1, []), (53, .laload, 1, []), (54, .goto 4, 3, [58]), (57, .lconst 0, 1, [0]), (58, .lor, 1, []), (59, .lastore, 1, []), (60, .aload_n 0, 1, []), (61, .getfield 87, 3, [2, 10, 31]), (64, .iload_n 1, 1, []), (65, .aload_n 0, 1, []), (66, .getfield 87, 3, [2, 10, 31]), (69, .iload_n 2, 1, []), (70, .laload, 1, []), (71, .aload_n 0, 1, []), (72, .getfield 90, 3, [2, 10, 32]), (75, .iload_n 2, 1, []), (76, .baload, 1, []), (77, .ifCond .eq 12, 3, [89]), (80, .aload_n 0, 1, []), (81, .getfield 87, 3, [2, 10, 31]), (84, .iload_n 1, 1, []), (85, .laload, 1, []), (86, .goto 4, 3, [90]), (89, .lconst 0, 1, [0]), (90, .lor, 1, []), (91, .lastore, 1, []), (92, .aload_n 0, 1, []), (93, .getfield 90, 3, [2, 10, 32]), (96, .iload_n 1, 1, []), (97, .aload_n 0, 1, []), (98, .getfield 90, 3, [2, 10, 32]), (101, .iload_n 1, 1, []), (102, .baload, 1, []), (103, .ifCond .eq 16, 3, [119]), (106, .aload_n 0, 1, []), (107, .getfield 90, 3, [2, 10, 32]), (110, .iload_n 2, 1, []), (111, .baload, 1, []), (112, .ifCond .eq 7, 3, [119]), (115, .iconst 1, 1, [1]), (116, .goto 4, 3, [120]), (119, .iconst 0, 1, [0]), (120, .bastore, 1, []), (121, .aload_n 0, 1, []), (122, .getfield 93, 3, [2, 10, 33]), (125, .iload_n 1, 1, []), (126, .aload_n 0, 1, []), (127, .getfield 93, 3, [2, 10, 33]), (130, .iload_n 1, 1, []), (131, .iaload, 1, []), (132, .aload_n 0, 1, []), (133, .getfield 93, 3, [2, 10, 33]), (136, .iload_n 2, 1, []), (137, .iaload, 1, []), (138, .invokestatic 230, 3, [142, 2, 1, 0]), (141, .iastore, 1, []), (142, .aload_n 0, 1, []), (143, .getfield 96, 3, [2, 10, 34]), (146, .iload_n 1, 1, []), (147, .aload_n 0, 1, []), (148, .getfield 96, 3, [2, 10, 34]), (151, .iload_n 1, 1, []), (152, .iaload, 1, []), (153, .aload_n 0, 1, []), (154, .getfield 96, 3, [2, 10, 34]), (157, .iload_n 2, 1, []), (158, .iaload, 1, []), (159, .invokestatic 230, 3, [142, 2, 1, 0]), (162, .iastore, 1, []), (163, .aload_n 0, 1, []), (164, .getfield 99, 3, [2, 10, 35]), (167, .iload_n 1, 1, []), (168, .aload_n 0, 1, []), (169, .getfield 99, 3, [2, 10, 35]), (172, .iload_n 1, 1, []), (173, .iaload, 1, []), (174, .aload_n 0, 1, []), (175, .getfield 99, 3, [2, 10, 35]), (178, .iload_n 2, 1, []), (179, .iaload, 1, []), (180, .invokestatic 230, 3, [142, 2, 1, 0]), (183, .iastore, 1, []), (184, .return_, 1, [])]
def zm_Mo_chains : zMi := (3, 0, zc_Mo_chains, [(58, []), (120, [])])
def zc_Mo_chooses : List zC := [(0, .aload_n 0, 1, []), (1, .getfield 102, 3, [2, 10, 36]), (4, .iload_n 1, 1, []), (5, .baload, 1, []), (6, .ifCond .ne 10, 3, [16]), (9, .aload_n 0, 1, []), (10, .iload_n 2, 1, []), (11, .iload_n 1, 1, []), (12, .invokevirtual 222, 3, [141, 3, 0, 11]), (15, .return_, 1, []), (16, .aload_n 0, 1, []), (17, .getfield 84, 3, [2, 10, 30]), (20, .iload_n 1, 1, []), (21, .dup2, 1, []), (22, .laload, 1, []), (23, .aload_n 0, 1, []), (24, .getfield 84, 3, [2, 10, 30]), (27, .iload_n 2, 1, []), (28, .laload, 1, []), (29, .lor, 1, []), (30, .lastore, 1, []), (31, .aload_n 0, 1, []), (32, .getfield 87, 3, [2, 10, 31]), (35, .iload_n 1, 1, []), (36, .dup2, 1, []), (37, .laload, 1, []), (38, .aload_n 0, 1, []), (39, .getfield 87, 3, [2, 10, 31]), (42, .iload_n 2, 1, []), (43, .laload, 1, []), (44, .lor, 1, []), (45, .lastore, 1, []), (46, .aload_n 0, 1, []), (47, .getfield 90, 3, [2, 10, 32]), (50, .iload_n 1, 1, []), (51, .aload_n 0, 1, []), (52, .getfield 90, 3, [2, 10, 32]), (55, .iload_n 1, 1, []), (56, .baload, 1, []), (57, .ifCond .ne 12, 3, [69]), (60, .aload_n 0, 1, []), (61, .getfield 90, 3, [2, 10, 32]), (64, .iload_n 2, 1, []), (65, .baload, 1, []), (66, .ifCond .eq 7, 3, [73]), (69, .iconst 1, 1, [1]), (70, .goto 4, 3, [74]), (73, .iconst 0, 1, [0]), (74, .bastore, 1, []), (75, .aload_n 0, 1, []), (76, .getfield 93, 3, [2, 10, 33]), (79, .iload_n 1, 1, []), (80, .aload_n 0, 1, []), (81, .getfield 93, 3, [2, 10, 33]), (84, .iload_n 1, 1, []), (85, .iaload, 1, []), (86, .aload_n 0, 1, []), (87, .getfield 93, 3, [2, 10, 33]), (90, .iload_n 2, 1, []), (91, .iaload, 1, []), (92, .invokestatic 230, 3, [142, 2, 1, 0]), (95, .iastore, 1, []), (96, .aload_n 0, 1, []), (97, .getfield 96, 3, [2, 10, 34]), (100, .iload_n 1, 1, []), (101, .aload_n 0, 1, []), (102, .getfield 96, 3, [2, 10, 34]), (105, .iload_n 1, 1, []), (106, .iaload, 1, []), (107, .aload_n 0, 1, []), (108, .getfield 96, 3, [2, 10, 34]), (111, .iload_n 2, 1, []), (112, .iaload, 1, []), (113, .invokestatic 218, 3, [123, 2, 1, 0]), (116, .iastore, 1, []), (117, .aload_n 0, 1, []), (118, .getfield 99, 3, [2, 10, 35]), (121, .iload_n 1, 1, []), (122, .aload_n 0, 1, []), (123, .getfield 99, 3, [2, 10, 35]), (126, .iload_n 1, 1, []), (127, .iaload, 1, []), (128, .aload_n 0, 1, []), (129, .getfield 99, 3, [2, 10, 35]), (132, .iload_n 2, 1, []), (133, .iaload, 1, []), (134, .invokestatic 233, 3, [124, 2, 1, 0]), (137, .iastore, 1, []), (138, .return_, 1, [])]
def zm_Mo_chooses : zMi := (3, 0, zc_Mo_chooses, [(74, [])])
def zc_Mo_onePlace : List zC := [(0, .bipush 45, 2, [45]), (2, .aload_n 0, 1, []), (3, .getfield 214, 3, [0, 10, 38]), (6, .imul, 1, []), (7, .istore_n 1, 1, []), (8, .aload_n 0, 1, []), (9, .getfield 13, 3, [2, 10, 1]), (12, .iload_n 1, 1, []), (13, .iconst 0, 1, [0]), (14, .iadd, 1, []), (15, .iaload, 1, []), (16, .istore_n 2, 1, []), (17, .aload_n 0, 1, []), (18, .getfield 13, 3, [2, 10, 1]), (21, .iload_n 1, 1, []), (22, .iconst 1, 1, [1]), (23, .iadd, 1, []), (24, .iaload, 1, []), (25, .istore_n 3, 1, []), (26, .aload_n 0, 1, []), (27, .getfield 81, 3, [2, 10, 29]), (30, .iconst 0, 1, [0]), (31, .iload_n 2, 1, []), (32, .iastore, 1, []), (33, .aload_n 0, 1, []), (34, .aload_n 0, 1, []), (35, .getfield 236, 3, [0, 10, 39]), (38, .ifCond .ne 15, 3, [53]), (41, .iload_n 2, 1, []), (42, .bipush 40, 2, [40]), (44, .if_icmp .eq 9, 3, [53]), (47, .iload_n 3, 1, []), (48, .bipush 40, 2, [40]), (50, .if_icmp .ne 7, 3, [57]), (53, .iconst 1, 1, [1]), (54, .goto 4, 3, [58]), (57, .iconst 0, 1, [0]), (58, .putfield 236, 3, [3, 10, 39]), (61, .aload_n 0, 1, []), (62, .getfield 84, 3, [2, 10, 30]), (65, .iconst 0, 1, [0]), (66, .aload_n 0, 1, []), (67, .getfield 236, 3, [0, 10, 39]), (70, .ifCond .eq 7, 3, [77]), (73, .lconst 0, 1, [0]), (74, .goto 6, 3, [80]), (77, .lconst 1, 1, [1]), (78, .iload_n 2, 1, []), (79, .lshl, 1, []), (80, .lastore, 1, []), (81, .aload_n 0, 1, []), (82, .getfield 87, 3, [2, 10, 31]), (85, .iconst 0, 1, [0]), (86, .aload_n 0, 1, []), (87, .getfield 84, 3, [2, 10, 30]), (90, .iconst 0, 1, [0]), (91, .laload, 1, []), (92, .lastore, 1, []), (93, .aload_n 0, 1, []), (94, .getfield 90, 3, [2, 10, 32]), (97, .iconst 0, 1, [0]), (98, .iconst 0, 1, [0]), (99, .bastore, 1, []), (100, .aload_n 0, 1, []), (101, .getfield 93, 3, [2, 10, 33]), (104, .iconst 0, 1, [0]), (105, .iconst 1, 1, [1]), (106, .iastore, 1, []), (107, .aload_n 0, 1, []), (108, .getfield 96, 3, [2, 10, 34]), (111, .iconst 0, 1, [0]), (112, .iconst 1, 1, [1]), (113, .iastore, 1, []), (114, .aload_n 0, 1, []), (115, .getfield 99, 3, [2, 10, 35]), (118, .iconst 0, 1, [0]), (119, .iconst 1, 1, [1]), (120, .iastore, 1, []), (121, .aload_n 0, 1, []), (122, .getfield 236, 3, [0, 10, 39]), (125, .ifCond .ne 71, 3, [196]), (128, .aload_n 0, 1, []), (129, .getfield 13, 3, [2, 10, 1]), (132, .iload_n 1, 1, []), (133, .iconst 5, 1, [5]), (134, .iadd, 1, []), (135, .iload_n 2, 1, []), (136, .iadd, 1, []), (137, .iload_n 3, 1, []), (138, .iastore, 1, []), (139, .aload_n 0, 1, []), (140, .getfield 13, 3, [2, 10, 1]), (143, .iload_n 1, 1, []), (144, .iconst 0, 1, [0]), (145, .iadd, 1, []), (146, .dup2, 1, []), (147, .iaload, 1, []), (148, .iconst 1, 1, [1]), (149, .iadd, 1, []), (150, .iastore, 1, []), (151, .iconst 0, 1, [0]), (152, .istore 4, 2, []), (154, .iload 4, 2, []), (156, .iconst 4, 1, [4]), (157, .if_icmp .ge 39, 3, [196]), (160, .aload_n 0, 1, []), (161, .getfield 20, 3, [2, 10, 3]), (164, .sipush 203, 3, [203]), (167, .aload_n 0, 1, []), (168, .getfield 214, 3, [0, 10, 38]), (171, .imul, 1, []), (172, .bipush 43, 2, [43]), (174, .iadd, 1, []), (175, .iconst 4, 1, [4]), (176, .iload_n 3, 1, []), (177, .imul, 1, []), (178, .iadd, 1, []), (179, .iload 4, 2, []), (181, .iadd, 1, []), (182, .aload_n 0, 1, []), (183, .getfield 63, 3, [2, 10, 26]), (186, .iload 4, 2, []), (188, .laload, 1, []), (189, .lastore, 1, []), (190, .iinc 4 1, 3, [1]), (193, .goto (-39), 3, [154]), (196, .aload_n 0, 1, []), (197, .getfield 13, 3, [2, 10, 1]), (200, .iload_n 1, 1, []), (201, .iconst 1, 1, [1]), (202, .iadd, 1, []), (203, .dup2, 1, []), (204, .iaload, 1, []), (205, .aload_n 0, 1, []), (206, .getfield 236, 3, [0, 10, 39]), (209, .ifCond .ne 7, 3, [216]), (212, .iconst 1, 1, [1]), (213, .goto 4, 3, [217]), (216, .iconst 0, 1, [0]), (217, .invokestatic 194, 3, [122, 1, 1, 0]), (220, .iadd, 1, []), (221, .iastore, 1, []), (222, .return_, 1, [])]
def zm_Mo_onePlace : zMi := (5, 0, zc_Mo_onePlace, [(80, [4]), (154, [2])])
def zc_Mo_repeats : List zC := [(0, .aload_n 0, 1, []), (1, .getfield 81, 3, [2, 10, 29]), (4, .iconst 0, 1, [0]), (5, .iaload, 1, []), (6, .istore_n 3, 1, []), (7, .aload_n 0, 1, []), (8, .invokevirtual 240, 3, [140, 1, 1, 11]), (11, .iload_n 3, 1, []), (12, .isub, 1, []), (13, .istore 4, 2, []), (15, .aload_n 0, 1, []), (16, .getfield 84, 3, [2, 10, 30]), (19, .iconst 0, 1, [0]), (20, .laload, 1, []), (21, .lstore 5, 2, []), (23, .aload_n 0, 1, []), (24, .getfield 87, 3, [2, 10, 31]), (27, .iconst 0, 1, [0]), (28, .laload, 1, []), (29, .lstore 7, 2, []), (31, .aload_n 0, 1, []), (32, .getfield 90, 3, [2, 10, 32]), (35, .iconst 0, 1, [0]), (36, .baload, 1, []), (37, .istore 9, 2, []), (39, .aload_n 0, 1, []), (40, .aload_n 0, 1, []), (41, .getfield 236, 3, [0, 10, 39]), (44, .ifCond .ne 14, 3, [58]), (47, .iload_n 3, 1, []), (48, .iload_n 2, 1, []), (49, .iload 4, 2, []), (51, .imul, 1, []), (52, .iadd, 1, []), (53, .bipush 40, 2, [40]), (55, .if_icmp .le 7, 3, [62]), (58, .iconst 1, 1, [1]), (59, .goto 4, 3, [63]), (62, .iconst 0, 1, [0]), (63, .putfield 236, 3, [3, 10, 39]), (66, .aload_n 0, 1, []), (67, .getfield 236, 3, [0, 10, 39]), (70, .ifCond .ne 277, 3, [347]), (73, .iload 4, 2, []), (75, .istore 10, 2, []), (77, .iload 10, 2, []), (79, .iload_n 2, 1, []), (80, .iload 4, 2, []), (82, .imul, 1, []), (83, .if_icmp .ge 96, 3, [179]), (86, .sipush 203, 3, [203]), (89, .aload_n 0, 1, []), (90, .getfield 214, 3, [0, 10, 38]), (93, .imul, 1, []), (94, .iconst 3, 1, [3]), (95, .iadd, 1, []), (96, .iload_n 3, 1, []), (97, .iadd, 1, []), (98, .istore 11, 2, []), (100, .aload_n 0, 1, []), (101, .getfield 20, 3, [2, 10, 3]), (104, .iload 11, 2, []), (106, .iload 10, 2, []), (108, .iadd, 1, []), (109, .aload_n 0, 1, []), (110, .getfield 20, 3, [2, 10, 3]), (113, .iload 11, 2, []), (115, .iload 10, 2, []), (117, .iload 4, 2, []), (119, .irem, 1, []), (120, .iadd, 1, []), (121, .laload, 1, []), (122, .iload 10, 2, []), (124, .iload 4, 2, []), (126, .idiv, 1, []), (127, .iload 4, 2, []), (129, .imul, 1, []), (130, .lshl, 1, []), (131, .lastore, 1, []), (132, .aload_n 0, 1, []), (133, .getfield 13, 3, [2, 10, 1]), (136, .bipush 45, 2, [45]), (138, .aload_n 0, 1, []), (139, .getfield 214, 3, [0, 10, 38]), (142, .imul, 1, []), (143, .iconst 5, 1, [5]), (144, .iadd, 1, []), (145, .iload_n 3, 1, []), (146, .iadd, 1, []), (147, .iload 10, 2, []), (149, .iadd, 1, []), (150, .aload_n 0, 1, []), (151, .getfield 13, 3, [2, 10, 1]), (154, .bipush 45, 2, [45]), (156, .aload_n 0, 1, []), (157, .getfield 214, 3, [0, 10, 38]), (160, .imul, 1, []), (161, .iconst 5, 1, [5]), (162, .iadd, 1, []), (163, .iload_n 3, 1, []), (164, .iadd, 1, []), (165, .iload 10, 2, []), (167, .iload 4, 2, []), (169, .irem, 1, []), (170, .iadd, 1, []), (171, .iaload, 1, []), (172, .iastore, 1, []), (173, .iinc 10 1, 3, [1]), (176, .goto (-99), 3, [77]), (179, .aload_n 0, 1, []), (180, .getfield 13, 3, [2, 10, 1]), (183, .bipush 45, 2, [45]), (185, .aload_n 0, 1, []), (186, .getfield 214, 3, [0, 10, 38]), (189, .imul, 1, []), (190, .iconst 0, 1, [0]), (191, .iadd, 1, []), (192, .iload_n 3, 1, []), (193, .iload_n 2, 1, []), (194, .iload 4, 2, []), (196, .imul, 1, []), (197, .iadd, 1, []), (198, .iastore, 1, []), (199, .lload 5, 2, []), (201, .lstore 10, 2, []), (203, .lload 7, 2, []), (205, .lstore 12, 2, []), (207, .iload 9, 2, []), (209, .ifCond .ne 7, 3, [216]), (212, .iload_n 1, 1, []), (213, .ifCond .ne 7, 3, [220]), (216, .iconst 1, 1, [1]), (217, .goto 4, 3, [221]), (220, .iconst 0, 1, [0]), (221, .istore 14, 2, []), (223, .iconst 1, 1, [1]), (224, .istore 15, 2, []), (226, .iload 15, 2, []), (228, .iload_n 2, 1, []), (229, .if_icmp .ge 102, 3, [331]), (232, .iload 9, 2, []), (234, .ifCond .ne 9, 3, [243]), (237, .iload 15, 2, []), (239, .iload_n 1, 1, []), (240, .if_icmp .lt 7, 3, [247]), (243, .iconst 1, 1, [1]), (244, .goto 4, 3, [248]), (247, .iconst 0, 1, [0]), (248, .istore 16, 2, []), (250, .aload_n 0, 1, []), (251, .lload 12, 2, []), (253, .lload 5, 2, []), (255, .iload 15, 2, []), (257, .iload 4, 2, []), (259, .imul, 1, []), (260, .lshl, 1, []), (261, .invokevirtual 226, 3, [143, 3, 0, 11]), (264, .lload 10, 2, []), (266, .iload 14, 2, []), (268, .ifCond .eq 14, 3, [282]), (271, .lload 5, 2, []), (273, .iload 15, 2, []), (275, .iload 4, 2, []), (277, .imul, 1, []), (278, .lshl, 1, []), (279, .goto 4, 3, [283]), (282, .lconst 0, 1, [0]), (283, .lor, 1, []), (284, .lstore 10, 2, []), (286, .lload 7, 2, []), (288, .iload 15, 2, []), (290, .iload 4, 2, []), (292, .imul, 1, []), (293, .lshl, 1, []), (294, .iload 16, 2, []), (296, .ifCond .eq 8, 3, [304]), (299, .lload 12, 2, []), (301, .goto 4, 3, [305]), (304, .lconst 0, 1, [0]), (305, .lor, 1, []), (306, .lstore 12, 2, []), (308, .iload 14, 2, []), (310, .ifCond .eq 12, 3, [322]), (313, .iload 16, 2, []), (315, .ifCond .eq 7, 3, [322]), (318, .iconst 1, 1, [1]), (319, .goto 4, 3, [323]), (322, .iconst 0, 1, [0]), (323, .istore 14, 2, []), (325, .iinc 15 1, 3, [1]), (328, .goto (-102), 3, [226]), (331, .aload_n 0, 1, []), (332, .getfield 84, 3, [2, 10, 30]), (335, .iconst 0, 1, [0]), (336, .lload 10, 2, []), (338, .lastore, 1, []), (339, .aload_n 0, 1, []), (340, .getfield 87, 3, [2, 10, 31]), (343, .iconst 0, 1, [0]), (344, .lload 12, 2, []), (346, .lastore, 1, []), (347, .aload_n 0, 1, []), (348, .getfield 90, 3, [2, 10, 32]), (351, .iconst 0, 1, [0]), (352, .iload 9, 2, []), (354, .ifCond .ne 7, 3, [361]), (357, .iload_n 1, 1, []), (358, .ifCond .ne 7, 3, [365]), (361, .iconst 1, 1, [1]), (362, .goto 4, 3, [366]), (365, .iconst 0, 1, [0]), (366, .bastore, 1, []), (367, .aload_n 0, 1, []), (368, .getfield 93, 3, [2, 10, 33]), (371, .iconst 0, 1, [0]), (372, .iload_n 2, 1, []), (373, .aload_n 0, 1, []), (374, .getfield 93, 3, [2, 10, 33]), (377, .iconst 0, 1, [0]), (378, .iaload, 1, []), (379, .imul, 1, []), (380, .ldc 217, 2, [1000000]), (382, .invokestatic 218, 3, [123, 2, 1, 0]), (385, .iastore, 1, []), (386, .aload_n 0, 1, []), (387, .getfield 96, 3, [2, 10, 34]), (390, .iconst 0, 1, [0]), (391, .iload_n 1, 1, []), (392, .aload_n 0, 1, []), (393, .getfield 96, 3, [2, 10, 34]), (396, .iconst 0, 1, [0]), (397, .iaload, 1, []), (398, .imul, 1, []), (399, .ldc 217, 2, [1000000]), (401, .invokestatic 218, 3, [123, 2, 1, 0]), (404, .iastore, 1, []), (405, .aload_n 0, 1, []), (406, .getfield 99, 3, [2, 10, 35]), (409, .iconst 0, 1, [0]), (410, .iload_n 2, 1, []), (411, .aload_n 0, 1, []), (412, .getfield 99, 3, [2, 10, 35]), (415, .iconst 0, 1, [0]), (416, .iaload, 1, []), (417, .imul, 1, []), (418, .ldc 217, 2, [1000000]), (420, .invokestatic 218, 3, [123, 2, 1, 0]), (423, .iastore, 1, []), (424, .return_, 1, [])]
def zm_Mo_repeats : zMi := (17, 0, zc_Mo_repeats, [(77, [6, 8, 11, 12, 13, 14, 15, 16]), (226, [3, 6, 8, 11, 13, 16]), (283, [3, 6, 8, 10, 11, 13]), (366, [3, 4, 5, 6, 7, 8, 9, 10, 11, 12, 13, 14, 15, 16])])
def zc_Mo_opensSequence : List zC := [(0, .aload_n 0, 1, []), (1, .getfield 102, 3, [2, 10, 36]), (4, .iconst 1, 1, [1]), (5, .aload_n 0, 1, []), (6, .getfield 244, 3, [0, 10, 37]), (9, .iadd, 1, []), (10, .iconst 0, 1, [0]), (11, .bastore, 1, []), (12, .aload_n 0, 1, []), (13, .getfield 102, 3, [2, 10, 36]), (16, .bipush 11, 2, [11]), (18, .aload_n 0, 1, []), (19, .getfield 244, 3, [0, 10, 37]), (22, .iadd, 1, []), (23, .iconst 0, 1, [0]), (24, .bastore, 1, []), (25, .return_, 1, [])]
def zm_Mo_opensSequence : zMi := (1, 0, zc_Mo_opensSequence, [])
def zc_Mo_readBegin : List zC := [(0, .aload_n 0, 1, []), (1, .bipush 123, 2, [123]), (3, .invokevirtual 188, 3, [131, 2, 1, 11]), (6, .ifCond .eq 38, 3, [44]), (9, .aload_n 0, 1, []), (10, .invokevirtual 191, 3, [133, 1, 0, 11]), (13, .aload_n 0, 1, []), (14, .dup, 1, []), (15, .getfield 244, 3, [0, 10, 37]), (18, .aload_n 0, 1, []), (19, .getfield 139, 3, [0, 10, 18]), (22, .ifCond .ne 7, 3, [29]), (25, .iconst 1, 1, [1]), (26, .goto 4, 3, [30]), (29, .iconst 0, 1, [0]), (30, .invokestatic 194, 3, [122, 1, 1, 0]), (33, .iadd, 1, []), (34, .putfield 244, 3, [0, 10, 37]), (37, .aload_n 0, 1, []), (38, .invokevirtual 247, 3, [148, 1, 0, 11]), (41, .goto (-41), 3, [0]), (44, .aload_n 0, 1, []), (45, .iconst 0, 1, [0]), (46, .invokevirtual 250, 3, [139, 2, 0, 11]), (49, .aload_n 0, 1, []), (50, .getfield 139, 3, [0, 10, 18]), (53, .ifCond .ne 7, 3, [60]), (56, .aload_n 0, 1, []), (57, .invokevirtual 254, 3, [146, 1, 0, 11]), (60, .return_, 1, [])]
def zm_Mo_readBegin : zMi := (1, 0, zc_Mo_readBegin, [(0, [])])
def zc_Mo_readTimes : List zC := [(0, .aload_n 0, 1, []), (1, .bipush 42, 2, [42]), (3, .invokevirtual 188, 3, [131, 2, 1, 11]), (6, .ifCond .eq 40, 3, [46]), (9, .aload_n 0, 1, []), (10, .invokevirtual 177, 3, [130, 1, 0, 11]), (13, .aload_n 0, 1, []), (14, .iconst 0, 1, [0]), (15, .bipush 9, 2, [9]), (17, .invokevirtual 257, 3, [132, 3, 1, 11]), (20, .istore_n 1, 1, []), (21, .aload_n 0, 1, []), (22, .iconst 1, 1, [1]), (23, .iload_n 1, 1, []), (24, .invokestatic 233, 3, [124, 2, 1, 0]), (27, .bipush 9, 2, [9]), (29, .invokevirtual 257, 3, [132, 3, 1, 11]), (32, .istore_n 2, 1, []), (33, .aload_n 0, 1, []), (34, .getfield 139, 3, [0, 10, 18]), (37, .ifCond .ne 9, 3, [46]), (40, .aload_n 0, 1, []), (41, .iload_n 1, 1, []), (42, .iload_n 2, 1, []), (43, .invokevirtual 260, 3, [147, 3, 0, 11]), (46, .return_, 1, [])]
def zm_Mo_readTimes : zMi := (3, 0, zc_Mo_readTimes, [])
def zc_Mo_readEnds : List zC := [(0, .aload_n 0, 1, []), (1, .getfield 139, 3, [0, 10, 18]), (4, .ifCond .ne 7, 3, [11]), (7, .iconst 1, 1, [1]), (8, .goto 4, 3, [12]), (11, .iconst 0, 1, [0]), (12, .istore_n 1, 1, []), (13, .iload_n 1, 1, []), (14, .ifCond .eq 130, 3, [144]), (17, .aload_n 0, 1, []), (18, .invokevirtual 263, 3, [150, 1, 0, 11]), (21, .aload_n 0, 1, []), (22, .getfield 139, 3, [0, 10, 18]), (25, .ifCond .ne 7, 3, [32]), (28, .iconst 1, 1, [1]), (29, .goto 4, 3, [33]), (32, .iconst 0, 1, [0]), (33, .istore_n 1, 1, []), (34, .iload_n 1, 1, []), (35, .ifCond .eq (-22), 3, [13]), (38, .aload_n 0, 1, []), (39, .bipush 11, 2, [11]), (41, .aload_n 0, 1, []), (42, .getfield 244, 3, [0, 10, 37]), (45, .iadd, 1, []), (46, .iconst 0, 1, [0]), (47, .invokevirtual 266, 3, [144, 3, 0, 11]), (50, .aload_n 0, 1, []), (51, .getfield 244, 3, [0, 10, 37]), (54, .ifCond .le 16, 3, [70]), (57, .aload_n 0, 1, []), (58, .bipush 125, 2, [125]), (60, .invokevirtual 188, 3, [131, 2, 1, 11]), (63, .ifCond .eq 7, 3, [70]), (66, .iconst 1, 1, [1]), (67, .goto 4, 3, [71]), (70, .iconst 0, 1, [0]), (71, .istore_n 1, 1, []), (72, .iload_n 1, 1, []), (73, .ifCond .eq (-60), 3, [13]), (76, .aload_n 0, 1, []), (77, .iconst 1, 1, [1]), (78, .aload_n 0, 1, []), (79, .getfield 244, 3, [0, 10, 37]), (82, .iadd, 1, []), (83, .bipush 11, 2, [11]), (85, .aload_n 0, 1, []), (86, .getfield 244, 3, [0, 10, 37]), (89, .iadd, 1, []), (90, .invokevirtual 269, 3, [145, 3, 0, 11]), (93, .aload_n 0, 1, []), (94, .iconst 1, 1, [1]), (95, .aload_n 0, 1, []), (96, .getfield 244, 3, [0, 10, 37]), (99, .iadd, 1, []), (100, .iconst 0, 1, [0]), (101, .invokevirtual 222, 3, [141, 3, 0, 11]), (104, .aload_n 0, 1, []), (105, .dup, 1, []), (106, .getfield 244, 3, [0, 10, 37]), (109, .iconst 1, 1, [1]), (110, .isub, 1, []), (111, .putfield 244, 3, [0, 10, 37]), (114, .aload_n 0, 1, []), (115, .dup, 1, []), (116, .getfield 180, 3, [0, 10, 20]), (119, .iconst 1, 1, [1]), (120, .isub, 1, []), (121, .putfield 180, 3, [0, 10, 20]), (124, .aload_n 0, 1, []), (125, .invokevirtual 177, 3, [130, 1, 0, 11]), (128, .aload_n 0, 1, []), (129, .getfield 139, 3, [0, 10, 18]), (132, .ifCond .ne 7, 3, [139]), (135, .iconst 1, 1, [1]), (136, .goto 4, 3, [140]), (139, .iconst 0, 1, [0]), (140, .istore_n 1, 1, []), (141, .goto (-128), 3, [13]), (144, .return_, 1, [])]
def zm_Mo_readEnds : zMi := (2, 0, zc_Mo_readEnds, [(13, []), (33, [1]), (71, [1])])
def zc_Mo_readSequence : List zC := [(0, .aload_n 0, 1, []), (1, .iload_n 1, 1, []), (2, .putfield 214, 3, [0, 10, 38]), (5, .aload_n 0, 1, []), (6, .iconst 0, 1, [0]), (7, .putfield 244, 3, [0, 10, 37]), (10, .aload_n 0, 1, []), (11, .iconst 0, 1, [0]), (12, .putfield 236, 3, [3, 10, 39]), (15, .iconst 0, 1, [0]), (16, .istore_n 2, 1, []), (17, .iload_n 2, 1, []), (18, .bipush 45, 2, [45]), (20, .if_icmp .ge 21, 3, [41]), (23, .aload_n 0, 1, []), (24, .getfield 13, 3, [2, 10, 1]), (27, .bipush 45, 2, [45]), (29, .iload_n 1, 1, []), (30, .imul, 1, []), (31, .iload_n 2, 1, []), (32, .iadd, 1, []), (33, .iconst 0, 1, [0]), (34, .iastore, 1, []), (35, .iinc 2 1, 3, [1]), (38, .goto (-21), 3, [17]), (41, .iconst 0, 1, [0]), (42, .istore_n 2, 1, []), (43, .iload_n 2, 1, []), (44, .sipush 203, 3, [203]), (47, .if_icmp .ge 22, 3, [69]), (50, .aload_n 0, 1, []), (51, .getfield 20, 3, [2, 10, 3]), (54, .sipush 203, 3, [203]), (57, .iload_n 1, 1, []), (58, .imul, 1, []), (59, .iload_n 2, 1, []), (60, .iadd, 1, []), (61, .lconst 0, 1, [0]), (62, .lastore, 1, []), (63, .iinc 2 1, 3, [1]), (66, .goto (-23), 3, [43]), (69, .aload_n 0, 1, []), (70, .invokevirtual 247, 3, [148, 1, 0, 11]), (73, .aload_n 0, 1, []), (74, .getfield 139, 3, [0, 10, 18]), (77, .ifCond .ne 7, 3, [84]), (80, .iconst 1, 1, [1]), (81, .goto 4, 3, [85]), (84, .iconst 0, 1, [0]), (85, .istore_n 2, 1, []), (86, .iload_n 2, 1, []), (87, .ifCond .eq 98, 3, [185]), (90, .aload_n 0, 1, []), (91, .invokevirtual 272, 3, [149, 1, 0, 11]), (94, .aload_n 0, 1, []), (95, .invokevirtual 275, 3, [151, 1, 0, 11]), (98, .aload_n 0, 1, []), (99, .bipush 44, 2, [44]), (101, .invokevirtual 188, 3, [131, 2, 1, 11]), (104, .ifCond .ne 12, 3, [116]), (107, .aload_n 0, 1, []), (108, .bipush 47, 2, [47]), (110, .invokevirtual 188, 3, [131, 2, 1, 11]), (113, .ifCond .eq 7, 3, [120]), (116, .iconst 1, 1, [1]), (117, .goto 4, 3, [121]), (120, .iconst 0, 1, [0]), (121, .istore_n 2, 1, []), (122, .iload_n 2, 1, []), (123, .ifCond .eq (-37), 3, [86]), (126, .aload_n 0, 1, []), (127, .bipush 47, 2, [47]), (129, .invokevirtual 188, 3, [131, 2, 1, 11]), (132, .ifCond .eq 33, 3, [165]), (135, .aload_n 0, 1, []), (136, .iconst 1, 1, [1]), (137, .aload_n 0, 1, []), (138, .getfield 244, 3, [0, 10, 37]), (141, .iadd, 1, []), (142, .bipush 11, 2, [11]), (144, .aload_n 0, 1, []), (145, .getfield 244, 3, [0, 10, 37]), (148, .iadd, 1, []), (149, .invokevirtual 269, 3, [145, 3, 0, 11]), (152, .aload_n 0, 1, []), (153, .getfield 102, 3, [2, 10, 36]), (156, .bipush 11, 2, [11]), (158, .aload_n 0, 1, []), (159, .getfield 244, 3, [0, 10, 37]), (162, .iadd, 1, []), (163, .iconst 0, 1, [0]), (164, .bastore, 1, []), (165, .aload_n 0, 1, []), (166, .invokevirtual 177, 3, [130, 1, 0, 11]), (169, .aload_n 0, 1, []), (170, .getfield 139, 3, [0, 10, 18]), (173, .ifCond .ne 7, 3, [180]), (176, .iconst 1, 1, [1]), (177, .goto 4, 3, [181]), (180, .iconst 0, 1, [0]), (181, .istore_n 2, 1, []), (182, .goto (-96), 3, [86]), (185, .aload_n 0, 1, []), (186, .getfield 139, 3, [0, 10, 18]), (189, .ifCond .ne 20, 3, [209]), (192, .aload_n 0, 1, []), (193, .aload_n 0, 1, []), (194, .getfield 244, 3, [0, 10, 37]), (197, .ifCond .ne 7, 3, [204]), (200, .iconst 1, 1, [1]), (201, .goto 4, 3, [205]), (204, .iconst 0, 1, [0]), (205, .iconst 2, 1, [2]), (206, .invokevirtual 165, 3, [127, 3, 0, 11]), (209, .aload_n 0, 1, []), (210, .getfield 139, 3, [0, 10, 18]), (213, .ifCond .ne 15, 3, [228]), (216, .aload_n 0, 1, []), (217, .iconst 1, 1, [1]), (218, .bipush 11, 2, [11]), (220, .invokevirtual 269, 3, [145, 3, 0, 11]), (223, .aload_n 0, 1, []), (224, .iload_n 1, 1, []), (225, .invokevirtual 278, 3, [154, 2, 0, 11]), (228, .return_, 1, [])]
def zm_Mo_readSequence : zMi := (3, 0, zc_Mo_readSequence, [(17, []), (43, []), (86, []), (121, [2])])
def zc_Mo_isFulfillable : List zC := [(0, .iconst 0, 1, [0]), (1, .istore_n 3, 1, []), (2, .sipush 203, 3, [203]), (5, .iload_n 1, 1, []), (6, .imul, 1, []), (7, .bipush 43, 2, [43]), (9, .iadd, 1, []), (10, .iconst 4, 1, [4]), (11, .aload_n 0, 1, []), (12, .getfield 13, 3, [2, 10, 1]), (15, .bipush 45, 2, [45]), (17, .iload_n 1, 1, []), (18, .imul, 1, []), (19, .iconst 5, 1, [5]), (20, .iadd, 1, []), (21, .iload_n 2, 1, []), (22, .iadd, 1, []), (23, .iaload, 1, []), (24, .imul, 1, []), (25, .iadd, 1, []), (26, .istore 4, 2, []), (28, .iconst 0, 1, [0]), (29, .istore 5, 2, []), (31, .iload 5, 2, []), (33, .iconst 4, 1, [4]), (34, .if_icmp .ge 34, 3, [68]), (37, .iload_n 3, 1, []), (38, .ifCond .ne 18, 3, [56]), (41, .aload_n 0, 1, []), (42, .getfield 20, 3, [2, 10, 3]), (45, .iload 4, 2, []), (47, .iload 5, 2, []), (49, .iadd, 1, []), (50, .laload, 1, []), (51, .lconst 0, 1, [0]), (52, .lcmp, 1, []), (53, .ifCond .eq 7, 3, [60]), (56, .iconst 1, 1, [1]), (57, .goto 4, 3, [61]), (60, .iconst 0, 1, [0]), (61, .istore_n 3, 1, []), (62, .iinc 5 1, 3, [1]), (65, .goto (-34), 3, [31]), (68, .iload_n 3, 1, []), (69, .ireturn, 1, [])]
def zm_Mo_isFulfillable : zMi := (6, 2, zc_Mo_isFulfillable, [(31, [1, 2])])
def zc_Mo_ends : List zC := [(0, .sipush 203, 3, [203]), (3, .iload_n 1, 1, []), (4, .imul, 1, []), (5, .istore_n 2, 1, []), (6, .aload_n 0, 1, []), (7, .getfield 20, 3, [2, 10, 3]), (10, .iload_n 2, 1, []), (11, .iconst 0, 1, [0]), (12, .iadd, 1, []), (13, .aload_n 0, 1, []), (14, .getfield 84, 3, [2, 10, 30]), (17, .iconst 1, 1, [1]), (18, .laload, 1, []), (19, .lastore, 1, []), (20, .aload_n 0, 1, []), (21, .getfield 20, 3, [2, 10, 3]), (24, .iload_n 2, 1, []), (25, .iconst 1, 1, [1]), (26, .iadd, 1, []), (27, .aload_n 0, 1, []), (28, .getfield 87, 3, [2, 10, 31]), (31, .iconst 1, 1, [1]), (32, .laload, 1, []), (33, .lastore, 1, []), (34, .aload_n 0, 1, []), (35, .getfield 13, 3, [2, 10, 1]), (38, .bipush 45, 2, [45]), (40, .iload_n 1, 1, []), (41, .imul, 1, []), (42, .iconst 2, 1, [2]), (43, .iadd, 1, []), (44, .aload_n 0, 1, []), (45, .getfield 93, 3, [2, 10, 33]), (48, .iconst 1, 1, [1]), (49, .iaload, 1, []), (50, .iastore, 1, []), (51, .aload_n 0, 1, []), (52, .getfield 13, 3, [2, 10, 1]), (55, .bipush 45, 2, [45]), (57, .iload_n 1, 1, []), (58, .imul, 1, []), (59, .iconst 3, 1, [3]), (60, .iadd, 1, []), (61, .aload_n 0, 1, []), (62, .getfield 96, 3, [2, 10, 34]), (65, .iconst 1, 1, [1]), (66, .iaload, 1, []), (67, .iastore, 1, []), (68, .aload_n 0, 1, []), (69, .getfield 13, 3, [2, 10, 1]), (72, .bipush 45, 2, [45]), (74, .iload_n 1, 1, []), (75, .imul, 1, []), (76, .iconst 4, 1, [4]), (77, .iadd, 1, []), (78, .aload_n 0, 1, []), (79, .getfield 99, 3, [2, 10, 35]), (82, .iconst 1, 1, [1]), (83, .iaload, 1, []), (84, .iastore, 1, []), (85, .lconst 0, 1, [0]), (86, .lstore_n 3, 1, []), (87, .iconst 0, 1, [0]), (88, .istore 5, 2, []), (90, .iload 5, 2, []), (92, .bipush 40, 2, [40]), (94, .if_icmp .ge 101, 3, [195]), (97, .aload_n 0, 1, []), (98, .getfield 236, 3, [0, 10, 39]), (101, .ifCond .ne 94, 3, [195]), (104, .iconst 0, 1, [0]), (105, .istore 6, 2, []), (107, .iload 6, 2, []), (109, .aload_n 0, 1, []), (110, .invokevirtual 240, 3, [140, 1, 1, 11]), (113, .if_icmp .ge 76, 3, [189]), (116, .aload_n 0, 1, []), (117, .iload_n 1, 1, []), (118, .iload 6, 2, []), (120, .invokevirtual 281, 3, [153, 3, 1, 11]), (123, .ifCond .eq 41, 3, [164]), (126, .aload_n 0, 1, []), (127, .getfield 87, 3, [2, 10, 31]), (130, .iconst 1, 1, [1]), (131, .laload, 1, []), (132, .iload 6, 2, []), (134, .lshr, 1, []), (135, .lconst 1, 1, [1]), (136, .land, 1, []), (137, .lconst 1, 1, [1]), (138, .lcmp, 1, []), (139, .ifCond .eq 21, 3, [160]), (142, .aload_n 0, 1, []), (143, .getfield 20, 3, [2, 10, 3]), (146, .iload_n 2, 1, []), (147, .iconst 3, 1, [3]), (148, .iadd, 1, []), (149, .iload 6, 2, []), (151, .iadd, 1, []), (152, .laload, 1, []), (153, .lload_n 3, 1, []), (154, .land, 1, []), (155, .lconst 0, 1, [0]), (156, .lcmp, 1, []), (157, .ifCond .eq 7, 3, [164]), (160, .iconst 1, 1, [1]), (161, .goto 4, 3, [165]), (164, .iconst 0, 1, [0]), (165, .istore 7, 2, []), (167, .lload_n 3, 1, []), (168, .iload 7, 2, []), (170, .ifCond .eq 10, 3, [180]), (173, .lconst 1, 1, [1]), (174, .iload 6, 2, []), (176, .lshl, 1, []), (177, .goto 4, 3, [181]), (180, .lconst 0, 1, [0]), (181, .lor, 1, []), (182, .lstore_n 3, 1, []), (183, .iinc 6 1, 3, [1]), (186, .goto (-79), 3, [107]), (189, .iinc 5 1, 3, [1]), (192, .goto (-102), 3, [90]), (195, .aload_n 0, 1, []), (196, .getfield 20, 3, [2, 10, 3]), (199, .iload_n 2, 1, []), (200, .iconst 2, 1, [2]), (201, .iadd, 1, []), (202, .lload_n 3, 1, []), (203, .lastore, 1, []), (204, .return_, 1, [])]
def zm_Mo_ends : zMi := (8, 0, zc_Mo_ends, [(90, [4, 6, 7]), (107, [4, 7])])
def zc_Mo_isBegin : List zC := [(0, .aload_n 0, 1, []), (1, .getfield 139, 3, [0, 10, 18]), (4, .ifCond .ne 42, 3, [46]), (7, .aload_n 0, 1, []), (8, .getfield 155, 3, [0, 10, 16]), (11, .iconst 1, 1, [1]), (12, .if_icmp .eq 30, 3, [42]), (15, .aload_n 0, 1, []), (16, .bipush 33, 2, [33]), (18, .invokevirtual 188, 3, [131, 2, 1, 11]), (21, .ifCond .ne 21, 3, [42]), (24, .aload_n 0, 1, []), (25, .bipush 40, 2, [40]), (27, .invokevirtual 188, 3, [131, 2, 1, 11]), (30, .ifCond .ne 12, 3, [42]), (33, .aload_n 0, 1, []), (34, .bipush 123, 2, [123]), (36, .invokevirtual 188, 3, [131, 2, 1, 11]), (39, .ifCond .eq 7, 3, [46]), (42, .iconst 1, 1, [1]), (43, .goto 4, 3, [47]), (46, .iconst 0, 1, [0]), (47, .ireturn, 1, [])]
def zm_Mo_isBegin : zMi := (1, 2, zc_Mo_isBegin, [])
def zc_Mo_readPromise : List zC := [(0, .aload_n 0, 1, []), (1, .aload_n 0, 1, []), (2, .invokevirtual 285, 3, [155, 1, 1, 11]), (5, .iconst 2, 1, [2]), (6, .invokevirtual 165, 3, [127, 3, 0, 11]), (9, .aload_n 0, 1, []), (10, .iload_n 1, 1, []), (11, .iconst 4, 1, [4]), (12, .if_icmp .ge 7, 3, [19]), (15, .iconst 1, 1, [1]), (16, .goto 4, 3, [20]), (19, .iconst 0, 1, [0]), (20, .iconst 4, 1, [4]), (21, .invokevirtual 165, 3, [127, 3, 0, 11]), (24, .iload_n 1, 1, []), (25, .iconst 4, 1, [4]), (26, .if_icmp .ge 7, 3, [33]), (29, .iload_n 1, 1, []), (30, .goto 4, 3, [34]), (33, .iconst 0, 1, [0]), (34, .istore_n 2, 1, []), (35, .aload_n 0, 1, []), (36, .iconst 0, 1, [0]), (37, .putfield 180, 3, [0, 10, 20]), (40, .aload_n 0, 1, []), (41, .getfield 139, 3, [0, 10, 18]), (44, .ifCond .le 4, 3, [48]), (47, .return_, 1, []), (48, .aload_n 0, 1, []), (49, .iconst 2, 1, [2]), (50, .iload_n 2, 1, []), (51, .imul, 1, []), (52, .invokevirtual 289, 3, [152, 2, 0, 11]), (55, .aload_n 0, 1, []), (56, .getfield 90, 3, [2, 10, 32]), (59, .iconst 1, 1, [1]), (60, .baload, 1, []), (61, .istore_n 3, 1, []), (62, .aload_n 0, 1, []), (63, .getfield 26, 3, [2, 10, 5]), (66, .iconst 2, 1, [2]), (67, .iload_n 2, 1, []), (68, .imul, 1, []), (69, .aload_n 0, 1, []), (70, .bipush 62, 2, [62]), (72, .invokevirtual 188, 3, [131, 2, 1, 11]), (75, .invokestatic 194, 3, [122, 1, 1, 0]), (78, .iastore, 1, []), (79, .aload_n 0, 1, []), (80, .getfield 139, 3, [0, 10, 18]), (83, .ifCond .ne 31, 3, [114]), (86, .aload_n 0, 1, []), (87, .aload_n 0, 1, []), (88, .bipush 61, 2, [61]), (90, .invokevirtual 188, 3, [131, 2, 1, 11]), (93, .ifCond .ne 12, 3, [105]), (96, .aload_n 0, 1, []), (97, .bipush 62, 2, [62]), (99, .invokevirtual 188, 3, [131, 2, 1, 11]), (102, .ifCond .eq 7, 3, [109]), (105, .iconst 1, 1, [1]), (106, .goto 4, 3, [110]), (109, .iconst 0, 1, [0]), (110, .iconst 2, 1, [2]), (111, .invokevirtual 165, 3, [127, 3, 0, 11]), (114, .aload_n 0, 1, []), (115, .invokevirtual 177, 3, [130, 1, 0, 11]), (118, .aload_n 0, 1, []), (119, .iconst 2, 1, [2]), (120, .iload_n 2, 1, []), (121, .imul, 1, []), (122, .iconst 1, 1, [1]), (123, .iadd, 1, []), (124, .invokevirtual 289, 3, [152, 2, 0, 11]), (127, .aload_n 0, 1, []), (128, .getfield 90, 3, [2, 10, 32]), (131, .iconst 1, 1, [1]), (132, .baload, 1, []), (133, .istore 4, 2, []), (135, .aload_n 0, 1, []), (136, .getfield 26, 3, [2, 10, 5]), (139, .iconst 2, 1, [2]), (140, .iload_n 2, 1, []), (141, .imul, 1, []), (142, .iconst 1, 1, [1]), (143, .iadd, 1, []), (144, .aload_n 0, 1, []), (145, .bipush 126, 2, [126]), (147, .invokevirtual 188, 3, [131, 2, 1, 11]), (150, .invokestatic 194, 3, [122, 1, 1, 0]), (153, .iastore, 1, []), (154, .aload_n 0, 1, []), (155, .bipush 126, 2, [126]), (157, .invokevirtual 188, 3, [131, 2, 1, 11]), (160, .ifCond .eq 45, 3, [205]), (163, .aload_n 0, 1, []), (164, .invokevirtual 177, 3, [130, 1, 0, 11]), (167, .aload_n 0, 1, []), (168, .iconst 1, 1, [1]), (169, .invokevirtual 250, 3, [139, 2, 0, 11]), (172, .iconst 0, 1, [0]), (173, .istore 5, 2, []), (175, .iload 5, 2, []), (177, .iconst 4, 1, [4]), (178, .if_icmp .ge 27, 3, [205]), (181, .aload_n 0, 1, []), (182, .getfield 32, 3, [2, 10, 7]), (185, .iconst 4, 1, [4]), (186, .iload_n 2, 1, []), (187, .imul, 1, []), (188, .iload 5, 2, []), (190, .iadd, 1, []), (191, .aload_n 0, 1, []), (192, .getfield 63, 3, [2, 10, 26]), (195, .iload 5, 2, []), (197, .laload, 1, []), (198, .lastore, 1, []), (199, .iinc 5 1, 3, [1]), (202, .goto (-27), 3, [175]), (205, .aload_n 0, 1, []), (206, .getfield 139, 3, [0, 10, 18]), (209, .ifCond .ne 80, 3, [289]), (212, .aload_n 0, 1, []), (213, .aload_n 0, 1, []), (214, .bipush 59, 2, [59]), (216, .invokevirtual 188, 3, [131, 2, 1, 11]), (219, .iconst 2, 1, [2]), (220, .invokevirtual 165, 3, [127, 3, 0, 11]), (223, .aload_n 0, 1, []), (224, .iload_n 3, 1, []), (225, .ifCond .ne 12, 3, [237]), (228, .iload 4, 2, []), (230, .ifCond .ne 7, 3, [237]), (233, .iconst 1, 1, [1]), (234, .goto 4, 3, [238]), (237, .iconst 0, 1, [0]), (238, .iconst 5, 1, [5]), (239, .invokevirtual 165, 3, [127, 3, 0, 11]), (242, .aload_n 0, 1, []), (243, .aload_n 0, 1, []), (244, .getfield 13, 3, [2, 10, 1]), (247, .bipush 90, 2, [90]), (249, .iload_n 2, 1, []), (250, .imul, 1, []), (251, .iconst 2, 1, [2]), (252, .iadd, 1, []), (253, .iaload, 1, []), (254, .bipush 40, 2, [40]), (256, .if_icmp .gt 27, 3, [283]), (259, .aload_n 0, 1, []), (260, .getfield 13, 3, [2, 10, 1]), (263, .bipush 45, 2, [45]), (265, .iconst 2, 1, [2]), (266, .iload_n 2, 1, []), (267, .imul, 1, []), (268, .iconst 1, 1, [1]), (269, .iadd, 1, []), (270, .imul, 1, []), (271, .iconst 2, 1, [2]), (272, .iadd, 1, []), (273, .iaload, 1, []), (274, .bipush 40, 2, [40]), (276, .if_icmp .gt 7, 3, [283]), (279, .iconst 1, 1, [1]), (280, .goto 4, 3, [284]), (283, .iconst 0, 1, [0]), (284, .bipush 6, 2, [6]), (286, .invokevirtual 165, 3, [127, 3, 0, 11]), (289, .aload_n 0, 1, []), (290, .invokevirtual 177, 3, [130, 1, 0, 11]), (293, .return_, 1, [])]
def zm_Mo_readPromise : zMi := (6, 0, zc_Mo_readPromise, [(34, [1, 2, 3, 4, 5]), (114, [1, 4, 5]), (175, [1]), (238, [1, 3, 4, 5])])
def zc_Mo_text : List zC := [(0, .aload_n 0, 1, []), (1, .iconst 0, 1, [0]), (2, .putfield 139, 3, [0, 10, 18]), (5, .aload_n 0, 1, []), (6, .iconst 0, 1, [0]), (7, .putfield 148, 3, [0, 10, 14]), (10, .iconst 0, 1, [0]), (11, .istore_n 1, 1, []), (12, .aload_n 0, 1, []), (13, .invokevirtual 177, 3, [130, 1, 0, 11]), (16, .aload_n 0, 1, []), (17, .getfield 139, 3, [0, 10, 18]), (20, .ifCond .ne 21, 3, [41]), (23, .aload_n 0, 1, []), (24, .getfield 155, 3, [0, 10, 16]), (27, .ifCond .eq 14, 3, [41]), (30, .aload_n 0, 1, []), (31, .iload_n 1, 1, []), (32, .invokevirtual 292, 3, [156, 2, 0, 11]), (35, .iinc 1 1, 3, [1]), (38, .goto (-22), 3, [16]), (41, .aload_n 0, 1, []), (42, .iconst 0, 1, [0]), (43, .putfield 135, 3, [0, 10, 13]), (46, .aload_n 0, 1, []), (47, .getfield 139, 3, [0, 10, 18]), (50, .ifCond .le 11, 3, [61]), (53, .bipush (-10), 2, [10, 1]), (55, .aload_n 0, 1, []), (56, .getfield 145, 3, [0, 10, 19]), (59, .isub, 1, []), (60, .ireturn, 1, []), (61, .aload_n 0, 1, []), (62, .iload_n 1, 1, []), (63, .putfield 295, 3, [0, 10, 8]), (66, .iconst 0, 1, [0]), (67, .istore_n 2, 1, []), (68, .iload_n 2, 1, []), (69, .sipush 360, 3, [360]), (72, .if_icmp .ge 21, 3, [93]), (75, .aload_n 0, 1, []), (76, .getfield 7, 3, [2, 10, 0]), (79, .iload_n 2, 1, []), (80, .aload_n 0, 1, []), (81, .getfield 13, 3, [2, 10, 1]), (84, .iload_n 2, 1, []), (85, .iaload, 1, []), (86, .iastore, 1, []), (87, .iinc 2 1, 3, [1]), (90, .goto (-22), 3, [68]), (93, .iconst 0, 1, [0]), (94, .istore_n 2, 1, []), (95, .iload_n 2, 1, []), (96, .sipush 1624, 3, [1624]), (99, .if_icmp .ge 21, 3, [120]), (102, .aload_n 0, 1, []), (103, .getfield 16, 3, [2, 10, 2]), (106, .iload_n 2, 1, []), (107, .aload_n 0, 1, []), (108, .getfield 20, 3, [2, 10, 3]), (111, .iload_n 2, 1, []), (112, .laload, 1, []), (113, .lastore, 1, []), (114, .iinc 2 1, 3, [1]), (117, .goto (-22), 3, [95]), (120, .iconst 0, 1, [0]), (121, .istore_n 2, 1, []), (122, .iload_n 2, 1, []), (123, .bipush 8, 2, [8]), (125, .if_icmp .ge 21, 3, [146]), (128, .aload_n 0, 1, []), (129, .getfield 23, 3, [2, 10, 4]), (132, .iload_n 2, 1, []), (133, .aload_n 0, 1, []), (134, .getfield 26, 3, [2, 10, 5]), (137, .iload_n 2, 1, []), (138, .iaload, 1, []), (139, .iastore, 1, []), (140, .iinc 2 1, 3, [1]), (143, .goto (-21), 3, [122]), (146, .iconst 0, 1, [0]), (147, .istore_n 2, 1, []), (148, .iload_n 2, 1, []), (149, .bipush 16, 2, [16]), (151, .if_icmp .ge 21, 3, [172]), (154, .aload_n 0, 1, []), (155, .getfield 29, 3, [2, 10, 6]), (158, .iload_n 2, 1, []), (159, .aload_n 0, 1, []), (160, .getfield 32, 3, [2, 10, 7]), (163, .iload_n 2, 1, []), (164, .laload, 1, []), (165, .lastore, 1, []), (166, .iinc 2 1, 3, [1]), (169, .goto (-21), 3, [148]), (172, .aload_n 0, 1, []), (173, .getfield 41, 3, [2, 10, 11]), (176, .iconst 0, 1, [0]), (177, .iconst 0, 1, [0]), (178, .bastore, 1, []), (179, .aload_n 0, 1, []), (180, .getfield 41, 3, [2, 10, 11]), (183, .iconst 1, 1, [1]), (184, .iconst 0, 1, [0]), (185, .bastore, 1, []), (186, .iload_n 1, 1, []), (187, .ireturn, 1, [])]
def zm_Mo_text : zMi := (3, 1, zc_Mo_text, [(16, [2]), (68, []), (95, []), (122, []), (148, [])])
def zc_Mo_fault : List zC := [(0, .aload_n 0, 1, []), (1, .getfield 139, 3, [0, 10, 18]), (4, .ireturn, 1, [])]
def zm_Mo_fault : zMi := (1, 1, zc_Mo_fault, [])
def zc_Mo_isPromise : List zC := [(0, .iload_n 1, 1, []), (1, .i2l, 1, []), (2, .lconst 0, 1, [0]), (3, .aload_n 0, 1, []), (4, .getfield 295, 3, [0, 10, 8]), (7, .iconst 1, 1, [1]), (8, .isub, 1, []), (9, .i2l, 1, []), (10, .invokestatic 131, 3, [121, 3, 1, 0]), (13, .ireturn, 1, [])]
def zm_Mo_isPromise : zMi := (2, 2, zc_Mo_isPromise, [])
def zc_Mo_isSide : List zC := [(0, .iload_n 0, 1, []), (1, .i2l, 1, []), (2, .lconst 0, 1, [0]), (3, .lconst 1, 1, [1]), (4, .invokestatic 131, 3, [121, 3, 1, 0]), (7, .ireturn, 1, [])]
def zm_Mo_isSide : zMi := (1, 2, zc_Mo_isSide, [])
def zc_Mo_areBits : List zC := [(0, .iload_n 0, 1, []), (1, .i2l, 1, []), (2, .lconst 0, 1, [0]), (3, .ldc2_w 298, 3, [255]), (6, .invokestatic 131, 3, [121, 3, 1, 0]), (9, .ireturn, 1, [])]
def zm_Mo_areBits : zMi := (1, 2, zc_Mo_areBits, [])
def zc_Mo_fulfilsOne : List zC := [(0, .aload_n 0, 1, []), (1, .getfield 16, 3, [2, 10, 2]), (4, .sipush 203, 3, [203]), (7, .iload_n 1, 1, []), (8, .imul, 1, []), (9, .bipush 43, 2, [43]), (11, .iadd, 1, []), (12, .iconst 4, 1, [4]), (13, .iload_n 2, 1, []), (14, .imul, 1, []), (15, .iadd, 1, []), (16, .iload_n 3, 1, []), (17, .bipush 64, 2, [64]), (19, .idiv, 1, []), (20, .iadd, 1, []), (21, .laload, 1, []), (22, .iload_n 3, 1, []), (23, .bipush 64, 2, [64]), (25, .irem, 1, []), (26, .lshr, 1, []), (27, .lconst 1, 1, [1]), (28, .land, 1, []), (29, .lconst 1, 1, [1]), (30, .lcmp, 1, []), (31, .ifCond .ne 7, 3, [38]), (34, .iconst 1, 1, [1]), (35, .goto 4, 3, [39]), (38, .iconst 0, 1, [0]), (39, .ireturn, 1, [])]
def zm_Mo_fulfilsOne : zMi := (4, 2, zc_Mo_fulfilsOne, [])
def zc_Mo_fulfilsOff : List zC := [(0, .aload_n 0, 1, []), (1, .getfield 23, 3, [2, 10, 4]), (4, .iconst 2, 1, [2]), (5, .iload_n 1, 1, []), (6, .imul, 1, []), (7, .iconst 1, 1, [1]), (8, .iadd, 1, []), (9, .iaload, 1, []), (10, .iconst 1, 1, [1]), (11, .if_icmp .ne 32, 3, [43]), (14, .aload_n 0, 1, []), (15, .getfield 29, 3, [2, 10, 6]), (18, .iconst 4, 1, [4]), (19, .iload_n 1, 1, []), (20, .imul, 1, []), (21, .iload_n 2, 1, []), (22, .bipush 64, 2, [64]), (24, .idiv, 1, []), (25, .iadd, 1, []), (26, .laload, 1, []), (27, .iload_n 2, 1, []), (28, .bipush 64, 2, [64]), (30, .irem, 1, []), (31, .lshr, 1, []), (32, .lconst 1, 1, [1]), (33, .land, 1, []), (34, .lconst 1, 1, [1]), (35, .lcmp, 1, []), (36, .ifCond .ne 7, 3, [43]), (39, .iconst 1, 1, [1]), (40, .goto 4, 3, [44]), (43, .iconst 0, 1, [0]), (44, .ireturn, 1, [])]
def zm_Mo_fulfilsOff : zMi := (3, 2, zc_Mo_fulfilsOff, [])
def zc_Mo_findsFulfilling : List zC := [(0, .iconst 0, 1, [0]), (1, .istore_n 2, 1, []), (2, .iload_n 2, 1, []), (3, .iconst 2, 1, [2]), (4, .if_icmp .ge 121, 3, [125]), (7, .iconst 2, 1, [2]), (8, .iload_n 1, 1, []), (9, .imul, 1, []), (10, .iload_n 2, 1, []), (11, .iadd, 1, []), (12, .istore_n 3, 1, []), (13, .iconst 0, 1, [0]), (14, .istore 4, 2, []), (16, .iload 4, 2, []), (18, .aload_n 0, 1, []), (19, .getfield 35, 3, [2, 10, 9]), (22, .iconst 0, 1, [0]), (23, .iaload, 1, []), (24, .if_icmp .ge 95, 3, [119]), (27, .lconst 0, 1, [0]), (28, .lstore 5, 2, []), (30, .iconst 0, 1, [0]), (31, .istore 7, 2, []), (33, .iload 7, 2, []), (35, .aload_n 0, 1, []), (36, .getfield 7, 3, [2, 10, 0]), (39, .bipush 45, 2, [45]), (41, .iload_n 3, 1, []), (42, .imul, 1, []), (43, .iconst 0, 1, [0]), (44, .iadd, 1, []), (45, .iaload, 1, []), (46, .if_icmp .ge 53, 3, [99]), (49, .lload 5, 2, []), (51, .aload_n 0, 1, []), (52, .iload_n 3, 1, []), (53, .aload_n 0, 1, []), (54, .getfield 7, 3, [2, 10, 0]), (57, .bipush 45, 2, [45]), (59, .iload_n 3, 1, []), (60, .imul, 1, []), (61, .iconst 5, 1, [5]), (62, .iadd, 1, []), (63, .iload 7, 2, []), (65, .iadd, 1, []), (66, .iaload, 1, []), (67, .aload_n 0, 1, []), (68, .getfield 35, 3, [2, 10, 9]), (71, .iconst 1, 1, [1]), (72, .iload 4, 2, []), (74, .iadd, 1, []), (75, .iaload, 1, []), (76, .invokevirtual 300, 3, [162, 4, 1, 11]), (79, .ifCond .eq 10, 3, [89]), (82, .lconst 1, 1, [1]), (83, .iload 7, 2, []), (85, .lshl, 1, []), (86, .goto 4, 3, [90]), (89, .lconst 0, 1, [0]), (90, .lor, 1, []), (91, .lstore 5, 2, []), (93, .iinc 7 1, 3, [1]), (96, .goto (-63), 3, [33]), (99, .aload_n 0, 1, []), (100, .getfield 105, 3, [2, 10, 40]), (103, .bipush 48, 2, [48]), (105, .iload_n 2, 1, []), (106, .imul, 1, []), (107, .iload 4, 2, []), (109, .iadd, 1, []), (110, .lload 5, 2, []), (112, .lastore, 1, []), (113, .iinc 4 1, 3, [1]), (116, .goto (-100), 3, [16]), (119, .iinc 2 1, 3, [1]), (122, .goto (-120), 3, [2]), (125, .return_, 1, [])]
def zm_Mo_findsFulfilling : zMi := (8, 0, zc_Mo_findsFulfilling, [(2, [3, 4, 5, 6, 7]), (16, [5, 6, 7]), (33, [6])])
def zc_Mo_nextOf : List zC := [(0, .lconst 0, 1, [0]), (1, .lstore 4, 2, []), (3, .iconst 0, 1, [0]), (4, .istore 6, 2, []), (6, .iload 6, 2, []), (8, .aload_n 0, 1, []), (9, .getfield 7, 3, [2, 10, 0]), (12, .bipush 45, 2, [45]), (14, .iload_n 1, 1, []), (15, .imul, 1, []), (16, .iconst 0, 1, [0]), (17, .iadd, 1, []), (18, .iaload, 1, []), (19, .if_icmp .ge 44, 3, [63]), (22, .lload 4, 2, []), (24, .lload_n 2, 1, []), (25, .iload 6, 2, []), (27, .lshr, 1, []), (28, .lconst 1, 1, [1]), (29, .land, 1, []), (30, .lconst 1, 1, [1]), (31, .lcmp, 1, []), (32, .ifCond .ne 21, 3, [53]), (35, .aload_n 0, 1, []), (36, .getfield 16, 3, [2, 10, 2]), (39, .sipush 203, 3, [203]), (42, .iload_n 1, 1, []), (43, .imul, 1, []), (44, .iconst 3, 1, [3]), (45, .iadd, 1, []), (46, .iload 6, 2, []), (48, .iadd, 1, []), (49, .laload, 1, []), (50, .goto 4, 3, [54]), (53, .lconst 0, 1, [0]), (54, .lor, 1, []), (55, .lstore 4, 2, []), (57, .iinc 6 1, 3, [1]), (60, .goto (-54), 3, [6]), (63, .lload 4, 2, []), (65, .lreturn, 1, [])]
def zm_Mo_nextOf : zMi := (7, 3, zc_Mo_nextOf, [(6, [3, 5])])
def zc_Mo_firstOf : List zC := [(0, .aload_n 0, 1, []), (1, .getfield 16, 3, [2, 10, 2]), (4, .sipush 203, 3, [203]), (7, .iload_n 1, 1, []), (8, .imul, 1, []), (9, .iconst 0, 1, [0]), (10, .iadd, 1, []), (11, .laload, 1, []), (12, .lreturn, 1, [])]
def zm_Mo_firstOf : zMi := (2, 3, zc_Mo_firstOf, [])
def zc_Mo_isEnd : List zC := [(0, .lload_n 2, 1, []), (1, .aload_n 0, 1, []), (2, .getfield 16, 3, [2, 10, 2]), (5, .sipush 203, 3, [203]), (8, .iload_n 1, 1, []), (9, .imul, 1, []), (10, .iconst 1, 1, [1]), (11, .iadd, 1, []), (12, .laload, 1, []), (13, .land, 1, []), (14, .lconst 0, 1, [0]), (15, .lcmp, 1, []), (16, .ifCond .eq 7, 3, [23]), (19, .iconst 1, 1, [1]), (20, .goto 4, 3, [24]), (23, .iconst 0, 1, [0]), (24, .ireturn, 1, [])]
def zm_Mo_isEnd : zMi := (4, 2, zc_Mo_isEnd, [])
def zc_Mo_canEnd : List zC := [(0, .lload_n 2, 1, []), (1, .aload_n 0, 1, []), (2, .getfield 16, 3, [2, 10, 2]), (5, .sipush 203, 3, [203]), (8, .iload_n 1, 1, []), (9, .imul, 1, []), (10, .iconst 2, 1, [2]), (11, .iadd, 1, []), (12, .laload, 1, []), (13, .land, 1, []), (14, .lconst 0, 1, [0]), (15, .lcmp, 1, []), (16, .ifCond .eq 7, 3, [23]), (19, .iconst 1, 1, [1]), (20, .goto 4, 3, [24]), (23, .iconst 0, 1, [0]), (24, .ireturn, 1, [])]
def zm_Mo_canEnd : zMi := (4, 2, zc_Mo_canEnd, [])
def zc_Mo_isConditionAsked : List zC := [(0, .aload_n 0, 1, []), (1, .iload_n 1, 1, []), (2, .invokevirtual 304, 3, [159, 2, 1, 11]), (5, .ifCond .eq 15, 3, [20]), (8, .iload_n 2, 1, []), (9, .i2l, 1, []), (10, .lconst 0, 1, [0]), (11, .ldc2_w 307, 3, [2]), (14, .invokestatic 131, 3, [121, 3, 1, 0]), (17, .ifCond .ne 5, 3, [22]), (20, .iconst 0, 1, [0]), (21, .ireturn, 1, []), (22, .iload_n 2, 1, []), (23, .iconst 2, 1, [2]), (24, .if_icmp .ne 25, 3, [49]), (27, .aload_n 0, 1, []), (28, .getfield 23, 3, [2, 10, 4]), (31, .iconst 2, 1, [2]), (32, .iload_n 1, 1, []), (33, .imul, 1, []), (34, .iconst 1, 1, [1]), (35, .iadd, 1, []), (36, .iaload, 1, []), (37, .iconst 1, 1, [1]), (38, .if_icmp .ne 7, 3, [45]), (41, .iconst 1, 1, [1]), (42, .goto 31, 3, [73]), (45, .iconst 0, 1, [0]), (46, .goto 27, 3, [73]), (49, .iload_n 3, 1, []), (50, .i2l, 1, []), (51, .lconst 0, 1, [0]), (52, .aload_n 0, 1, []), (53, .getfield 7, 3, [2, 10, 0]), (56, .bipush 45, 2, [45]), (58, .iconst 2, 1, [2]), (59, .iload_n 1, 1, []), (60, .imul, 1, []), (61, .iload_n 2, 1, []), (62, .iadd, 1, []), (63, .imul, 1, []), (64, .iconst 1, 1, [1]), (65, .iadd, 1, []), (66, .iaload, 1, []), (67, .iconst 1, 1, [1]), (68, .isub, 1, []), (69, .i2l, 1, []), (70, .invokestatic 131, 3, [121, 3, 1, 0]), (73, .ireturn, 1, [])]
def zm_Mo_isConditionAsked : zMi := (4, 2, zc_Mo_isConditionAsked, [])
def zc_Mo_fulfils : List zC := [(0, .aload_n 0, 1, []), (1, .iload_n 1, 1, []), (2, .iload_n 2, 1, []), (3, .iload_n 3, 1, []), (4, .invokevirtual 309, 3, [169, 4, 1, 11]), (7, .ifCond .eq 11, 3, [18]), (10, .iload 4, 2, []), (12, .invokestatic 312, 3, [161, 1, 1, 0]), (15, .ifCond .ne 5, 3, [20]), (18, .iconst (-1), 1, [1, 1]), (19, .ireturn, 1, []), (20, .iload_n 2, 1, []), (21, .iconst 2, 1, [2]), (22, .if_icmp .ne 13, 3, [35]), (25, .aload_n 0, 1, []), (26, .iload_n 1, 1, []), (27, .iload 4, 2, []), (29, .invokevirtual 315, 3, [163, 3, 1, 11]), (32, .goto 15, 3, [47]), (35, .aload_n 0, 1, []), (36, .iconst 2, 1, [2]), (37, .iload_n 1, 1, []), (38, .imul, 1, []), (39, .iload_n 2, 1, []), (40, .iadd, 1, []), (41, .iload_n 3, 1, []), (42, .iload 4, 2, []), (44, .invokevirtual 300, 3, [162, 4, 1, 11]), (47, .invokestatic 194, 3, [122, 1, 1, 0]), (50, .ireturn, 1, [])]
def zm_Mo_fulfils : zMi := (5, 1, zc_Mo_fulfils, [])
def zc_Mo_fulfilled : List zC := [(0, .aload_n 0, 1, []), (1, .iload_n 1, 1, []), (2, .iload_n 2, 1, []), (3, .iload_n 3, 1, []), (4, .invokevirtual 309, 3, [169, 4, 1, 11]), (7, .ifCond .ne 5, 3, [12]), (10, .iconst (-1), 1, [1, 1]), (11, .ireturn, 1, []), (12, .iconst 0, 1, [0]), (13, .istore 4, 2, []), (15, .iconst 0, 1, [0]), (16, .istore 5, 2, []), (18, .iload 5, 2, []), (20, .sipush 256, 3, [256]), (23, .if_icmp .ge 23, 3, [46]), (26, .iload 4, 2, []), (28, .aload_n 0, 1, []), (29, .iload_n 1, 1, []), (30, .iload_n 2, 1, []), (31, .iload_n 3, 1, []), (32, .iload 5, 2, []), (34, .invokevirtual 318, 3, [170, 5, 1, 11]), (37, .iadd, 1, []), (38, .istore 4, 2, []), (40, .iinc 5 1, 3, [1]), (43, .goto (-25), 3, [18]), (46, .iload 4, 2, []), (48, .ireturn, 1, [])]
def zm_Mo_fulfilled : zMi := (6, 1, zc_Mo_fulfilled, [(18, [])])
def zc_Mo_matches : List zC := [(0, .aload_n 0, 1, []), (1, .iload_n 1, 1, []), (2, .invokevirtual 304, 3, [159, 2, 1, 11]), (5, .ifCond .eq 45, 3, [50]), (8, .iload_n 2, 1, []), (9, .invokestatic 322, 3, [160, 1, 1, 0]), (12, .ifCond .eq 38, 3, [50]), (15, .iload_n 3, 1, []), (16, .i2l, 1, []), (17, .lconst 0, 1, [0]), (18, .aload_n 0, 1, []), (19, .getfield 35, 3, [2, 10, 9]), (22, .iconst 0, 1, [0]), (23, .iaload, 1, []), (24, .i2l, 1, []), (25, .invokestatic 131, 3, [121, 3, 1, 0]), (28, .ifCond .eq 22, 3, [50]), (31, .iload 4, 2, []), (33, .iload_n 3, 1, []), (34, .iconst 1, 1, [1]), (35, .isub, 1, []), (36, .if_icmp .lt 14, 3, [50]), (39, .iload 4, 2, []), (41, .aload_n 0, 1, []), (42, .getfield 35, 3, [2, 10, 9]), (45, .iconst 0, 1, [0]), (46, .iaload, 1, []), (47, .if_icmp .lt 5, 3, [52]), (50, .iconst (-1), 1, [1, 1]), (51, .ireturn, 1, []), (52, .aload_n 0, 1, []), (53, .iload_n 1, 1, []), (54, .invokevirtual 325, 3, [164, 2, 0, 11]), (57, .lconst 0, 1, [0]), (58, .lstore 5, 2, []), (60, .iload_n 3, 1, []), (61, .istore 7, 2, []), (63, .iload 7, 2, []), (65, .iload 4, 2, []), (67, .if_icmp .gt 53, 3, [120]), (70, .iload 7, 2, []), (72, .iload_n 3, 1, []), (73, .if_icmp .ne 15, 3, [88]), (76, .aload_n 0, 1, []), (77, .iconst 2, 1, [2]), (78, .iload_n 1, 1, []), (79, .imul, 1, []), (80, .iload_n 2, 1, []), (81, .iadd, 1, []), (82, .invokevirtual 328, 3, [166, 2, 2, 11]), (85, .goto 14, 3, [99]), (88, .aload_n 0, 1, []), (89, .iconst 2, 1, [2]), (90, .iload_n 1, 1, []), (91, .imul, 1, []), (92, .iload_n 2, 1, []), (93, .iadd, 1, []), (94, .lload 5, 2, []), (96, .invokevirtual 332, 3, [165, 3, 2, 11]), (99, .aload_n 0, 1, []), (100, .getfield 105, 3, [2, 10, 40]), (103, .bipush 48, 2, [48]), (105, .iload_n 2, 1, []), (106, .imul, 1, []), (107, .iload 7, 2, []), (109, .iadd, 1, []), (110, .laload, 1, []), (111, .land, 1, []), (112, .lstore 5, 2, []), (114, .iinc 7 1, 3, [1]), (117, .goto (-54), 3, [63]), (120, .aload_n 0, 1, []), (121, .iconst 2, 1, [2]), (122, .iload_n 1, 1, []), (123, .imul, 1, []), (124, .iload_n 2, 1, []), (125, .iadd, 1, []), (126, .lload 5, 2, []), (128, .invokevirtual 336, 3, [167, 3, 1, 11]), (131, .invokestatic 194, 3, [122, 1, 1, 0]), (134, .ireturn, 1, [])]
def zm_Mo_matches : zMi := (8, 1, zc_Mo_matches, [(63, [6])])
def zc_Mo_might : List zC := [(0, .aload_n 0, 1, []), (1, .iload_n 1, 1, []), (2, .invokevirtual 304, 3, [159, 2, 1, 11]), (5, .ifCond .eq 26, 3, [31]), (8, .iload_n 2, 1, []), (9, .invokestatic 322, 3, [160, 1, 1, 0]), (12, .ifCond .eq 19, 3, [31]), (15, .iload_n 3, 1, []), (16, .i2l, 1, []), (17, .lconst 0, 1, [0]), (18, .aload_n 0, 1, []), (19, .getfield 35, 3, [2, 10, 9]), (22, .iconst 0, 1, [0]), (23, .iaload, 1, []), (24, .i2l, 1, []), (25, .invokestatic 131, 3, [121, 3, 1, 0]), (28, .ifCond .ne 5, 3, [33]), (31, .iconst (-1), 1, [1, 1]), (32, .ireturn, 1, []), (33, .aload_n 0, 1, []), (34, .iload_n 1, 1, []), (35, .invokevirtual 325, 3, [164, 2, 0, 11]), (38, .aload_n 0, 1, []), (39, .iconst 2, 1, [2]), (40, .iload_n 1, 1, []), (41, .imul, 1, []), (42, .iload_n 2, 1, []), (43, .iadd, 1, []), (44, .invokevirtual 328, 3, [166, 2, 2, 11]), (47, .lstore 4, 2, []), (49, .iload_n 3, 1, []), (50, .istore 6, 2, []), (52, .iload 6, 2, []), (54, .aload_n 0, 1, []), (55, .getfield 35, 3, [2, 10, 9]), (58, .iconst 0, 1, [0]), (59, .iaload, 1, []), (60, .if_icmp .ge 35, 3, [95]), (63, .aload_n 0, 1, []), (64, .iconst 2, 1, [2]), (65, .iload_n 1, 1, []), (66, .imul, 1, []), (67, .iload_n 2, 1, []), (68, .iadd, 1, []), (69, .lload 4, 2, []), (71, .aload_n 0, 1, []), (72, .getfield 105, 3, [2, 10, 40]), (75, .bipush 48, 2, [48]), (77, .iload_n 2, 1, []), (78, .imul, 1, []), (79, .iload 6, 2, []), (81, .iadd, 1, []), (82, .laload, 1, []), (83, .land, 1, []), (84, .invokevirtual 332, 3, [165, 3, 2, 11]), (87, .lstore 4, 2, []), (89, .iinc 6 1, 3, [1]), (92, .goto (-40), 3, [52]), (95, .aload_n 0, 1, []), (96, .iconst 2, 1, [2]), (97, .iload_n 1, 1, []), (98, .imul, 1, []), (99, .iload_n 2, 1, []), (100, .iadd, 1, []), (101, .lload 4, 2, []), (103, .invokevirtual 340, 3, [168, 3, 1, 11]), (106, .invokestatic 194, 3, [122, 1, 1, 0]), (109, .ireturn, 1, [])]
def zm_Mo_might : zMi := (7, 1, zc_Mo_might, [(52, [3, 5])])
def zc_Mo_promise : List zC := [(0, .aload_n 0, 1, []), (1, .iload_n 1, 1, []), (2, .invokevirtual 304, 3, [159, 2, 1, 11]), (5, .ifCond .eq 15, 3, [20]), (8, .iload_n 2, 1, []), (9, .i2l, 1, []), (10, .lconst 0, 1, [0]), (11, .ldc2_w 343, 3, [9]), (14, .invokestatic 131, 3, [121, 3, 1, 0]), (17, .ifCond .ne 5, 3, [22]), (20, .iconst (-1), 1, [1, 1]), (21, .ireturn, 1, []), (22, .iload_n 2, 1, []), (23, .iconst 2, 1, [2]), (24, .if_icmp .ge 14, 3, [38]), (27, .aload_n 0, 1, []), (28, .getfield 23, 3, [2, 10, 4]), (31, .iconst 2, 1, [2]), (32, .iload_n 1, 1, []), (33, .imul, 1, []), (34, .iload_n 2, 1, []), (35, .iadd, 1, []), (36, .iaload, 1, []), (37, .ireturn, 1, []), (38, .bipush 45, 2, [45]), (40, .iconst 2, 1, [2]), (41, .iload_n 1, 1, []), (42, .imul, 1, []), (43, .iload_n 2, 1, []), (44, .iconst 2, 1, [2]), (45, .irem, 1, []), (46, .iadd, 1, []), (47, .imul, 1, []), (48, .istore_n 3, 1, []), (49, .aload_n 0, 1, []), (50, .getfield 7, 3, [2, 10, 0]), (53, .iload_n 3, 1, []), (54, .iload_n 2, 1, []), (55, .iconst 4, 1, [4]), (56, .if_icmp .ge 7, 3, [63]), (59, .iconst 1, 1, [1]), (60, .goto 24, 3, [84]), (63, .iload_n 2, 1, []), (64, .bipush 6, 2, [6]), (66, .if_icmp .ge 7, 3, [73]), (69, .iconst 2, 1, [2]), (70, .goto 14, 3, [84]), (73, .iload_n 2, 1, []), (74, .bipush 8, 2, [8]), (76, .if_icmp .ge 7, 3, [83]), (79, .iconst 3, 1, [3]), (80, .goto 4, 3, [84]), (83, .iconst 4, 1, [4]), (84, .iadd, 1, []), (85, .iaload, 1, []), (86, .ireturn, 1, [])]
def zm_Mo_promise : zMi := (4, 1, zc_Mo_promise, [])
def zc_Mo_goesOn : List zC := [(0, .iconst 2, 1, [2]), (1, .iload_n 1, 1, []), (2, .imul, 1, []), (3, .iconst 1, 1, [1]), (4, .iadd, 1, []), (5, .istore 4, 2, []), (7, .aload_n 0, 1, []), (8, .getfield 108, 3, [2, 10, 41]), (11, .iload_n 2, 1, []), (12, .laload, 1, []), (13, .aload_n 0, 1, []), (14, .getfield 105, 3, [2, 10, 40]), (17, .bipush 48, 2, [48]), (19, .iload_n 3, 1, []), (20, .iadd, 1, []), (21, .laload, 1, []), (22, .land, 1, []), (23, .lstore 5, 2, []), (25, .aload_n 0, 1, []), (26, .getfield 108, 3, [2, 10, 41]), (29, .iload_n 2, 1, []), (30, .aload_n 0, 1, []), (31, .iload 4, 2, []), (33, .lload 5, 2, []), (35, .invokevirtual 332, 3, [165, 3, 2, 11]), (38, .lastore, 1, []), (39, .aload_n 0, 1, []), (40, .iload 4, 2, []), (42, .lload 5, 2, []), (44, .invokevirtual 336, 3, [167, 3, 1, 11]), (47, .ifCond .eq 20, 3, [67]), (50, .aload_n 0, 1, []), (51, .getfield 111, 3, [2, 10, 42]), (54, .iload_n 2, 1, []), (55, .iconst 1, 1, [1]), (56, .iastore, 1, []), (57, .aload_n 0, 1, []), (58, .getfield 114, 3, [2, 10, 43]), (61, .iload_n 2, 1, []), (62, .iload_n 3, 1, []), (63, .iastore, 1, []), (64, .goto 11, 3, [75]), (67, .aload_n 0, 1, []), (68, .iload 4, 2, []), (70, .iload_n 2, 1, []), (71, .iload_n 3, 1, []), (72, .invokevirtual 345, 3, [176, 4, 0, 11]), (75, .return_, 1, [])]
def zm_Mo_goesOn : zMi := (7, 0, zc_Mo_goesOn, [])
def zc_Mo_dies : List zC := [(0, .aload_n 0, 1, []), (1, .iload_n 1, 1, []), (2, .aload_n 0, 1, []), (3, .getfield 108, 3, [2, 10, 41]), (6, .iload_n 2, 1, []), (7, .laload, 1, []), (8, .invokevirtual 340, 3, [168, 3, 1, 11]), (11, .ifCond .ne 17, 3, [28]), (14, .aload_n 0, 1, []), (15, .getfield 111, 3, [2, 10, 42]), (18, .iload_n 2, 1, []), (19, .iconst 2, 1, [2]), (20, .iastore, 1, []), (21, .aload_n 0, 1, []), (22, .getfield 114, 3, [2, 10, 43]), (25, .iload_n 2, 1, []), (26, .iload_n 3, 1, []), (27, .iastore, 1, []), (28, .return_, 1, [])]
def zm_Mo_dies : zMi := (4, 0, zc_Mo_dies, [])
def zc_Mo_begins : List zC := [(0, .aload_n 0, 1, []), (1, .getfield 117, 3, [2, 10, 44]), (4, .iload_n 2, 1, []), (5, .iconst 1, 1, [1]), (6, .bastore, 1, []), (7, .aload_n 0, 1, []), (8, .getfield 111, 3, [2, 10, 42]), (11, .iload_n 2, 1, []), (12, .iconst 0, 1, [0]), (13, .iastore, 1, []), (14, .aload_n 0, 1, []), (15, .getfield 114, 3, [2, 10, 43]), (18, .iload_n 2, 1, []), (19, .bipush (-4), 2, [4, 1]), (21, .iastore, 1, []), (22, .aload_n 0, 1, []), (23, .getfield 108, 3, [2, 10, 41]), (26, .iload_n 2, 1, []), (27, .aload_n 0, 1, []), (28, .iconst 2, 1, [2]), (29, .iload_n 1, 1, []), (30, .imul, 1, []), (31, .iconst 1, 1, [1]), (32, .iadd, 1, []), (33, .invokevirtual 328, 3, [166, 2, 2, 11]), (36, .lastore, 1, []), (37, .aload_n 0, 1, []), (38, .getfield 23, 3, [2, 10, 4]), (41, .iconst 2, 1, [2]), (42, .iload_n 1, 1, []), (43, .imul, 1, []), (44, .iaload, 1, []), (45, .ifCond .ne 13, 3, [58]), (48, .aload_n 0, 1, []), (49, .iload_n 1, 1, []), (50, .iload_n 2, 1, []), (51, .iload_n 2, 1, []), (52, .invokevirtual 349, 3, [175, 4, 0, 11]), (55, .goto 14, 3, [69]), (58, .aload_n 0, 1, []), (59, .iconst 2, 1, [2]), (60, .iload_n 1, 1, []), (61, .imul, 1, []), (62, .iconst 1, 1, [1]), (63, .iadd, 1, []), (64, .iload_n 2, 1, []), (65, .iload_n 2, 1, []), (66, .invokevirtual 345, 3, [176, 4, 0, 11]), (69, .return_, 1, [])]
def zm_Mo_begins : zMi := (3, 0, zc_Mo_begins, [])
def zc_Mo_isAny : List zC := [(0, .iconst 0, 1, [0]), (1, .istore 4, 2, []), (3, .iload_n 1, 1, []), (4, .istore 5, 2, []), (6, .iload 5, 2, []), (8, .iload_n 2, 1, []), (9, .if_icmp .gt 48, 3, [57]), (12, .iload 4, 2, []), (14, .ifCond .ne 30, 3, [44]), (17, .aload_n 0, 1, []), (18, .getfield 117, 3, [2, 10, 44]), (21, .iload 5, 2, []), (23, .baload, 1, []), (24, .ifCond .eq 24, 3, [48]), (27, .iload_n 3, 1, []), (28, .bipush (-4), 2, [4, 1]), (30, .if_icmp .eq 14, 3, [44]), (33, .aload_n 0, 1, []), (34, .getfield 111, 3, [2, 10, 42]), (37, .iload 5, 2, []), (39, .iaload, 1, []), (40, .iload_n 3, 1, []), (41, .if_icmp .ne 7, 3, [48]), (44, .iconst 1, 1, [1]), (45, .goto 4, 3, [49]), (48, .iconst 0, 1, [0]), (49, .istore 4, 2, []), (51, .iinc 5 1, 3, [1]), (54, .goto (-48), 3, [6]), (57, .iload 4, 2, []), (59, .ireturn, 1, [])]
def zm_Mo_isAny : zMi := (6, 2, zc_Mo_isAny, [(6, [1])])
def zc_Mo_goesThrough : List zC := [(0, .aload_n 0, 1, []), (1, .iconst 2, 1, [2]), (2, .iload_n 1, 1, []), (3, .imul, 1, []), (4, .invokevirtual 328, 3, [166, 2, 2, 11]), (7, .lstore_n 3, 1, []), (8, .aload_n 0, 1, []), (9, .iconst 0, 1, [0]), (10, .putfield 352, 3, [0, 10, 45]), (13, .aload_n 0, 1, []), (14, .bipush (-4), 2, [4, 1]), (16, .putfield 355, 3, [0, 10, 46]), (19, .iload_n 2, 1, []), (20, .istore 5, 2, []), (22, .iload 5, 2, []), (24, .aload_n 0, 1, []), (25, .getfield 35, 3, [2, 10, 9]), (28, .iconst 0, 1, [0]), (29, .iaload, 1, []), (30, .if_icmp .ge 140, 3, [170]), (33, .lload_n 3, 1, []), (34, .aload_n 0, 1, []), (35, .getfield 105, 3, [2, 10, 40]), (38, .iload 5, 2, []), (40, .laload, 1, []), (41, .land, 1, []), (42, .lstore 6, 2, []), (44, .aload_n 0, 1, []), (45, .iconst 2, 1, [2]), (46, .iload_n 1, 1, []), (47, .imul, 1, []), (48, .lload 6, 2, []), (50, .invokevirtual 332, 3, [165, 3, 2, 11]), (53, .lstore_n 3, 1, []), (54, .iload_n 2, 1, []), (55, .istore 8, 2, []), (57, .iload 8, 2, []), (59, .iload 5, 2, []), (61, .if_icmp .ge 38, 3, [99]), (64, .aload_n 0, 1, []), (65, .getfield 117, 3, [2, 10, 44]), (68, .iload 8, 2, []), (70, .baload, 1, []), (71, .ifCond .eq 22, 3, [93]), (74, .aload_n 0, 1, []), (75, .getfield 111, 3, [2, 10, 42]), (78, .iload 8, 2, []), (80, .iaload, 1, []), (81, .ifCond .ne 12, 3, [93]), (84, .aload_n 0, 1, []), (85, .iload_n 1, 1, []), (86, .iload 8, 2, []), (88, .iload 5, 2, []), (90, .invokevirtual 349, 3, [175, 4, 0, 11]), (93, .iinc 8 1, 3, [1]), (96, .goto (-39), 3, [57]), (99, .aload_n 0, 1, []), (100, .getfield 117, 3, [2, 10, 44]), (103, .iload 5, 2, []), (105, .iconst 0, 1, [0]), (106, .bastore, 1, []), (107, .aload_n 0, 1, []), (108, .iconst 2, 1, [2]), (109, .iload_n 1, 1, []), (110, .imul, 1, []), (111, .lload 6, 2, []), (113, .invokevirtual 336, 3, [167, 3, 1, 11]), (116, .ifCond .eq 10, 3, [126]), (119, .aload_n 0, 1, []), (120, .iload_n 1, 1, []), (121, .iload 5, 2, []), (123, .invokevirtual 358, 3, [177, 3, 0, 11]), (126, .aload_n 0, 1, []), (127, .getfield 352, 3, [0, 10, 45]), (130, .ifCond .ne 34, 3, [164]), (133, .aload_n 0, 1, []), (134, .aload_n 0, 1, []), (135, .iload_n 1, 1, []), (136, .iload_n 2, 1, []), (137, .iload 5, 2, []), (139, .lload_n 3, 1, []), (140, .invokevirtual 360, 3, [180, 5, 1, 11]), (143, .putfield 352, 3, [0, 10, 45]), (146, .aload_n 0, 1, []), (147, .aload_n 0, 1, []), (148, .getfield 352, 3, [0, 10, 45]), (151, .ifCond .ne 8, 3, [159]), (154, .bipush (-4), 2, [4, 1]), (156, .goto 5, 3, [161]), (159, .iload 5, 2, []), (161, .putfield 355, 3, [0, 10, 46]), (164, .iinc 5 1, 3, [1]), (167, .goto (-145), 3, [22]), (170, .return_, 1, [])]
def zm_Mo_goesThrough : zMi := (9, 0, zc_Mo_goesThrough, [(22, [4, 6, 7, 8]), (57, [4, 7]), (126, [4, 6, 7, 8])])
def zc_Mo_verdictBy : List zC := [(0, .aload_n 0, 1, []), (1, .iload_n 1, 1, []), (2, .aload_n 0, 1, []), (3, .getfield 35, 3, [2, 10, 9]), (6, .iconst 1, 1, [1]), (7, .iload_n 3, 1, []), (8, .iadd, 1, []), (9, .iaload, 1, []), (10, .invokevirtual 315, 3, [163, 3, 1, 11]), (13, .ifCond .eq 5, 3, [18]), (16, .iconst 4, 1, [4]), (17, .ireturn, 1, []), (18, .aload_n 0, 1, []), (19, .iload_n 2, 1, []), (20, .iload_n 3, 1, []), (21, .iconst 2, 1, [2]), (22, .invokevirtual 364, 3, [178, 4, 1, 11]), (25, .ifCond .eq 5, 3, [30]), (28, .iconst 2, 1, [2]), (29, .ireturn, 1, []), (30, .aload_n 0, 1, []), (31, .iload_n 2, 1, []), (32, .iload_n 3, 1, []), (33, .iconst 0, 1, [0]), (34, .invokevirtual 364, 3, [178, 4, 1, 11]), (37, .ifCond .ne 15, 3, [52]), (40, .aload_n 0, 1, []), (41, .iconst 2, 1, [2]), (42, .iload_n 1, 1, []), (43, .imul, 1, []), (44, .lload 4, 2, []), (46, .invokevirtual 340, 3, [168, 3, 1, 11]), (49, .ifCond .eq 5, 3, [54]), (52, .iconst 0, 1, [0]), (53, .ireturn, 1, []), (54, .aload_n 0, 1, []), (55, .iload_n 2, 1, []), (56, .iload_n 3, 1, []), (57, .bipush (-4), 2, [4, 1]), (59, .invokevirtual 364, 3, [178, 4, 1, 11]), (62, .ifCond .eq 7, 3, [69]), (65, .iconst 1, 1, [1]), (66, .goto 4, 3, [70]), (69, .iconst 3, 1, [3]), (70, .ireturn, 1, [])]
def zm_Mo_verdictBy : zMi := (6, 1, zc_Mo_verdictBy, [])
def zc_Mo_isTick : List zC := [(0, .iload_n 1, 1, []), (1, .i2l, 1, []), (2, .lconst 0, 1, [0]), (3, .aload_n 0, 1, []), (4, .getfield 35, 3, [2, 10, 9]), (7, .iconst 0, 1, [0]), (8, .iaload, 1, []), (9, .iconst 1, 1, [1]), (10, .isub, 1, []), (11, .i2l, 1, []), (12, .invokestatic 131, 3, [121, 3, 1, 0]), (15, .ireturn, 1, [])]
def zm_Mo_isTick : zMi := (2, 2, zc_Mo_isTick, [])
def zc_Mo_isTry : List zC := [(0, .aload_n 0, 1, []), (1, .iload_n 1, 1, []), (2, .invokevirtual 304, 3, [159, 2, 1, 11]), (5, .ifCond .eq 11, 3, [16]), (8, .aload_n 0, 1, []), (9, .iload_n 2, 1, []), (10, .invokevirtual 367, 3, [181, 2, 1, 11]), (13, .ifCond .ne 5, 3, [18]), (16, .iconst 0, 1, [0]), (17, .ireturn, 1, []), (18, .aload_n 0, 1, []), (19, .iload_n 1, 1, []), (20, .invokevirtual 325, 3, [164, 2, 0, 11]), (23, .aload_n 0, 1, []), (24, .iload_n 1, 1, []), (25, .iload_n 2, 1, []), (26, .invokevirtual 370, 3, [179, 3, 0, 11]), (29, .iconst 1, 1, [1]), (30, .ireturn, 1, [])]
def zm_Mo_isTry : zMi := (3, 2, zc_Mo_isTry, [])
def zc_Mo_dutiesFrom : List zC := [(0, .iconst 0, 1, [0]), (1, .istore_n 2, 1, []), (2, .iload_n 1, 1, []), (3, .istore_n 3, 1, []), (4, .iload_n 3, 1, []), (5, .aload_n 0, 1, []), (6, .getfield 35, 3, [2, 10, 9]), (9, .iconst 0, 1, [0]), (10, .iaload, 1, []), (11, .if_icmp .ge 21, 3, [32]), (14, .iload_n 2, 1, []), (15, .aload_n 0, 1, []), (16, .getfield 117, 3, [2, 10, 44]), (19, .iload_n 3, 1, []), (20, .baload, 1, []), (21, .invokestatic 194, 3, [122, 1, 1, 0]), (24, .iadd, 1, []), (25, .istore_n 2, 1, []), (26, .iinc 3 1, 3, [1]), (29, .goto (-25), 3, [4]), (32, .iload_n 2, 1, []), (33, .ireturn, 1, [])]
def zm_Mo_dutiesFrom : zMi := (4, 1, zc_Mo_dutiesFrom, [(4, [1])])
def zc_Mo_verdict : List zC := [(0, .aload_n 0, 1, []), (1, .iload_n 1, 1, []), (2, .iload_n 2, 1, []), (3, .invokevirtual 373, 3, [182, 3, 1, 11]), (6, .ifCond .eq 10, 3, [16]), (9, .aload_n 0, 1, []), (10, .getfield 352, 3, [0, 10, 45]), (13, .goto 4, 3, [17]), (16, .iconst (-1), 1, [1, 1]), (17, .ireturn, 1, [])]
def zm_Mo_verdict : zMi := (3, 1, zc_Mo_verdict, [])
def zc_Mo_decided : List zC := [(0, .aload_n 0, 1, []), (1, .iload_n 1, 1, []), (2, .iload_n 2, 1, []), (3, .invokevirtual 373, 3, [182, 3, 1, 11]), (6, .ifCond .eq 10, 3, [16]), (9, .aload_n 0, 1, []), (10, .getfield 355, 3, [0, 10, 46]), (13, .goto 4, 3, [17]), (16, .iconst (-1), 1, [1, 1]), (17, .ireturn, 1, [])]
def zm_Mo_decided : zMi := (3, 1, zc_Mo_decided, [])
def zc_Mo_duties : List zC := [(0, .aload_n 0, 1, []), (1, .iload_n 1, 1, []), (2, .iload_n 2, 1, []), (3, .invokevirtual 373, 3, [182, 3, 1, 11]), (6, .ifCond .eq 11, 3, [17]), (9, .aload_n 0, 1, []), (10, .iload_n 2, 1, []), (11, .invokevirtual 376, 3, [183, 2, 1, 11]), (14, .goto 4, 3, [18]), (17, .iconst (-1), 1, [1, 1]), (18, .ireturn, 1, [])]
def zm_Mo_duties : zMi := (3, 1, zc_Mo_duties, [])
def zc_Mo_duty : List zC := [(0, .aload_n 0, 1, []), (1, .iload_n 1, 1, []), (2, .iload_n 2, 1, []), (3, .invokevirtual 373, 3, [182, 3, 1, 11]), (6, .ifCond .eq 20, 3, [26]), (9, .iload_n 3, 1, []), (10, .ifCond .lt 16, 3, [26]), (13, .iload 4, 2, []), (15, .i2l, 1, []), (16, .lconst 0, 1, [0]), (17, .ldc2_w 307, 3, [2]), (20, .invokestatic 131, 3, [121, 3, 1, 0]), (23, .ifCond .ne 5, 3, [28]), (26, .iconst (-1), 1, [1, 1]), (27, .ireturn, 1, []), (28, .iload_n 3, 1, []), (29, .istore 5, 2, []), (31, .iload_n 2, 1, []), (32, .istore 6, 2, []), (34, .iload 6, 2, []), (36, .aload_n 0, 1, []), (37, .getfield 35, 3, [2, 10, 9]), (40, .iconst 0, 1, [0]), (41, .iaload, 1, []), (42, .if_icmp .ge 61, 3, [103]), (45, .aload_n 0, 1, []), (46, .getfield 117, 3, [2, 10, 44]), (49, .iload 6, 2, []), (51, .baload, 1, []), (52, .ifCond .eq 45, 3, [97]), (55, .iload 5, 2, []), (57, .ifCond .ne 37, 3, [94]), (60, .iload 4, 2, []), (62, .ifCond .ne 8, 3, [70]), (65, .iload 6, 2, []), (67, .goto 26, 3, [93]), (70, .iload 4, 2, []), (72, .iconst 1, 1, [1]), (73, .if_icmp .ne 13, 3, [86]), (76, .aload_n 0, 1, []), (77, .getfield 111, 3, [2, 10, 42]), (80, .iload 6, 2, []), (82, .iaload, 1, []), (83, .goto 10, 3, [93]), (86, .aload_n 0, 1, []), (87, .getfield 114, 3, [2, 10, 43]), (90, .iload 6, 2, []), (92, .iaload, 1, []), (93, .ireturn, 1, []), (94, .iinc 5 (-1), 3, [1, 1]), (97, .iinc 6 1, 3, [1]), (100, .goto (-66), 3, [34]), (103, .bipush (-4), 2, [4, 1]), (105, .ireturn, 1, [])]
def zm_Mo_duty : zMi := (7, 1, zc_Mo_duty, [(34, [1, 2, 3])])
def zc_Mo_triesOf : List zC := [(0, .iconst 0, 1, [0]), (1, .istore_n 3, 1, []), (2, .aload_n 0, 1, []), (3, .iload_n 1, 1, []), (4, .invokevirtual 325, 3, [164, 2, 0, 11]), (7, .iconst 0, 1, [0]), (8, .istore 4, 2, []), (10, .iload 4, 2, []), (12, .aload_n 0, 1, []), (13, .getfield 35, 3, [2, 10, 9]), (16, .iconst 0, 1, [0]), (17, .iaload, 1, []), (18, .if_icmp .ge 35, 3, [53]), (21, .aload_n 0, 1, []), (22, .iload_n 1, 1, []), (23, .iload 4, 2, []), (25, .invokevirtual 370, 3, [179, 3, 0, 11]), (28, .iload_n 3, 1, []), (29, .aload_n 0, 1, []), (30, .getfield 352, 3, [0, 10, 45]), (33, .iload_n 2, 1, []), (34, .if_icmp .ne 7, 3, [41]), (37, .iconst 1, 1, [1]), (38, .goto 4, 3, [42]), (41, .iconst 0, 1, [0]), (42, .invokestatic 194, 3, [122, 1, 1, 0]), (45, .iadd, 1, []), (46, .istore_n 3, 1, []), (47, .iinc 4 1, 3, [1]), (50, .goto (-40), 3, [10]), (53, .iload_n 3, 1, []), (54, .ireturn, 1, [])]
def zm_Mo_triesOf : zMi := (5, 1, zc_Mo_triesOf, [(10, [])])
def zc_Mo_tries : List zC := [(0, .aload_n 0, 1, []), (1, .iload_n 1, 1, []), (2, .invokevirtual 304, 3, [159, 2, 1, 11]), (5, .ifCond .eq 24, 3, [29]), (8, .iload_n 2, 1, []), (9, .i2l, 1, []), (10, .lconst 0, 1, [0]), (11, .ldc2_w 379, 3, [4]), (14, .invokestatic 131, 3, [121, 3, 1, 0]), (17, .ifCond .eq 12, 3, [29]), (20, .aload_n 0, 1, []), (21, .iload_n 1, 1, []), (22, .iload_n 2, 1, []), (23, .invokevirtual 381, 3, [188, 3, 1, 11]), (26, .goto 4, 3, [30]), (29, .iconst (-1), 1, [1, 1]), (30, .ireturn, 1, [])]
def zm_Mo_tries : zMi := (3, 1, zc_Mo_tries, [])
def zc_Mo_first : List zC := [(0, .aload_n 0, 1, []), (1, .iload_n 1, 1, []), (2, .invokevirtual 304, 3, [159, 2, 1, 11]), (5, .ifCond .eq 15, 3, [20]), (8, .iload_n 2, 1, []), (9, .i2l, 1, []), (10, .lconst 0, 1, [0]), (11, .ldc2_w 379, 3, [4]), (14, .invokestatic 131, 3, [121, 3, 1, 0]), (17, .ifCond .ne 5, 3, [22]), (20, .iconst (-1), 1, [1, 1]), (21, .ireturn, 1, []), (22, .aload_n 0, 1, []), (23, .iload_n 1, 1, []), (24, .invokevirtual 325, 3, [164, 2, 0, 11]), (27, .iconst 0, 1, [0]), (28, .istore_n 3, 1, []), (29, .iload_n 3, 1, []), (30, .aload_n 0, 1, []), (31, .getfield 35, 3, [2, 10, 9]), (34, .iconst 0, 1, [0]), (35, .iaload, 1, []), (36, .if_icmp .ge 25, 3, [61]), (39, .aload_n 0, 1, []), (40, .iload_n 1, 1, []), (41, .iload_n 3, 1, []), (42, .invokevirtual 370, 3, [179, 3, 0, 11]), (45, .aload_n 0, 1, []), (46, .getfield 352, 3, [0, 10, 45]), (49, .iload_n 2, 1, []), (50, .if_icmp .ne 5, 3, [55]), (53, .iload_n 3, 1, []), (54, .ireturn, 1, []), (55, .iinc 3 1, 3, [1]), (58, .goto (-29), 3, [29]), (61, .bipush (-4), 2, [4, 1]), (63, .ireturn, 1, [])]
def zm_Mo_first : zMi := (4, 1, zc_Mo_first, [(29, [])])
def zc_Mo_allDuties : List zC := [(0, .iconst 0, 1, [0]), (1, .istore_n 1, 1, []), (2, .iconst 0, 1, [0]), (3, .istore_n 2, 1, []), (4, .iload_n 2, 1, []), (5, .aload_n 0, 1, []), (6, .getfield 295, 3, [0, 10, 8]), (9, .if_icmp .ge 46, 3, [55]), (12, .aload_n 0, 1, []), (13, .iload_n 2, 1, []), (14, .invokevirtual 325, 3, [164, 2, 0, 11]), (17, .iconst 0, 1, [0]), (18, .istore_n 3, 1, []), (19, .iload_n 3, 1, []), (20, .aload_n 0, 1, []), (21, .getfield 35, 3, [2, 10, 9]), (24, .iconst 0, 1, [0]), (25, .iaload, 1, []), (26, .if_icmp .ge 23, 3, [49]), (29, .aload_n 0, 1, []), (30, .iload_n 2, 1, []), (31, .iload_n 3, 1, []), (32, .invokevirtual 370, 3, [179, 3, 0, 11]), (35, .iload_n 1, 1, []), (36, .aload_n 0, 1, []), (37, .iload_n 3, 1, []), (38, .invokevirtual 376, 3, [183, 2, 1, 11]), (41, .iadd, 1, []), (42, .istore_n 1, 1, []), (43, .iinc 3 1, 3, [1]), (46, .goto (-27), 3, [19]), (49, .iinc 2 1, 3, [1]), (52, .goto (-48), 3, [4]), (55, .iload_n 1, 1, []), (56, .ireturn, 1, [])]
def zm_Mo_allDuties : zMi := (4, 1, zc_Mo_allDuties, [(4, [3]), (19, [])])
def zc_Mo_allTries : List zC := [(0, .iconst 0, 1, [0]), (1, .istore_n 2, 1, []), (2, .iconst 0, 1, [0]), (3, .istore_n 3, 1, []), (4, .iload_n 3, 1, []), (5, .aload_n 0, 1, []), (6, .getfield 295, 3, [0, 10, 8]), (9, .if_icmp .ge 18, 3, [27]), (12, .iload_n 2, 1, []), (13, .aload_n 0, 1, []), (14, .iload_n 3, 1, []), (15, .iload_n 1, 1, []), (16, .invokevirtual 381, 3, [188, 3, 1, 11]), (19, .iadd, 1, []), (20, .istore_n 2, 1, []), (21, .iinc 3 1, 3, [1]), (24, .goto (-20), 3, [4]), (27, .iload_n 2, 1, []), (28, .ireturn, 1, [])]
def zm_Mo_allTries : zMi := (4, 1, zc_Mo_allTries, [(4, [])])
def zc_Mo_rule : List zC := [(0, .iload_n 1, 1, []), (1, .i2l, 1, []), (2, .lconst 0, 1, [0]), (3, .ldc2_w 384, 3, [7]), (6, .invokestatic 131, 3, [121, 3, 1, 0]), (9, .ifCond .ne 5, 3, [14]), (12, .iconst (-1), 1, [1, 1]), (13, .ireturn, 1, []), (14, .iload_n 1, 1, []), (15, .ifCond .ne 10, 3, [25]), (18, .aload_n 0, 1, []), (19, .getfield 295, 3, [0, 10, 8]), (22, .goto 37, 3, [59]), (25, .iload_n 1, 1, []), (26, .iconst 1, 1, [1]), (27, .if_icmp .ne 12, 3, [39]), (30, .aload_n 0, 1, []), (31, .getfield 35, 3, [2, 10, 9]), (34, .iconst 0, 1, [0]), (35, .iaload, 1, []), (36, .goto 23, 3, [59]), (39, .iload_n 1, 1, []), (40, .bipush 7, 2, [7]), (42, .if_icmp .ne 10, 3, [52]), (45, .aload_n 0, 1, []), (46, .invokevirtual 386, 3, [191, 1, 1, 11]), (49, .goto 10, 3, [59]), (52, .aload_n 0, 1, []), (53, .iload_n 1, 1, []), (54, .iconst 2, 1, [2]), (55, .isub, 1, []), (56, .invokevirtual 389, 3, [192, 2, 1, 11]), (59, .ireturn, 1, [])]
def zm_Mo_rule : zMi := (2, 1, zc_Mo_rule, [])
def zc_Mo_failedBy : List zC := [(0, .iconst 0, 1, [0]), (1, .istore_n 2, 1, []), (2, .iconst 0, 1, [0]), (3, .istore_n 3, 1, []), (4, .iload_n 3, 1, []), (5, .aload_n 0, 1, []), (6, .getfield 295, 3, [0, 10, 8]), (9, .if_icmp .ge 63, 3, [72]), (12, .aload_n 0, 1, []), (13, .iload_n 3, 1, []), (14, .invokevirtual 325, 3, [164, 2, 0, 11]), (17, .iconst 0, 1, [0]), (18, .istore 4, 2, []), (20, .iload 4, 2, []), (22, .iload_n 1, 1, []), (23, .if_icmp .gt 43, 3, [66]), (26, .aload_n 0, 1, []), (27, .iload_n 3, 1, []), (28, .iload 4, 2, []), (30, .invokevirtual 370, 3, [179, 3, 0, 11]), (33, .iload_n 2, 1, []), (34, .aload_n 0, 1, []), (35, .getfield 352, 3, [0, 10, 45]), (38, .iconst 2, 1, [2]), (39, .if_icmp .ne 15, 3, [54]), (42, .aload_n 0, 1, []), (43, .getfield 355, 3, [0, 10, 46]), (46, .iload_n 1, 1, []), (47, .if_icmp .ne 7, 3, [54]), (50, .iconst 1, 1, [1]), (51, .goto 4, 3, [55]), (54, .iconst 0, 1, [0]), (55, .invokestatic 194, 3, [122, 1, 1, 0]), (58, .iadd, 1, []), (59, .istore_n 2, 1, []), (60, .iinc 4 1, 3, [1]), (63, .goto (-43), 3, [20]), (66, .iinc 3 1, 3, [1]), (69, .goto (-65), 3, [4]), (72, .iload_n 2, 1, []), (73, .ireturn, 1, [])]
def zm_Mo_failedBy : zMi := (5, 1, zc_Mo_failedBy, [(4, [4]), (20, [])])
def zc_Mo_tick : List zC := [(0, .iload_n 1, 1, []), (1, .invokestatic 312, 3, [161, 1, 1, 0]), (4, .ifCond .ne 5, 3, [9]), (7, .iconst (-1), 1, [1, 1]), (8, .ireturn, 1, []), (9, .aload_n 0, 1, []), (10, .getfield 35, 3, [2, 10, 9]), (13, .iconst 0, 1, [0]), (14, .iaload, 1, []), (15, .bipush 48, 2, [48]), (17, .if_icmp .ne 6, 3, [23]), (20, .bipush (-3), 2, [3, 1]), (22, .ireturn, 1, []), (23, .aload_n 0, 1, []), (24, .getfield 35, 3, [2, 10, 9]), (27, .iconst 1, 1, [1]), (28, .aload_n 0, 1, []), (29, .getfield 35, 3, [2, 10, 9]), (32, .iconst 0, 1, [0]), (33, .iaload, 1, []), (34, .iadd, 1, []), (35, .iload_n 1, 1, []), (36, .iastore, 1, []), (37, .aload_n 0, 1, []), (38, .getfield 35, 3, [2, 10, 9]), (41, .iconst 0, 1, [0]), (42, .dup2, 1, []), (43, .iaload, 1, []), (44, .iconst 1, 1, [1]), (45, .iadd, 1, []), (46, .iastore, 1, []), (47, .aload_n 0, 1, []), (48, .aload_n 0, 1, []), (49, .getfield 35, 3, [2, 10, 9]), (52, .iconst 0, 1, [0]), (53, .iaload, 1, []), (54, .iconst 1, 1, [1]), (55, .isub, 1, []), (56, .invokevirtual 392, 3, [194, 2, 1, 11]), (59, .ireturn, 1, [])]
def zm_Mo_tick : zMi := (2, 1, zc_Mo_tick, [])
def zc_Mo_bits : List zC := [(0, .aload_n 0, 1, []), (1, .iload_n 1, 1, []), (2, .invokevirtual 367, 3, [181, 2, 1, 11]), (5, .ifCond .eq 14, 3, [19]), (8, .aload_n 0, 1, []), (9, .getfield 35, 3, [2, 10, 9]), (12, .iconst 1, 1, [1]), (13, .iload_n 1, 1, []), (14, .iadd, 1, []), (15, .iaload, 1, []), (16, .goto 4, 3, [20]), (19, .iconst (-1), 1, [1, 1]), (20, .ireturn, 1, [])]
def zm_Mo_bits : zMi := (2, 1, zc_Mo_bits, [])
def zc_Mo_put : List zC := [(0, .aload_n 0, 1, []), (1, .iload_n 1, 1, []), (2, .invokevirtual 367, 3, [181, 2, 1, 11]), (5, .ifCond .eq 10, 3, [15]), (8, .iload_n 2, 1, []), (9, .invokestatic 312, 3, [161, 1, 1, 0]), (12, .ifCond .ne 5, 3, [17]), (15, .iconst (-1), 1, [1, 1]), (16, .ireturn, 1, []), (17, .aload_n 0, 1, []), (18, .getfield 35, 3, [2, 10, 9]), (21, .iconst 1, 1, [1]), (22, .iload_n 1, 1, []), (23, .iadd, 1, []), (24, .iaload, 1, []), (25, .istore_n 3, 1, []), (26, .aload_n 0, 1, []), (27, .getfield 35, 3, [2, 10, 9]), (30, .iconst 1, 1, [1]), (31, .iload_n 1, 1, []), (32, .iadd, 1, []), (33, .iload_n 2, 1, []), (34, .iastore, 1, []), (35, .iload_n 3, 1, []), (36, .ireturn, 1, [])]
def zm_Mo_put : zMi := (4, 1, zc_Mo_put, [])
def zc_Mo_keeps : List zC := [(0, .iload_n 1, 1, []), (1, .i2l, 1, []), (2, .lconst 0, 1, [0]), (3, .aload_n 0, 1, []), (4, .getfield 35, 3, [2, 10, 9]), (7, .iconst 0, 1, [0]), (8, .iaload, 1, []), (9, .i2l, 1, []), (10, .invokestatic 131, 3, [121, 3, 1, 0]), (13, .ifCond .ne 5, 3, [18]), (16, .iconst (-1), 1, [1, 1]), (17, .ireturn, 1, []), (18, .aload_n 0, 1, []), (19, .getfield 35, 3, [2, 10, 9]), (22, .iconst 0, 1, [0]), (23, .iaload, 1, []), (24, .istore_n 2, 1, []), (25, .aload_n 0, 1, []), (26, .getfield 35, 3, [2, 10, 9]), (29, .iconst 0, 1, [0]), (30, .iload_n 1, 1, []), (31, .iastore, 1, []), (32, .iload_n 2, 1, []), (33, .ireturn, 1, [])]
def zm_Mo_keeps : zMi := (3, 1, zc_Mo_keeps, [])
def zc_Mo_gets : List zC := [(0, .aload_n 0, 1, []), (1, .aload_n 0, 1, []), (2, .getfield 395, 3, [0, 10, 47]), (5, .ldc_w 398, 3, [1103515245]), (8, .imul, 1, []), (9, .sipush 12345, 3, [12345]), (12, .iadd, 1, []), (13, .putfield 395, 3, [0, 10, 47]), (16, .aload_n 0, 1, []), (17, .getfield 395, 3, [0, 10, 47]), (20, .bipush 16, 2, [16]), (22, .ishr, 1, []), (23, .sipush 32767, 3, [32767]), (26, .iand, 1, []), (27, .ireturn, 1, [])]
def zm_Mo_gets : zMi := (1, 1, zc_Mo_gets, [])
def zc_Mo_draw : List zC := [(0, .iload_n 2, 1, []), (1, .i2l, 1, []), (2, .lconst 1, 1, [1]), (3, .ldc2_w 399, 3, [20]), (6, .invokestatic 131, 3, [121, 3, 1, 0]), (9, .ifCond .ne 5, 3, [14]), (12, .iconst (-1), 1, [1, 1]), (13, .ireturn, 1, []), (14, .aload_n 0, 1, []), (15, .getfield 35, 3, [2, 10, 9]), (18, .iconst 0, 1, [0]), (19, .iaload, 1, []), (20, .iload_n 2, 1, []), (21, .iadd, 1, []), (22, .bipush 48, 2, [48]), (24, .if_icmp .le 6, 3, [30]), (27, .bipush (-3), 2, [3, 1]), (29, .ireturn, 1, []), (30, .aload_n 0, 1, []), (31, .iload_n 1, 1, []), (32, .putfield 395, 3, [0, 10, 47]), (35, .iconst 0, 1, [0]), (36, .istore_n 3, 1, []), (37, .iload_n 3, 1, []), (38, .iload_n 2, 1, []), (39, .if_icmp .ge 53, 3, [92]), (42, .aload_n 0, 1, []), (43, .invokevirtual 401, 3, [199, 1, 1, 11]), (46, .sipush 256, 3, [256]), (49, .irem, 1, []), (50, .istore 4, 2, []), (52, .aload_n 0, 1, []), (53, .getfield 35, 3, [2, 10, 9]), (56, .iconst 1, 1, [1]), (57, .aload_n 0, 1, []), (58, .getfield 35, 3, [2, 10, 9]), (61, .iconst 0, 1, [0]), (62, .iaload, 1, []), (63, .iadd, 1, []), (64, .iload 4, 2, []), (66, .aload_n 0, 1, []), (67, .invokevirtual 401, 3, [199, 1, 1, 11]), (70, .sipush 256, 3, [256]), (73, .irem, 1, []), (74, .iand, 1, []), (75, .iastore, 1, []), (76, .aload_n 0, 1, []), (77, .getfield 35, 3, [2, 10, 9]), (80, .iconst 0, 1, [0]), (81, .dup2, 1, []), (82, .iaload, 1, []), (83, .iconst 1, 1, [1]), (84, .iadd, 1, []), (85, .iastore, 1, []), (86, .iinc 3 1, 3, [1]), (89, .goto (-52), 3, [37]), (92, .aload_n 0, 1, []), (93, .getfield 35, 3, [2, 10, 9]), (96, .iconst 0, 1, [0]), (97, .iaload, 1, []), (98, .ireturn, 1, [])]
def zm_Mo_draw : zMi := (5, 1, zc_Mo_draw, [(37, [1, 4])])
def zc_Mo_keep : List zC := [(0, .iload_n 1, 1, []), (1, .i2l, 1, []), (2, .lconst 0, 1, [0]), (3, .lconst 1, 1, [1]), (4, .invokestatic 131, 3, [121, 3, 1, 0]), (7, .ifCond .ne 5, 3, [12]), (10, .iconst (-1), 1, [1, 1]), (11, .ireturn, 1, []), (12, .aload_n 0, 1, []), (13, .getfield 41, 3, [2, 10, 11]), (16, .iload_n 1, 1, []), (17, .baload, 1, []), (18, .invokestatic 194, 3, [122, 1, 1, 0]), (21, .istore_n 2, 1, []), (22, .aload_n 0, 1, []), (23, .getfield 41, 3, [2, 10, 11]), (26, .iload_n 1, 1, []), (27, .iconst 1, 1, [1]), (28, .bastore, 1, []), (29, .iconst 0, 1, [0]), (30, .istore_n 3, 1, []), (31, .iload_n 3, 1, []), (32, .bipush 49, 2, [49]), (34, .if_icmp .ge 26, 3, [60]), (37, .aload_n 0, 1, []), (38, .getfield 38, 3, [2, 10, 10]), (41, .bipush 49, 2, [49]), (43, .iload_n 1, 1, []), (44, .imul, 1, []), (45, .iload_n 3, 1, []), (46, .iadd, 1, []), (47, .aload_n 0, 1, []), (48, .getfield 35, 3, [2, 10, 9]), (51, .iload_n 3, 1, []), (52, .iaload, 1, []), (53, .iastore, 1, []), (54, .iinc 3 1, 3, [1]), (57, .goto (-26), 3, [31]), (60, .iload_n 2, 1, []), (61, .ireturn, 1, [])]
def zm_Mo_keep : zMi := (4, 1, zc_Mo_keep, [(31, [])])
def zc_Mo_back : List zC := [(0, .iload_n 1, 1, []), (1, .i2l, 1, []), (2, .lconst 0, 1, [0]), (3, .lconst 1, 1, [1]), (4, .invokestatic 131, 3, [121, 3, 1, 0]), (7, .ifCond .ne 5, 3, [12]), (10, .iconst (-1), 1, [1, 1]), (11, .ireturn, 1, []), (12, .aload_n 0, 1, []), (13, .getfield 41, 3, [2, 10, 11]), (16, .iload_n 1, 1, []), (17, .baload, 1, []), (18, .ifCond .ne 6, 3, [24]), (21, .bipush (-2), 2, [2, 1]), (23, .ireturn, 1, []), (24, .iconst 0, 1, [0]), (25, .istore_n 2, 1, []), (26, .iload_n 2, 1, []), (27, .bipush 49, 2, [49]), (29, .if_icmp .ge 26, 3, [55]), (32, .aload_n 0, 1, []), (33, .getfield 35, 3, [2, 10, 9]), (36, .iload_n 2, 1, []), (37, .aload_n 0, 1, []), (38, .getfield 38, 3, [2, 10, 10]), (41, .bipush 49, 2, [49]), (43, .iload_n 1, 1, []), (44, .imul, 1, []), (45, .iload_n 2, 1, []), (46, .iadd, 1, []), (47, .iaload, 1, []), (48, .iastore, 1, []), (49, .iinc 2 1, 3, [1]), (52, .goto (-26), 3, [26]), (55, .aload_n 0, 1, []), (56, .getfield 35, 3, [2, 10, 9]), (59, .iconst 0, 1, [0]), (60, .iaload, 1, []), (61, .ireturn, 1, [])]
def zm_Mo_back : zMi := (3, 1, zc_Mo_back, [(26, [])])
def zc_Mo_isSheet : List zC := [(0, .iload_n 0, 1, []), (1, .i2l, 1, []), (2, .lconst 0, 1, [0]), (3, .ldc2_w 404, 3, [3]), (6, .invokestatic 131, 3, [121, 3, 1, 0]), (9, .ifCond .eq 19, 3, [28]), (12, .iload_n 1, 1, []), (13, .i2l, 1, []), (14, .lconst 0, 1, [0]), (15, .ldc2_w 307, 3, [2]), (18, .invokestatic 131, 3, [121, 3, 1, 0]), (21, .ifCond .eq 7, 3, [28]), (24, .iconst 1, 1, [1]), (25, .goto 4, 3, [29]), (28, .iconst 0, 1, [0]), (29, .ireturn, 1, [])]
def zm_Mo_isSheet : zMi := (2, 2, zc_Mo_isSheet, [])
def zc_Mo_sheet : List zC := [(0, .iload_n 1, 1, []), (1, .iload_n 2, 1, []), (2, .invokestatic 406, 3, [203, 2, 1, 0]), (5, .ifCond .eq 9, 3, [14]), (8, .iload_n 3, 1, []), (9, .bipush 40, 2, [40]), (11, .if_icmp .le 5, 3, [16]), (14, .iconst (-1), 1, [1, 1]), (15, .ireturn, 1, []), (16, .iload_n 3, 1, []), (17, .ifCond .ge 6, 3, [23]), (20, .bipush (-14), 2, [14, 1]), (22, .ireturn, 1, []), (23, .aload_n 0, 1, []), (24, .getfield 120, 3, [2, 10, 48]), (27, .iload_n 1, 1, []), (28, .iload_n 2, 1, []), (29, .iastore, 1, []), (30, .aload_n 0, 1, []), (31, .getfield 123, 3, [2, 10, 49]), (34, .iload_n 1, 1, []), (35, .iload_n 3, 1, []), (36, .iastore, 1, []), (37, .iconst 0, 1, [0]), (38, .istore 4, 2, []), (40, .iload 4, 2, []), (42, .bipush 40, 2, [40]), (44, .if_icmp .ge 22, 3, [66]), (47, .aload_n 0, 1, []), (48, .getfield 126, 3, [2, 10, 50]), (51, .bipush 40, 2, [40]), (53, .iload_n 1, 1, []), (54, .imul, 1, []), (55, .iload 4, 2, []), (57, .iadd, 1, []), (58, .iconst 0, 1, [0]), (59, .iastore, 1, []), (60, .iinc 4 1, 3, [1]), (63, .goto (-23), 3, [40]), (66, .iconst 1, 1, [1]), (67, .ireturn, 1, [])]
def zm_Mo_sheet : zMi := (5, 1, zc_Mo_sheet, [(40, [2, 3])])
def zc_Mo_lay : List zC := [(0, .iload_n 1, 1, []), (1, .iconst 0, 1, [0]), (2, .invokestatic 406, 3, [203, 2, 1, 0]), (5, .ifCond .ne 5, 3, [10]), (8, .iconst (-1), 1, [1, 1]), (9, .ireturn, 1, []), (10, .aload_n 0, 1, []), (11, .getfield 120, 3, [2, 10, 48]), (14, .iload_n 1, 1, []), (15, .iaload, 1, []), (16, .bipush (-4), 2, [4, 1]), (18, .if_icmp .ne 6, 3, [24]), (21, .bipush (-11), 2, [11, 1]), (23, .ireturn, 1, []), (24, .iload_n 2, 1, []), (25, .i2l, 1, []), (26, .lconst 0, 1, [0]), (27, .aload_n 0, 1, []), (28, .getfield 123, 3, [2, 10, 49]), (31, .iload_n 1, 1, []), (32, .iaload, 1, []), (33, .iconst 1, 1, [1]), (34, .isub, 1, []), (35, .i2l, 1, []), (36, .invokestatic 131, 3, [121, 3, 1, 0]), (39, .ifCond .ne 6, 3, [45]), (42, .bipush (-13), 2, [13, 1]), (44, .ireturn, 1, []), (45, .aload_n 0, 1, []), (46, .getfield 126, 3, [2, 10, 50]), (49, .bipush 40, 2, [40]), (51, .iload_n 1, 1, []), (52, .imul, 1, []), (53, .iload_n 2, 1, []), (54, .iadd, 1, []), (55, .aload_n 0, 1, []), (56, .getfield 120, 3, [2, 10, 48]), (59, .iload_n 1, 1, []), (60, .iaload, 1, []), (61, .ifCond .ne 8, 3, [69]), (64, .iload_n 3, 1, []), (65, .i2b, 1, []), (66, .goto 22, 3, [88]), (69, .aload_n 0, 1, []), (70, .getfield 120, 3, [2, 10, 48]), (73, .iload_n 1, 1, []), (74, .iaload, 1, []), (75, .iconst 1, 1, [1]), (76, .if_icmp .ne 11, 3, [87]), (79, .iload_n 3, 1, []), (80, .ldc_w 409, 3, [65535]), (83, .iand, 1, []), (84, .goto 4, 3, [88]), (87, .iload_n 3, 1, []), (88, .iastore, 1, []), (89, .iconst 1, 1, [1]), (90, .ireturn, 1, [])]
def zm_Mo_lay : zMi := (4, 1, zc_Mo_lay, [])
def zc_Mo_run : List zC := [(0, .iload_n 1, 1, []), (1, .iload_n 2, 1, []), (2, .invokestatic 406, 3, [203, 2, 1, 0]), (5, .ifCond .eq 16, 3, [21]), (8, .iload 4, 2, []), (10, .i2l, 1, []), (11, .lconst 0, 1, [0]), (12, .ldc2_w 399, 3, [20]), (15, .invokestatic 131, 3, [121, 3, 1, 0]), (18, .ifCond .ne 5, 3, [23]), (21, .iconst (-1), 1, [1, 1]), (22, .ireturn, 1, []), (23, .iconst 0, 1, [0]), (24, .istore 5, 2, []), (26, .aload_n 0, 1, []), (27, .iconst 0, 1, [0]), (28, .putfield 410, 3, [0, 10, 51]), (31, .iload 5, 2, []), (33, .iload 4, 2, []), (35, .if_icmp .ge 138, 3, [173]), (38, .aload_n 0, 1, []), (39, .getfield 410, 3, [0, 10, 51]), (42, .ifCond .ne 131, 3, [173]), (45, .aload_n 0, 1, []), (46, .getfield 35, 3, [2, 10, 9]), (49, .iconst 0, 1, [0]), (50, .iaload, 1, []), (51, .bipush 48, 2, [48]), (53, .if_icmp .ge 120, 3, [173]), (56, .iload_n 3, 1, []), (57, .i2l, 1, []), (58, .iload 5, 2, []), (60, .i2l, 1, []), (61, .ladd, 1, []), (62, .lstore 6, 2, []), (64, .aload_n 0, 1, []), (65, .aload_n 0, 1, []), (66, .getfield 120, 3, [2, 10, 48]), (69, .iload_n 1, 1, []), (70, .iaload, 1, []), (71, .bipush (-4), 2, [4, 1]), (73, .if_icmp .ne 7, 3, [80]), (76, .iconst 1, 1, [1]), (77, .goto 40, 3, [117]), (80, .aload_n 0, 1, []), (81, .getfield 120, 3, [2, 10, 48]), (84, .iload_n 1, 1, []), (85, .iaload, 1, []), (86, .iload_n 2, 1, []), (87, .if_icmp .eq 7, 3, [94]), (90, .iconst 2, 1, [2]), (91, .goto 26, 3, [117]), (94, .lload 6, 2, []), (96, .lconst 0, 1, [0]), (97, .aload_n 0, 1, []), (98, .getfield 123, 3, [2, 10, 49]), (101, .iload_n 1, 1, []), (102, .iaload, 1, []), (103, .iconst 1, 1, [1]), (104, .isub, 1, []), (105, .i2l, 1, []), (106, .invokestatic 131, 3, [121, 3, 1, 0]), (109, .ifCond .eq 7, 3, [116]), (112, .iconst 0, 1, [0]), (113, .goto 4, 3, [117]), (116, .iconst 3, 1, [3]), (117, .putfield 410, 3, [0, 10, 51]), (120, .aload_n 0, 1, []), (121, .getfield 410, 3, [0, 10, 51]), (124, .ifCond .ne 46, 3, [170]), (127, .aload_n 0, 1, []), (128, .getfield 35, 3, [2, 10, 9]), (131, .iconst 1, 1, [1]), (132, .aload_n 0, 1, []), (133, .getfield 35, 3, [2, 10, 9]), (136, .iconst 0, 1, [0]), (137, .iaload, 1, []), (138, .iadd, 1, []), (139, .aload_n 0, 1, []), (140, .getfield 126, 3, [2, 10, 50]), (143, .bipush 40, 2, [40]), (145, .iload_n 1, 1, []), (146, .imul, 1, []), (147, .lload 6, 2, []), (149, .l2i, 1, []), (150, .iadd, 1, []), (151, .iaload, 1, []), (152, .sipush 255, 3, [255]), (155, .iand, 1, []), (156, .iastore, 1, []), (157, .aload_n 0, 1, []), (158, .getfield 35, 3, [2, 10, 9]), (161, .iconst 0, 1, [0]), (162, .dup2, 1, []), (163, .iaload, 1, []), (164, .iconst 1, 1, [1]), (165, .iadd, 1, []), (166, .iastore, 1, []), (167, .iinc 5 1, 3, [1]), (170, .goto (-139), 3, [31]), (173, .iload 5, 2, []), (175, .ireturn, 1, [])]
def zm_Mo_run : zMi := (8, 1, zc_Mo_run, [(31, [6, 7]), (117, [7])])
def zc_Mo_torn : List zC := [(0, .aload_n 0, 1, []), (1, .getfield 410, 3, [0, 10, 51]), (4, .ireturn, 1, [])]
def zm_Mo_torn : zMi := (1, 1, zc_Mo_torn, [])
def zc_Mo_count : List zC := [(0, .iload_n 1, 1, []), (1, .tableswitch 75 0 2 #[27, 47, 52], 27, [76, 0, 28, 48, 53]), (28, .aload_n 0, 1, []), (29, .getfield 41, 3, [2, 10, 11]), (32, .iconst 0, 1, [0]), (33, .baload, 1, []), (34, .invokestatic 194, 3, [122, 1, 1, 0]), (37, .aload_n 0, 1, []), (38, .getfield 41, 3, [2, 10, 11]), (41, .iconst 1, 1, [1]), (42, .baload, 1, []), (43, .invokestatic 194, 3, [122, 1, 1, 0]), (46, .iadd, 1, []), (47, .ireturn, 1, []), (48, .aload_n 0, 1, []), (49, .getfield 135, 3, [0, 10, 13]), (52, .ireturn, 1, []), (53, .aload_n 0, 1, []), (54, .getfield 120, 3, [2, 10, 48]), (57, .iconst 0, 1, [0]), (58, .iaload, 1, []), (59, .bipush (-4), 2, [4, 1]), (61, .if_icmp .ne 8, 3, [69]), (64, .bipush (-4), 2, [4, 1]), (66, .goto 9, 3, [75]), (69, .aload_n 0, 1, []), (70, .getfield 123, 3, [2, 10, 49]), (73, .iconst 0, 1, [0]), (74, .iaload, 1, []), (75, .ireturn, 1, []), (76, .iconst (-1), 1, [1, 1]), (77, .ireturn, 1, [])]
def zm_Mo_count : zMi := (2, 1, zc_Mo_count, [])
def zc_JL_bitCount : List zC := [(0, .lload_n 0, 1, []), (1, .lload_n 0, 1, []), (2, .iconst 1, 1, [1]), (3, .lushr, 1, []), (4, .ldc2_w 314, 3, [6148914691236517205]), (7, .land, 1, []), (8, .lsub, 1, []), (9, .lstore_n 0, 1, []), (10, .lload_n 0, 1, []), (11, .ldc2_w 316, 3, [3689348814741910323]), (14, .land, 1, []), (15, .lload_n 0, 1, []), (16, .iconst 2, 1, [2]), (17, .lushr, 1, []), (18, .ldc2_w 316, 3, [3689348814741910323]), (21, .land, 1, []), (22, .ladd, 1, []), (23, .lstore_n 0, 1, []), (24, .lload_n 0, 1, []), (25, .lload_n 0, 1, []), (26, .iconst 4, 1, [4]), (27, .lushr, 1, []), (28, .ladd, 1, []), (29, .ldc2_w 318, 3, [1085102592571150095]), (32, .land, 1, []), (33, .lstore_n 0, 1, []), (34, .lload_n 0, 1, []), (35, .lload_n 0, 1, []), (36, .bipush 8, 2, [8]), (38, .lushr, 1, []), (39, .ladd, 1, []), (40, .lstore_n 0, 1, []), (41, .lload_n 0, 1, []), (42, .lload_n 0, 1, []), (43, .bipush 16, 2, [16]), (45, .lushr, 1, []), (46, .ladd, 1, []), (47, .lstore_n 0, 1, []), (48, .lload_n 0, 1, []), (49, .lload_n 0, 1, []), (50, .bipush 32, 2, [32]), (52, .lushr, 1, []), (53, .ladd, 1, []), (54, .lstore_n 0, 1, []), (55, .lload_n 0, 1, []), (56, .l2i, 1, []), (57, .bipush 127, 2, [127]), (59, .iand, 1, []), (60, .ireturn, 1, [])]
def zm_JL_bitCount : zMi := (2, 1, zc_JL_bitCount, [])
def zc_La_law : List zC := [(0, .new 7, 3, [9, 12]), (3, .dup, 1, []), (4, .invokespecial 9, 3, [74, 1, 0, 0]), (7, .astore_n 1, 1, []), (8, .new 10, 3, [10, 52]), (11, .dup, 1, []), (12, .invokespecial 12, 3, [120, 1, 0, 0]), (15, .astore_n 2, 1, []), (16, .iconst 0, 1, [0]), (17, .istore_n 3, 1, []), (18, .iload_n 3, 1, []), (19, .aload_n 0, 1, []), (20, .arraylength, 1, []), (21, .iconst 5, 1, [5]), (22, .isub, 1, []), (23, .if_icmp .gt 1037, 3, [1060]), (26, .aload_n 0, 1, []), (27, .iload_n 3, 1, []), (28, .iaload, 1, []), (29, .bipush 31, 2, [31]), (31, .iand, 1, []), (32, .tableswitch 1022 0 27 #[128, 151, 174, 187, 200, 223, 256, 309, 352, 405, 448, 471, 494, 527, 550, 583, 616, 649, 682, 735, 768, 801, 824, 847, 890, 933, 986, 999], 128, [1054, 0, 160, 183, 206, 219, 232, 255, 288, 341, 384, 437, 480, 503, 526, 559, 582, 615, 648, 681, 714, 767, 800, 833, 856, 879, 922, 965, 1018, 1031]), (160, .aload_n 1, 1, []), (161, .aload_n 0, 1, []), (162, .iload_n 3, 1, []), (163, .iconst 1, 1, [1]), (164, .iadd, 1, []), (165, .iaload, 1, []), (166, .invokevirtual 13, 3, [75, 2, 1, 10]), (169, .aload_n 2, 1, []), (170, .aload_n 0, 1, []), (171, .iload_n 3, 1, []), (172, .iconst 1, 1, [1]), (173, .iadd, 1, []), (174, .iaload, 1, []), (175, .invokevirtual 17, 3, [125, 2, 1, 11]), (178, .if_icmp .eq 876, 3, [1054]), (181, .iconst 0, 1, [0]), (182, .ireturn, 1, []), (183, .aload_n 1, 1, []), (184, .aload_n 0, 1, []), (185, .iload_n 3, 1, []), (186, .iconst 1, 1, [1]), (187, .iadd, 1, []), (188, .iaload, 1, []), (189, .invokevirtual 18, 3, [76, 2, 1, 10]), (192, .aload_n 2, 1, []), (193, .aload_n 0, 1, []), (194, .iload_n 3, 1, []), (195, .iconst 1, 1, [1]), (196, .iadd, 1, []), (197, .iaload, 1, []), (198, .invokevirtual 21, 3, [126, 2, 1, 11]), (201, .if_icmp .eq 853, 3, [1054]), (204, .iconst 0, 1, [0]), (205, .ireturn, 1, []), (206, .aload_n 1, 1, []), (207, .invokevirtual 22, 3, [77, 1, 1, 10]), (210, .aload_n 2, 1, []), (211, .invokevirtual 26, 3, [157, 1, 1, 11]), (214, .if_icmp .eq 840, 3, [1054]), (217, .iconst 0, 1, [0]), (218, .ireturn, 1, []), (219, .aload_n 1, 1, []), (220, .invokevirtual 27, 3, [78, 1, 1, 10]), (223, .aload_n 2, 1, []), (224, .invokevirtual 30, 3, [158, 1, 1, 11]), (227, .if_icmp .eq 827, 3, [1054]), (230, .iconst 0, 1, [0]), (231, .ireturn, 1, []), (232, .aload_n 1, 1, []), (233, .aload_n 0, 1, []), (234, .iload_n 3, 1, []), (235, .iconst 1, 1, [1]), (236, .iadd, 1, []), (237, .iaload, 1, []), (238, .invokevirtual 31, 3, [79, 2, 1, 10]), (241, .aload_n 2, 1, []), (242, .aload_n 0, 1, []), (243, .iload_n 3, 1, []), (244, .iconst 1, 1, [1]), (245, .iadd, 1, []), (246, .iaload, 1, []), (247, .invokevirtual 34, 3, [193, 2, 1, 11]), (250, .if_icmp .eq 804, 3, [1054]), (253, .iconst 0, 1, [0]), (254, .ireturn, 1, []), (255, .aload_n 1, 1, []), (256, .aload_n 0, 1, []), (257, .iload_n 3, 1, []), (258, .iconst 1, 1, [1]), (259, .iadd, 1, []), (260, .iaload, 1, []), (261, .aload_n 0, 1, []), (262, .iload_n 3, 1, []), (263, .iconst 2, 1, [2]), (264, .iadd, 1, []), (265, .iaload, 1, []), (266, .invokevirtual 35, 3, [80, 3, 1, 10]), (269, .aload_n 2, 1, []), (270, .aload_n 0, 1, []), (271, .iload_n 3, 1, []), (272, .iconst 1, 1, [1]), (273, .iadd, 1, []), (274, .iaload, 1, []), (275, .aload_n 0, 1, []), (276, .iload_n 3, 1, []), (277, .iconst 2, 1, [2]), (278, .iadd, 1, []), (279, .iaload, 1, []), (280, .invokevirtual 39, 3, [174, 3, 1, 11]), (283, .if_icmp .eq 771, 3, [1054]), (286, .iconst 0, 1, [0]), (287, .ireturn, 1, []), (288, .aload_n 1, 1, []), (289, .aload_n 0, 1, []), (290, .iload_n 3, 1, []), (291, .iconst 1, 1, [1]), (292, .iadd, 1, []), (293, .iaload, 1, []), (294, .aload_n 0, 1, []), (295, .iload_n 3, 1, []), (296, .iconst 2, 1, [2]), (297, .iadd, 1, []), (298, .iaload, 1, []), (299, .aload_n 0, 1, []), (300, .iload_n 3, 1, []), (301, .iconst 3, 1, [3]), (302, .iadd, 1, []), (303, .iaload, 1, []), (304, .aload_n 0, 1, []), (305, .iload_n 3, 1, []), (306, .iconst 4, 1, [4]), (307, .iadd, 1, []), (308, .iaload, 1, []), (309, .invokevirtual 40, 3, [81, 5, 1, 10]), (312, .aload_n 2, 1, []), (313, .aload_n 0, 1, []), (314, .iload_n 3, 1, []), (315, .iconst 1, 1, [1]), (316, .iadd, 1, []), (317, .iaload, 1, []), (318, .aload_n 0, 1, []), (319, .iload_n 3, 1, []), (320, .iconst 2, 1, [2]), (321, .iadd, 1, []), (322, .iaload, 1, []), (323, .aload_n 0, 1, []), (324, .iload_n 3, 1, []), (325, .iconst 3, 1, [3]), (326, .iadd, 1, []), (327, .iaload, 1, []), (328, .aload_n 0, 1, []), (329, .iload_n 3, 1, []), (330, .iconst 4, 1, [4]), (331, .iadd, 1, []), (332, .iaload, 1, []), (333, .invokevirtual 44, 3, [170, 5, 1, 11]), (336, .if_icmp .eq 718, 3, [1054]), (339, .iconst 0, 1, [0]), (340, .ireturn, 1, []), (341, .aload_n 1, 1, []), (342, .aload_n 0, 1, []), (343, .iload_n 3, 1, []), (344, .iconst 1, 1, [1]), (345, .iadd, 1, []), (346, .iaload, 1, []), (347, .aload_n 0, 1, []), (348, .iload_n 3, 1, []), (349, .iconst 2, 1, [2]), (350, .iadd, 1, []), (351, .iaload, 1, []), (352, .aload_n 0, 1, []), (353, .iload_n 3, 1, []), (354, .iconst 3, 1, [3]), (355, .iadd, 1, []), (356, .iaload, 1, []), (357, .invokevirtual 45, 3, [82, 4, 1, 10]), (360, .aload_n 2, 1, []), (361, .aload_n 0, 1, []), (362, .iload_n 3, 1, []), (363, .iconst 1, 1, [1]), (364, .iadd, 1, []), (365, .iaload, 1, []), (366, .aload_n 0, 1, []), (367, .iload_n 3, 1, []), (368, .iconst 2, 1, [2]), (369, .iadd, 1, []), (370, .iaload, 1, []), (371, .aload_n 0, 1, []), (372, .iload_n 3, 1, []), (373, .iconst 3, 1, [3]), (374, .iadd, 1, []), (375, .iaload, 1, []), (376, .invokevirtual 49, 3, [171, 4, 1, 11]), (379, .if_icmp .eq 675, 3, [1054]), (382, .iconst 0, 1, [0]), (383, .ireturn, 1, []), (384, .aload_n 1, 1, []), (385, .aload_n 0, 1, []), (386, .iload_n 3, 1, []), (387, .iconst 1, 1, [1]), (388, .iadd, 1, []), (389, .iaload, 1, []), (390, .aload_n 0, 1, []), (391, .iload_n 3, 1, []), (392, .iconst 2, 1, [2]), (393, .iadd, 1, []), (394, .iaload, 1, []), (395, .aload_n 0, 1, []), (396, .iload_n 3, 1, []), (397, .iconst 3, 1, [3]), (398, .iadd, 1, []), (399, .iaload, 1, []), (400, .aload_n 0, 1, []), (401, .iload_n 3, 1, []), (402, .iconst 4, 1, [4]), (403, .iadd, 1, []), (404, .iaload, 1, []), (405, .invokevirtual 50, 3, [83, 5, 1, 10]), (408, .aload_n 2, 1, []), (409, .aload_n 0, 1, []), (410, .iload_n 3, 1, []), (411, .iconst 1, 1, [1]), (412, .iadd, 1, []), (413, .iaload, 1, []), (414, .aload_n 0, 1, []), (415, .iload_n 3, 1, []), (416, .iconst 2, 1, [2]), (417, .iadd, 1, []), (418, .iaload, 1, []), (419, .aload_n 0, 1, []), (420, .iload_n 3, 1, []), (421, .iconst 3, 1, [3]), (422, .iadd, 1, []), (423, .iaload, 1, []), (424, .aload_n 0, 1, []), (425, .iload_n 3, 1, []), (426, .iconst 4, 1, [4]), (427, .iadd, 1, []), (428, .iaload, 1, []), (429, .invokevirtual 53, 3, [172, 5, 1, 11]), (432, .if_icmp .eq 622, 3, [1054]), (435, .iconst 0, 1, [0]), (436, .ireturn, 1, []), (437, .aload_n 1, 1, []), (438, .aload_n 0, 1, []), (439, .iload_n 3, 1, []), (440, .iconst 1, 1, [1]), (441, .iadd, 1, []), (442, .iaload, 1, []), (443, .aload_n 0, 1, []), (444, .iload_n 3, 1, []), (445, .iconst 2, 1, [2]), (446, .iadd, 1, []), (447, .iaload, 1, []), (448, .aload_n 0, 1, []), (449, .iload_n 3, 1, []), (450, .iconst 3, 1, [3]), (451, .iadd, 1, []), (452, .iaload, 1, []), (453, .invokevirtual 54, 3, [84, 4, 1, 10]), (456, .aload_n 2, 1, []), (457, .aload_n 0, 1, []), (458, .iload_n 3, 1, []), (459, .iconst 1, 1, [1]), (460, .iadd, 1, []), (461, .iaload, 1, []), (462, .aload_n 0, 1, []), (463, .iload_n 3, 1, []), (464, .iconst 2, 1, [2]), (465, .iadd, 1, []), (466, .iaload, 1, []), (467, .aload_n 0, 1, []), (468, .iload_n 3, 1, []), (469, .iconst 3, 1, [3]), (470, .iadd, 1, []), (471, .iaload, 1, []), (472, .invokevirtual 57, 3, [173, 4, 1, 11]), (475, .if_icmp .eq 579, 3, [1054]), (478, .iconst 0, 1, [0]), (479, .ireturn, 1, []), (480, .aload_n 1, 1, []), (481, .aload_n 0, 1, []), (482, .iload_n 3, 1, []), (483, .iconst 1, 1, [1]), (484, .iadd, 1, []), (485, .iaload, 1, []), (486, .invokevirtual 58, 3, [85, 2, 1, 10]), (489, .aload_n 2, 1, []), (490, .aload_n 0, 1, []), (491, .iload_n 3, 1, []), (492, .iconst 1, 1, [1]), (493, .iadd, 1, []), (494, .iaload, 1, []), (495, .invokevirtual 61, 3, [195, 2, 1, 11]), (498, .if_icmp .eq 556, 3, [1054]), (501, .iconst 0, 1, [0]), (502, .ireturn, 1, []), (503, .aload_n 1, 1, []), (504, .aload_n 0, 1, []), (505, .iload_n 3, 1, []), (506, .iconst 1, 1, [1]), (507, .iadd, 1, []), (508, .iaload, 1, []), (509, .invokevirtual 62, 3, [86, 2, 1, 10]), (512, .aload_n 2, 1, []), (513, .aload_n 0, 1, []), (514, .iload_n 3, 1, []), (515, .iconst 1, 1, [1]), (516, .iadd, 1, []), (517, .iaload, 1, []), (518, .invokevirtual 65, 3, [196, 2, 1, 11]), (521, .if_icmp .eq 533, 3, [1054]), (524, .iconst 0, 1, [0]), (525, .ireturn, 1, []), (526, .aload_n 1, 1, []), (527, .aload_n 0, 1, []), (528, .iload_n 3, 1, []), (529, .iconst 1, 1, [1]), (530, .iadd, 1, []), (531, .iaload, 1, []), (532, .aload_n 0, 1, []), (533, .iload_n 3, 1, []), (534, .iconst 2, 1, [2]), (535, .iadd, 1, []), (536, .iaload, 1, []), (537, .invokevirtual 66, 3, [87, 3, 1, 10]), (540, .aload_n 2, 1, []), (541, .aload_n 0, 1, []), (542, .iload_n 3, 1, []), (543, .iconst 1, 1, [1]), (544, .iadd, 1, []), (545, .iaload, 1, []), (546, .aload_n 0, 1, []), (547, .iload_n 3, 1, []), (548, .iconst 2, 1, [2]), (549, .iadd, 1, []), (550, .iaload, 1, []), (551, .invokevirtual 69, 3, [197, 3, 1, 11]), (554, .if_icmp .eq 500, 3, [1054]), (557, .iconst 0, 1, [0]), (558, .ireturn, 1, []), (559, .aload_n 1, 1, []), (560, .aload_n 0, 1, []), (561, .iload_n 3, 1, []), (562, .iconst 1, 1, [1]), (563, .iadd, 1, []), (564, .iaload, 1, []), (565, .invokevirtual 70, 3, [88, 2, 1, 10]), (568, .aload_n 2, 1, []), (569, .aload_n 0, 1, []), (570, .iload_n 3, 1, []), (571, .iconst 1, 1, [1]), (572, .iadd, 1, []), (573, .iaload, 1, []), (574, .invokevirtual 73, 3, [198, 2, 1, 11]), (577, .if_icmp .eq 477, 3, [1054]), (580, .iconst 0, 1, [0]), (581, .ireturn, 1, []), (582, .aload_n 1, 1, []), (583, .aload_n 0, 1, []), (584, .iload_n 3, 1, []), (585, .iconst 1, 1, [1]), (586, .iadd, 1, []), (587, .iaload, 1, []), (588, .aload_n 0, 1, []), (589, .iload_n 3, 1, []), (590, .iconst 2, 1, [2]), (591, .iadd, 1, []), (592, .iaload, 1, []), (593, .invokevirtual 74, 3, [89, 3, 1, 10]), (596, .aload_n 2, 1, []), (597, .aload_n 0, 1, []), (598, .iload_n 3, 1, []), (599, .iconst 1, 1, [1]), (600, .iadd, 1, []), (601, .iaload, 1, []), (602, .aload_n 0, 1, []), (603, .iload_n 3, 1, []), (604, .iconst 2, 1, [2]), (605, .iadd, 1, []), (606, .iaload, 1, []), (607, .invokevirtual 77, 3, [200, 3, 1, 11]), (610, .if_icmp .eq 444, 3, [1054]), (613, .iconst 0, 1, [0]), (614, .ireturn, 1, []), (615, .aload_n 1, 1, []), (616, .aload_n 0, 1, []), (617, .iload_n 3, 1, []), (618, .iconst 1, 1, [1]), (619, .iadd, 1, []), (620, .iaload, 1, []), (621, .aload_n 0, 1, []), (622, .iload_n 3, 1, []), (623, .iconst 2, 1, [2]), (624, .iadd, 1, []), (625, .iaload, 1, []), (626, .invokevirtual 78, 3, [90, 3, 1, 10]), (629, .aload_n 2, 1, []), (630, .aload_n 0, 1, []), (631, .iload_n 3, 1, []), (632, .iconst 1, 1, [1]), (633, .iadd, 1, []), (634, .iaload, 1, []), (635, .aload_n 0, 1, []), (636, .iload_n 3, 1, []), (637, .iconst 2, 1, [2]), (638, .iadd, 1, []), (639, .iaload, 1, []), (640, .invokevirtual 81, 3, [184, 3, 1, 11]), (643, .if_icmp .eq 411, 3, [1054]), (646, .iconst 0, 1, [0]), (647, .ireturn, 1, []), (648, .aload_n 1, 1, []), (649, .aload_n 0, 1, []), (650, .iload_n 3, 1, []), (651, .iconst 1, 1, [1]), (652, .iadd, 1, []), (653, .iaload, 1, []), (654, .aload_n 0, 1, []), (655, .iload_n 3, 1, []), (656, .iconst 2, 1, [2]), (657, .iadd, 1, []), (658, .iaload, 1, []), (659, .invokevirtual 82, 3, [91, 3, 1, 10]), (662, .aload_n 2, 1, []), (663, .aload_n 0, 1, []), (664, .iload_n 3, 1, []), (665, .iconst 1, 1, [1]), (666, .iadd, 1, []), (667, .iaload, 1, []), (668, .aload_n 0, 1, []), (669, .iload_n 3, 1, []), (670, .iconst 2, 1, [2]), (671, .iadd, 1, []), (672, .iaload, 1, []), (673, .invokevirtual 85, 3, [185, 3, 1, 11]), (676, .if_icmp .eq 378, 3, [1054]), (679, .iconst 0, 1, [0]), (680, .ireturn, 1, []), (681, .aload_n 1, 1, []), (682, .aload_n 0, 1, []), (683, .iload_n 3, 1, []), (684, .iconst 1, 1, [1]), (685, .iadd, 1, []), (686, .iaload, 1, []), (687, .aload_n 0, 1, []), (688, .iload_n 3, 1, []), (689, .iconst 2, 1, [2]), (690, .iadd, 1, []), (691, .iaload, 1, []), (692, .invokevirtual 86, 3, [92, 3, 1, 10]), (695, .aload_n 2, 1, []), (696, .aload_n 0, 1, []), (697, .iload_n 3, 1, []), (698, .iconst 1, 1, [1]), (699, .iadd, 1, []), (700, .iaload, 1, []), (701, .aload_n 0, 1, []), (702, .iload_n 3, 1, []), (703, .iconst 2, 1, [2]), (704, .iadd, 1, []), (705, .iaload, 1, []), (706, .invokevirtual 89, 3, [186, 3, 1, 11]), (709, .if_icmp .eq 345, 3, [1054]), (712, .iconst 0, 1, [0]), (713, .ireturn, 1, []), (714, .aload_n 1, 1, []), (715, .aload_n 0, 1, []), (716, .iload_n 3, 1, []), (717, .iconst 1, 1, [1]), (718, .iadd, 1, []), (719, .iaload, 1, []), (720, .aload_n 0, 1, []), (721, .iload_n 3, 1, []), (722, .iconst 2, 1, [2]), (723, .iadd, 1, []), (724, .iaload, 1, []), (725, .aload_n 0, 1, []), (726, .iload_n 3, 1, []), (727, .iconst 3, 1, [3]), (728, .iadd, 1, []), (729, .iaload, 1, []), (730, .aload_n 0, 1, []), (731, .iload_n 3, 1, []), (732, .iconst 4, 1, [4]), (733, .iadd, 1, []), (734, .iaload, 1, []), (735, .invokevirtual 90, 3, [93, 5, 1, 10]), (738, .aload_n 2, 1, []), (739, .aload_n 0, 1, []), (740, .iload_n 3, 1, []), (741, .iconst 1, 1, [1]), (742, .iadd, 1, []), (743, .iaload, 1, []), (744, .aload_n 0, 1, []), (745, .iload_n 3, 1, []), (746, .iconst 2, 1, [2]), (747, .iadd, 1, []), (748, .iaload, 1, []), (749, .aload_n 0, 1, []), (750, .iload_n 3, 1, []), (751, .iconst 3, 1, [3]), (752, .iadd, 1, []), (753, .iaload, 1, []), (754, .aload_n 0, 1, []), (755, .iload_n 3, 1, []), (756, .iconst 4, 1, [4]), (757, .iadd, 1, []), (758, .iaload, 1, []), (759, .invokevirtual 93, 3, [187, 5, 1, 11]), (762, .if_icmp .eq 292, 3, [1054]), (765, .iconst 0, 1, [0]), (766, .ireturn, 1, []), (767, .aload_n 1, 1, []), (768, .aload_n 0, 1, []), (769, .iload_n 3, 1, []), (770, .iconst 1, 1, [1]), (771, .iadd, 1, []), (772, .iaload, 1, []), (773, .aload_n 0, 1, []), (774, .iload_n 3, 1, []), (775, .iconst 2, 1, [2]), (776, .iadd, 1, []), (777, .iaload, 1, []), (778, .invokevirtual 94, 3, [94, 3, 1, 10]), (781, .aload_n 2, 1, []), (782, .aload_n 0, 1, []), (783, .iload_n 3, 1, []), (784, .iconst 1, 1, [1]), (785, .iadd, 1, []), (786, .iaload, 1, []), (787, .aload_n 0, 1, []), (788, .iload_n 3, 1, []), (789, .iconst 2, 1, [2]), (790, .iadd, 1, []), (791, .iaload, 1, []), (792, .invokevirtual 97, 3, [189, 3, 1, 11]), (795, .if_icmp .eq 259, 3, [1054]), (798, .iconst 0, 1, [0]), (799, .ireturn, 1, []), (800, .aload_n 1, 1, []), (801, .aload_n 0, 1, []), (802, .iload_n 3, 1, []), (803, .iconst 1, 1, [1]), (804, .iadd, 1, []), (805, .iaload, 1, []), (806, .aload_n 0, 1, []), (807, .iload_n 3, 1, []), (808, .iconst 2, 1, [2]), (809, .iadd, 1, []), (810, .iaload, 1, []), (811, .invokevirtual 98, 3, [95, 3, 1, 10]), (814, .aload_n 2, 1, []), (815, .aload_n 0, 1, []), (816, .iload_n 3, 1, []), (817, .iconst 1, 1, [1]), (818, .iadd, 1, []), (819, .iaload, 1, []), (820, .aload_n 0, 1, []), (821, .iload_n 3, 1, []), (822, .iconst 2, 1, [2]), (823, .iadd, 1, []), (824, .iaload, 1, []), (825, .invokevirtual 101, 3, [190, 3, 1, 11]), (828, .if_icmp .eq 226, 3, [1054]), (831, .iconst 0, 1, [0]), (832, .ireturn, 1, []), (833, .aload_n 1, 1, []), (834, .aload_n 0, 1, []), (835, .iload_n 3, 1, []), (836, .iconst 1, 1, [1]), (837, .iadd, 1, []), (838, .iaload, 1, []), (839, .invokevirtual 102, 3, [96, 2, 1, 10]), (842, .aload_n 2, 1, []), (843, .aload_n 0, 1, []), (844, .iload_n 3, 1, []), (845, .iconst 1, 1, [1]), (846, .iadd, 1, []), (847, .iaload, 1, []), (848, .invokevirtual 105, 3, [201, 2, 1, 11]), (851, .if_icmp .eq 203, 3, [1054]), (854, .iconst 0, 1, [0]), (855, .ireturn, 1, []), (856, .aload_n 1, 1, []), (857, .aload_n 0, 1, []), (858, .iload_n 3, 1, []), (859, .iconst 1, 1, [1]), (860, .iadd, 1, []), (861, .iaload, 1, []), (862, .invokevirtual 106, 3, [97, 2, 1, 10]), (865, .aload_n 2, 1, []), (866, .aload_n 0, 1, []), (867, .iload_n 3, 1, []), (868, .iconst 1, 1, [1]), (869, .iadd, 1, []), (870, .iaload, 1, []), (871, .invokevirtual 109, 3, [202, 2, 1, 11]), (874, .if_icmp .eq 180, 3, [1054]), (877, .iconst 0, 1, [0]), (878, .ireturn, 1, []), (879, .aload_n 1, 1, []), (880, .aload_n 0, 1, []), (881, .iload_n 3, 1, []), (882, .iconst 1, 1, [1]), (883, .iadd, 1, []), (884, .iaload, 1, []), (885, .aload_n 0, 1, []), (886, .iload_n 3, 1, []), (887, .iconst 2, 1, [2]), (888, .iadd, 1, []), (889, .iaload, 1, []), (890, .aload_n 0, 1, []), (891, .iload_n 3, 1, []), (892, .iconst 3, 1, [3]), (893, .iadd, 1, []), (894, .iaload, 1, []), (895, .invokevirtual 110, 3, [98, 4, 1, 10]), (898, .aload_n 2, 1, []), (899, .aload_n 0, 1, []), (900, .iload_n 3, 1, []), (901, .iconst 1, 1, [1]), (902, .iadd, 1, []), (903, .iaload, 1, []), (904, .aload_n 0, 1, []), (905, .iload_n 3, 1, []), (906, .iconst 2, 1, [2]), (907, .iadd, 1, []), (908, .iaload, 1, []), (909, .aload_n 0, 1, []), (910, .iload_n 3, 1, []), (911, .iconst 3, 1, [3]), (912, .iadd, 1, []), (913, .iaload, 1, []), (914, .invokevirtual 113, 3, [204, 4, 1, 11]), (917, .if_icmp .eq 137, 3, [1054]), (920, .iconst 0, 1, [0]), (921, .ireturn, 1, []), (922, .aload_n 1, 1, []), (923, .aload_n 0, 1, []), (924, .iload_n 3, 1, []), (925, .iconst 1, 1, [1]), (926, .iadd, 1, []), (927, .iaload, 1, []), (928, .aload_n 0, 1, []), (929, .iload_n 3, 1, []), (930, .iconst 2, 1, [2]), (931, .iadd, 1, []), (932, .iaload, 1, []), (933, .aload_n 0, 1, []), (934, .iload_n 3, 1, []), (935, .iconst 3, 1, [3]), (936, .iadd, 1, []), (937, .iaload, 1, []), (938, .invokevirtual 114, 3, [99, 4, 1, 10]), (941, .aload_n 2, 1, []), (942, .aload_n 0, 1, []), (943, .iload_n 3, 1, []), (944, .iconst 1, 1, [1]), (945, .iadd, 1, []), (946, .iaload, 1, []), (947, .aload_n 0, 1, []), (948, .iload_n 3, 1, []), (949, .iconst 2, 1, [2]), (950, .iadd, 1, []), (951, .iaload, 1, []), (952, .aload_n 0, 1, []), (953, .iload_n 3, 1, []), (954, .iconst 3, 1, [3]), (955, .iadd, 1, []), (956, .iaload, 1, []), (957, .invokevirtual 117, 3, [205, 4, 1, 11]), (960, .if_icmp .eq 94, 3, [1054]), (963, .iconst 0, 1, [0]), (964, .ireturn, 1, []), (965, .aload_n 1, 1, []), (966, .aload_n 0, 1, []), (967, .iload_n 3, 1, []), (968, .iconst 1, 1, [1]), (969, .iadd, 1, []), (970, .iaload, 1, []), (971, .aload_n 0, 1, []), (972, .iload_n 3, 1, []), (973, .iconst 2, 1, [2]), (974, .iadd, 1, []), (975, .iaload, 1, []), (976, .aload_n 0, 1, []), (977, .iload_n 3, 1, []), (978, .iconst 3, 1, [3]), (979, .iadd, 1, []), (980, .iaload, 1, []), (981, .aload_n 0, 1, []), (982, .iload_n 3, 1, []), (983, .iconst 4, 1, [4]), (984, .iadd, 1, []), (985, .iaload, 1, []), (986, .invokevirtual 118, 3, [100, 5, 1, 10]), (989, .aload_n 2, 1, []), (990, .aload_n 0, 1, []), (991, .iload_n 3, 1, []), (992, .iconst 1, 1, [1]), (993, .iadd, 1, []), (994, .iaload, 1, []), (995, .aload_n 0, 1, []), (996, .iload_n 3, 1, []), (997, .iconst 2, 1, [2]), (998, .iadd, 1, []), (999, .iaload, 1, []), (1000, .aload_n 0, 1, []), (1001, .iload_n 3, 1, []), (1002, .iconst 3, 1, [3]), (1003, .iadd, 1, []), (1004, .iaload, 1, []), (1005, .aload_n 0, 1, []), (1006, .iload_n 3, 1, []), (1007, .iconst 4, 1, [4]), (1008, .iadd, 1, []), (1009, .iaload, 1, []), (1010, .invokevirtual 121, 3, [206, 5, 1, 11]), (1013, .if_icmp .eq 41, 3, [1054]), (1016, .iconst 0, 1, [0]), (1017, .ireturn, 1, []), (1018, .aload_n 1, 1, []), (1019, .invokevirtual 122, 3, [101, 1, 1, 10]), (1022, .aload_n 2, 1, []), (1023, .invokevirtual 125, 3, [207, 1, 1, 11]), (1026, .if_icmp .eq 28, 3, [1054]), (1029, .iconst 0, 1, [0]), (1030, .ireturn, 1, []), (1031, .aload_n 1, 1, []), (1032, .aload_n 0, 1, []), (1033, .iload_n 3, 1, []), (1034, .iconst 1, 1, [1]), (1035, .iadd, 1, []), (1036, .iaload, 1, []), (1037, .invokevirtual 126, 3, [102, 2, 1, 10]), (1040, .aload_n 2, 1, []), (1041, .aload_n 0, 1, []), (1042, .iload_n 3, 1, []), (1043, .iconst 1, 1, [1]), (1044, .iadd, 1, []), (1045, .iaload, 1, []), (1046, .invokevirtual 129, 3, [208, 2, 1, 11]), (1049, .if_icmp .eq 5, 3, [1054]), (1052, .iconst 0, 1, [0]), (1053, .ireturn, 1, []), (1054, .iinc 3 5, 3, [5]), (1057, .goto (-1039), 3, [18]), (1060, .iconst 1, 1, [1]), (1061, .ireturn, 1, [])]
def zm_La_law : zMi := (4, 2, zc_La_law, [(18, [])])
def zTl : List zMi := [zm_Bu_init, zm_Bu_begin, zm_Bu_condition, zm_Bu_chainTwo, zm_Bu_chooseOfTwo, zm_Bu_repeat, zm_Bu_chainCopies, zm_Bu_finish, zm_Pl_init, zm_Pl_sideOf, zm_Pl_isPutOffBy, zm_Re_init, zm_Re_readAll, zm_Re_readPromise, zm_Re_readOff, zm_Re_readChoice, zm_Re_readChain, zm_Re_readRepeated, zm_Re_readNumber, zm_Re_readPart, zm_Re_readCondition, zm_Re_readPlain, zm_Re_readAnyOf, zm_Re_readAllOf, zm_Se_init, zm_Se_clear, zm_Se_addCondition, zm_Se_link, zm_Se_copyBlock, zm_Se_findUseful, zm_Se_openTo, zm_Se_after, zm_Se_walk, zm_Se_hasEnded, zm_Se_goesOn, zm_Sh_init, zm_Sh_renew, zm_Sh_tearAt, zm_Sh_setCell, zm_Ta_init, zm_Ta_begin, zm_Ta_refuse, zm_Ta_advance, zm_Ta_advanceNumber, zm_Ta_isFigure, zm_Ta_isSign, zm_Ta_beginsSequence, zm_Tr_init, zm_Tr_add, zm_Tr_become, zm_TS_init, zm_TS_clear, zm_TS_pushWire, zm_TS_wordOfWire, zm_TS_negate, zm_TS_joinTwo, zm_TS_drop, zm_TS_moveTop, zm_Wa_init, zm_Wa_restart, zm_Wa_catchUp, zm_Wa_takeIn, zm_Wa_moveDuties, zm_Wa_moveTries, zm_Wa_beginDuty, zm_Wa_settleDuty, zm_Wa_judgeTries, zm_Wa_judge, zm_Wa_howMany, zm_Wa_earliest, zm_Wa_failedBy, zm_Wa_allDuties, zm_Wa_dutyTick, zm_Wa_dutyState, zm_PT_init, zm_PT_feed, zm_PT_end, zm_PT_text, zm_PT_fault, zm_PT_rule, zm_PT_promise, zm_PT_fulfils, zm_PT_fulfilled, zm_PT_matches, zm_PT_might, zm_PT_tick, zm_PT_bits, zm_PT_put, zm_PT_keeps, zm_PT_draw, zm_PT_verdict, zm_PT_decided, zm_PT_duties, zm_PT_duty, zm_PT_tries, zm_PT_first, zm_PT_keep, zm_PT_back, zm_PT_sheet, zm_PT_lay, zm_PT_run, zm_PT_torn, zm_PT_count, zm_PT_isPromise, zm_PT_isTick, zm_PT_isTry, zm_PT_isCondition, zm_PT_isBits, zm_PT_isSide, zm_PT_isVerdict, zm_PT_isImage, zm_PT_isSheet, zm_PT_isLane, zm_PT_nextSeed, zm_PT_got, zm_PT_howManyImages, zm_PT_watchOf, zm_PT_watchAnew, zm_PT_isFulfilled, zm_PT_howManyFulfil, zm_Mo_init, zm_Mo_in, zm_Mo_flag, zm_Mo_least, zm_Mo_greatest, zm_Mo_feed, zm_Mo_end, zm_Mo_requires, zm_Mo_byteAt, zm_Mo_isSignByte, zm_Mo_reads, zm_Mo_isSign, zm_Mo_readNumber, zm_Mo_nests, zm_Mo_wires, zm_Mo_opensDepth, zm_Mo_joinsAnds, zm_Mo_joinsOrs, zm_Mo_readOperand, zm_Mo_readCondition, zm_Mo_placesNow, zm_Mo_takes, zm_Mo_sum, zm_Mo_follows, zm_Mo_chains, zm_Mo_chooses, zm_Mo_onePlace, zm_Mo_repeats, zm_Mo_opensSequence, zm_Mo_readBegin, zm_Mo_readTimes, zm_Mo_readEnds, zm_Mo_readSequence, zm_Mo_isFulfillable, zm_Mo_ends, zm_Mo_isBegin, zm_Mo_readPromise, zm_Mo_text, zm_Mo_fault, zm_Mo_isPromise, zm_Mo_isSide, zm_Mo_areBits, zm_Mo_fulfilsOne, zm_Mo_fulfilsOff, zm_Mo_findsFulfilling, zm_Mo_nextOf, zm_Mo_firstOf, zm_Mo_isEnd, zm_Mo_canEnd, zm_Mo_isConditionAsked, zm_Mo_fulfils, zm_Mo_fulfilled, zm_Mo_matches, zm_Mo_might, zm_Mo_promise, zm_Mo_goesOn, zm_Mo_dies, zm_Mo_begins, zm_Mo_isAny, zm_Mo_goesThrough, zm_Mo_verdictBy, zm_Mo_isTick, zm_Mo_isTry, zm_Mo_dutiesFrom, zm_Mo_verdict, zm_Mo_decided, zm_Mo_duties, zm_Mo_duty, zm_Mo_triesOf, zm_Mo_tries, zm_Mo_first, zm_Mo_allDuties, zm_Mo_allTries, zm_Mo_rule, zm_Mo_failedBy, zm_Mo_tick, zm_Mo_bits, zm_Mo_put, zm_Mo_keeps, zm_Mo_gets, zm_Mo_draw, zm_Mo_keep, zm_Mo_back, zm_Mo_isSheet, zm_Mo_sheet, zm_Mo_lay, zm_Mo_run, zm_Mo_torn, zm_Mo_count, zm_JL_bitCount, zm_La_law]
def zT : zTab := fun y => zTl.getD y (0, 0, [], [])
noncomputable abbrev zV (d : Nat) : zE0 := zE zT d
noncomputable abbrev zG (d y : Nat) : zKt := zF zT (zE zT d) y
abbrev n_Bu_init : Nat := 0
abbrev n_Bu_begin : Nat := 1
abbrev n_Bu_condition : Nat := 2
abbrev n_Bu_chainTwo : Nat := 3
abbrev n_Bu_chooseOfTwo : Nat := 4
abbrev n_Bu_repeat : Nat := 5
abbrev n_Bu_chainCopies : Nat := 6
abbrev n_Bu_finish : Nat := 7
abbrev n_Pl_init : Nat := 8
abbrev n_Pl_sideOf : Nat := 9
abbrev n_Pl_isPutOffBy : Nat := 10
abbrev n_Re_init : Nat := 11
abbrev n_Re_readAll : Nat := 12
abbrev n_Re_readPromise : Nat := 13
abbrev n_Re_readOff : Nat := 14
abbrev n_Re_readChoice : Nat := 15
abbrev n_Re_readChain : Nat := 16
abbrev n_Re_readRepeated : Nat := 17
abbrev n_Re_readNumber : Nat := 18
abbrev n_Re_readPart : Nat := 19
abbrev n_Re_readCondition : Nat := 20
abbrev n_Re_readPlain : Nat := 21
abbrev n_Re_readAnyOf : Nat := 22
abbrev n_Re_readAllOf : Nat := 23
abbrev n_Se_init : Nat := 24
abbrev n_Se_clear : Nat := 25
abbrev n_Se_addCondition : Nat := 26
abbrev n_Se_link : Nat := 27
abbrev n_Se_copyBlock : Nat := 28
abbrev n_Se_findUseful : Nat := 29
abbrev n_Se_openTo : Nat := 30
abbrev n_Se_after : Nat := 31
abbrev n_Se_walk : Nat := 32
abbrev n_Se_hasEnded : Nat := 33
abbrev n_Se_goesOn : Nat := 34
abbrev n_Sh_init : Nat := 35
abbrev n_Sh_renew : Nat := 36
abbrev n_Sh_tearAt : Nat := 37
abbrev n_Sh_setCell : Nat := 38
abbrev n_Ta_init : Nat := 39
abbrev n_Ta_begin : Nat := 40
abbrev n_Ta_refuse : Nat := 41
abbrev n_Ta_advance : Nat := 42
abbrev n_Ta_advanceNumber : Nat := 43
abbrev n_Ta_isFigure : Nat := 44
abbrev n_Ta_isSign : Nat := 45
abbrev n_Ta_beginsSequence : Nat := 46
abbrev n_Tr_init : Nat := 47
abbrev n_Tr_add : Nat := 48
abbrev n_Tr_become : Nat := 49
abbrev n_TS_init : Nat := 50
abbrev n_TS_clear : Nat := 51
abbrev n_TS_pushWire : Nat := 52
abbrev n_TS_wordOfWire : Nat := 53
abbrev n_TS_negate : Nat := 54
abbrev n_TS_joinTwo : Nat := 55
abbrev n_TS_drop : Nat := 56
abbrev n_TS_moveTop : Nat := 57
abbrev n_Wa_init : Nat := 58
abbrev n_Wa_restart : Nat := 59
abbrev n_Wa_catchUp : Nat := 60
abbrev n_Wa_takeIn : Nat := 61
abbrev n_Wa_moveDuties : Nat := 62
abbrev n_Wa_moveTries : Nat := 63
abbrev n_Wa_beginDuty : Nat := 64
abbrev n_Wa_settleDuty : Nat := 65
abbrev n_Wa_judgeTries : Nat := 66
abbrev n_Wa_judge : Nat := 67
abbrev n_Wa_howMany : Nat := 68
abbrev n_Wa_earliest : Nat := 69
abbrev n_Wa_failedBy : Nat := 70
abbrev n_Wa_allDuties : Nat := 71
abbrev n_Wa_dutyTick : Nat := 72
abbrev n_Wa_dutyState : Nat := 73
abbrev n_PT_init : Nat := 74
abbrev n_PT_feed : Nat := 75
abbrev n_PT_end : Nat := 76
abbrev n_PT_text : Nat := 77
abbrev n_PT_fault : Nat := 78
abbrev n_PT_rule : Nat := 79
abbrev n_PT_promise : Nat := 80
abbrev n_PT_fulfils : Nat := 81
abbrev n_PT_fulfilled : Nat := 82
abbrev n_PT_matches : Nat := 83
abbrev n_PT_might : Nat := 84
abbrev n_PT_tick : Nat := 85
abbrev n_PT_bits : Nat := 86
abbrev n_PT_put : Nat := 87
abbrev n_PT_keeps : Nat := 88
abbrev n_PT_draw : Nat := 89
abbrev n_PT_verdict : Nat := 90
abbrev n_PT_decided : Nat := 91
abbrev n_PT_duties : Nat := 92
abbrev n_PT_duty : Nat := 93
abbrev n_PT_tries : Nat := 94
abbrev n_PT_first : Nat := 95
abbrev n_PT_keep : Nat := 96
abbrev n_PT_back : Nat := 97
abbrev n_PT_sheet : Nat := 98
abbrev n_PT_lay : Nat := 99
abbrev n_PT_run : Nat := 100
abbrev n_PT_torn : Nat := 101
abbrev n_PT_count : Nat := 102
abbrev n_PT_isPromise : Nat := 103
abbrev n_PT_isTick : Nat := 104
abbrev n_PT_isTry : Nat := 105
abbrev n_PT_isCondition : Nat := 106
abbrev n_PT_isBits : Nat := 107
abbrev n_PT_isSide : Nat := 108
abbrev n_PT_isVerdict : Nat := 109
abbrev n_PT_isImage : Nat := 110
abbrev n_PT_isSheet : Nat := 111
abbrev n_PT_isLane : Nat := 112
abbrev n_PT_nextSeed : Nat := 113
abbrev n_PT_got : Nat := 114
abbrev n_PT_howManyImages : Nat := 115
abbrev n_PT_watchOf : Nat := 116
abbrev n_PT_watchAnew : Nat := 117
abbrev n_PT_isFulfilled : Nat := 118
abbrev n_PT_howManyFulfil : Nat := 119
abbrev n_Mo_init : Nat := 120
abbrev n_Mo_in : Nat := 121
abbrev n_Mo_flag : Nat := 122
abbrev n_Mo_least : Nat := 123
abbrev n_Mo_greatest : Nat := 124
abbrev n_Mo_feed : Nat := 125
abbrev n_Mo_end : Nat := 126
abbrev n_Mo_requires : Nat := 127
abbrev n_Mo_byteAt : Nat := 128
abbrev n_Mo_isSignByte : Nat := 129
abbrev n_Mo_reads : Nat := 130
abbrev n_Mo_isSign : Nat := 131
abbrev n_Mo_readNumber : Nat := 132
abbrev n_Mo_nests : Nat := 133
abbrev n_Mo_wires : Nat := 134
abbrev n_Mo_opensDepth : Nat := 135
abbrev n_Mo_joinsAnds : Nat := 136
abbrev n_Mo_joinsOrs : Nat := 137
abbrev n_Mo_readOperand : Nat := 138
abbrev n_Mo_readCondition : Nat := 139
abbrev n_Mo_placesNow : Nat := 140
abbrev n_Mo_takes : Nat := 141
abbrev n_Mo_sum : Nat := 142
abbrev n_Mo_follows : Nat := 143
abbrev n_Mo_chains : Nat := 144
abbrev n_Mo_chooses : Nat := 145
abbrev n_Mo_onePlace : Nat := 146
abbrev n_Mo_repeats : Nat := 147
abbrev n_Mo_opensSequence : Nat := 148
abbrev n_Mo_readBegin : Nat := 149
abbrev n_Mo_readTimes : Nat := 150
abbrev n_Mo_readEnds : Nat := 151
abbrev n_Mo_readSequence : Nat := 152
abbrev n_Mo_isFulfillable : Nat := 153
abbrev n_Mo_ends : Nat := 154
abbrev n_Mo_isBegin : Nat := 155
abbrev n_Mo_readPromise : Nat := 156
abbrev n_Mo_text : Nat := 157
abbrev n_Mo_fault : Nat := 158
abbrev n_Mo_isPromise : Nat := 159
abbrev n_Mo_isSide : Nat := 160
abbrev n_Mo_areBits : Nat := 161
abbrev n_Mo_fulfilsOne : Nat := 162
abbrev n_Mo_fulfilsOff : Nat := 163
abbrev n_Mo_findsFulfilling : Nat := 164
abbrev n_Mo_nextOf : Nat := 165
abbrev n_Mo_firstOf : Nat := 166
abbrev n_Mo_isEnd : Nat := 167
abbrev n_Mo_canEnd : Nat := 168
abbrev n_Mo_isConditionAsked : Nat := 169
abbrev n_Mo_fulfils : Nat := 170
abbrev n_Mo_fulfilled : Nat := 171
abbrev n_Mo_matches : Nat := 172
abbrev n_Mo_might : Nat := 173
abbrev n_Mo_promise : Nat := 174
abbrev n_Mo_goesOn : Nat := 175
abbrev n_Mo_dies : Nat := 176
abbrev n_Mo_begins : Nat := 177
abbrev n_Mo_isAny : Nat := 178
abbrev n_Mo_goesThrough : Nat := 179
abbrev n_Mo_verdictBy : Nat := 180
abbrev n_Mo_isTick : Nat := 181
abbrev n_Mo_isTry : Nat := 182
abbrev n_Mo_dutiesFrom : Nat := 183
abbrev n_Mo_verdict : Nat := 184
abbrev n_Mo_decided : Nat := 185
abbrev n_Mo_duties : Nat := 186
abbrev n_Mo_duty : Nat := 187
abbrev n_Mo_triesOf : Nat := 188
abbrev n_Mo_tries : Nat := 189
abbrev n_Mo_first : Nat := 190
abbrev n_Mo_allDuties : Nat := 191
abbrev n_Mo_allTries : Nat := 192
abbrev n_Mo_rule : Nat := 193
abbrev n_Mo_failedBy : Nat := 194
abbrev n_Mo_tick : Nat := 195
abbrev n_Mo_bits : Nat := 196
abbrev n_Mo_put : Nat := 197
abbrev n_Mo_keeps : Nat := 198
abbrev n_Mo_gets : Nat := 199
abbrev n_Mo_draw : Nat := 200
abbrev n_Mo_keep : Nat := 201
abbrev n_Mo_back : Nat := 202
abbrev n_Mo_isSheet : Nat := 203
abbrev n_Mo_sheet : Nat := 204
abbrev n_Mo_lay : Nat := 205
abbrev n_Mo_run : Nat := 206
abbrev n_Mo_torn : Nat := 207
abbrev n_Mo_count : Nat := 208
abbrev n_JL_bitCount : Nat := 209
abbrev n_La_law : Nat := 210
theorem zE_sg {d y : Nat} {m : zMi} (hm : zT y = m) (n : Nat) (as : List Value) (hb : Nat.ble (zent as).length m.1 = true) (M : zM) : zV (d + 1) y as M = zsg m (zV d) (zG d y) n 0 (zloc m.1 as) [] M := by
  subst hm
  show zok _ _ = _
  rw [hb]
  exact zF_sg (zE_ok zT d) rfl n 0 _ [] M
theorem zG_sg {d y : Nat} {m : zMi} (hm : zT y = m) (n pc : Nat) (l : zLs) (st : List Value) (M : zM) : zG d y pc l st M = zsg m (zV d) (zG d y) n pc l st M := zF_sg (zE_ok zT d) hm n pc l st M
end
section
/-- a store into a row of booleans or of bytes -/
def zbast (M : zM) (a : Nat) (j x : Int32) (F : zM → zO) : zO := if (zK M a).1 = 21 then zif (zin j (zK M a).2 = true) (F (zsI M a j.toNatClampNeg (vp_nar .boolean x))) else zif ((zK M a).1 = 22 ∧ zin j (zK M a).2 = true) (F (zsI M a j.toNatClampNeg (vp_nar .byte x)))
theorem zinv_c {E : zE0} {y n rt tag : Nat} {st : List Value} {M : zM} {K : List Value → zM → zO} (hy : Nat.blt y 1000 = true) : zinvoke E [y, n, rt, tag] st M K = zcall E y n rt tag st M K := by
  have h : y < 1000 := Nat.ble_eq.mp hy
  unfold zinvoke
  dsimp only
  split
  · exact absurd h (by decide)
  · exact absurd h (by decide)
  · exact absurd h (by decide)
  · exact absurd h (by decide)
  · rfl
theorem zcall_s {E : zE0} {y n rt : Nat} {st as : List Value} {M : zM} {K : List Value → zM → zO} {R : zO} (hy : Nat.blt y 1000 = true) (hc : (Nat.ble n st.length && zroomy (st.drop n)) = true) (ha : (st.take n).reverse = as) (k : zret rt (E y as M) (st.drop n) K = R) : zinvoke E [y, n, rt, 0] st M K = R := by
  rw [zinv_c hy]
  unfold zcall
  rw [hc, ha]
  exact k
theorem zcall_v {E : zE0} {y n rt t b : Nat} {st as as0 : List Value} {M : zM} {K : List Value → zM → zO} {R : zO} (hy : Nat.blt y 1000 = true) (hc : (Nat.ble n st.length && zroomy (st.drop n)) = true) (ha : (st.take n).reverse = as) (ha0 : as = .ref b :: as0) (k : zif ((zK M b).1 = t + 1) (zret rt (E y as M) (st.drop n) K) = R) : zinvoke E [y, n, rt, t + 1] st M K = R := by
  rw [zinv_c hy]
  unfold zcall
  rw [hc, ha, ha0]
  rw [ha0] at k
  exact k
/-! walking a region: an instruction, a row -/
def zw (b : Bool) (m : zMi) (E : zE0) (K : zKt) (n : Nat) : zKt := fun pc l st M => match b with
  | true => zsg m E K n pc l st M
  | false => match zhd m.2.2.2 pc with
    | none => zsg m E K n pc l st M
    | some ds => K pc (zforget ds l) st M
section ZW
variable {b : Bool} {m : zMi} {E : zE0} {K : zKt} {n pc p t len : Nat} {l : zLs} {st : List Value} {M : zM} {r : List Nat} {R : zO}
theorem zw_gen {q : Instr × Nat × List Nat} (hz : b = true ∨ zhd m.2.2.2 pc = none) (hat : zat m.2.2.1 pc = some q) : zw b m E K (n + 1) pc l st M = zstep E m.2.1 q.1 q.2.2 pc l st M (zw false m E K n) := by
  have e : zw b m E K (n + 1) pc l st M = zsg m E K (n + 1) pc l st M := by
    unfold zw
    cases b with
    | true => rfl
    | false =>
      rcases hz with h | h
      · cases h
      · dsimp only; rw [h]
  rw [e]
  unfold zsg
  rw [hat]
  exact zstep_congr (fun _ _ _ _ => rfl)
theorem zw_end {ds : List Nat} {l2 : zLs} (hz : zhd m.2.2.2 pc = some ds) (hl : zforget ds l = l2) : zw false m E K n pc l st M = K pc l2 st M := by
  unfold zw
  rw [hz, ← hl]
theorem zw_iconst {z : Int} {x : Int32} (hz : b = true ∨ zhd m.2.2.2 pc = none) (hat : zat m.2.2.1 pc = some (.iconst z, len, r)) (hx : zci r = x) (hp : pc + 1 = p) (k : zw false m E K n p l (.int x :: st) M = R) : zw b m E K (n + 1) pc l st M = R := by subst hp; subst hx; exact (zw_gen hz hat).trans k
theorem zw_bipush {z : Int} {x : Int32} (hz : b = true ∨ zhd m.2.2.2 pc = none) (hat : zat m.2.2.1 pc = some (.bipush z, len, r)) (hx : zci r = x) (hp : pc + 2 = p) (k : zw false m E K n p l (.int x :: st) M = R) : zw b m E K (n + 1) pc l st M = R := by subst hp; subst hx; exact (zw_gen hz hat).trans k
theorem zw_sipush {z : Int} {x : Int32} (hz : b = true ∨ zhd m.2.2.2 pc = none) (hat : zat m.2.2.1 pc = some (.sipush z, len, r)) (hx : zci r = x) (hp : pc + 3 = p) (k : zw false m E K n p l (.int x :: st) M = R) : zw b m E K (n + 1) pc l st M = R := by subst hp; subst hx; exact (zw_gen hz hat).trans k
theorem zw_ldc {z : Nat} {x : Int32} (hz : b = true ∨ zhd m.2.2.2 pc = none) (hat : zat m.2.2.1 pc = some (.ldc z, len, r)) (hx : zci r = x) (hp : pc + 2 = p) (k : zw false m E K n p l (.int x :: st) M = R) : zw b m E K (n + 1) pc l st M = R := by subst hp; subst hx; exact (zw_gen hz hat).trans k
theorem zw_ldc_w {z : Nat} {x : Int32} (hz : b = true ∨ zhd m.2.2.2 pc = none) (hat : zat m.2.2.1 pc = some (.ldc_w z, len, r)) (hx : zci r = x) (hp : pc + 3 = p) (k : zw false m E K n p l (.int x :: st) M = R) : zw b m E K (n + 1) pc l st M = R := by subst hp; subst hx; exact (zw_gen hz hat).trans k
theorem zw_lconst {z : Fin 2} {x : Int64} (hz : b = true ∨ zhd m.2.2.2 pc = none) (hat : zat m.2.2.1 pc = some (.lconst z, len, r)) (hx : zcl r = x) (hp : pc + 1 = p) (k : zw false m E K n p l (.long x :: st) M = R) : zw b m E K (n + 1) pc l st M = R := by subst hp; subst hx; exact (zw_gen hz hat).trans k
theorem zw_ldc2_w {z : Nat} {x : Int64} (hz : b = true ∨ zhd m.2.2.2 pc = none) (hat : zat m.2.2.1 pc = some (.ldc2_w z, len, r)) (hx : zcl r = x) (hp : pc + 3 = p) (k : zw false m E K n p l (.long x :: st) M = R) : zw b m E K (n + 1) pc l st M = R := by subst hp; subst hx; exact (zw_gen hz hat).trans k
theorem zw_iload_n {z : Fin 4} {x : Int32} (hz : b = true ∨ zhd m.2.2.2 pc = none) (hat : zat m.2.2.1 pc = some (.iload_n z, len, r)) (hl : l[z.val]? = some (some (.int x))) (hp : pc + 1 = p) (k : zw false m E K n p l (.int x :: st) M = R) : zw b m E K (n + 1) pc l st M = R := by subst hp; rw [zw_gen hz hat]; show zld l z.val _ = R; unfold zld; rw [hl]; exact k
theorem zw_iload {z : Nat} {x : Int32} (hz : b = true ∨ zhd m.2.2.2 pc = none) (hat : zat m.2.2.1 pc = some (.iload z, len, r)) (hl : l[z]? = some (some (.int x))) (hp : pc + 2 = p) (k : zw false m E K n p l (.int x :: st) M = R) : zw b m E K (n + 1) pc l st M = R := by subst hp; rw [zw_gen hz hat]; show zld l z _ = R; unfold zld; rw [hl]; exact k
theorem zw_istore_n {z : Fin 4} {x : Int32} {l2 : zLs} (hz : b = true ∨ zhd m.2.2.2 pc = none) (hat : zat m.2.2.1 pc = some (.istore_n z, len, r)) (hb : Nat.blt (z.val) l.length = true) (hl : zst1 l z.val (.int x) = l2) (hp : pc + 1 = p) (k : zw false m E K n p l2 st M = R) : zw b m E K (n + 1) pc l (.int x :: st) M = R := by subst hp; subst hl; rw [zw_gen hz hat]; show zok _ _ = R; rw [hb]; exact k
theorem zw_istore_nN {z : Fin 4} {x : Int32} {F : Int32 → zO} {L2 : Int32 → zLs} (hz : b = true ∨ zhd m.2.2.2 pc = none) (hat : zat m.2.2.1 pc = some (.istore_n z, len, r)) (hb : Nat.blt (z.val) l.length = true) (hl : ∀ u, zst1 l z.val (.int u) = L2 u) (hp : pc + 1 = p) (k : ∀ u, zw false m E K n p (L2 u) st M = F u) : zw b m E K (n + 1) pc l (.int x :: st) M = zbi x F := by subst hp; rw [zw_gen hz hat]; show zok _ _ = F x; rw [hb]; rw [← k x, ← hl x]; rfl
theorem zw_istore {z : Nat} {x : Int32} {l2 : zLs} (hz : b = true ∨ zhd m.2.2.2 pc = none) (hat : zat m.2.2.1 pc = some (.istore z, len, r)) (hb : Nat.blt (z) l.length = true) (hl : zst1 l z (.int x) = l2) (hp : pc + 2 = p) (k : zw false m E K n p l2 st M = R) : zw b m E K (n + 1) pc l (.int x :: st) M = R := by subst hp; subst hl; rw [zw_gen hz hat]; show zok _ _ = R; rw [hb]; exact k
theorem zw_istoreN {z : Nat} {x : Int32} {F : Int32 → zO} {L2 : Int32 → zLs} (hz : b = true ∨ zhd m.2.2.2 pc = none) (hat : zat m.2.2.1 pc = some (.istore z, len, r)) (hb : Nat.blt (z) l.length = true) (hl : ∀ u, zst1 l z (.int u) = L2 u) (hp : pc + 2 = p) (k : ∀ u, zw false m E K n p (L2 u) st M = F u) : zw b m E K (n + 1) pc l (.int x :: st) M = zbi x F := by subst hp; rw [zw_gen hz hat]; show zok _ _ = F x; rw [hb]; rw [← k x, ← hl x]; rfl
theorem zw_lload_n {z : Fin 4} {x : Int64} (hz : b = true ∨ zhd m.2.2.2 pc = none) (hat : zat m.2.2.1 pc = some (.lload_n z, len, r)) (hl : l[z.val]? = some (some (.long x))) (hp : pc + 1 = p) (k : zw false m E K n p l (.long x :: st) M = R) : zw b m E K (n + 1) pc l st M = R := by subst hp; rw [zw_gen hz hat]; show zld l z.val _ = R; unfold zld; rw [hl]; exact k
theorem zw_lload {z : Nat} {x : Int64} (hz : b = true ∨ zhd m.2.2.2 pc = none) (hat : zat m.2.2.1 pc = some (.lload z, len, r)) (hl : l[z]? = some (some (.long x))) (hp : pc + 2 = p) (k : zw false m E K n p l (.long x :: st) M = R) : zw b m E K (n + 1) pc l st M = R := by subst hp; rw [zw_gen hz hat]; show zld l z _ = R; unfold zld; rw [hl]; exact k
theorem zw_lstore_n {z : Fin 4} {x : Int64} {l2 : zLs} (hz : b = true ∨ zhd m.2.2.2 pc = none) (hat : zat m.2.2.1 pc = some (.lstore_n z, len, r)) (hb : Nat.blt (z.val + 1) l.length = true) (hl : zst2 l z.val (.long x) = l2) (hp : pc + 1 = p) (k : zw false m E K n p l2 st M = R) : zw b m E K (n + 1) pc l (.long x :: st) M = R := by subst hp; subst hl; rw [zw_gen hz hat]; show zok _ _ = R; rw [hb]; exact k
theorem zw_lstore_nN {z : Fin 4} {x : Int64} {F : Int64 → zO} {L2 : Int64 → zLs} (hz : b = true ∨ zhd m.2.2.2 pc = none) (hat : zat m.2.2.1 pc = some (.lstore_n z, len, r)) (hb : Nat.blt (z.val + 1) l.length = true) (hl : ∀ u, zst2 l z.val (.long u) = L2 u) (hp : pc + 1 = p) (k : ∀ u, zw false m E K n p (L2 u) st M = F u) : zw b m E K (n + 1) pc l (.long x :: st) M = zbl x F := by subst hp; rw [zw_gen hz hat]; show zok _ _ = F x; rw [hb]; rw [← k x, ← hl x]; rfl
theorem zw_lstore {z : Nat} {x : Int64} {l2 : zLs} (hz : b = true ∨ zhd m.2.2.2 pc = none) (hat : zat m.2.2.1 pc = some (.lstore z, len, r)) (hb : Nat.blt (z + 1) l.length = true) (hl : zst2 l z (.long x) = l2) (hp : pc + 2 = p) (k : zw false m E K n p l2 st M = R) : zw b m E K (n + 1) pc l (.long x :: st) M = R := by subst hp; subst hl; rw [zw_gen hz hat]; show zok _ _ = R; rw [hb]; exact k
theorem zw_lstoreN {z : Nat} {x : Int64} {F : Int64 → zO} {L2 : Int64 → zLs} (hz : b = true ∨ zhd m.2.2.2 pc = none) (hat : zat m.2.2.1 pc = some (.lstore z, len, r)) (hb : Nat.blt (z + 1) l.length = true) (hl : ∀ u, zst2 l z (.long u) = L2 u) (hp : pc + 2 = p) (k : ∀ u, zw false m E K n p (L2 u) st M = F u) : zw b m E K (n + 1) pc l (.long x :: st) M = zbl x F := by subst hp; rw [zw_gen hz hat]; show zok _ _ = F x; rw [hb]; rw [← k x, ← hl x]; rfl
theorem zw_aload_n {z : Fin 4} {x : Nat} (hz : b = true ∨ zhd m.2.2.2 pc = none) (hat : zat m.2.2.1 pc = some (.aload_n z, len, r)) (hl : l[z.val]? = some (some (.ref x))) (hp : pc + 1 = p) (k : zw false m E K n p l (.ref x :: st) M = R) : zw b m E K (n + 1) pc l st M = R := by subst hp; rw [zw_gen hz hat]; show zld l z.val _ = R; unfold zld; rw [hl]; exact k
theorem zw_aload {z : Nat} {x : Nat} (hz : b = true ∨ zhd m.2.2.2 pc = none) (hat : zat m.2.2.1 pc = some (.aload z, len, r)) (hl : l[z]? = some (some (.ref x))) (hp : pc + 2 = p) (k : zw false m E K n p l (.ref x :: st) M = R) : zw b m E K (n + 1) pc l st M = R := by subst hp; rw [zw_gen hz hat]; show zld l z _ = R; unfold zld; rw [hl]; exact k
theorem zw_astore_n {z : Fin 4} {x : Nat} {l2 : zLs} (hz : b = true ∨ zhd m.2.2.2 pc = none) (hat : zat m.2.2.1 pc = some (.astore_n z, len, r)) (hb : Nat.blt (z.val) l.length = true) (hl : zst1 l z.val (.ref x) = l2) (hp : pc + 1 = p) (k : zw false m E K n p l2 st M = R) : zw b m E K (n + 1) pc l (.ref x :: st) M = R := by subst hp; subst hl; rw [zw_gen hz hat]; show zok _ _ = R; rw [hb]; exact k
theorem zw_astore {z : Nat} {x : Nat} {l2 : zLs} (hz : b = true ∨ zhd m.2.2.2 pc = none) (hat : zat m.2.2.1 pc = some (.astore z, len, r)) (hb : Nat.blt (z) l.length = true) (hl : zst1 l z (.ref x) = l2) (hp : pc + 2 = p) (k : zw false m E K n p l2 st M = R) : zw b m E K (n + 1) pc l (.ref x :: st) M = R := by subst hp; subst hl; rw [zw_gen hz hat]; show zok _ _ = R; rw [hb]; exact k
theorem zw_iinc {z : Nat} {w : Int} {x c : Int32} {F : Int32 → zO} {L2 : Int32 → zLs} (hz : b = true ∨ zhd m.2.2.2 pc = none) (hat : zat m.2.2.1 pc = some (.iinc z w, len, r)) (h0 : l[z]? = some (some (.int x))) (hc : zci r = c) (hb : Nat.blt z l.length = true) (hl : ∀ u, zst1 l z (.int u) = L2 u) (hp : pc + 3 = p) (k : ∀ u, zw false m E K n p (L2 u) st M = F u) : zw b m E K (n + 1) pc l st M = zbi (x + c) F := by subst hp; subst hc; rw [zw_gen hz hat]; show zld l z _ = F _; unfold zld; rw [h0]; show zok _ _ = F _; rw [hb, ← k, ← hl]; rfl
theorem zw_iadd {x y : Int32} (hz : b = true ∨ zhd m.2.2.2 pc = none) (hat : zat m.2.2.1 pc = some (.iadd, len, r)) (hp : pc + 1 = p) (k : zw false m E K n p l (.int (x + y) :: st) M = R) : zw b m E K (n + 1) pc l (.int y :: .int x :: st) M = R := by subst hp; exact (zw_gen hz hat).trans k
theorem zw_isub {x y : Int32} (hz : b = true ∨ zhd m.2.2.2 pc = none) (hat : zat m.2.2.1 pc = some (.isub, len, r)) (hp : pc + 1 = p) (k : zw false m E K n p l (.int (x - y) :: st) M = R) : zw b m E K (n + 1) pc l (.int y :: .int x :: st) M = R := by subst hp; exact (zw_gen hz hat).trans k
theorem zw_imul {x y : Int32} (hz : b = true ∨ zhd m.2.2.2 pc = none) (hat : zat m.2.2.1 pc = some (.imul, len, r)) (hp : pc + 1 = p) (k : zw false m E K n p l (.int (x * y) :: st) M = R) : zw b m E K (n + 1) pc l (.int y :: .int x :: st) M = R := by subst hp; exact (zw_gen hz hat).trans k
theorem zw_iand {x y : Int32} (hz : b = true ∨ zhd m.2.2.2 pc = none) (hat : zat m.2.2.1 pc = some (.iand, len, r)) (hp : pc + 1 = p) (k : zw false m E K n p l (.int (x &&& y) :: st) M = R) : zw b m E K (n + 1) pc l (.int y :: .int x :: st) M = R := by subst hp; exact (zw_gen hz hat).trans k
theorem zw_ishr {x y : Int32} (hz : b = true ∨ zhd m.2.2.2 pc = none) (hat : zat m.2.2.1 pc = some (.ishr, len, r)) (hp : pc + 1 = p) (k : zw false m E K n p l (.int (x >>> (y &&& 31)) :: st) M = R) : zw b m E K (n + 1) pc l (.int y :: .int x :: st) M = R := by subst hp; exact (zw_gen hz hat).trans k
theorem zw_iushr {x y : Int32} (hz : b = true ∨ zhd m.2.2.2 pc = none) (hat : zat m.2.2.1 pc = some (.iushr, len, r)) (hp : pc + 1 = p) (k : zw false m E K n p l (.int ((Int32.toUInt32 x >>> (Int32.toUInt32 y &&& Int32.toUInt32 31)).toInt32) :: st) M = R) : zw b m E K (n + 1) pc l (.int y :: .int x :: st) M = R := by subst hp; exact (zw_gen hz hat).trans k
theorem zw_idiv {x y : Int32} (hz : b = true ∨ zhd m.2.2.2 pc = none) (hat : zat m.2.2.1 pc = some (.idiv, len, r)) (hp : pc + 1 = p) (k : zw false m E K n p l (.int (x / y) :: st) M = R) : zw b m E K (n + 1) pc l (.int y :: .int x :: st) M = zif (¬ y = 0) R := by subst hp; subst k; exact zw_gen hz hat
theorem zw_irem {x y : Int32} (hz : b = true ∨ zhd m.2.2.2 pc = none) (hat : zat m.2.2.1 pc = some (.irem, len, r)) (hp : pc + 1 = p) (k : zw false m E K n p l (.int (x - x / y * y) :: st) M = R) : zw b m E K (n + 1) pc l (.int y :: .int x :: st) M = zif (¬ y = 0) R := by subst hp; subst k; exact zw_gen hz hat
theorem zw_ladd {x y : Int64} (hz : b = true ∨ zhd m.2.2.2 pc = none) (hat : zat m.2.2.1 pc = some (.ladd, len, r)) (hp : pc + 1 = p) (k : zw false m E K n p l (.long (x + y) :: st) M = R) : zw b m E K (n + 1) pc l (.long y :: .long x :: st) M = R := by subst hp; exact (zw_gen hz hat).trans k
theorem zw_lsub {x y : Int64} (hz : b = true ∨ zhd m.2.2.2 pc = none) (hat : zat m.2.2.1 pc = some (.lsub, len, r)) (hp : pc + 1 = p) (k : zw false m E K n p l (.long (x - y) :: st) M = R) : zw b m E K (n + 1) pc l (.long y :: .long x :: st) M = R := by subst hp; exact (zw_gen hz hat).trans k
theorem zw_land {x y : Int64} (hz : b = true ∨ zhd m.2.2.2 pc = none) (hat : zat m.2.2.1 pc = some (.land, len, r)) (hp : pc + 1 = p) (k : zw false m E K n p l (.long (x &&& y) :: st) M = R) : zw b m E K (n + 1) pc l (.long y :: .long x :: st) M = R := by subst hp; exact (zw_gen hz hat).trans k
theorem zw_lor {x y : Int64} (hz : b = true ∨ zhd m.2.2.2 pc = none) (hat : zat m.2.2.1 pc = some (.lor, len, r)) (hp : pc + 1 = p) (k : zw false m E K n p l (.long (x ||| y) :: st) M = R) : zw b m E K (n + 1) pc l (.long y :: .long x :: st) M = R := by subst hp; exact (zw_gen hz hat).trans k
theorem zw_lxor {x y : Int64} (hz : b = true ∨ zhd m.2.2.2 pc = none) (hat : zat m.2.2.1 pc = some (.lxor, len, r)) (hp : pc + 1 = p) (k : zw false m E K n p l (.long (x ^^^ y) :: st) M = R) : zw b m E K (n + 1) pc l (.long y :: .long x :: st) M = R := by subst hp; exact (zw_gen hz hat).trans k
theorem zw_lcmp {x y : Int64} (hz : b = true ∨ zhd m.2.2.2 pc = none) (hat : zat m.2.2.1 pc = some (.lcmp, len, r)) (hp : pc + 1 = p) (k : zw false m E K n p l (.int (lg_cmp x y) :: st) M = R) : zw b m E K (n + 1) pc l (.long y :: .long x :: st) M = R := by subst hp; exact (zw_gen hz hat).trans k
theorem zw_lshl {x : Int64} {y : Int32} (hz : b = true ∨ zhd m.2.2.2 pc = none) (hat : zat m.2.2.1 pc = some (.lshl, len, r)) (hp : pc + 1 = p) (k : zw false m E K n p l (.long (x <<< (Int32.toInt64 y &&& 63)) :: st) M = R) : zw b m E K (n + 1) pc l (.int y :: .long x :: st) M = R := by subst hp; exact (zw_gen hz hat).trans k
theorem zw_lshr {x : Int64} {y : Int32} (hz : b = true ∨ zhd m.2.2.2 pc = none) (hat : zat m.2.2.1 pc = some (.lshr, len, r)) (hp : pc + 1 = p) (k : zw false m E K n p l (.long (x >>> (Int32.toInt64 y &&& 63)) :: st) M = R) : zw b m E K (n + 1) pc l (.int y :: .long x :: st) M = R := by subst hp; exact (zw_gen hz hat).trans k
theorem zw_lushr {x : Int64} {y : Int32} (hz : b = true ∨ zhd m.2.2.2 pc = none) (hat : zat m.2.2.1 pc = some (.lushr, len, r)) (hp : pc + 1 = p) (k : zw false m E K n p l (.long ((Int64.toUInt64 x >>> (Int64.toUInt64 (Int32.toInt64 y) &&& Int64.toUInt64 63)).toInt64) :: st) M = R) : zw b m E K (n + 1) pc l (.int y :: .long x :: st) M = R := by subst hp; exact (zw_gen hz hat).trans k
theorem zw_i2l {x : Int32} (hz : b = true ∨ zhd m.2.2.2 pc = none) (hat : zat m.2.2.1 pc = some (.i2l, len, r)) (hp : pc + 1 = p) (k : zw false m E K n p l (.long (Int32.toInt64 x) :: st) M = R) : zw b m E K (n + 1) pc l (.int x :: st) M = R := by subst hp; exact (zw_gen hz hat).trans k
theorem zw_l2i {x : Int64} (hz : b = true ∨ zhd m.2.2.2 pc = none) (hat : zat m.2.2.1 pc = some (.l2i, len, r)) (hp : pc + 1 = p) (k : zw false m E K n p l (.int (Int64.toInt32 x) :: st) M = R) : zw b m E K (n + 1) pc l (.long x :: st) M = R := by subst hp; exact (zw_gen hz hat).trans k
theorem zw_i2b {x : Int32} (hz : b = true ∨ zhd m.2.2.2 pc = none) (hat : zat m.2.2.1 pc = some (.i2b, len, r)) (hp : pc + 1 = p) (k : zw false m E K n p l (.int ((Int32.toInt8 x).toInt32) :: st) M = R) : zw b m E K (n + 1) pc l (.int x :: st) M = R := by subst hp; exact (zw_gen hz hat).trans k
theorem zw_i2c {x : Int32} (hz : b = true ∨ zhd m.2.2.2 pc = none) (hat : zat m.2.2.1 pc = some (.i2c, len, r)) (hp : pc + 1 = p) (k : zw false m E K n p l (.int ((Int32.toUInt32 x % 65536).toInt32) :: st) M = R) : zw b m E K (n + 1) pc l (.int x :: st) M = R := by subst hp; exact (zw_gen hz hat).trans k
theorem zw_dup_int {x : Int32} (hz : b = true ∨ zhd m.2.2.2 pc = none) (hat : zat m.2.2.1 pc = some (.dup, len, r)) (hp : pc + 1 = p) (k : zw false m E K n p l (.int x :: .int x :: st) M = R) : zw b m E K (n + 1) pc l (.int x :: st) M = R := by subst hp; exact (zw_gen hz hat).trans k
theorem zw_pop_int {x : Int32} (hz : b = true ∨ zhd m.2.2.2 pc = none) (hat : zat m.2.2.1 pc = some (.pop, len, r)) (hp : pc + 1 = p) (k : zw false m E K n p l st M = R) : zw b m E K (n + 1) pc l (.int x :: st) M = R := by subst hp; exact (zw_gen hz hat).trans k
theorem zw_dup_ref {x : Nat} (hz : b = true ∨ zhd m.2.2.2 pc = none) (hat : zat m.2.2.1 pc = some (.dup, len, r)) (hp : pc + 1 = p) (k : zw false m E K n p l (.ref x :: .ref x :: st) M = R) : zw b m E K (n + 1) pc l (.ref x :: st) M = R := by subst hp; exact (zw_gen hz hat).trans k
theorem zw_pop_ref {x : Nat} (hz : b = true ∨ zhd m.2.2.2 pc = none) (hat : zat m.2.2.1 pc = some (.pop, len, r)) (hp : pc + 1 = p) (k : zw false m E K n p l st M = R) : zw b m E K (n + 1) pc l (.ref x :: st) M = R := by subst hp; exact (zw_gen hz hat).trans k
theorem zw_dup2_l {x : Int64} (hz : b = true ∨ zhd m.2.2.2 pc = none) (hat : zat m.2.2.1 pc = some (.dup2, len, r)) (hp : pc + 1 = p) (k : zw false m E K n p l (.long x :: .long x :: st) M = R) : zw b m E K (n + 1) pc l (.long x :: st) M = R := by subst hp; exact (zw_gen hz hat).trans k
theorem zw_dup2_ii {x y : Int32} (hz : b = true ∨ zhd m.2.2.2 pc = none) (hat : zat m.2.2.1 pc = some (.dup2, len, r)) (hp : pc + 1 = p) (k : zw false m E K n p l (.int y :: .int x :: .int y :: .int x :: st) M = R) : zw b m E K (n + 1) pc l (.int y :: .int x :: st) M = R := by subst hp; exact (zw_gen hz hat).trans k
theorem zw_dup2_ir {x : Nat} {y : Int32} (hz : b = true ∨ zhd m.2.2.2 pc = none) (hat : zat m.2.2.1 pc = some (.dup2, len, r)) (hp : pc + 1 = p) (k : zw false m E K n p l (.int y :: .ref x :: .int y :: .ref x :: st) M = R) : zw b m E K (n + 1) pc l (.int y :: .ref x :: st) M = R := by subst hp; exact (zw_gen hz hat).trans k
theorem zw_goto {z : Int} (hz : b = true ∨ zhd m.2.2.2 pc = none) (hat : zat m.2.2.1 pc = some (.goto z, len, r)) (ht : r.headD 0 = t) (k : zw false m E K n t l st M = R) : zw b m E K (n + 1) pc l st M = R := by subst ht; exact (zw_gen hz hat).trans k
theorem zw_if_eq {z : Int} {x : Int32} {R1 R2 : zO} (hz : b = true ∨ zhd m.2.2.2 pc = none) (hat : zat m.2.2.1 pc = some (.ifCond .eq z, len, r)) (ht : r.headD 0 = t) (hp : pc + 3 = p) (k1 : zw false m E K n t l st M = R1) (k2 : zw false m E K n p l st M = R2) : zw b m E K (n + 1) pc l (.int x :: st) M = if x = 0 then R1 else R2 := by subst hp; subst ht; subst k1; subst k2; exact zw_gen hz hat
theorem zw_icmp_eq {z : Int} {x y : Int32} {R1 R2 : zO} (hz : b = true ∨ zhd m.2.2.2 pc = none) (hat : zat m.2.2.1 pc = some (.if_icmp .eq z, len, r)) (ht : r.headD 0 = t) (hp : pc + 3 = p) (k1 : zw false m E K n t l st M = R1) (k2 : zw false m E K n p l st M = R2) : zw b m E K (n + 1) pc l (.int y :: .int x :: st) M = if x = y then R1 else R2 := by subst hp; subst ht; subst k1; subst k2; exact zw_gen hz hat
theorem zw_if_ne {z : Int} {x : Int32} {R1 R2 : zO} (hz : b = true ∨ zhd m.2.2.2 pc = none) (hat : zat m.2.2.1 pc = some (.ifCond .ne z, len, r)) (ht : r.headD 0 = t) (hp : pc + 3 = p) (k1 : zw false m E K n t l st M = R1) (k2 : zw false m E K n p l st M = R2) : zw b m E K (n + 1) pc l (.int x :: st) M = if x ≠ 0 then R1 else R2 := by subst hp; subst ht; subst k1; subst k2; exact zw_gen hz hat
theorem zw_icmp_ne {z : Int} {x y : Int32} {R1 R2 : zO} (hz : b = true ∨ zhd m.2.2.2 pc = none) (hat : zat m.2.2.1 pc = some (.if_icmp .ne z, len, r)) (ht : r.headD 0 = t) (hp : pc + 3 = p) (k1 : zw false m E K n t l st M = R1) (k2 : zw false m E K n p l st M = R2) : zw b m E K (n + 1) pc l (.int y :: .int x :: st) M = if x ≠ y then R1 else R2 := by subst hp; subst ht; subst k1; subst k2; exact zw_gen hz hat
theorem zw_if_lt {z : Int} {x : Int32} {R1 R2 : zO} (hz : b = true ∨ zhd m.2.2.2 pc = none) (hat : zat m.2.2.1 pc = some (.ifCond .lt z, len, r)) (ht : r.headD 0 = t) (hp : pc + 3 = p) (k1 : zw false m E K n t l st M = R1) (k2 : zw false m E K n p l st M = R2) : zw b m E K (n + 1) pc l (.int x :: st) M = if x < 0 then R1 else R2 := by subst hp; subst ht; subst k1; subst k2; exact zw_gen hz hat
theorem zw_icmp_lt {z : Int} {x y : Int32} {R1 R2 : zO} (hz : b = true ∨ zhd m.2.2.2 pc = none) (hat : zat m.2.2.1 pc = some (.if_icmp .lt z, len, r)) (ht : r.headD 0 = t) (hp : pc + 3 = p) (k1 : zw false m E K n t l st M = R1) (k2 : zw false m E K n p l st M = R2) : zw b m E K (n + 1) pc l (.int y :: .int x :: st) M = if x < y then R1 else R2 := by subst hp; subst ht; subst k1; subst k2; exact zw_gen hz hat
theorem zw_if_ge {z : Int} {x : Int32} {R1 R2 : zO} (hz : b = true ∨ zhd m.2.2.2 pc = none) (hat : zat m.2.2.1 pc = some (.ifCond .ge z, len, r)) (ht : r.headD 0 = t) (hp : pc + 3 = p) (k1 : zw false m E K n t l st M = R1) (k2 : zw false m E K n p l st M = R2) : zw b m E K (n + 1) pc l (.int x :: st) M = if 0 ≤ x then R1 else R2 := by subst hp; subst ht; subst k1; subst k2; exact zw_gen hz hat
theorem zw_icmp_ge {z : Int} {x y : Int32} {R1 R2 : zO} (hz : b = true ∨ zhd m.2.2.2 pc = none) (hat : zat m.2.2.1 pc = some (.if_icmp .ge z, len, r)) (ht : r.headD 0 = t) (hp : pc + 3 = p) (k1 : zw false m E K n t l st M = R1) (k2 : zw false m E K n p l st M = R2) : zw b m E K (n + 1) pc l (.int y :: .int x :: st) M = if y ≤ x then R1 else R2 := by subst hp; subst ht; subst k1; subst k2; exact zw_gen hz hat
theorem zw_if_gt {z : Int} {x : Int32} {R1 R2 : zO} (hz : b = true ∨ zhd m.2.2.2 pc = none) (hat : zat m.2.2.1 pc = some (.ifCond .gt z, len, r)) (ht : r.headD 0 = t) (hp : pc + 3 = p) (k1 : zw false m E K n t l st M = R1) (k2 : zw false m E K n p l st M = R2) : zw b m E K (n + 1) pc l (.int x :: st) M = if 0 < x then R1 else R2 := by subst hp; subst ht; subst k1; subst k2; exact zw_gen hz hat
theorem zw_icmp_gt {z : Int} {x y : Int32} {R1 R2 : zO} (hz : b = true ∨ zhd m.2.2.2 pc = none) (hat : zat m.2.2.1 pc = some (.if_icmp .gt z, len, r)) (ht : r.headD 0 = t) (hp : pc + 3 = p) (k1 : zw false m E K n t l st M = R1) (k2 : zw false m E K n p l st M = R2) : zw b m E K (n + 1) pc l (.int y :: .int x :: st) M = if y < x then R1 else R2 := by subst hp; subst ht; subst k1; subst k2; exact zw_gen hz hat
theorem zw_if_le {z : Int} {x : Int32} {R1 R2 : zO} (hz : b = true ∨ zhd m.2.2.2 pc = none) (hat : zat m.2.2.1 pc = some (.ifCond .le z, len, r)) (ht : r.headD 0 = t) (hp : pc + 3 = p) (k1 : zw false m E K n t l st M = R1) (k2 : zw false m E K n p l st M = R2) : zw b m E K (n + 1) pc l (.int x :: st) M = if x ≤ 0 then R1 else R2 := by subst hp; subst ht; subst k1; subst k2; exact zw_gen hz hat
theorem zw_icmp_le {z : Int} {x y : Int32} {R1 R2 : zO} (hz : b = true ∨ zhd m.2.2.2 pc = none) (hat : zat m.2.2.1 pc = some (.if_icmp .le z, len, r)) (ht : r.headD 0 = t) (hp : pc + 3 = p) (k1 : zw false m E K n t l st M = R1) (k2 : zw false m E K n p l st M = R2) : zw b m E K (n + 1) pc l (.int y :: .int x :: st) M = if x ≤ y then R1 else R2 := by subst hp; subst ht; subst k1; subst k2; exact zw_gen hz hat
theorem zw_table {z1 z2 z3 : Int} {z4 : Array Int} {x : Int32} {d lo : Nat} {ts : List Nat} (hz : b = true ∨ zhd m.2.2.2 pc = none) (hat : zat m.2.2.1 pc = some (.tableswitch z1 z2 z3 z4, len, (d :: lo :: ts))) (k : zsw x lo ts d (fun t => zw false m E K n t l st M) = R) : zw b m E K (n + 1) pc l (.int x :: st) M = R := (zw_gen hz hat).trans k
theorem zw_lookup {z1 : Int} {z4 : Array (Int × Int)} {x : Int32} {d : Nat} {ts : List Nat} (hz : b = true ∨ zhd m.2.2.2 pc = none) (hat : zat m.2.2.1 pc = some (.lookupswitch z1 z4, len, (d :: ts))) (k : zlk x ts d (fun t => zw false m E K n t l st M) = R) : zw b m E K (n + 1) pc l (.int x :: st) M = R := (zw_gen hz hat).trans k
theorem zw_get_int {z ci kk a : Nat} (hz : b = true ∨ zhd m.2.2.2 pc = none) (hat : zat m.2.2.1 pc = some (.getfield z, len, [0, ci, kk])) (hp : pc + 3 = p) (k : zw false m E K n p l (.int (zI M a kk) :: st) M = R) : zw b m E K (n + 1) pc l (.ref a :: st) M = zif ((zK M a).1 = ci + 1) R := by subst hp; subst k; exact zw_gen hz hat
theorem zw_get_long {z ci kk a : Nat} (hz : b = true ∨ zhd m.2.2.2 pc = none) (hat : zat m.2.2.1 pc = some (.getfield z, len, [1, ci, kk])) (hp : pc + 3 = p) (k : zw false m E K n p l (.long (zL M a kk) :: st) M = R) : zw b m E K (n + 1) pc l (.ref a :: st) M = zif ((zK M a).1 = ci + 1) R := by subst hp; subst k; exact zw_gen hz hat
theorem zw_get_ref {z ci kk a : Nat} {F : Nat → zO} (hz : b = true ∨ zhd m.2.2.2 pc = none) (hat : zat m.2.2.1 pc = some (.getfield z, len, [2, ci, kk])) (hp : pc + 3 = p) (k : ∀ q, zw false m E K n p l (.ref q :: st) M = F q) : zw b m E K (n + 1) pc l (.ref a :: st) M = zif ((zK M a).1 = ci + 1) (zoR (zR M a kk) F) := by subst hp; obtain rfl : (fun q => zw false m E K n (pc + 3) l (.ref q :: st) M) = F := funext k; exact zw_gen hz hat
theorem zw_put_int {z ci kk a : Nat} {x : Int32} {F : zM → zO} (hz : b = true ∨ zhd m.2.2.2 pc = none) (hat : zat m.2.2.1 pc = some (.putfield z, len, [0, ci, kk])) (hp : pc + 3 = p) (k : ∀ M1, zw false m E K n p l st M1 = F M1) : zw b m E K (n + 1) pc l (.int x :: .ref a :: st) M = zif ((zK M a).1 = ci + 1) (zbm (zsI M a kk x) F) := by subst hp; obtain rfl : (fun M1 => zw false m E K n (pc + 3) l st M1) = F := funext k; exact zw_gen hz hat
theorem zw_put_long {z ci kk a : Nat} {x : Int64} {F : zM → zO} (hz : b = true ∨ zhd m.2.2.2 pc = none) (hat : zat m.2.2.1 pc = some (.putfield z, len, [1, ci, kk])) (hp : pc + 3 = p) (k : ∀ M1, zw false m E K n p l st M1 = F M1) : zw b m E K (n + 1) pc l (.long x :: .ref a :: st) M = zif ((zK M a).1 = ci + 1) (zbm (zsL M a kk x) F) := by subst hp; obtain rfl : (fun M1 => zw false m E K n (pc + 3) l st M1) = F := funext k; exact zw_gen hz hat
theorem zw_put_ref {z ci kk a : Nat} {x : Nat} {F : zM → zO} (hz : b = true ∨ zhd m.2.2.2 pc = none) (hat : zat m.2.2.1 pc = some (.putfield z, len, [2, ci, kk])) (hp : pc + 3 = p) (k : ∀ M1, zw false m E K n p l st M1 = F M1) : zw b m E K (n + 1) pc l (.ref x :: .ref a :: st) M = zif ((zK M a).1 = ci + 1) (zbm (zsR M a kk (some x)) F) := by subst hp; obtain rfl : (fun M1 => zw false m E K n (pc + 3) l st M1) = F := funext k; exact zw_gen hz hat
theorem zw_put_boo {z ci kk a : Nat} {x : Int32} {F : zM → zO} (hz : b = true ∨ zhd m.2.2.2 pc = none) (hat : zat m.2.2.1 pc = some (.putfield z, len, [3, ci, kk])) (hp : pc + 3 = p) (k : ∀ M1, zw false m E K n p l st M1 = F M1) : zw b m E K (n + 1) pc l (.int x :: .ref a :: st) M = zif ((zK M a).1 = ci + 1 ∧ (x = 0 ∨ x = 1)) (zbm (zsI M a kk x) F) := by subst hp; obtain rfl : (fun M1 => zw false m E K n (pc + 3) l st M1) = F := funext k; exact zw_gen hz hat
theorem zw_getstatic {z : Nat} (hz : b = true ∨ zhd m.2.2.2 pc = none) (hat : zat m.2.2.1 pc = some (.getstatic z, len, r)) (hp : pc + 3 = p) (k : zw false m E K n p l (.ref 0 :: st) M = R) : zw b m E K (n + 1) pc l st M = R := by subst hp; exact (zw_gen hz hat).trans k
theorem zw_iaload {a : Nat} {j : Int32} (hz : b = true ∨ zhd m.2.2.2 pc = none) (hat : zat m.2.2.1 pc = some (.iaload, len, r)) (hp : pc + 1 = p) (k : zw false m E K n p l (.int (zI M a (Int32.toNatClampNeg j)) :: st) M = R) : zw b m E K (n + 1) pc l (.int j :: .ref a :: st) M = zif (((zK M a).1 = 20 ∨ (zK M a).1 = 24) ∧ zin j (zK M a).2 = true) R := by subst hp; subst k; exact zw_gen hz hat
theorem zw_baload {a : Nat} {j : Int32} (hz : b = true ∨ zhd m.2.2.2 pc = none) (hat : zat m.2.2.1 pc = some (.baload, len, r)) (hp : pc + 1 = p) (k : zw false m E K n p l (.int (zI M a (Int32.toNatClampNeg j)) :: st) M = R) : zw b m E K (n + 1) pc l (.int j :: .ref a :: st) M = zif (((zK M a).1 = 21 ∨ (zK M a).1 = 22) ∧ zin j (zK M a).2 = true) R := by subst hp; subst k; exact zw_gen hz hat
theorem zw_laload {a : Nat} {j : Int32} (hz : b = true ∨ zhd m.2.2.2 pc = none) (hat : zat m.2.2.1 pc = some (.laload, len, r)) (hp : pc + 1 = p) (k : zw false m E K n p l (.long (zL M a (Int32.toNatClampNeg j)) :: st) M = R) : zw b m E K (n + 1) pc l (.int j :: .ref a :: st) M = zif (((zK M a).1 = 23 ∨ (zK M a).1 = 25) ∧ zin j (zK M a).2 = true) R := by subst hp; subst k; exact zw_gen hz hat
theorem zw_aaload {a : Nat} {j : Int32} {F : Nat → zO} (hz : b = true ∨ zhd m.2.2.2 pc = none) (hat : zat m.2.2.1 pc = some (.aaload, len, r)) (hp : pc + 1 = p) (k : ∀ q, zw false m E K n p l (.ref q :: st) M = F q) : zw b m E K (n + 1) pc l (.int j :: .ref a :: st) M = zif (30 ≤ (zK M a).1 ∧ zin j (zK M a).2 = true) (zoR (zR M a (Int32.toNatClampNeg j)) F) := by subst hp; obtain rfl : (fun q => zw false m E K n (pc + 1) l (.ref q :: st) M) = F := funext k; exact zw_gen hz hat
theorem zw_iastore {a : Nat} {j : Int32} {x : Int32} {F : zM → zO} (hz : b = true ∨ zhd m.2.2.2 pc = none) (hat : zat m.2.2.1 pc = some (.iastore, len, r)) (hp : pc + 1 = p) (k : ∀ M1, zw false m E K n p l st M1 = F M1) : zw b m E K (n + 1) pc l (.int x :: .int j :: .ref a :: st) M = zif ((zK M a).1 = 20 ∧ zin j (zK M a).2 = true) (zbm (zsI M a (Int32.toNatClampNeg j) x) F) := by subst hp; obtain rfl : (fun M1 => zw false m E K n (pc + 1) l st M1) = F := funext k; exact zw_gen hz hat
theorem zw_lastore {a : Nat} {j : Int32} {x : Int64} {F : zM → zO} (hz : b = true ∨ zhd m.2.2.2 pc = none) (hat : zat m.2.2.1 pc = some (.lastore, len, r)) (hp : pc + 1 = p) (k : ∀ M1, zw false m E K n p l st M1 = F M1) : zw b m E K (n + 1) pc l (.long x :: .int j :: .ref a :: st) M = zif ((zK M a).1 = 23 ∧ zin j (zK M a).2 = true) (zbm (zsL M a (Int32.toNatClampNeg j) x) F) := by subst hp; obtain rfl : (fun M1 => zw false m E K n (pc + 1) l st M1) = F := funext k; exact zw_gen hz hat
theorem zw_bastore {a : Nat} {j x : Int32} {F : zM → zO} (hz : b = true ∨ zhd m.2.2.2 pc = none) (hat : zat m.2.2.1 pc = some (.bastore, len, r)) (hp : pc + 1 = p) (k : ∀ M1, zw false m E K n p l st M1 = F M1) : zw b m E K (n + 1) pc l (.int x :: .int j :: .ref a :: st) M = zbast M a j x F := by subst hp; obtain rfl : (fun M1 => zw false m E K n (pc + 1) l st M1) = F := funext k; exact zw_gen hz hat
theorem zw_arraylength {a : Nat} (hz : b = true ∨ zhd m.2.2.2 pc = none) (hat : zat m.2.2.1 pc = some (.arraylength, len, r)) (hp : pc + 1 = p) (k : zw false m E K n p l (.int (Int32.ofNat (zK M a).2) :: st) M = R) : zw b m E K (n + 1) pc l (.ref a :: st) M = zif (20 ≤ (zK M a).1) R := by subst hp; subst k; exact zw_gen hz hat
theorem zw_new {z ci N : Nat} {F : zM → zO} (hz : b = true ∨ zhd m.2.2.2 pc = none) (hat : zat m.2.2.1 pc = some (.new z, len, [ci, N])) (hp : pc + 3 = p) (k : ∀ M1, zw false m E K n p l (.ref (zN M) :: st) M1 = F M1) : zw b m E K (n + 1) pc l st M = zbm (znew M (ci + 1) N) F := by subst hp; obtain rfl : (fun M1 => zw false m E K n (pc + 3) l (.ref (zN M) :: st) M1) = F := funext k; exact zw_gen hz hat
theorem zw_virtualV {z y nn t0 bb : Nat} {as0 as rest : List Value} {F : zM → zO} (hz : b = true ∨ zhd m.2.2.2 pc = none) (hat : zat m.2.2.1 pc = some (.invokevirtual z, len, [y, nn, 0, t0 + 1])) (hy : Nat.blt y 1000 = true) (hc : (Nat.ble nn st.length && zroomy (st.drop nn)) = true) (ha : (st.take nn).reverse = as) (ha0 : as = .ref bb :: as0) (hr : st.drop nn = rest) (hp : pc + 3 = p) (k : ∀ M1, zw false m E K n p l rest M1 = F M1) : zw b m E K (n + 1) pc l st M = zif ((zK M bb).1 = t0 + 1) (zbV (E y as M) F) := by subst hp; subst hr; obtain rfl : (fun M1 => zw false m E K n (pc + 3) l (List.drop nn st) M1) = F := funext k; rw [zw_gen hz hat]; exact zcall_v hy hc ha ha0 rfl
theorem zw_virtualI {z y nn t0 bb : Nat} {as0 as rest : List Value} {F : Int32 → zM → zO} (hz : b = true ∨ zhd m.2.2.2 pc = none) (hat : zat m.2.2.1 pc = some (.invokevirtual z, len, [y, nn, 1, t0 + 1])) (hy : Nat.blt y 1000 = true) (hc : (Nat.ble nn st.length && zroomy (st.drop nn)) = true) (ha : (st.take nn).reverse = as) (ha0 : as = .ref bb :: as0) (hr : st.drop nn = rest) (hp : pc + 3 = p) (k : ∀ u M1, zw false m E K n p l (.int u :: rest) M1 = F u M1) : zw b m E K (n + 1) pc l st M = zif ((zK M bb).1 = t0 + 1) (zbI (E y as M) F) := by subst hp; subst hr; obtain rfl : (fun u M1 => zw false m E K n (pc + 3) l (.int u :: List.drop nn st) M1) = F := funext fun u => funext (k u); rw [zw_gen hz hat]; exact zcall_v hy hc ha ha0 rfl
theorem zw_virtualL {z y nn t0 bb : Nat} {as0 as rest : List Value} {F : Int64 → zM → zO} (hz : b = true ∨ zhd m.2.2.2 pc = none) (hat : zat m.2.2.1 pc = some (.invokevirtual z, len, [y, nn, 2, t0 + 1])) (hy : Nat.blt y 1000 = true) (hc : (Nat.ble nn st.length && zroomy (st.drop nn)) = true) (ha : (st.take nn).reverse = as) (ha0 : as = .ref bb :: as0) (hr : st.drop nn = rest) (hp : pc + 3 = p) (k : ∀ u M1, zw false m E K n p l (.long u :: rest) M1 = F u M1) : zw b m E K (n + 1) pc l st M = zif ((zK M bb).1 = t0 + 1) (zbL (E y as M) F) := by subst hp; subst hr; obtain rfl : (fun u M1 => zw false m E K n (pc + 3) l (.long u :: List.drop nn st) M1) = F := funext fun u => funext (k u); rw [zw_gen hz hat]; exact zcall_v hy hc ha ha0 rfl
theorem zw_virtualR {z y nn t0 bb : Nat} {as0 as rest : List Value} {F : Nat → zM → zO} (hz : b = true ∨ zhd m.2.2.2 pc = none) (hat : zat m.2.2.1 pc = some (.invokevirtual z, len, [y, nn, 3, t0 + 1])) (hy : Nat.blt y 1000 = true) (hc : (Nat.ble nn st.length && zroomy (st.drop nn)) = true) (ha : (st.take nn).reverse = as) (ha0 : as = .ref bb :: as0) (hr : st.drop nn = rest) (hp : pc + 3 = p) (k : ∀ u M1, zw false m E K n p l (.ref u :: rest) M1 = F u M1) : zw b m E K (n + 1) pc l st M = zif ((zK M bb).1 = t0 + 1) (zbR (E y as M) F) := by subst hp; subst hr; obtain rfl : (fun u M1 => zw false m E K n (pc + 3) l (.ref u :: List.drop nn st) M1) = F := funext fun u => funext (k u); rw [zw_gen hz hat]; exact zcall_v hy hc ha ha0 rfl
theorem zw_specialV {z y nn : Nat} {as rest : List Value} {F : zM → zO} (hz : b = true ∨ zhd m.2.2.2 pc = none) (hat : zat m.2.2.1 pc = some (.invokespecial z, len, [y, nn, 0, 0])) (hy : Nat.blt y 1000 = true) (hc : (Nat.ble nn st.length && zroomy (st.drop nn)) = true) (ha : (st.take nn).reverse = as) (hr : st.drop nn = rest) (hp : pc + 3 = p) (k : ∀ M1, zw false m E K n p l rest M1 = F M1) : zw b m E K (n + 1) pc l st M = zbV (E y as M) F := by subst hp; subst hr; obtain rfl : (fun M1 => zw false m E K n (pc + 3) l (List.drop nn st) M1) = F := funext k; rw [zw_gen hz hat]; exact zcall_s hy hc ha rfl
theorem zw_staticV {z y nn : Nat} {as rest : List Value} {F : zM → zO} (hz : b = true ∨ zhd m.2.2.2 pc = none) (hat : zat m.2.2.1 pc = some (.invokestatic z, len, [y, nn, 0, 0])) (hy : Nat.blt y 1000 = true) (hc : (Nat.ble nn st.length && zroomy (st.drop nn)) = true) (ha : (st.take nn).reverse = as) (hr : st.drop nn = rest) (hp : pc + 3 = p) (k : ∀ M1, zw false m E K n p l rest M1 = F M1) : zw b m E K (n + 1) pc l st M = zbV (E y as M) F := by subst hp; subst hr; obtain rfl : (fun M1 => zw false m E K n (pc + 3) l (List.drop nn st) M1) = F := funext k; rw [zw_gen hz hat]; exact zcall_s hy hc ha rfl
theorem zw_staticI {z y nn : Nat} {as rest : List Value} {F : Int32 → zM → zO} (hz : b = true ∨ zhd m.2.2.2 pc = none) (hat : zat m.2.2.1 pc = some (.invokestatic z, len, [y, nn, 1, 0])) (hy : Nat.blt y 1000 = true) (hc : (Nat.ble nn st.length && zroomy (st.drop nn)) = true) (ha : (st.take nn).reverse = as) (hr : st.drop nn = rest) (hp : pc + 3 = p) (k : ∀ u M1, zw false m E K n p l (.int u :: rest) M1 = F u M1) : zw b m E K (n + 1) pc l st M = zbI (E y as M) F := by subst hp; subst hr; obtain rfl : (fun u M1 => zw false m E K n (pc + 3) l (.int u :: List.drop nn st) M1) = F := funext fun u => funext (k u); rw [zw_gen hz hat]; exact zcall_s hy hc ha rfl
theorem zw_staticL {z y nn : Nat} {as rest : List Value} {F : Int64 → zM → zO} (hz : b = true ∨ zhd m.2.2.2 pc = none) (hat : zat m.2.2.1 pc = some (.invokestatic z, len, [y, nn, 2, 0])) (hy : Nat.blt y 1000 = true) (hc : (Nat.ble nn st.length && zroomy (st.drop nn)) = true) (ha : (st.take nn).reverse = as) (hr : st.drop nn = rest) (hp : pc + 3 = p) (k : ∀ u M1, zw false m E K n p l (.long u :: rest) M1 = F u M1) : zw b m E K (n + 1) pc l st M = zbL (E y as M) F := by subst hp; subst hr; obtain rfl : (fun u M1 => zw false m E K n (pc + 3) l (.long u :: List.drop nn st) M1) = F := funext fun u => funext (k u); rw [zw_gen hz hat]; exact zcall_s hy hc ha rfl
theorem zw_staticR {z y nn : Nat} {as rest : List Value} {F : Nat → zM → zO} (hz : b = true ∨ zhd m.2.2.2 pc = none) (hat : zat m.2.2.1 pc = some (.invokestatic z, len, [y, nn, 3, 0])) (hy : Nat.blt y 1000 = true) (hc : (Nat.ble nn st.length && zroomy (st.drop nn)) = true) (ha : (st.take nn).reverse = as) (hr : st.drop nn = rest) (hp : pc + 3 = p) (k : ∀ u M1, zw false m E K n p l (.ref u :: rest) M1 = F u M1) : zw b m E K (n + 1) pc l st M = zbR (E y as M) F := by subst hp; subst hr; obtain rfl : (fun u M1 => zw false m E K n (pc + 3) l (.ref u :: List.drop nn st) M1) = F := funext fun u => funext (k u); rw [zw_gen hz hat]; exact zcall_s hy hc ha rfl
theorem zw_copy {z : Nat} {a d : Nat} {sp dp nn : Int32} {F : zM → zO} (hz : b = true ∨ zhd m.2.2.2 pc = none) (hat : zat m.2.2.1 pc = some (.invokestatic z, len, [1001, 5, 0, 0])) (hp : pc + 3 = p) (k : ∀ M1, zw false m E K n p l st M1 = F M1) : zw b m E K (n + 1) pc l (.int nn :: .int dp :: .ref d :: .int sp :: .ref a :: st) M = zif ((zK M a).1 = 20 ∧ (zK M d).1 = 20 ∧ zroomy st = true ∧ (¬ sp < 0) ∧ (¬ dp < 0) ∧ (¬ nn < 0) ∧ sp.toNatClampNeg + nn.toNatClampNeg ≤ (zK M a).2 ∧ dp.toNatClampNeg + nn.toNatClampNeg ≤ (zK M d).2) (zbm (zcopy M a sp.toNatClampNeg d dp.toNatClampNeg nn.toNatClampNeg) F) := by subst hp; obtain rfl : (fun M1 => zw false m E K n (pc + 3) l st M1) = F := funext k; exact zw_gen hz hat
theorem zw_max {z : Nat} {x y : Int32} (hz : b = true ∨ zhd m.2.2.2 pc = none) (hat : zat m.2.2.1 pc = some (.invokestatic z, len, [1002, 2, 1, 0])) (hc : zroomy st = true) (hp : pc + 3 = p) (k : zw false m E K n p l (.int (if x < y then y else x) :: st) M = R) : zw b m E K (n + 1) pc l (.int y :: .int x :: st) M = R := by subst hp; subst k; rw [zw_gen hz hat]; show zok (zroomy st) _ = _; rw [hc]; rfl
theorem zw_min {z : Nat} {x y : Int32} (hz : b = true ∨ zhd m.2.2.2 pc = none) (hat : zat m.2.2.1 pc = some (.invokestatic z, len, [1003, 2, 1, 0])) (hc : zroomy st = true) (hp : pc + 3 = p) (k : zw false m E K n p l (.int (if y < x then y else x) :: st) M = R) : zw b m E K (n + 1) pc l (.int y :: .int x :: st) M = R := by subst hp; subst k; rw [zw_gen hz hat]; show zok (zroomy st) _ = _; rw [hc]; rfl
theorem zw_ireturn1 {x : Int32} (hz : b = true ∨ zhd m.2.2.2 pc = none) (hat : zat m.2.2.1 pc = some (.ireturn, len, r)) (hm : m.2.1 = 1)  : zw b m E K (n + 1) pc l [.int x] M = some (some (.int x), M) := by rw [zw_gen hz hat, hm]; rfl
theorem zw_ireturn2 {x : Int32} (hz : b = true ∨ zhd m.2.2.2 pc = none) (hat : zat m.2.2.1 pc = some (.ireturn, len, r)) (hm : m.2.1 = 2)  : zw b m E K (n + 1) pc l [.int x] M = zif (x = 0 ∨ x = 1) (some (some (.int x), M)) := by rw [zw_gen hz hat, hm]; rfl
theorem zw_lreturn {x : Int64} (hz : b = true ∨ zhd m.2.2.2 pc = none) (hat : zat m.2.2.1 pc = some (.lreturn, len, r)) (hm : m.2.1 = 3)  : zw b m E K (n + 1) pc l [.long x] M = some (some (.long x), M) := by rw [zw_gen hz hat, hm]; rfl
theorem zw_areturn {x : Nat} (hz : b = true ∨ zhd m.2.2.2 pc = none) (hat : zat m.2.2.1 pc = some (.areturn, len, r)) (hm : m.2.1 = 4)  : zw b m E K (n + 1) pc l [.ref x] M = some (some (.ref x), M) := by rw [zw_gen hz hat, hm]; rfl
theorem zw_return (hz : b = true ∨ zhd m.2.2.2 pc = none) (hat : zat m.2.2.1 pc = some (.return_, len, r)) (hm : m.2.1 = 0)  : zw b m E K (n + 1) pc l [] M = some (none, M) := by rw [zw_gen hz hat, hm]; rfl
theorem zsw_c {x : Int32} {lo lo2 d t : Nat} {ts : List Nat} {f : Nat → zO} {R1 R2 : zO} (h : lo + 1 = lo2) (k1 : f t = R1) (k2 : zsw x lo2 ts d f = R2) : zsw x lo (t :: ts) d f = if x = Int32.ofNat lo then R1 else R2 := by subst h; subst k1; subst k2; rfl
theorem zsw_n {x : Int32} {lo d : Nat} {f : Nat → zO} {R : zO} (k : f d = R) : zsw x lo [] d f = R := k
theorem zlk_c {x : Int32} {lo d t : Nat} {ts : List Nat} {f : Nat → zO} {R1 R2 : zO} (k1 : f t = R1) (k2 : zlk x ts d f = R2) : zlk x (lo :: t :: ts) d f = if x = Int32.ofNat lo then R1 else R2 := by subst k1; subst k2; rfl
theorem zlk_n {x : Int32} {d : Nat} {f : Nat → zO} {R : zO} (k : f d = R) : zlk x [] d f = R := k
end ZW
end
section
/-! what the tables say of each instruction, by the places of their words -/
def ztys (ci k : Nat) : FieldType := match ci with
  | 0 => tyX0 k
  | 1 => tyX1 k
  | 2 => tyX2 k
  | 3 => tyX3 k
  | 4 => tyX4 k
  | 5 => tyX5 k
  | 6 => tyX6 k
  | 7 => tyX7 k
  | 8 => tyX8 k
  | 9 => tyX9 k
  | 10 => tyX10 k
  | _ => .int
def zchunk (c : Nat) : List Cond := match c with
  | 0 => k2_sels lw_privs
  | 1 => tables_1_1
  | 2 => tables_1_2
  | 3 => tables_1_3
  | 4 => tables_1_4
  | 5 => tables_1_5
  | _ => tables_1_6
theorem zchunk_mem {c : Nat} {w : Cond} (h : w ∈ zchunk c) : w ∈ lw_tbl := by
  unfold zchunk at h
  unfold lw_tbl tables_1
  simp only [List.mem_append]
  split at h
  · exact Or.inl h
  · exact Or.inr (Or.inl h)
  · exact Or.inr (Or.inr (Or.inl h))
  · exact Or.inr (Or.inr (Or.inr (Or.inl h)))
  · exact Or.inr (Or.inr (Or.inr (Or.inr (Or.inl h))))
  · exact Or.inr (Or.inr (Or.inr (Or.inr (Or.inr (Or.inl h)))))
  · exact Or.inr (Or.inr (Or.inr (Or.inr (Or.inr (Or.inr h)))))
/-- a word at its place: a thousand times its list, and its place there -/
def zword (p : Nat) (w : Cond) : Bool := decide ((zchunk (p / 1000))[p % 1000]? = some w)
theorem zword_mem {p : Nat} {w : Cond} (h : zword p w = true) : w ∈ lw_tbl := zchunk_mem (List.mem_of_getElem? (of_decide_eq_true h))
def zhost : String := "PromiseTries"
/-- a field by its word: place, whether by a nest mate -/
def zfck (own : String) (idx ci k : Nat) (w : List Nat) : Bool := match vwCl[ci]?, w with
  | some (_, T, N), [p, 0] => decide (k < N) && zword p (.fieldLink own idx (T k).1 (T k).2.1 (T k).2.2.1)
  | some (_, T, N), [p, _] => decide (k < N) && zword p (.fieldLinkNest own idx (T k).1 (T k).2.1 (T k).2.2.1 zhost)
  | _, _ => false
def ztyc (ty : FieldType) : Nat := match ty with
  | .long => 1
  | .object _ => 2
  | .array _ => 2
  | .boolean => 3
  | .int => 0
  | _ => 9
def zfin (ci k : Nat) : Bool := match vwCl[ci]? with
  | some (_, T, _) => (T k).2.2.2
  | none => true
abbrev zNi : Type := MethodName × ByteArray × Nat × Option FieldType
def zNl : List zNi := [(yX0_init, cX0_init, 1, none), (yX0_begin, cX0_begin, 2, none), (yX0_condition, cX0_condition, 4, none), (yX0_chainTwo, cX0_chainTwo, 2, none), (yX0_chooseOfTwo, cX0_chooseOfTwo, 2, none), (yX0_repeat, cX0_repeat, 5, none), (yX0_chainCopies, cX0_chainCopies, 12, none), (yX0_finish, cX0_finish, 1, none), (yX1_init, cX1_init, 1, none), (yX1_sideOf, cX1_sideOf, 2, some (.object "PromiseTries$Sequence")), (yX1_isPutOffBy, cX1_isPutOffBy, 2, some .boolean), (yX2_init, cX2_init, 1, none), (yX2_readAll, cX2_readAll, 3, some .int), (yX2_readPromise, cX2_readPromise, 2, some .boolean), (yX2_readOff, cX2_readOff, 2, some .boolean), (yX2_readChoice, cX2_readChoice, 3, some .boolean), (yX2_readChain, cX2_readChain, 3, some .boolean), (yX2_readRepeated, cX2_readRepeated, 4, some .boolean), (yX2_readNumber, cX2_readNumber, 2, some .boolean), (yX2_readPart, cX2_readPart, 2, some .boolean), (yX2_readCondition, cX2_readCondition, 4, some .boolean), (yX2_readPlain, cX2_readPlain, 2, some .boolean), (yX2_readAnyOf, cX2_readAnyOf, 3, some .boolean), (yX2_readAllOf, cX2_readAllOf, 3, some .boolean), (yX3_init, cX3_init, 1, none), (yX3_clear, cX3_clear, 1, none), (yX3_addCondition, cX3_addCondition, 2, some .long), (yX3_link, cX3_link, 8, none), (yX3_copyBlock, cX3_copyBlock, 11, none), (yX3_findUseful, cX3_findUseful, 7, none), (yX3_openTo, cX3_openTo, 5, some .long), (yX3_after, cX3_after, 10, some .long), (yX3_walk, cX3_walk, 7, some .long), (yX3_hasEnded, cX3_hasEnded, 3, some .boolean), (yX3_goesOn, cX3_goesOn, 3, some .boolean), (yX4_init, cX4_init, 1, none), (yX4_renew, cX4_renew, 4, none), (yX4_tearAt, cX4_tearAt, 3, some .int), (yX4_setCell, cX4_setCell, 3, none), (yX5_init, cX5_init, 1, none), (yX5_begin, cX5_begin, 1, none), (yX5_refuse, cX5_refuse, 2, some .boolean), (yX5_advance, cX5_advance, 2, none), (yX5_advanceNumber, cX5_advanceNumber, 3, none), (yX5_isFigure, cX5_isFigure, 1, some .boolean), (yX5_isSign, cX5_isSign, 1, some .boolean), (yX5_beginsSequence, cX5_beginsSequence, 1, some .boolean), (yX6_init, cX6_init, 1, none), (yX6_add, cX6_add, 2, none), (yX6_become, cX6_become, 2, none), (yX7_init, cX7_init, 1, none), (yX7_clear, cX7_clear, 1, none), (yX7_pushWire, cX7_pushWire, 3, none), (yX7_wordOfWire, cX7_wordOfWire, 2, some .long), (yX7_negate, cX7_negate, 2, none), (yX7_joinTwo, cX7_joinTwo, 6, none), (yX7_drop, cX7_drop, 1, none), (yX7_moveTop, cX7_moveTop, 4, none), (yX8_init, cX8_init, 1, none), (yX8_restart, cX8_restart, 1, none), (yX8_catchUp, cX8_catchUp, 3, none), (yX8_takeIn, cX8_takeIn, 5, none), (yX8_moveDuties, cX8_moveDuties, 5, none), (yX8_moveTries, cX8_moveTries, 6, some .boolean), (yX8_beginDuty, cX8_beginDuty, 5, none), (yX8_settleDuty, cX8_settleDuty, 5, none), (yX8_judgeTries, cX8_judgeTries, 4, none), (yX8_judge, cX8_judge, 3, some .int), (yX8_howMany, cX8_howMany, 4, some .int), (yX8_earliest, cX8_earliest, 3, some .int), (yX8_failedBy, cX8_failedBy, 4, some .int), (yX8_allDuties, cX8_allDuties, 3, some .int), (yX8_dutyTick, cX8_dutyTick, 5, some .int), (yX8_dutyState, cX8_dutyState, 2, some .int), (yX9_init, cX9_init, 2, none), (yX9_feed, cX9_feed, 2, some .int), (yX9_end, cX9_end, 3, some .int), (yX9_text, cX9_text, 4, some .int), (yX9_fault, cX9_fault, 1, some .int), (yX9_rule, cX9_rule, 5, some .int), (yX9_promise, cX9_promise, 4, some .int), (yX9_fulfils, cX9_fulfils, 6, some .int), (yX9_fulfilled, cX9_fulfilled, 4, some .int), (yX9_matches, cX9_matches, 6, some .int), (yX9_might, cX9_might, 5, some .int), (yX9_tick, cX9_tick, 4, some .int), (yX9_bits, cX9_bits, 2, some .int), (yX9_put, cX9_put, 4, some .int), (yX9_keeps, cX9_keeps, 3, some .int), (yX9_draw, cX9_draw, 6, some .int), (yX9_verdict, cX9_verdict, 3, some .int), (yX9_decided, cX9_decided, 4, some .int), (yX9_duties, cX9_duties, 3, some .int), (yX9_duty, cX9_duty, 8, some .int), (yX9_tries, cX9_tries, 3, some .int), (yX9_first, cX9_first, 3, some .int), (yX9_keep, cX9_keep, 3, some .int), (yX9_back, cX9_back, 2, some .int), (yX9_sheet, cX9_sheet, 4, some .int), (yX9_lay, cX9_lay, 6, some .int), (yX9_run, cX9_run, 8, some .int), (yX9_torn, cX9_torn, 1, some .int), (yX9_count, cX9_count, 2, some .int), (yX9_isPromise, cX9_isPromise, 2, some .boolean), (yX9_isTick, cX9_isTick, 2, some .boolean), (yX9_isTry, cX9_isTry, 3, some .boolean), (yX9_isCondition, cX9_isCondition, 4, some .boolean), (yX9_isBits, cX9_isBits, 1, some .boolean), (yX9_isSide, cX9_isSide, 1, some .boolean), (yX9_isVerdict, cX9_isVerdict, 1, some .boolean), (yX9_isImage, cX9_isImage, 1, some .boolean), (yX9_isSheet, cX9_isSheet, 1, some .boolean), (yX9_isLane, cX9_isLane, 1, some .boolean), (yX9_nextSeed, cX9_nextSeed, 1, some .int), (yX9_got, cX9_got, 1, some .int), (yX9_howManyImages, cX9_howManyImages, 3, some .int), (yX9_watchOf, cX9_watchOf, 3, some (.object "PromiseTries$Watch")), (yX9_watchAnew, cX9_watchAnew, 2, none), (yX9_isFulfilled, cX9_isFulfilled, 3, some .boolean), (yX9_howManyFulfil, cX9_howManyFulfil, 4, some .int), (yX10_init, cX10_init, 2, none), (yX10_in, cX10_in, 6, some .boolean), (yX10_flag, cX10_flag, 1, some .int), (yX10_least, cX10_least, 2, some .int), (yX10_greatest, cX10_greatest, 2, some .int), (yX10_feed, cX10_feed, 2, some .int), (yX10_end, cX10_end, 3, some .int), (yX10_requires, cX10_requires, 3, none), (yX10_byteAt, cX10_byteAt, 2, some .int), (yX10_isSignByte, cX10_isSignByte, 1, some .boolean), (yX10_reads, cX10_reads, 2, none), (yX10_isSign, cX10_isSign, 2, some .boolean), (yX10_readNumber, cX10_readNumber, 4, some .int), (yX10_nests, cX10_nests, 1, none), (yX10_wires, cX10_wires, 3, none), (yX10_opensDepth, cX10_opensDepth, 1, none), (yX10_joinsAnds, cX10_joinsAnds, 4, none), (yX10_joinsOrs, cX10_joinsOrs, 2, none), (yX10_readOperand, cX10_readOperand, 2, none), (yX10_readCondition, cX10_readCondition, 5, none), (yX10_placesNow, cX10_placesNow, 1, some .int), (yX10_takes, cX10_takes, 3, none), (yX10_sum, cX10_sum, 2, some .int), (yX10_follows, cX10_follows, 6, none), (yX10_chains, cX10_chains, 3, none), (yX10_chooses, cX10_chooses, 3, none), (yX10_onePlace, cX10_onePlace, 5, none), (yX10_repeats, cX10_repeats, 17, none), (yX10_opensSequence, cX10_opensSequence, 1, none), (yX10_readBegin, cX10_readBegin, 1, none), (yX10_readTimes, cX10_readTimes, 3, none), (yX10_readEnds, cX10_readEnds, 2, none), (yX10_readSequence, cX10_readSequence, 3, none), (yX10_isFulfillable, cX10_isFulfillable, 6, some .boolean), (yX10_ends, cX10_ends, 8, none), (yX10_isBegin, cX10_isBegin, 1, some .boolean), (yX10_readPromise, cX10_readPromise, 6, none), (yX10_text, cX10_text, 3, some .int), (yX10_fault, cX10_fault, 1, some .int), (yX10_isPromise, cX10_isPromise, 2, some .boolean), (yX10_isSide, cX10_isSide, 1, some .boolean), (yX10_areBits, cX10_areBits, 1, some .boolean), (yX10_fulfilsOne, cX10_fulfilsOne, 4, some .boolean), (yX10_fulfilsOff, cX10_fulfilsOff, 3, some .boolean), (yX10_findsFulfilling, cX10_findsFulfilling, 8, none), (yX10_nextOf, cX10_nextOf, 7, some .long), (yX10_firstOf, cX10_firstOf, 2, some .long), (yX10_isEnd, cX10_isEnd, 4, some .boolean), (yX10_canEnd, cX10_canEnd, 4, some .boolean), (yX10_isConditionAsked, cX10_isConditionAsked, 4, some .boolean), (yX10_fulfils, cX10_fulfils, 5, some .int), (yX10_fulfilled, cX10_fulfilled, 6, some .int), (yX10_matches, cX10_matches, 8, some .int), (yX10_might, cX10_might, 7, some .int), (yX10_promise, cX10_promise, 4, some .int), (yX10_goesOn, cX10_goesOn, 7, none), (yX10_dies, cX10_dies, 4, none), (yX10_begins, cX10_begins, 3, none), (yX10_isAny, cX10_isAny, 6, some .boolean), (yX10_goesThrough, cX10_goesThrough, 9, none), (yX10_verdictBy, cX10_verdictBy, 6, some .int), (yX10_isTick, cX10_isTick, 2, some .boolean), (yX10_isTry, cX10_isTry, 3, some .boolean), (yX10_dutiesFrom, cX10_dutiesFrom, 4, some .int), (yX10_verdict, cX10_verdict, 3, some .int), (yX10_decided, cX10_decided, 3, some .int), (yX10_duties, cX10_duties, 3, some .int), (yX10_duty, cX10_duty, 7, some .int), (yX10_triesOf, cX10_triesOf, 5, some .int), (yX10_tries, cX10_tries, 3, some .int), (yX10_first, cX10_first, 4, some .int), (yX10_allDuties, cX10_allDuties, 4, some .int), (yX10_allTries, cX10_allTries, 4, some .int), (yX10_rule, cX10_rule, 2, some .int), (yX10_failedBy, cX10_failedBy, 5, some .int), (yX10_tick, cX10_tick, 2, some .int), (yX10_bits, cX10_bits, 2, some .int), (yX10_put, cX10_put, 4, some .int), (yX10_keeps, cX10_keeps, 3, some .int), (yX10_gets, cX10_gets, 1, some .int), (yX10_draw, cX10_draw, 5, some .int), (yX10_keep, cX10_keep, 4, some .int), (yX10_back, cX10_back, 3, some .int), (yX10_isSheet, cX10_isSheet, 2, some .boolean), (yX10_sheet, cX10_sheet, 5, some .int), (yX10_lay, cX10_lay, 4, some .int), (yX10_run, cX10_run, 8, some .int), (yX10_torn, cX10_torn, 1, some .int), (yX10_count, cX10_count, 2, some .int), (yJ13_bitCount_95d88, cJ13_bitCount_95d88, 2, some .int)]
def zNm (y : Nat) : zNi := zNl.getD y (yL_law, cL_law, 4, some .boolean)
def zrtc (rt : Nat) (ret : Option FieldType) : Bool := match rt, ret with
  | 0, none => true
  | 1, some .int => true
  | 2, some .boolean => true
  | 3, some .long => true
  | 4, some (.object _) => true
  | _, _ => false
def zcrt (rt : Nat) (ret : Option FieldType) : Bool := match rt, ret with
  | 0, none => true
  | 1, some .int => true
  | 1, some .boolean => true
  | 2, some .long => true
  | 3, some (.object _) => true
  | _, _ => false
def ztbl (pc : Nat) (lo : Int) (hi : Int) (offs : List Int) (d : Nat) (dflt : Int) (lo2 : Nat) (ts : List Nat) : Bool :=
  decide ((pc : Int) + dflt = (d : Int)) && decide (lo = (lo2 : Int)) && decide (hi = (lo2 : Int) + (ts.length : Int) - 1) && decide (offs.map (fun o => (pc : Int) + o) = ts.map (fun (t : Nat) => (t : Int))) && decide (lo2 + ts.length < 1000)
def zpairs (ts : List Nat) : List (Int × Int) := match ts with
  | k :: t :: ts => ((k : Int), (t : Int)) :: zpairs ts
  | _ => []
def zevn (ts : List Nat) : Bool := match ts with
  | [] => true
  | [_] => false
  | k :: _ :: ts => decide (k < 1000) && zevn ts
def zck (own : String) (ini : Bool) (bytes : ByteArray) (e : zC) (w : List Nat) : Bool :=
  decide (decode bytes e.1 = .ok (e.2.1, e.2.2.1)) && (match e.2.1 with
  | .iconst z => decide (e.2.2.1 = 1) && decide (Int32.ofInt z = zci e.2.2.2)
  | .bipush z => decide (e.2.2.1 = 2) && decide ((Int8.ofInt z).toInt32 = zci e.2.2.2)
  | .sipush z => decide (e.2.2.1 = 3) && decide ((Int16.ofInt z).toInt32 = zci e.2.2.2)
  | .lconst z => decide (e.2.2.1 = 1) && decide (Int64.ofNat z.val = zcl e.2.2.2)
  | .ldc i => decide (e.2.2.1 = 2) && zword (w.headD 0) (.constant own i (zci e.2.2.2))
  | .ldc_w i => decide (e.2.2.1 = 3) && zword (w.headD 0) (.constant own i (zci e.2.2.2))
  | .ldc2_w i => decide (e.2.2.1 = 3) && zword (w.headD 0) (.constantLong own i (zcl e.2.2.2))
  | .iinc _ z => decide (e.2.2.1 = 3) && decide (Int32.ofInt z = zci e.2.2.2)
  | .goto z => decide (e.2.2.1 = 3) && decide ((e.1 : Int) + z = ((e.2.2.2.headD 0 : Nat) : Int))
  | .ifCond _ z => decide (e.2.2.1 = 3) && decide ((e.1 : Int) + z = ((e.2.2.2.headD 0 : Nat) : Int))
  | .if_icmp _ z => decide (e.2.2.1 = 3) && decide ((e.1 : Int) + z = ((e.2.2.2.headD 0 : Nat) : Int))
  | .tableswitch dflt lo hi offs => (match e.2.2.2 with
    | d :: lo2 :: ts => ztbl e.1 lo hi offs.toList d dflt lo2 ts
    | _ => false)
  | .lookupswitch dflt ps => (match e.2.2.2 with
    | d :: ts => decide ((e.1 : Int) + dflt = (d : Int)) && zevn ts && decide (ps.toList.map (fun q => (q.1, (e.1 : Int) + q.2)) = zpairs ts) && (ps.toList.zip (ps.toList.drop 1)).all (fun (a, next) => a.1 < next.1)
    | _ => false)
  | .getfield i => decide (e.2.2.1 = 3) && (match e.2.2.2 with
    | [ty, ci, k] => zfck own i ci k w && (decide (ty = ztyc (ztys ci k)) || (decide (ty = 0) && decide (ztyc (ztys ci k) = 3)))
    | _ => false)
  | .putfield i => decide (e.2.2.1 = 3) && (match e.2.2.2 with
    | [ty, ci, k] => zfck own i ci k w && decide (ty = ztyc (ztys ci k)) && (match zfin ci k with
      | false => true
      | true => ini && decide ((w.drop 1).headD 1 = 0) && decide (((vwCl[ci]?).map (fun q => (q.2.1 k).1)) = some own))
    | _ => false)
  | .getstatic i => decide (e.2.2.1 = 3) && zword (w.headD 0) (.fieldLink own i "PromiseTries$TruthStack" "PATTERNS" "[J")
  | .new i => decide (e.2.2.1 = 3) && (match e.2.2.2, w with
    | [ci, N], [p1, p2, p3] => (match vwCl[ci]? with
      | some (C, _, N2) => decide (N = N2) && zword p1 (.classLink own i C) && zword p2 (.instantiable C N) && zword p3 (.initialized C)
      | none => false)
    | _, _ => false)
  | .newarray at_ => decide (e.2.2.1 = 2) && (match e.2.2.2 with
    | [t] => zword (w.headD 0) (.arrayClass (newarray.typeOf at_)) && (match t, newarray.typeOf at_ with
      | 20, .int => true
      | 21, .boolean => true
      | 22, .byte => true
      | 23, .long => true
      | _, _ => false)
    | _ => false)
  | .anewarray i => decide (e.2.2.1 = 3) && (match e.2.2.2, w with
    | [ci], [p1, p2] => (match vwCl[ci]? with
      | some (C, _, _) => zword p1 (.classLink own i C) && zword p2 (.arrayOver (.object C))
      | none => false)
    | _, _ => false)
  | .invokevirtual i => decide (e.2.2.1 = 3) && (match e.2.2.2, w with
    | [y, n, rt, tag], [p1, p2, p3, nest] => decide (y < 210) && decide (1 ≤ n) && decide ((parseMethodDescriptor (zNm y).1.desc).map (fun d => d.parameters.length) = some (n - 1)) && zcrt rt (zNm y).2.2.2 && decide (1 ≤ tag) && decide ((vwCl[tag - 1]?).map (fun q => q.1) = some (zNm y).1.cls) && zword p2 (.instanceMethod (zNm y).1) && zword p3 (.selects (zNm y).1.cls (zNm y).1 (zNm y).1) && (match nest with
      | 0 => zword p1 (.methodLink own i (zNm y).1)
      | _ => zword p1 (.methodLinkNest own i (zNm y).1 zhost))
    | _, _ => false)
  | .invokespecial i => decide (e.2.2.1 = 3) && (match e.2.2.2, w with
    | [1000, 1, 0, 0], [p1, p2] => zword p1 (.methodLink own i Lib.objectInit) && zword p2 (.instanceMethod Lib.objectInit)
    | [y, n, rt, 0], [p1, p2, nest] => decide (y < 210) && decide (1 ≤ n) && decide ((parseMethodDescriptor (zNm y).1.desc).map (fun d => d.parameters.length) = some (n - 1)) && decide (rt = 0) && decide ((zNm y).2.2.2 = none) && decide ((zNm y).1.name = "<init>") && zword p2 (.instanceMethod (zNm y).1) && (match nest with
      | 0 => zword p1 (.methodLink own i (zNm y).1)
      | _ => zword p1 (.methodLinkNest own i (zNm y).1 zhost))
    | _, _ => false)
  | .invokestatic i => decide (e.2.2.1 = 3) && (match e.2.2.2, w with
    | [1001, 5, 0, 0], [p1, p2, p3, p4] => zword p1 (.methodLink own i arraycopyName) && zword p2 (.native arraycopyName) && zword p3 (.static arraycopyName) && zword p4 (.initialized "java/lang/System")
    | [1002, 2, 1, 0], [p1, p2, p3] => zword p1 (.methodLink own i Lib.Math.max.name) && zword p2 (.static Lib.Math.max.name) && zword p3 (.initialized "java/lang/Math")
    | [1003, 2, 1, 0], [p1, p2, p3] => zword p1 (.methodLink own i Lib.Math.min.name) && zword p2 (.static Lib.Math.min.name) && zword p3 (.initialized "java/lang/Math")
    | [y, n, rt, 0], [p1, p2, nest] => decide (y < 210) && decide ((parseMethodDescriptor (zNm y).1.desc).map (fun d => d.parameters.length) = some n) && zcrt rt (zNm y).2.2.2 && zword p2 (.static (zNm y).1) && (match nest with
      | 0 => zword p1 (.methodLink own i (zNm y).1)
      | _ => zword p1 (.methodLinkNest own i (zNm y).1 zhost))
    | _, _ => false)
  | .iload_n _ => decide (e.2.2.1 = 1)
  | .lload_n _ => decide (e.2.2.1 = 1)
  | .aload_n _ => decide (e.2.2.1 = 1)
  | .istore_n _ => decide (e.2.2.1 = 1)
  | .lstore_n _ => decide (e.2.2.1 = 1)
  | .astore_n _ => decide (e.2.2.1 = 1)
  | .iload _ => decide (e.2.2.1 = 2)
  | .lload _ => decide (e.2.2.1 = 2)
  | .aload _ => decide (e.2.2.1 = 2)
  | .istore _ => decide (e.2.2.1 = 2)
  | .lstore _ => decide (e.2.2.1 = 2)
  | .astore _ => decide (e.2.2.1 = 2)
  | _ => decide (e.2.2.1 = 1))
/-- a method that is called: its words -/
def zmk (y : Nat) (w : List Nat) : Bool := match w with
  | [p2] => plainName (zNm y).1.cls && zword p2 (.initialized (zNm y).1.cls) && decide ((zNm y).1.cls ≠ "java/lang/invoke/MethodHandle") && decide ((zNm y).1.cls ≠ "java/lang/invoke/VarHandle") && decide ((zT y).1 = (zNm y).2.2.1) && decide ((zNm y).2.2.1 ≤ 40) && zrtc (zT y).2.1 (zNm y).2.2.2
  | _ => false

theorem zlay_0 : ∀ w ∈ u_ws RX0 TX0 7, w ∈ lw_tbl := fun w hw => by
  have h : (u_ws RX0 TX0 7) = ([1146, 1148, 1150, 1152, 1154, 1156, 1158] : List Nat).filterMap (fun i => (zchunk (i / 1000))[i % 1000]?) := by decide +kernel
  rw [h] at hw
  obtain ⟨i, -, hi⟩ := List.mem_filterMap.mp hw
  exact zchunk_mem (List.mem_of_getElem? hi)
theorem zlay_1 : ∀ w ∈ u_ws RX1 TX1 5, w ∈ lw_tbl := fun w hw => by
  have h : (u_ws RX1 TX1 5) = ([1221, 1223, 1225, 1227, 1229] : List Nat).filterMap (fun i => (zchunk (i / 1000))[i % 1000]?) := by decide +kernel
  rw [h] at hw
  obtain ⟨i, -, hi⟩ := List.mem_filterMap.mp hw
  exact zchunk_mem (List.mem_of_getElem? hi)
theorem zlay_2 : ∀ w ∈ u_ws RX2 TX2 3, w ∈ lw_tbl := fun w hw => by
  have h : (u_ws RX2 TX2 3) = ([1165, 1167, 1169] : List Nat).filterMap (fun i => (zchunk (i / 1000))[i % 1000]?) := by decide +kernel
  rw [h] at hw
  obtain ⟨i, -, hi⟩ := List.mem_filterMap.mp hw
  exact zchunk_mem (List.mem_of_getElem? hi)
theorem zlay_3 : ∀ w ∈ u_ws RX3 TX3 11, w ∈ lw_tbl := fun w hw => by
  have h : (u_ws RX3 TX3 11) = ([1115, 1117, 1119, 1121, 1123, 1125, 1127, 1129, 1131, 1133, 1135] : List Nat).filterMap (fun i => (zchunk (i / 1000))[i % 1000]?) := by decide +kernel
  rw [h] at hw
  obtain ⟨i, -, hi⟩ := List.mem_filterMap.mp hw
  exact zchunk_mem (List.mem_of_getElem? hi)
theorem zlay_4 : ∀ w ∈ u_ws RX4 TX4 3, w ∈ lw_tbl := fun w hw => by
  have h : (u_ws RX4 TX4 3) = ([2041, 2043, 2045] : List Nat).filterMap (fun i => (zchunk (i / 1000))[i % 1000]?) := by decide +kernel
  rw [h] at hw
  obtain ⟨i, -, hi⟩ := List.mem_filterMap.mp hw
  exact zchunk_mem (List.mem_of_getElem? hi)
theorem zlay_5 : ∀ w ∈ u_ws RX5 TX5 8, w ∈ lw_tbl := fun w hw => by
  have h : (u_ws RX5 TX5 8) = ([1049, 1051, 1053, 1055, 1057, 1059, 1061, 1063] : List Nat).filterMap (fun i => (zchunk (i / 1000))[i % 1000]?) := by decide +kernel
  rw [h] at hw
  obtain ⟨i, -, hi⟩ := List.mem_filterMap.mp hw
  exact zchunk_mem (List.mem_of_getElem? hi)
theorem zlay_6 : ∀ w ∈ u_ws RX6 TX6 2, w ∈ lw_tbl := fun w hw => by
  have h : (u_ws RX6 TX6 2) = ([1187, 1189] : List Nat).filterMap (fun i => (zchunk (i / 1000))[i % 1000]?) := by decide +kernel
  rw [h] at hw
  obtain ⟨i, -, hi⟩ := List.mem_filterMap.mp hw
  exact zchunk_mem (List.mem_of_getElem? hi)
theorem zlay_7 : ∀ w ∈ u_ws RX7 TX7 2, w ∈ lw_tbl := fun w hw => by
  have h : (u_ws RX7 TX7 2) = ([1075, 1077] : List Nat).filterMap (fun i => (zchunk (i / 1000))[i % 1000]?) := by decide +kernel
  rw [h] at hw
  obtain ⟨i, -, hi⟩ := List.mem_filterMap.mp hw
  exact zchunk_mem (List.mem_of_getElem? hi)
theorem zlay_8 : ∀ w ∈ u_ws RX8 TX8 9, w ∈ lw_tbl := fun w hw => by
  have h : (u_ws RX8 TX8 9) = ([2011, 2013, 2015, 2017, 2019, 2021, 2023, 2025, 2027] : List Nat).filterMap (fun i => (zchunk (i / 1000))[i % 1000]?) := by decide +kernel
  rw [h] at hw
  obtain ⟨i, -, hi⟩ := List.mem_filterMap.mp hw
  exact zchunk_mem (List.mem_of_getElem? hi)
theorem zlay_9 : ∀ w ∈ u_ws RX9 TX9 12, w ∈ lw_tbl := fun w hw => by
  have h : (u_ws RX9 TX9 12) = ([2060, 2062, 2064, 2066, 2068, 2070, 2072, 2074, 2076, 2078, 2080, 2082] : List Nat).filterMap (fun i => (zchunk (i / 1000))[i % 1000]?) := by decide +kernel
  rw [h] at hw
  obtain ⟨i, -, hi⟩ := List.mem_filterMap.mp hw
  exact zchunk_mem (List.mem_of_getElem? hi)
theorem zlay_10 : ∀ w ∈ u_ws RX10 TX10 52, w ∈ lw_tbl := fun w hw => by
  have h : (u_ws RX10 TX10 52) = ([4128, 4130, 4132, 4134, 4136, 4138, 4140, 4142, 4144, 4146, 4148, 4150, 4152, 4154, 4156, 4158, 4160, 4162, 4164, 4166, 4168, 4170, 4172, 4174, 4176, 4178, 4180, 4182, 4184, 4186, 4188, 4190, 4192, 4194, 4196, 4198, 4200, 4202, 4204, 4206, 4208, 4210, 4212, 4214, 4216, 4218, 4220, 4222, 4224, 4226, 4228, 4230] : List Nat).filterMap (fun i => (zchunk (i / 1000))[i % 1000]?) := by decide +kernel
  rw [h] at hw
  obtain ⟨i, -, hi⟩ := List.mem_filterMap.mp hw
  exact zchunk_mem (List.mem_of_getElem? hi)
theorem zcw_X0_init : Cond.code yX0_init cX0_init 1 none ∈ lw_tbl := zchunk_mem (c := 1) (List.mem_of_getElem? (i := 85) rfl)
theorem zcw_X0_begin : Cond.code yX0_begin cX0_begin 2 none ∈ lw_tbl := zchunk_mem (c := 2) (List.mem_of_getElem? (i := 139) rfl)
theorem zcw_X0_condition : Cond.code yX0_condition cX0_condition 4 none ∈ lw_tbl := zchunk_mem (c := 2) (List.mem_of_getElem? (i := 198) rfl)
theorem zcw_X0_chainTwo : Cond.code yX0_chainTwo cX0_chainTwo 2 none ∈ lw_tbl := zchunk_mem (c := 3) (List.mem_of_getElem? (i := 1) rfl)
theorem zcw_X0_chooseOfTwo : Cond.code yX0_chooseOfTwo cX0_chooseOfTwo 2 none ∈ lw_tbl := zchunk_mem (c := 3) (List.mem_of_getElem? (i := 5) rfl)
theorem zcw_X0_repeat : Cond.code yX0_repeat cX0_repeat 5 none ∈ lw_tbl := zchunk_mem (c := 2) (List.mem_of_getElem? (i := 221) rfl)
theorem zcw_X0_chainCopies : Cond.code yX0_chainCopies cX0_chainCopies 12 none ∈ lw_tbl := zchunk_mem (c := 2) (List.mem_of_getElem? (i := 229) rfl)
theorem zcw_X0_finish : Cond.code yX0_finish cX0_finish 1 none ∈ lw_tbl := zchunk_mem (c := 3) (List.mem_of_getElem? (i := 9) rfl)
theorem zcw_X1_init : Cond.code yX1_init cX1_init 1 none ∈ lw_tbl := zchunk_mem (c := 1) (List.mem_of_getElem? (i := 200) rfl)
theorem zcw_X1_sideOf : Cond.code yX1_sideOf cX1_sideOf 2 (some (.object "PromiseTries$Sequence")) ∈ lw_tbl := zchunk_mem (c := 3) (List.mem_of_getElem? (i := 136) rfl)
theorem zcw_X1_isPutOffBy : Cond.code yX1_isPutOffBy cX1_isPutOffBy 2 (some .boolean) ∈ lw_tbl := zchunk_mem (c := 3) (List.mem_of_getElem? (i := 94) rfl)
theorem zcw_X2_init : Cond.code yX2_init cX2_init 1 none ∈ lw_tbl := zchunk_mem (c := 1) (List.mem_of_getElem? (i := 27) rfl)
theorem zcw_X2_readAll : Cond.code yX2_readAll cX2_readAll 3 (some .int) ∈ lw_tbl := zchunk_mem (c := 2) (List.mem_of_getElem? (i := 100) rfl)
theorem zcw_X2_readPromise : Cond.code yX2_readPromise cX2_readPromise 2 (some .boolean) ∈ lw_tbl := zchunk_mem (c := 2) (List.mem_of_getElem? (i := 135) rfl)
theorem zcw_X2_readOff : Cond.code yX2_readOff cX2_readOff 2 (some .boolean) ∈ lw_tbl := zchunk_mem (c := 3) (List.mem_of_getElem? (i := 26) rfl)
theorem zcw_X2_readChoice : Cond.code yX2_readChoice cX2_readChoice 3 (some .boolean) ∈ lw_tbl := zchunk_mem (c := 2) (List.mem_of_getElem? (i := 147) rfl)
theorem zcw_X2_readChain : Cond.code yX2_readChain cX2_readChain 3 (some .boolean) ∈ lw_tbl := zchunk_mem (c := 2) (List.mem_of_getElem? (i := 151) rfl)
theorem zcw_X2_readRepeated : Cond.code yX2_readRepeated cX2_readRepeated 4 (some .boolean) ∈ lw_tbl := zchunk_mem (c := 2) (List.mem_of_getElem? (i := 155) rfl)
theorem zcw_X2_readNumber : Cond.code yX2_readNumber cX2_readNumber 2 (some .boolean) ∈ lw_tbl := zchunk_mem (c := 2) (List.mem_of_getElem? (i := 214) rfl)
theorem zcw_X2_readPart : Cond.code yX2_readPart cX2_readPart 2 (some .boolean) ∈ lw_tbl := zchunk_mem (c := 2) (List.mem_of_getElem? (i := 159) rfl)
theorem zcw_X2_readCondition : Cond.code yX2_readCondition cX2_readCondition 4 (some .boolean) ∈ lw_tbl := zchunk_mem (c := 2) (List.mem_of_getElem? (i := 163) rfl)
theorem zcw_X2_readPlain : Cond.code yX2_readPlain cX2_readPlain 2 (some .boolean) ∈ lw_tbl := zchunk_mem (c := 2) (List.mem_of_getElem? (i := 168) rfl)
theorem zcw_X2_readAnyOf : Cond.code yX2_readAnyOf cX2_readAnyOf 3 (some .boolean) ∈ lw_tbl := zchunk_mem (c := 2) (List.mem_of_getElem? (i := 182) rfl)
theorem zcw_X2_readAllOf : Cond.code yX2_readAllOf cX2_readAllOf 3 (some .boolean) ∈ lw_tbl := zchunk_mem (c := 2) (List.mem_of_getElem? (i := 186) rfl)
theorem zcw_X3_init : Cond.code yX3_init cX3_init 1 none ∈ lw_tbl := zchunk_mem (c := 1) (List.mem_of_getElem? (i := 91) rfl)
theorem zcw_X3_clear : Cond.code yX3_clear cX3_clear 1 none ∈ lw_tbl := zchunk_mem (c := 2) (List.mem_of_getElem? (i := 143) rfl)
theorem zcw_X3_addCondition : Cond.code yX3_addCondition cX3_addCondition 2 (some .long) ∈ lw_tbl := zchunk_mem (c := 2) (List.mem_of_getElem? (i := 202) rfl)
theorem zcw_X3_link : Cond.code yX3_link cX3_link 8 none ∈ lw_tbl := zchunk_mem (c := 2) (List.mem_of_getElem? (i := 234) rfl)
theorem zcw_X3_copyBlock : Cond.code yX3_copyBlock cX3_copyBlock 11 none ∈ lw_tbl := zchunk_mem (c := 2) (List.mem_of_getElem? (i := 225) rfl)
theorem zcw_X3_findUseful : Cond.code yX3_findUseful cX3_findUseful 7 none ∈ lw_tbl := zchunk_mem (c := 3) (List.mem_of_getElem? (i := 13) rfl)
theorem zcw_X3_openTo : Cond.code yX3_openTo cX3_openTo 5 (some .long) ∈ lw_tbl := zchunk_mem (c := 3) (List.mem_of_getElem? (i := 59) rfl)
theorem zcw_X3_after : Cond.code yX3_after cX3_after 10 (some .long) ∈ lw_tbl := zchunk_mem (c := 3) (List.mem_of_getElem? (i := 70) rfl)
theorem zcw_X3_walk : Cond.code yX3_walk cX3_walk 7 (some .long) ∈ lw_tbl := zchunk_mem (c := 3) (List.mem_of_getElem? (i := 153) rfl)
theorem zcw_X3_hasEnded : Cond.code yX3_hasEnded cX3_hasEnded 3 (some .boolean) ∈ lw_tbl := zchunk_mem (c := 3) (List.mem_of_getElem? (i := 78) rfl)
theorem zcw_X3_goesOn : Cond.code yX3_goesOn cX3_goesOn 3 (some .boolean) ∈ lw_tbl := zchunk_mem (c := 3) (List.mem_of_getElem? (i := 82) rfl)
theorem zcw_X4_init : Cond.code yX4_init cX4_init 1 none ∈ lw_tbl := zchunk_mem (c := 2) (List.mem_of_getElem? (i := 33) rfl)
theorem zcw_X4_renew : Cond.code yX4_renew cX4_renew 4 none ∈ lw_tbl := zchunk_mem (c := 4) (List.mem_of_getElem? (i := 35) rfl)
theorem zcw_X4_tearAt : Cond.code yX4_tearAt cX4_tearAt 3 (some .int) ∈ lw_tbl := zchunk_mem (c := 4) (List.mem_of_getElem? (i := 43) rfl)
theorem zcw_X4_setCell : Cond.code yX4_setCell cX4_setCell 3 none ∈ lw_tbl := zchunk_mem (c := 4) (List.mem_of_getElem? (i := 47) rfl)
theorem zcw_X5_init : Cond.code yX5_init cX5_init 1 none ∈ lw_tbl := zchunk_mem (c := 1) (List.mem_of_getElem? (i := 33) rfl)
theorem zcw_X5_begin : Cond.code yX5_begin cX5_begin 1 none ∈ lw_tbl := zchunk_mem (c := 2) (List.mem_of_getElem? (i := 104) rfl)
theorem zcw_X5_refuse : Cond.code yX5_refuse cX5_refuse 2 (some .boolean) ∈ lw_tbl := zchunk_mem (c := 2) (List.mem_of_getElem? (i := 119) rfl)
theorem zcw_X5_advance : Cond.code yX5_advance cX5_advance 2 none ∈ lw_tbl := zchunk_mem (c := 2) (List.mem_of_getElem? (i := 108) rfl)
theorem zcw_X5_advanceNumber : Cond.code yX5_advanceNumber cX5_advanceNumber 3 none ∈ lw_tbl := zchunk_mem (c := 2) (List.mem_of_getElem? (i := 115) rfl)
theorem zcw_X5_isFigure : Cond.code yX5_isFigure cX5_isFigure 1 (some .boolean) ∈ lw_tbl := zchunk_mem (c := 2) (List.mem_of_getElem? (i := 111) rfl)
theorem zcw_X5_isSign : Cond.code yX5_isSign cX5_isSign 1 (some .boolean) ∈ lw_tbl := zchunk_mem (c := 2) (List.mem_of_getElem? (i := 122) rfl)
theorem zcw_X5_beginsSequence : Cond.code yX5_beginsSequence cX5_beginsSequence 1 (some .boolean) ∈ lw_tbl := zchunk_mem (c := 2) (List.mem_of_getElem? (i := 130) rfl)
theorem zcw_X6_init : Cond.code yX6_init cX6_init 1 none ∈ lw_tbl := zchunk_mem (c := 1) (List.mem_of_getElem? (i := 178) rfl)
theorem zcw_X6_add : Cond.code yX6_add cX6_add 2 none ∈ lw_tbl := zchunk_mem (c := 3) (List.mem_of_getElem? (i := 169) rfl)
theorem zcw_X6_become : Cond.code yX6_become cX6_become 2 none ∈ lw_tbl := zchunk_mem (c := 4) (List.mem_of_getElem? (i := 14) rfl)
theorem zcw_X7_init : Cond.code yX7_init cX7_init 1 none ∈ lw_tbl := zchunk_mem (c := 1) (List.mem_of_getElem? (i := 71) rfl)
theorem zcw_X7_clear : Cond.code yX7_clear cX7_clear 1 none ∈ lw_tbl := zchunk_mem (c := 2) (List.mem_of_getElem? (i := 126) rfl)
theorem zcw_X7_pushWire : Cond.code yX7_pushWire cX7_pushWire 3 none ∈ lw_tbl := zchunk_mem (c := 2) (List.mem_of_getElem? (i := 172) rfl)
theorem zcw_X7_wordOfWire : Cond.code yX7_wordOfWire cX7_wordOfWire 2 (some .long) ∈ lw_tbl := zchunk_mem (c := 2) (List.mem_of_getElem? (i := 175) rfl)
theorem zcw_X7_negate : Cond.code yX7_negate cX7_negate 2 none ∈ lw_tbl := zchunk_mem (c := 2) (List.mem_of_getElem? (i := 194) rfl)
theorem zcw_X7_joinTwo : Cond.code yX7_joinTwo cX7_joinTwo 6 none ∈ lw_tbl := zchunk_mem (c := 2) (List.mem_of_getElem? (i := 190) rfl)
theorem zcw_X7_drop : Cond.code yX7_drop cX7_drop 1 none ∈ lw_tbl := zchunk_mem (c := 2) (List.mem_of_getElem? (i := 206) rfl)
theorem zcw_X7_moveTop : Cond.code yX7_moveTop cX7_moveTop 4 none ∈ lw_tbl := zchunk_mem (c := 2) (List.mem_of_getElem? (i := 210) rfl)
theorem zcw_X8_init : Cond.code yX8_init cX8_init 1 none ∈ lw_tbl := zchunk_mem (c := 1) (List.mem_of_getElem? (i := 236) rfl)
theorem zcw_X8_restart : Cond.code yX8_restart cX8_restart 1 none ∈ lw_tbl := zchunk_mem (c := 3) (List.mem_of_getElem? (i := 35) rfl)
theorem zcw_X8_catchUp : Cond.code yX8_catchUp cX8_catchUp 3 none ∈ lw_tbl := zchunk_mem (c := 3) (List.mem_of_getElem? (i := 51) rfl)
theorem zcw_X8_takeIn : Cond.code yX8_takeIn cX8_takeIn 5 none ∈ lw_tbl := zchunk_mem (c := 3) (List.mem_of_getElem? (i := 55) rfl)
theorem zcw_X8_moveDuties : Cond.code yX8_moveDuties cX8_moveDuties 5 none ∈ lw_tbl := zchunk_mem (c := 3) (List.mem_of_getElem? (i := 66) rfl)
theorem zcw_X8_moveTries : Cond.code yX8_moveTries cX8_moveTries 6 (some .boolean) ∈ lw_tbl := zchunk_mem (c := 3) (List.mem_of_getElem? (i := 86) rfl)
theorem zcw_X8_beginDuty : Cond.code yX8_beginDuty cX8_beginDuty 5 none ∈ lw_tbl := zchunk_mem (c := 3) (List.mem_of_getElem? (i := 90) rfl)
theorem zcw_X8_settleDuty : Cond.code yX8_settleDuty cX8_settleDuty 5 none ∈ lw_tbl := zchunk_mem (c := 3) (List.mem_of_getElem? (i := 74) rfl)
theorem zcw_X8_judgeTries : Cond.code yX8_judgeTries cX8_judgeTries 4 none ∈ lw_tbl := zchunk_mem (c := 3) (List.mem_of_getElem? (i := 99) rfl)
theorem zcw_X8_judge : Cond.code yX8_judge cX8_judge 3 (some .int) ∈ lw_tbl := zchunk_mem (c := 3) (List.mem_of_getElem? (i := 103) rfl)
theorem zcw_X8_howMany : Cond.code yX8_howMany cX8_howMany 4 (some .int) ∈ lw_tbl := zchunk_mem (c := 3) (List.mem_of_getElem? (i := 113) rfl)
theorem zcw_X8_earliest : Cond.code yX8_earliest cX8_earliest 3 (some .int) ∈ lw_tbl := zchunk_mem (c := 4) (List.mem_of_getElem? (i := 3) rfl)
theorem zcw_X8_failedBy : Cond.code yX8_failedBy cX8_failedBy 4 (some .int) ∈ lw_tbl := zchunk_mem (c := 3) (List.mem_of_getElem? (i := 173) rfl)
theorem zcw_X8_allDuties : Cond.code yX8_allDuties cX8_allDuties 3 (some .int) ∈ lw_tbl := zchunk_mem (c := 3) (List.mem_of_getElem? (i := 108) rfl)
theorem zcw_X8_dutyTick : Cond.code yX8_dutyTick cX8_dutyTick 5 (some .int) ∈ lw_tbl := zchunk_mem (c := 3) (List.mem_of_getElem? (i := 224) rfl)
theorem zcw_X8_dutyState : Cond.code yX8_dutyState cX8_dutyState 2 (some .int) ∈ lw_tbl := zchunk_mem (c := 3) (List.mem_of_getElem? (i := 228) rfl)
theorem zcw_X9_init : Cond.code yX9_init cX9_init 2 none ∈ lw_tbl := zchunk_mem (c := 1) (List.mem_of_getElem? (i := 19) rfl)
theorem zcw_X9_feed : Cond.code yX9_feed cX9_feed 2 (some .int) ∈ lw_tbl := zchunk_mem (c := 2) (List.mem_of_getElem? (i := 88) rfl)
theorem zcw_X9_end : Cond.code yX9_end cX9_end 3 (some .int) ∈ lw_tbl := zchunk_mem (c := 2) (List.mem_of_getElem? (i := 92) rfl)
theorem zcw_X9_text : Cond.code yX9_text cX9_text 4 (some .int) ∈ lw_tbl := zchunk_mem (c := 2) (List.mem_of_getElem? (i := 96) rfl)
theorem zcw_X9_fault : Cond.code yX9_fault cX9_fault 1 (some .int) ∈ lw_tbl := zchunk_mem (c := 3) (List.mem_of_getElem? (i := 39) rfl)
theorem zcw_X9_rule : Cond.code yX9_rule cX9_rule 5 (some .int) ∈ lw_tbl := zchunk_mem (c := 3) (List.mem_of_getElem? (i := 43) rfl)
theorem zcw_X9_promise : Cond.code yX9_promise cX9_promise 4 (some .int) ∈ lw_tbl := zchunk_mem (c := 3) (List.mem_of_getElem? (i := 117) rfl)
theorem zcw_X9_fulfils : Cond.code yX9_fulfils cX9_fulfils 6 (some .int) ∈ lw_tbl := zchunk_mem (c := 3) (List.mem_of_getElem? (i := 125) rfl)
theorem zcw_X9_fulfilled : Cond.code yX9_fulfilled cX9_fulfilled 4 (some .int) ∈ lw_tbl := zchunk_mem (c := 3) (List.mem_of_getElem? (i := 144) rfl)
theorem zcw_X9_matches : Cond.code yX9_matches cX9_matches 6 (some .int) ∈ lw_tbl := zchunk_mem (c := 3) (List.mem_of_getElem? (i := 149) rfl)
theorem zcw_X9_might : Cond.code yX9_might cX9_might 5 (some .int) ∈ lw_tbl := zchunk_mem (c := 3) (List.mem_of_getElem? (i := 160) rfl)
theorem zcw_X9_tick : Cond.code yX9_tick cX9_tick 4 (some .int) ∈ lw_tbl := zchunk_mem (c := 3) (List.mem_of_getElem? (i := 165) rfl)
theorem zcw_X9_bits : Cond.code yX9_bits cX9_bits 2 (some .int) ∈ lw_tbl := zchunk_mem (c := 3) (List.mem_of_getElem? (i := 177) rfl)
theorem zcw_X9_put : Cond.code yX9_put cX9_put 4 (some .int) ∈ lw_tbl := zchunk_mem (c := 3) (List.mem_of_getElem? (i := 185) rfl)
theorem zcw_X9_keeps : Cond.code yX9_keeps cX9_keeps 3 (some .int) ∈ lw_tbl := zchunk_mem (c := 3) (List.mem_of_getElem? (i := 189) rfl)
theorem zcw_X9_draw : Cond.code yX9_draw cX9_draw 6 (some .int) ∈ lw_tbl := zchunk_mem (c := 3) (List.mem_of_getElem? (i := 193) rfl)
theorem zcw_X9_verdict : Cond.code yX9_verdict cX9_verdict 3 (some .int) ∈ lw_tbl := zchunk_mem (c := 3) (List.mem_of_getElem? (i := 204) rfl)
theorem zcw_X9_decided : Cond.code yX9_decided cX9_decided 4 (some .int) ∈ lw_tbl := zchunk_mem (c := 3) (List.mem_of_getElem? (i := 212) rfl)
theorem zcw_X9_duties : Cond.code yX9_duties cX9_duties 3 (some .int) ∈ lw_tbl := zchunk_mem (c := 3) (List.mem_of_getElem? (i := 216) rfl)
theorem zcw_X9_duty : Cond.code yX9_duty cX9_duty 8 (some .int) ∈ lw_tbl := zchunk_mem (c := 3) (List.mem_of_getElem? (i := 220) rfl)
theorem zcw_X9_tries : Cond.code yX9_tries cX9_tries 3 (some .int) ∈ lw_tbl := zchunk_mem (c := 3) (List.mem_of_getElem? (i := 232) rfl)
theorem zcw_X9_first : Cond.code yX9_first cX9_first 3 (some .int) ∈ lw_tbl := zchunk_mem (c := 3) (List.mem_of_getElem? (i := 239) rfl)
theorem zcw_X9_keep : Cond.code yX9_keep cX9_keep 3 (some .int) ∈ lw_tbl := zchunk_mem (c := 4) (List.mem_of_getElem? (i := 7) rfl)
theorem zcw_X9_back : Cond.code yX9_back cX9_back 2 (some .int) ∈ lw_tbl := zchunk_mem (c := 4) (List.mem_of_getElem? (i := 21) rfl)
theorem zcw_X9_sheet : Cond.code yX9_sheet cX9_sheet 4 (some .int) ∈ lw_tbl := zchunk_mem (c := 4) (List.mem_of_getElem? (i := 25) rfl)
theorem zcw_X9_lay : Cond.code yX9_lay cX9_lay 6 (some .int) ∈ lw_tbl := zchunk_mem (c := 4) (List.mem_of_getElem? (i := 39) rfl)
theorem zcw_X9_run : Cond.code yX9_run cX9_run 8 (some .int) ∈ lw_tbl := zchunk_mem (c := 4) (List.mem_of_getElem? (i := 51) rfl)
theorem zcw_X9_torn : Cond.code yX9_torn cX9_torn 1 (some .int) ∈ lw_tbl := zchunk_mem (c := 4) (List.mem_of_getElem? (i := 55) rfl)
theorem zcw_X9_count : Cond.code yX9_count cX9_count 2 (some .int) ∈ lw_tbl := zchunk_mem (c := 4) (List.mem_of_getElem? (i := 59) rfl)
theorem zcw_X9_isPromise : Cond.code yX9_isPromise cX9_isPromise 2 (some .boolean) ∈ lw_tbl := zchunk_mem (c := 3) (List.mem_of_getElem? (i := 121) rfl)
theorem zcw_X9_isTick : Cond.code yX9_isTick cX9_isTick 2 (some .boolean) ∈ lw_tbl := zchunk_mem (c := 3) (List.mem_of_getElem? (i := 181) rfl)
theorem zcw_X9_isTry : Cond.code yX9_isTry cX9_isTry 3 (some .boolean) ∈ lw_tbl := zchunk_mem (c := 3) (List.mem_of_getElem? (i := 208) rfl)
theorem zcw_X9_isCondition : Cond.code yX9_isCondition cX9_isCondition 4 (some .boolean) ∈ lw_tbl := zchunk_mem (c := 3) (List.mem_of_getElem? (i := 129) rfl)
theorem zcw_X9_isBits : Cond.code yX9_isBits cX9_isBits 1 (some .boolean) ∈ lw_tbl := zchunk_mem (c := 3) (List.mem_of_getElem? (i := 139) rfl)
theorem zcw_X9_isSide : Cond.code yX9_isSide cX9_isSide 1 (some .boolean) ∈ lw_tbl := zchunk_mem (c := 3) (List.mem_of_getElem? (i := 132) rfl)
theorem zcw_X9_isVerdict : Cond.code yX9_isVerdict cX9_isVerdict 1 (some .boolean) ∈ lw_tbl := zchunk_mem (c := 3) (List.mem_of_getElem? (i := 235) rfl)
theorem zcw_X9_isImage : Cond.code yX9_isImage cX9_isImage 1 (some .boolean) ∈ lw_tbl := zchunk_mem (c := 4) (List.mem_of_getElem? (i := 10) rfl)
theorem zcw_X9_isSheet : Cond.code yX9_isSheet cX9_isSheet 1 (some .boolean) ∈ lw_tbl := zchunk_mem (c := 4) (List.mem_of_getElem? (i := 28) rfl)
theorem zcw_X9_isLane : Cond.code yX9_isLane cX9_isLane 1 (some .boolean) ∈ lw_tbl := zchunk_mem (c := 4) (List.mem_of_getElem? (i := 31) rfl)
theorem zcw_X9_nextSeed : Cond.code yX9_nextSeed cX9_nextSeed 1 (some .int) ∈ lw_tbl := zchunk_mem (c := 3) (List.mem_of_getElem? (i := 196) rfl)
theorem zcw_X9_got : Cond.code yX9_got cX9_got 1 (some .int) ∈ lw_tbl := zchunk_mem (c := 3) (List.mem_of_getElem? (i := 200) rfl)
theorem zcw_X9_howManyImages : Cond.code yX9_howManyImages cX9_howManyImages 3 (some .int) ∈ lw_tbl := zchunk_mem (c := 4) (List.mem_of_getElem? (i := 63) rfl)
theorem zcw_X9_watchOf : Cond.code yX9_watchOf cX9_watchOf 3 (some (.object "PromiseTries$Watch")) ∈ lw_tbl := zchunk_mem (c := 3) (List.mem_of_getElem? (i := 47) rfl)
theorem zcw_X9_watchAnew : Cond.code yX9_watchAnew cX9_watchAnew 2 none ∈ lw_tbl := zchunk_mem (c := 3) (List.mem_of_getElem? (i := 31) rfl)
theorem zcw_X9_isFulfilled : Cond.code yX9_isFulfilled cX9_isFulfilled 3 (some .boolean) ∈ lw_tbl := zchunk_mem (c := 3) (List.mem_of_getElem? (i := 62) rfl)
theorem zcw_X9_howManyFulfil : Cond.code yX9_howManyFulfil cX9_howManyFulfil 4 (some .int) ∈ lw_tbl := zchunk_mem (c := 3) (List.mem_of_getElem? (i := 16) rfl)
theorem zcw_X10_init : Cond.code yX10_init cX10_init 2 none ∈ lw_tbl := zchunk_mem (c := 4) (List.mem_of_getElem? (i := 68) rfl)
theorem zcw_X10_in : Cond.code yX10_in cX10_in 6 (some .boolean) ∈ lw_tbl := zchunk_mem (c := 5) (List.mem_of_getElem? (i := 0) rfl)
theorem zcw_X10_flag : Cond.code yX10_flag cX10_flag 1 (some .int) ∈ lw_tbl := zchunk_mem (c := 5) (List.mem_of_getElem? (i := 58) rfl)
theorem zcw_X10_least : Cond.code yX10_least cX10_least 2 (some .int) ∈ lw_tbl := zchunk_mem (c := 5) (List.mem_of_getElem? (i := 118) rfl)
theorem zcw_X10_greatest : Cond.code yX10_greatest cX10_greatest 2 (some .int) ∈ lw_tbl := zchunk_mem (c := 5) (List.mem_of_getElem? (i := 102) rfl)
theorem zcw_X10_feed : Cond.code yX10_feed cX10_feed 2 (some .int) ∈ lw_tbl := zchunk_mem (c := 4) (List.mem_of_getElem? (i := 236) rfl)
theorem zcw_X10_end : Cond.code yX10_end cX10_end 3 (some .int) ∈ lw_tbl := zchunk_mem (c := 5) (List.mem_of_getElem? (i := 4) rfl)
theorem zcw_X10_requires : Cond.code yX10_requires cX10_requires 3 none ∈ lw_tbl := zchunk_mem (c := 5) (List.mem_of_getElem? (i := 22) rfl)
theorem zcw_X10_byteAt : Cond.code yX10_byteAt cX10_byteAt 2 (some .int) ∈ lw_tbl := zchunk_mem (c := 5) (List.mem_of_getElem? (i := 16) rfl)
theorem zcw_X10_isSignByte : Cond.code yX10_isSignByte cX10_isSignByte 1 (some .boolean) ∈ lw_tbl := zchunk_mem (c := 5) (List.mem_of_getElem? (i := 27) rfl)
theorem zcw_X10_reads : Cond.code yX10_reads cX10_reads 2 none ∈ lw_tbl := zchunk_mem (c := 5) (List.mem_of_getElem? (i := 12) rfl)
theorem zcw_X10_isSign : Cond.code yX10_isSign cX10_isSign 2 (some .boolean) ∈ lw_tbl := zchunk_mem (c := 5) (List.mem_of_getElem? (i := 39) rfl)
theorem zcw_X10_readNumber : Cond.code yX10_readNumber cX10_readNumber 4 (some .int) ∈ lw_tbl := zchunk_mem (c := 5) (List.mem_of_getElem? (i := 99) rfl)
theorem zcw_X10_nests : Cond.code yX10_nests cX10_nests 1 none ∈ lw_tbl := zchunk_mem (c := 5) (List.mem_of_getElem? (i := 55) rfl)
theorem zcw_X10_wires : Cond.code yX10_wires cX10_wires 3 none ∈ lw_tbl := zchunk_mem (c := 5) (List.mem_of_getElem? (i := 74) rfl)
theorem zcw_X10_opensDepth : Cond.code yX10_opensDepth cX10_opensDepth 1 none ∈ lw_tbl := zchunk_mem (c := 5) (List.mem_of_getElem? (i := 66) rfl)
theorem zcw_X10_joinsAnds : Cond.code yX10_joinsAnds cX10_joinsAnds 4 none ∈ lw_tbl := zchunk_mem (c := 5) (List.mem_of_getElem? (i := 79) rfl)
theorem zcw_X10_joinsOrs : Cond.code yX10_joinsOrs cX10_joinsOrs 2 none ∈ lw_tbl := zchunk_mem (c := 5) (List.mem_of_getElem? (i := 83) rfl)
theorem zcw_X10_readOperand : Cond.code yX10_readOperand cX10_readOperand 2 none ∈ lw_tbl := zchunk_mem (c := 5) (List.mem_of_getElem? (i := 70) rfl)
theorem zcw_X10_readCondition : Cond.code yX10_readCondition cX10_readCondition 5 none ∈ lw_tbl := zchunk_mem (c := 5) (List.mem_of_getElem? (i := 62) rfl)
theorem zcw_X10_placesNow : Cond.code yX10_placesNow cX10_placesNow 1 (some .int) ∈ lw_tbl := zchunk_mem (c := 5) (List.mem_of_getElem? (i := 110) rfl)
theorem zcw_X10_takes : Cond.code yX10_takes cX10_takes 3 none ∈ lw_tbl := zchunk_mem (c := 5) (List.mem_of_getElem? (i := 126) rfl)
theorem zcw_X10_sum : Cond.code yX10_sum cX10_sum 2 (some .int) ∈ lw_tbl := zchunk_mem (c := 5) (List.mem_of_getElem? (i := 129) rfl)
theorem zcw_X10_follows : Cond.code yX10_follows cX10_follows 6 none ∈ lw_tbl := zchunk_mem (c := 5) (List.mem_of_getElem? (i := 114) rfl)
theorem zcw_X10_chains : Cond.code yX10_chains cX10_chains 3 none ∈ lw_tbl := zchunk_mem (c := 5) (List.mem_of_getElem? (i := 122) rfl)
theorem zcw_X10_chooses : Cond.code yX10_chooses cX10_chooses 3 none ∈ lw_tbl := zchunk_mem (c := 5) (List.mem_of_getElem? (i := 133) rfl)
theorem zcw_X10_onePlace : Cond.code yX10_onePlace cX10_onePlace 5 none ∈ lw_tbl := zchunk_mem (c := 5) (List.mem_of_getElem? (i := 87) rfl)
theorem zcw_X10_repeats : Cond.code yX10_repeats cX10_repeats 17 none ∈ lw_tbl := zchunk_mem (c := 5) (List.mem_of_getElem? (i := 106) rfl)
theorem zcw_X10_opensSequence : Cond.code yX10_opensSequence cX10_opensSequence 1 none ∈ lw_tbl := zchunk_mem (c := 5) (List.mem_of_getElem? (i := 47) rfl)
theorem zcw_X10_readBegin : Cond.code yX10_readBegin cX10_readBegin 1 none ∈ lw_tbl := zchunk_mem (c := 5) (List.mem_of_getElem? (i := 51) rfl)
theorem zcw_X10_readTimes : Cond.code yX10_readTimes cX10_readTimes 3 none ∈ lw_tbl := zchunk_mem (c := 5) (List.mem_of_getElem? (i := 95) rfl)
theorem zcw_X10_readEnds : Cond.code yX10_readEnds cX10_readEnds 2 none ∈ lw_tbl := zchunk_mem (c := 5) (List.mem_of_getElem? (i := 91) rfl)
theorem zcw_X10_readSequence : Cond.code yX10_readSequence cX10_readSequence 3 none ∈ lw_tbl := zchunk_mem (c := 5) (List.mem_of_getElem? (i := 43) rfl)
theorem zcw_X10_isFulfillable : Cond.code yX10_isFulfillable cX10_isFulfillable 6 (some .boolean) ∈ lw_tbl := zchunk_mem (c := 5) (List.mem_of_getElem? (i := 141) rfl)
theorem zcw_X10_ends : Cond.code yX10_ends cX10_ends 8 none ∈ lw_tbl := zchunk_mem (c := 5) (List.mem_of_getElem? (i := 137) rfl)
theorem zcw_X10_isBegin : Cond.code yX10_isBegin cX10_isBegin 1 (some .boolean) ∈ lw_tbl := zchunk_mem (c := 5) (List.mem_of_getElem? (i := 35) rfl)
theorem zcw_X10_readPromise : Cond.code yX10_readPromise cX10_readPromise 6 none ∈ lw_tbl := zchunk_mem (c := 5) (List.mem_of_getElem? (i := 31) rfl)
theorem zcw_X10_text : Cond.code yX10_text cX10_text 3 (some .int) ∈ lw_tbl := zchunk_mem (c := 5) (List.mem_of_getElem? (i := 8) rfl)
theorem zcw_X10_fault : Cond.code yX10_fault cX10_fault 1 (some .int) ∈ lw_tbl := zchunk_mem (c := 5) (List.mem_of_getElem? (i := 145) rfl)
theorem zcw_X10_isPromise : Cond.code yX10_isPromise cX10_isPromise 2 (some .boolean) ∈ lw_tbl := zchunk_mem (c := 5) (List.mem_of_getElem? (i := 157) rfl)
theorem zcw_X10_isSide : Cond.code yX10_isSide cX10_isSide 1 (some .boolean) ∈ lw_tbl := zchunk_mem (c := 5) (List.mem_of_getElem? (i := 182) rfl)
theorem zcw_X10_areBits : Cond.code yX10_areBits cX10_areBits 1 (some .boolean) ∈ lw_tbl := zchunk_mem (c := 5) (List.mem_of_getElem? (i := 161) rfl)
theorem zcw_X10_fulfilsOne : Cond.code yX10_fulfilsOne cX10_fulfilsOne 4 (some .boolean) ∈ lw_tbl := zchunk_mem (c := 5) (List.mem_of_getElem? (i := 170) rfl)
theorem zcw_X10_fulfilsOff : Cond.code yX10_fulfilsOff cX10_fulfilsOff 3 (some .boolean) ∈ lw_tbl := zchunk_mem (c := 5) (List.mem_of_getElem? (i := 166) rfl)
theorem zcw_X10_findsFulfilling : Cond.code yX10_findsFulfilling cX10_findsFulfilling 8 none ∈ lw_tbl := zchunk_mem (c := 5) (List.mem_of_getElem? (i := 186) rfl)
theorem zcw_X10_nextOf : Cond.code yX10_nextOf cX10_nextOf 7 (some .long) ∈ lw_tbl := zchunk_mem (c := 5) (List.mem_of_getElem? (i := 194) rfl)
theorem zcw_X10_firstOf : Cond.code yX10_firstOf cX10_firstOf 2 (some .long) ∈ lw_tbl := zchunk_mem (c := 5) (List.mem_of_getElem? (i := 190) rfl)
theorem zcw_X10_isEnd : Cond.code yX10_isEnd cX10_isEnd 4 (some .boolean) ∈ lw_tbl := zchunk_mem (c := 5) (List.mem_of_getElem? (i := 198) rfl)
theorem zcw_X10_canEnd : Cond.code yX10_canEnd cX10_canEnd 4 (some .boolean) ∈ lw_tbl := zchunk_mem (c := 5) (List.mem_of_getElem? (i := 206) rfl)
theorem zcw_X10_isConditionAsked : Cond.code yX10_isConditionAsked cX10_isConditionAsked 4 (some .boolean) ∈ lw_tbl := zchunk_mem (c := 5) (List.mem_of_getElem? (i := 153) rfl)
theorem zcw_X10_fulfils : Cond.code yX10_fulfils cX10_fulfils 5 (some .int) ∈ lw_tbl := zchunk_mem (c := 5) (List.mem_of_getElem? (i := 149) rfl)
theorem zcw_X10_fulfilled : Cond.code yX10_fulfilled cX10_fulfilled 6 (some .int) ∈ lw_tbl := zchunk_mem (c := 5) (List.mem_of_getElem? (i := 174) rfl)
theorem zcw_X10_matches : Cond.code yX10_matches cX10_matches 8 (some .int) ∈ lw_tbl := zchunk_mem (c := 5) (List.mem_of_getElem? (i := 179) rfl)
theorem zcw_X10_might : Cond.code yX10_might cX10_might 7 (some .int) ∈ lw_tbl := zchunk_mem (c := 5) (List.mem_of_getElem? (i := 202) rfl)
theorem zcw_X10_promise : Cond.code yX10_promise cX10_promise 4 (some .int) ∈ lw_tbl := zchunk_mem (c := 5) (List.mem_of_getElem? (i := 210) rfl)
theorem zcw_X10_goesOn : Cond.code yX10_goesOn cX10_goesOn 7 none ∈ lw_tbl := zchunk_mem (c := 5) (List.mem_of_getElem? (i := 231) rfl)
theorem zcw_X10_dies : Cond.code yX10_dies cX10_dies 4 none ∈ lw_tbl := zchunk_mem (c := 5) (List.mem_of_getElem? (i := 235) rfl)
theorem zcw_X10_begins : Cond.code yX10_begins cX10_begins 3 none ∈ lw_tbl := zchunk_mem (c := 5) (List.mem_of_getElem? (i := 239) rfl)
theorem zcw_X10_isAny : Cond.code yX10_isAny cX10_isAny 6 (some .boolean) ∈ lw_tbl := zchunk_mem (c := 6) (List.mem_of_getElem? (i := 7) rfl)
theorem zcw_X10_goesThrough : Cond.code yX10_goesThrough cX10_goesThrough 9 none ∈ lw_tbl := zchunk_mem (c := 5) (List.mem_of_getElem? (i := 227) rfl)
theorem zcw_X10_verdictBy : Cond.code yX10_verdictBy cX10_verdictBy 6 (some .int) ∈ lw_tbl := zchunk_mem (c := 6) (List.mem_of_getElem? (i := 3) rfl)
theorem zcw_X10_isTick : Cond.code yX10_isTick cX10_isTick 2 (some .boolean) ∈ lw_tbl := zchunk_mem (c := 5) (List.mem_of_getElem? (i := 223) rfl)
theorem zcw_X10_isTry : Cond.code yX10_isTry cX10_isTry 3 (some .boolean) ∈ lw_tbl := zchunk_mem (c := 5) (List.mem_of_getElem? (i := 219) rfl)
theorem zcw_X10_dutiesFrom : Cond.code yX10_dutiesFrom cX10_dutiesFrom 4 (some .int) ∈ lw_tbl := zchunk_mem (c := 6) (List.mem_of_getElem? (i := 19) rfl)
theorem zcw_X10_verdict : Cond.code yX10_verdict cX10_verdict 3 (some .int) ∈ lw_tbl := zchunk_mem (c := 5) (List.mem_of_getElem? (i := 215) rfl)
theorem zcw_X10_decided : Cond.code yX10_decided cX10_decided 3 (some .int) ∈ lw_tbl := zchunk_mem (c := 6) (List.mem_of_getElem? (i := 11) rfl)
theorem zcw_X10_duties : Cond.code yX10_duties cX10_duties 3 (some .int) ∈ lw_tbl := zchunk_mem (c := 6) (List.mem_of_getElem? (i := 15) rfl)
theorem zcw_X10_duty : Cond.code yX10_duty cX10_duty 7 (some .int) ∈ lw_tbl := zchunk_mem (c := 6) (List.mem_of_getElem? (i := 23) rfl)
theorem zcw_X10_triesOf : Cond.code yX10_triesOf cX10_triesOf 5 (some .int) ∈ lw_tbl := zchunk_mem (c := 6) (List.mem_of_getElem? (i := 32) rfl)
theorem zcw_X10_tries : Cond.code yX10_tries cX10_tries 3 (some .int) ∈ lw_tbl := zchunk_mem (c := 6) (List.mem_of_getElem? (i := 27) rfl)
theorem zcw_X10_first : Cond.code yX10_first cX10_first 4 (some .int) ∈ lw_tbl := zchunk_mem (c := 6) (List.mem_of_getElem? (i := 36) rfl)
theorem zcw_X10_allDuties : Cond.code yX10_allDuties cX10_allDuties 4 (some .int) ∈ lw_tbl := zchunk_mem (c := 6) (List.mem_of_getElem? (i := 45) rfl)
theorem zcw_X10_allTries : Cond.code yX10_allTries cX10_allTries 4 (some .int) ∈ lw_tbl := zchunk_mem (c := 6) (List.mem_of_getElem? (i := 49) rfl)
theorem zcw_X10_rule : Cond.code yX10_rule cX10_rule 2 (some .int) ∈ lw_tbl := zchunk_mem (c := 6) (List.mem_of_getElem? (i := 40) rfl)
theorem zcw_X10_failedBy : Cond.code yX10_failedBy cX10_failedBy 5 (some .int) ∈ lw_tbl := zchunk_mem (c := 6) (List.mem_of_getElem? (i := 57) rfl)
theorem zcw_X10_tick : Cond.code yX10_tick cX10_tick 2 (some .int) ∈ lw_tbl := zchunk_mem (c := 6) (List.mem_of_getElem? (i := 53) rfl)
theorem zcw_X10_bits : Cond.code yX10_bits cX10_bits 2 (some .int) ∈ lw_tbl := zchunk_mem (c := 6) (List.mem_of_getElem? (i := 61) rfl)
theorem zcw_X10_put : Cond.code yX10_put cX10_put 4 (some .int) ∈ lw_tbl := zchunk_mem (c := 6) (List.mem_of_getElem? (i := 65) rfl)
theorem zcw_X10_keeps : Cond.code yX10_keeps cX10_keeps 3 (some .int) ∈ lw_tbl := zchunk_mem (c := 6) (List.mem_of_getElem? (i := 69) rfl)
theorem zcw_X10_gets : Cond.code yX10_gets cX10_gets 1 (some .int) ∈ lw_tbl := zchunk_mem (c := 6) (List.mem_of_getElem? (i := 78) rfl)
theorem zcw_X10_draw : Cond.code yX10_draw cX10_draw 5 (some .int) ∈ lw_tbl := zchunk_mem (c := 6) (List.mem_of_getElem? (i := 73) rfl)
theorem zcw_X10_keep : Cond.code yX10_keep cX10_keep 4 (some .int) ∈ lw_tbl := zchunk_mem (c := 6) (List.mem_of_getElem? (i := 83) rfl)
theorem zcw_X10_back : Cond.code yX10_back cX10_back 3 (some .int) ∈ lw_tbl := zchunk_mem (c := 6) (List.mem_of_getElem? (i := 87) rfl)
theorem zcw_X10_isSheet : Cond.code yX10_isSheet cX10_isSheet 2 (some .boolean) ∈ lw_tbl := zchunk_mem (c := 6) (List.mem_of_getElem? (i := 94) rfl)
theorem zcw_X10_sheet : Cond.code yX10_sheet cX10_sheet 5 (some .int) ∈ lw_tbl := zchunk_mem (c := 6) (List.mem_of_getElem? (i := 91) rfl)
theorem zcw_X10_lay : Cond.code yX10_lay cX10_lay 4 (some .int) ∈ lw_tbl := zchunk_mem (c := 6) (List.mem_of_getElem? (i := 99) rfl)
theorem zcw_X10_run : Cond.code yX10_run cX10_run 8 (some .int) ∈ lw_tbl := zchunk_mem (c := 6) (List.mem_of_getElem? (i := 104) rfl)
theorem zcw_X10_torn : Cond.code yX10_torn cX10_torn 1 (some .int) ∈ lw_tbl := zchunk_mem (c := 6) (List.mem_of_getElem? (i := 108) rfl)
theorem zcw_X10_count : Cond.code yX10_count cX10_count 2 (some .int) ∈ lw_tbl := zchunk_mem (c := 6) (List.mem_of_getElem? (i := 112) rfl)
theorem zcw_J13_bitCount_95d88 : Cond.code yJ13_bitCount_95d88 cJ13_bitCount_95d88 2 (some .int) ∈ lw_tbl := zchunk_mem (c := 3) (List.mem_of_getElem? (i := 19) rfl)
theorem zcw_max : Cond.code Lib.Math.max.name Lib.Math.max.code 2 (some .int) ∈ lw_tbl := zchunk_mem (c := 2) (List.mem_of_getElem? (i := 217) rfl)
theorem zcw_min : Cond.code Lib.Math.min.name Lib.Math.min.code 2 (some .int) ∈ lw_tbl := zchunk_mem (c := 2) (List.mem_of_getElem? (i := 237) rfl)
theorem zcw_obj : Cond.code Lib.objectInit ⟨#[0xb1]⟩ 1 none ∈ lw_tbl := zchunk_mem (c := 1) (List.mem_of_getElem? (i := 22) rfl)
set_option maxRecDepth 20000 in
theorem zcw : ∀ q ∈ zNl, Cond.code q.1 q.2.1 q.2.2.1 q.2.2.2 ∈ lw_tbl := by
  unfold zNl
  refine List.forall_mem_cons.mpr ⟨zcw_X0_init, ?_⟩
  refine List.forall_mem_cons.mpr ⟨zcw_X0_begin, ?_⟩
  refine List.forall_mem_cons.mpr ⟨zcw_X0_condition, ?_⟩
  refine List.forall_mem_cons.mpr ⟨zcw_X0_chainTwo, ?_⟩
  refine List.forall_mem_cons.mpr ⟨zcw_X0_chooseOfTwo, ?_⟩
  refine List.forall_mem_cons.mpr ⟨zcw_X0_repeat, ?_⟩
  refine List.forall_mem_cons.mpr ⟨zcw_X0_chainCopies, ?_⟩
  refine List.forall_mem_cons.mpr ⟨zcw_X0_finish, ?_⟩
  refine List.forall_mem_cons.mpr ⟨zcw_X1_init, ?_⟩
  refine List.forall_mem_cons.mpr ⟨zcw_X1_sideOf, ?_⟩
  refine List.forall_mem_cons.mpr ⟨zcw_X1_isPutOffBy, ?_⟩
  refine List.forall_mem_cons.mpr ⟨zcw_X2_init, ?_⟩
  refine List.forall_mem_cons.mpr ⟨zcw_X2_readAll, ?_⟩
  refine List.forall_mem_cons.mpr ⟨zcw_X2_readPromise, ?_⟩
  refine List.forall_mem_cons.mpr ⟨zcw_X2_readOff, ?_⟩
  refine List.forall_mem_cons.mpr ⟨zcw_X2_readChoice, ?_⟩
  refine List.forall_mem_cons.mpr ⟨zcw_X2_readChain, ?_⟩
  refine List.forall_mem_cons.mpr ⟨zcw_X2_readRepeated, ?_⟩
  refine List.forall_mem_cons.mpr ⟨zcw_X2_readNumber, ?_⟩
  refine List.forall_mem_cons.mpr ⟨zcw_X2_readPart, ?_⟩
  refine List.forall_mem_cons.mpr ⟨zcw_X2_readCondition, ?_⟩
  refine List.forall_mem_cons.mpr ⟨zcw_X2_readPlain, ?_⟩
  refine List.forall_mem_cons.mpr ⟨zcw_X2_readAnyOf, ?_⟩
  refine List.forall_mem_cons.mpr ⟨zcw_X2_readAllOf, ?_⟩
  refine List.forall_mem_cons.mpr ⟨zcw_X3_init, ?_⟩
  refine List.forall_mem_cons.mpr ⟨zcw_X3_clear, ?_⟩
  refine List.forall_mem_cons.mpr ⟨zcw_X3_addCondition, ?_⟩
  refine List.forall_mem_cons.mpr ⟨zcw_X3_link, ?_⟩
  refine List.forall_mem_cons.mpr ⟨zcw_X3_copyBlock, ?_⟩
  refine List.forall_mem_cons.mpr ⟨zcw_X3_findUseful, ?_⟩
  refine List.forall_mem_cons.mpr ⟨zcw_X3_openTo, ?_⟩
  refine List.forall_mem_cons.mpr ⟨zcw_X3_after, ?_⟩
  refine List.forall_mem_cons.mpr ⟨zcw_X3_walk, ?_⟩
  refine List.forall_mem_cons.mpr ⟨zcw_X3_hasEnded, ?_⟩
  refine List.forall_mem_cons.mpr ⟨zcw_X3_goesOn, ?_⟩
  refine List.forall_mem_cons.mpr ⟨zcw_X4_init, ?_⟩
  refine List.forall_mem_cons.mpr ⟨zcw_X4_renew, ?_⟩
  refine List.forall_mem_cons.mpr ⟨zcw_X4_tearAt, ?_⟩
  refine List.forall_mem_cons.mpr ⟨zcw_X4_setCell, ?_⟩
  refine List.forall_mem_cons.mpr ⟨zcw_X5_init, ?_⟩
  refine List.forall_mem_cons.mpr ⟨zcw_X5_begin, ?_⟩
  refine List.forall_mem_cons.mpr ⟨zcw_X5_refuse, ?_⟩
  refine List.forall_mem_cons.mpr ⟨zcw_X5_advance, ?_⟩
  refine List.forall_mem_cons.mpr ⟨zcw_X5_advanceNumber, ?_⟩
  refine List.forall_mem_cons.mpr ⟨zcw_X5_isFigure, ?_⟩
  refine List.forall_mem_cons.mpr ⟨zcw_X5_isSign, ?_⟩
  refine List.forall_mem_cons.mpr ⟨zcw_X5_beginsSequence, ?_⟩
  refine List.forall_mem_cons.mpr ⟨zcw_X6_init, ?_⟩
  refine List.forall_mem_cons.mpr ⟨zcw_X6_add, ?_⟩
  refine List.forall_mem_cons.mpr ⟨zcw_X6_become, ?_⟩
  refine List.forall_mem_cons.mpr ⟨zcw_X7_init, ?_⟩
  refine List.forall_mem_cons.mpr ⟨zcw_X7_clear, ?_⟩
  refine List.forall_mem_cons.mpr ⟨zcw_X7_pushWire, ?_⟩
  refine List.forall_mem_cons.mpr ⟨zcw_X7_wordOfWire, ?_⟩
  refine List.forall_mem_cons.mpr ⟨zcw_X7_negate, ?_⟩
  refine List.forall_mem_cons.mpr ⟨zcw_X7_joinTwo, ?_⟩
  refine List.forall_mem_cons.mpr ⟨zcw_X7_drop, ?_⟩
  refine List.forall_mem_cons.mpr ⟨zcw_X7_moveTop, ?_⟩
  refine List.forall_mem_cons.mpr ⟨zcw_X8_init, ?_⟩
  refine List.forall_mem_cons.mpr ⟨zcw_X8_restart, ?_⟩
  refine List.forall_mem_cons.mpr ⟨zcw_X8_catchUp, ?_⟩
  refine List.forall_mem_cons.mpr ⟨zcw_X8_takeIn, ?_⟩
  refine List.forall_mem_cons.mpr ⟨zcw_X8_moveDuties, ?_⟩
  refine List.forall_mem_cons.mpr ⟨zcw_X8_moveTries, ?_⟩
  refine List.forall_mem_cons.mpr ⟨zcw_X8_beginDuty, ?_⟩
  refine List.forall_mem_cons.mpr ⟨zcw_X8_settleDuty, ?_⟩
  refine List.forall_mem_cons.mpr ⟨zcw_X8_judgeTries, ?_⟩
  refine List.forall_mem_cons.mpr ⟨zcw_X8_judge, ?_⟩
  refine List.forall_mem_cons.mpr ⟨zcw_X8_howMany, ?_⟩
  refine List.forall_mem_cons.mpr ⟨zcw_X8_earliest, ?_⟩
  refine List.forall_mem_cons.mpr ⟨zcw_X8_failedBy, ?_⟩
  refine List.forall_mem_cons.mpr ⟨zcw_X8_allDuties, ?_⟩
  refine List.forall_mem_cons.mpr ⟨zcw_X8_dutyTick, ?_⟩
  refine List.forall_mem_cons.mpr ⟨zcw_X8_dutyState, ?_⟩
  refine List.forall_mem_cons.mpr ⟨zcw_X9_init, ?_⟩
  refine List.forall_mem_cons.mpr ⟨zcw_X9_feed, ?_⟩
  refine List.forall_mem_cons.mpr ⟨zcw_X9_end, ?_⟩
  refine List.forall_mem_cons.mpr ⟨zcw_X9_text, ?_⟩
  refine List.forall_mem_cons.mpr ⟨zcw_X9_fault, ?_⟩
  refine List.forall_mem_cons.mpr ⟨zcw_X9_rule, ?_⟩
  refine List.forall_mem_cons.mpr ⟨zcw_X9_promise, ?_⟩
  refine List.forall_mem_cons.mpr ⟨zcw_X9_fulfils, ?_⟩
  refine List.forall_mem_cons.mpr ⟨zcw_X9_fulfilled, ?_⟩
  refine List.forall_mem_cons.mpr ⟨zcw_X9_matches, ?_⟩
  refine List.forall_mem_cons.mpr ⟨zcw_X9_might, ?_⟩
  refine List.forall_mem_cons.mpr ⟨zcw_X9_tick, ?_⟩
  refine List.forall_mem_cons.mpr ⟨zcw_X9_bits, ?_⟩
  refine List.forall_mem_cons.mpr ⟨zcw_X9_put, ?_⟩
  refine List.forall_mem_cons.mpr ⟨zcw_X9_keeps, ?_⟩
  refine List.forall_mem_cons.mpr ⟨zcw_X9_draw, ?_⟩
  refine List.forall_mem_cons.mpr ⟨zcw_X9_verdict, ?_⟩
  refine List.forall_mem_cons.mpr ⟨zcw_X9_decided, ?_⟩
  refine List.forall_mem_cons.mpr ⟨zcw_X9_duties, ?_⟩
  refine List.forall_mem_cons.mpr ⟨zcw_X9_duty, ?_⟩
  refine List.forall_mem_cons.mpr ⟨zcw_X9_tries, ?_⟩
  refine List.forall_mem_cons.mpr ⟨zcw_X9_first, ?_⟩
  refine List.forall_mem_cons.mpr ⟨zcw_X9_keep, ?_⟩
  refine List.forall_mem_cons.mpr ⟨zcw_X9_back, ?_⟩
  refine List.forall_mem_cons.mpr ⟨zcw_X9_sheet, ?_⟩
  refine List.forall_mem_cons.mpr ⟨zcw_X9_lay, ?_⟩
  refine List.forall_mem_cons.mpr ⟨zcw_X9_run, ?_⟩
  refine List.forall_mem_cons.mpr ⟨zcw_X9_torn, ?_⟩
  refine List.forall_mem_cons.mpr ⟨zcw_X9_count, ?_⟩
  refine List.forall_mem_cons.mpr ⟨zcw_X9_isPromise, ?_⟩
  refine List.forall_mem_cons.mpr ⟨zcw_X9_isTick, ?_⟩
  refine List.forall_mem_cons.mpr ⟨zcw_X9_isTry, ?_⟩
  refine List.forall_mem_cons.mpr ⟨zcw_X9_isCondition, ?_⟩
  refine List.forall_mem_cons.mpr ⟨zcw_X9_isBits, ?_⟩
  refine List.forall_mem_cons.mpr ⟨zcw_X9_isSide, ?_⟩
  refine List.forall_mem_cons.mpr ⟨zcw_X9_isVerdict, ?_⟩
  refine List.forall_mem_cons.mpr ⟨zcw_X9_isImage, ?_⟩
  refine List.forall_mem_cons.mpr ⟨zcw_X9_isSheet, ?_⟩
  refine List.forall_mem_cons.mpr ⟨zcw_X9_isLane, ?_⟩
  refine List.forall_mem_cons.mpr ⟨zcw_X9_nextSeed, ?_⟩
  refine List.forall_mem_cons.mpr ⟨zcw_X9_got, ?_⟩
  refine List.forall_mem_cons.mpr ⟨zcw_X9_howManyImages, ?_⟩
  refine List.forall_mem_cons.mpr ⟨zcw_X9_watchOf, ?_⟩
  refine List.forall_mem_cons.mpr ⟨zcw_X9_watchAnew, ?_⟩
  refine List.forall_mem_cons.mpr ⟨zcw_X9_isFulfilled, ?_⟩
  refine List.forall_mem_cons.mpr ⟨zcw_X9_howManyFulfil, ?_⟩
  refine List.forall_mem_cons.mpr ⟨zcw_X10_init, ?_⟩
  refine List.forall_mem_cons.mpr ⟨zcw_X10_in, ?_⟩
  refine List.forall_mem_cons.mpr ⟨zcw_X10_flag, ?_⟩
  refine List.forall_mem_cons.mpr ⟨zcw_X10_least, ?_⟩
  refine List.forall_mem_cons.mpr ⟨zcw_X10_greatest, ?_⟩
  refine List.forall_mem_cons.mpr ⟨zcw_X10_feed, ?_⟩
  refine List.forall_mem_cons.mpr ⟨zcw_X10_end, ?_⟩
  refine List.forall_mem_cons.mpr ⟨zcw_X10_requires, ?_⟩
  refine List.forall_mem_cons.mpr ⟨zcw_X10_byteAt, ?_⟩
  refine List.forall_mem_cons.mpr ⟨zcw_X10_isSignByte, ?_⟩
  refine List.forall_mem_cons.mpr ⟨zcw_X10_reads, ?_⟩
  refine List.forall_mem_cons.mpr ⟨zcw_X10_isSign, ?_⟩
  refine List.forall_mem_cons.mpr ⟨zcw_X10_readNumber, ?_⟩
  refine List.forall_mem_cons.mpr ⟨zcw_X10_nests, ?_⟩
  refine List.forall_mem_cons.mpr ⟨zcw_X10_wires, ?_⟩
  refine List.forall_mem_cons.mpr ⟨zcw_X10_opensDepth, ?_⟩
  refine List.forall_mem_cons.mpr ⟨zcw_X10_joinsAnds, ?_⟩
  refine List.forall_mem_cons.mpr ⟨zcw_X10_joinsOrs, ?_⟩
  refine List.forall_mem_cons.mpr ⟨zcw_X10_readOperand, ?_⟩
  refine List.forall_mem_cons.mpr ⟨zcw_X10_readCondition, ?_⟩
  refine List.forall_mem_cons.mpr ⟨zcw_X10_placesNow, ?_⟩
  refine List.forall_mem_cons.mpr ⟨zcw_X10_takes, ?_⟩
  refine List.forall_mem_cons.mpr ⟨zcw_X10_sum, ?_⟩
  refine List.forall_mem_cons.mpr ⟨zcw_X10_follows, ?_⟩
  refine List.forall_mem_cons.mpr ⟨zcw_X10_chains, ?_⟩
  refine List.forall_mem_cons.mpr ⟨zcw_X10_chooses, ?_⟩
  refine List.forall_mem_cons.mpr ⟨zcw_X10_onePlace, ?_⟩
  refine List.forall_mem_cons.mpr ⟨zcw_X10_repeats, ?_⟩
  refine List.forall_mem_cons.mpr ⟨zcw_X10_opensSequence, ?_⟩
  refine List.forall_mem_cons.mpr ⟨zcw_X10_readBegin, ?_⟩
  refine List.forall_mem_cons.mpr ⟨zcw_X10_readTimes, ?_⟩
  refine List.forall_mem_cons.mpr ⟨zcw_X10_readEnds, ?_⟩
  refine List.forall_mem_cons.mpr ⟨zcw_X10_readSequence, ?_⟩
  refine List.forall_mem_cons.mpr ⟨zcw_X10_isFulfillable, ?_⟩
  refine List.forall_mem_cons.mpr ⟨zcw_X10_ends, ?_⟩
  refine List.forall_mem_cons.mpr ⟨zcw_X10_isBegin, ?_⟩
  refine List.forall_mem_cons.mpr ⟨zcw_X10_readPromise, ?_⟩
  refine List.forall_mem_cons.mpr ⟨zcw_X10_text, ?_⟩
  refine List.forall_mem_cons.mpr ⟨zcw_X10_fault, ?_⟩
  refine List.forall_mem_cons.mpr ⟨zcw_X10_isPromise, ?_⟩
  refine List.forall_mem_cons.mpr ⟨zcw_X10_isSide, ?_⟩
  refine List.forall_mem_cons.mpr ⟨zcw_X10_areBits, ?_⟩
  refine List.forall_mem_cons.mpr ⟨zcw_X10_fulfilsOne, ?_⟩
  refine List.forall_mem_cons.mpr ⟨zcw_X10_fulfilsOff, ?_⟩
  refine List.forall_mem_cons.mpr ⟨zcw_X10_findsFulfilling, ?_⟩
  refine List.forall_mem_cons.mpr ⟨zcw_X10_nextOf, ?_⟩
  refine List.forall_mem_cons.mpr ⟨zcw_X10_firstOf, ?_⟩
  refine List.forall_mem_cons.mpr ⟨zcw_X10_isEnd, ?_⟩
  refine List.forall_mem_cons.mpr ⟨zcw_X10_canEnd, ?_⟩
  refine List.forall_mem_cons.mpr ⟨zcw_X10_isConditionAsked, ?_⟩
  refine List.forall_mem_cons.mpr ⟨zcw_X10_fulfils, ?_⟩
  refine List.forall_mem_cons.mpr ⟨zcw_X10_fulfilled, ?_⟩
  refine List.forall_mem_cons.mpr ⟨zcw_X10_matches, ?_⟩
  refine List.forall_mem_cons.mpr ⟨zcw_X10_might, ?_⟩
  refine List.forall_mem_cons.mpr ⟨zcw_X10_promise, ?_⟩
  refine List.forall_mem_cons.mpr ⟨zcw_X10_goesOn, ?_⟩
  refine List.forall_mem_cons.mpr ⟨zcw_X10_dies, ?_⟩
  refine List.forall_mem_cons.mpr ⟨zcw_X10_begins, ?_⟩
  refine List.forall_mem_cons.mpr ⟨zcw_X10_isAny, ?_⟩
  refine List.forall_mem_cons.mpr ⟨zcw_X10_goesThrough, ?_⟩
  refine List.forall_mem_cons.mpr ⟨zcw_X10_verdictBy, ?_⟩
  refine List.forall_mem_cons.mpr ⟨zcw_X10_isTick, ?_⟩
  refine List.forall_mem_cons.mpr ⟨zcw_X10_isTry, ?_⟩
  refine List.forall_mem_cons.mpr ⟨zcw_X10_dutiesFrom, ?_⟩
  refine List.forall_mem_cons.mpr ⟨zcw_X10_verdict, ?_⟩
  refine List.forall_mem_cons.mpr ⟨zcw_X10_decided, ?_⟩
  refine List.forall_mem_cons.mpr ⟨zcw_X10_duties, ?_⟩
  refine List.forall_mem_cons.mpr ⟨zcw_X10_duty, ?_⟩
  refine List.forall_mem_cons.mpr ⟨zcw_X10_triesOf, ?_⟩
  refine List.forall_mem_cons.mpr ⟨zcw_X10_tries, ?_⟩
  refine List.forall_mem_cons.mpr ⟨zcw_X10_first, ?_⟩
  refine List.forall_mem_cons.mpr ⟨zcw_X10_allDuties, ?_⟩
  refine List.forall_mem_cons.mpr ⟨zcw_X10_allTries, ?_⟩
  refine List.forall_mem_cons.mpr ⟨zcw_X10_rule, ?_⟩
  refine List.forall_mem_cons.mpr ⟨zcw_X10_failedBy, ?_⟩
  refine List.forall_mem_cons.mpr ⟨zcw_X10_tick, ?_⟩
  refine List.forall_mem_cons.mpr ⟨zcw_X10_bits, ?_⟩
  refine List.forall_mem_cons.mpr ⟨zcw_X10_put, ?_⟩
  refine List.forall_mem_cons.mpr ⟨zcw_X10_keeps, ?_⟩
  refine List.forall_mem_cons.mpr ⟨zcw_X10_gets, ?_⟩
  refine List.forall_mem_cons.mpr ⟨zcw_X10_draw, ?_⟩
  refine List.forall_mem_cons.mpr ⟨zcw_X10_keep, ?_⟩
  refine List.forall_mem_cons.mpr ⟨zcw_X10_back, ?_⟩
  refine List.forall_mem_cons.mpr ⟨zcw_X10_isSheet, ?_⟩
  refine List.forall_mem_cons.mpr ⟨zcw_X10_sheet, ?_⟩
  refine List.forall_mem_cons.mpr ⟨zcw_X10_lay, ?_⟩
  refine List.forall_mem_cons.mpr ⟨zcw_X10_run, ?_⟩
  refine List.forall_mem_cons.mpr ⟨zcw_X10_torn, ?_⟩
  refine List.forall_mem_cons.mpr ⟨zcw_X10_count, ?_⟩
  refine List.forall_mem_cons.mpr ⟨zcw_J13_bitCount_95d88, ?_⟩
  exact fun _ h => absurd h List.not_mem_nil
def zmw : List (List Nat) := [[1005], [1005], [1005], [1005], [1005], [1005], [1005], [1005], [1008], [1008], [1008], [1002], [1002], [1002], [1002], [1002], [1002], [1002], [1002], [1002], [1002], [1002], [1002], [1002], [1006], [1006], [1006], [1006], [1006], [1006], [1006], [1006], [1006], [1006], [1006], [1010], [1010], [1010], [1010], [1003], [1003], [1003], [1003], [1003], [1003], [1003], [1003], [1007], [1007], [1007], [1004], [1004], [1004], [1004], [1004], [1004], [1004], [1004], [1009], [1009], [1009], [1009], [1009], [1009], [1009], [1009], [1009], [1009], [1009], [1009], [1009], [1009], [1009], [1009], [1001], [1001], [1001], [1001], [1001], [1001], [1001], [1001], [1001], [1001], [1001], [1001], [1001], [1001], [1001], [1001], [1001], [1001], [1001], [1001], [1001], [1001], [1001], [1001], [1001], [1001], [1001], [1001], [1001], [1001], [1001], [1001], [1001], [1001], [1001], [1001], [1001], [1001], [1001], [1001], [1001], [1001], [1001], [1001], [1001], [1001], [1011], [1011], [1011], [1011], [1011], [1011], [1011], [1011], [1011], [1011], [1011], [1011], [1011], [1011], [1011], [1011], [1011], [1011], [1011], [1011], [1011], [1011], [1011], [1011], [1011], [1011], [1011], [1011], [1011], [1011], [1011], [1011], [1011], [1011], [1011], [1011], [1011], [1011], [1011], [1011], [1011], [1011], [1011], [1011], [1011], [1011], [1011], [1011], [1011], [1011], [1011], [1011], [1011], [1011], [1011], [1011], [1011], [1011], [1011], [1011], [1011], [1011], [1011], [1011], [1011], [1011], [1011], [1011], [1011], [1011], [1011], [1011], [1011], [1011], [1011], [1011], [1011], [1011], [1011], [1011], [1011], [1011], [1011], [1011], [1011], [1011], [1011], [1011], [1011], [1013]]
set_option maxRecDepth 100000 in
theorem zmk_ok : ((List.range 210).zip zmw).all (fun q => zmk q.1 q.2) = true := by decide +kernel
end
section
def zw__Bu_init : List (List Nat) := [[], [1086, 1021], [], [], [1080], [1139, 0], [], [], [1080], [1140, 0], [], [], [1138], [1141, 0], [], [], [1138], [1142, 0], [], [], [1138], [1143, 0], [], [1087, 1088, 1006], [], [1089, 1090, 1], [1145, 0], []]
set_option maxRecDepth 100000 in
theorem zk_Bu_init : zc_Bu_init.length = zw__Bu_init.length ∧ (zc_Bu_init.zip zw__Bu_init).all (fun q => zck RX0 true cX0_init q.1 q.2) = true := by decide +kernel
def zw__Bu_begin : List (List Nat) := [[], [], [1145, 0], [], [1145, 0], [2140, 2141, 2142, 0], [], [], [1144, 0], []]
set_option maxRecDepth 100000 in
theorem zk_Bu_begin : zc_Bu_begin.length = zw__Bu_begin.length ∧ (zc_Bu_begin.zip zw__Bu_begin).all (fun q => zck RX0 false cX0_begin q.1 q.2) = true := by decide +kernel
def zw__Bu_condition : List (List Nat) := [[], [1145, 0], [], [2199, 2200, 2201, 0], [], [], [1144, 0], [], [], [], [1139, 0], [], [1144, 0], [], [], [], [1140, 0], [], [1144, 0], [], [], [], [1141, 0], [], [1144, 0], [], [1145, 0], [1105, 1], [], [], [1142, 0], [], [1144, 0], [], [], [], [1143, 0], [], [1144, 0], [], [], [], [], [1144, 0], [], [], [1144, 0], []]
set_option maxRecDepth 100000 in
theorem zk_Bu_condition : zc_Bu_condition.length = zw__Bu_condition.length ∧ (zc_Bu_condition.zip zw__Bu_condition).all (fun q => zck RX0 false cX0_condition q.1 q.2) = true := by decide +kernel
def zw__Bu_chainTwo : List (List Nat) := [[], [1144, 0], [], [], [], [], [], [1144, 0], [], [], [1144, 0], [], [1144, 0], [], [], [], [], [1145, 0], [], [1140, 0], [], [], [], [1139, 0], [], [1144, 0], [], [2231, 2232, 2233, 0], [], [1142, 0], [], [], [], [], [1139, 0], [], [], [], [], [1139, 0], [], [1144, 0], [], [], [], [], [1140, 0], [], [], [1142, 0], [], [1144, 0], [], [], [], [1140, 0], [], [], [], [1140, 0], [], [1144, 0], [], [], [], [], [1140, 0], [], [1144, 0], [], [], [], [1142, 0], [], [], [], [1142, 0], [], [], [], [1142, 0], [], [1144, 0], [], [], [2235, 2236, 1012], [], [], [1143, 0], [], [], [], [1143, 0], [], [], [], [1143, 0], [], [1144, 0], [], [], [2235, 2236, 1012], [], []]
set_option maxRecDepth 100000 in
theorem zk_Bu_chainTwo : zc_Bu_chainTwo.length = zw__Bu_chainTwo.length ∧ (zc_Bu_chainTwo.zip zw__Bu_chainTwo).all (fun q => zck RX0 false cX0_chainTwo q.1 q.2) = true := by decide +kernel
def zw__Bu_chooseOfTwo : List (List Nat) := [[], [1144, 0], [], [], [], [], [], [1144, 0], [], [], [1144, 0], [], [1144, 0], [], [], [], [], [1139, 0], [], [], [], [], [1139, 0], [], [1144, 0], [], [], [], [], [1140, 0], [], [], [], [], [1140, 0], [], [1144, 0], [], [], [], [], [1142, 0], [], [], [1142, 0], [], [], [], [1142, 0], [], [1144, 0], [], [2235, 2236, 1012], [], [], [1143, 0], [], [], [1143, 0], [], [], [], [1143, 0], [], [1144, 0], [], [2230, 2216, 1012], [], []]
set_option maxRecDepth 100000 in
theorem zk_Bu_chooseOfTwo : zc_Bu_chooseOfTwo.length = zw__Bu_chooseOfTwo.length ∧ (zc_Bu_chooseOfTwo.zip zw__Bu_chooseOfTwo).all (fun q => zck RX0 false cX0_chooseOfTwo q.1 q.2) = true := by decide +kernel
def zw__Bu_repeat : List (List Nat) := [[], [1144, 0], [], [], [], [], [1144, 0], [], [], [], [], [1145, 0], [1105, 1], [], [1141, 0], [], [], [], [], [], [], [], [1145, 0], [1114, 1], [], [], [1145, 0], [], [1141, 0], [], [], [], [2222, 2223, 2224, 0], [], [1145, 0], [1114, 1], [], [], [], [], [], [], [2226, 2228, 11, 0], [], [1142, 0], [], [], [], [1142, 0], [], [], [], [], [2235, 2236, 1012], [], [], [1143, 0], [], [], [], [1143, 0], [], [], [], [], [2235, 2236, 1012], [], []]
set_option maxRecDepth 100000 in
theorem zk_Bu_repeat : zc_Bu_repeat.length = zw__Bu_repeat.length ∧ (zc_Bu_repeat.zip zw__Bu_repeat).all (fun q => zck RX0 false cX0_repeat q.1 q.2) = true := by decide +kernel
def zw__Bu_chainCopies : List (List Nat) := [[], [1139, 0], [], [], [], [], [1140, 0], [], [], [], [], [1142, 0], [], [], [], [], [], [], [], [2230, 2216, 1012], [], [], [1140, 0], [], [], [], [], [], [], [], [], [], [], [], [], [], [], [], [1145, 0], [], [], [], [], [], [], [], [], [2231, 2232, 2233, 0], [], [], [], [], [], [], [1140, 0], [], [], [], [], [], [], [], [], [], [], []]
set_option maxRecDepth 100000 in
theorem zk_Bu_chainCopies : zc_Bu_chainCopies.length = zw__Bu_chainCopies.length ∧ (zc_Bu_chainCopies.zip zw__Bu_chainCopies).all (fun q => zck RX0 false cX0_chainCopies q.1 q.2) = true := by decide +kernel
def zw__Bu_finish : List (List Nat) := [[], [1144, 0], [], [], [], [], [1145, 0], [1094, 1], [], [], [1139, 0], [], [], [], [], [1145, 0], [], [1140, 0], [], [], [1099, 1], [], [1145, 0], [], [1142, 0], [], [], [1109, 1], [], [1145, 0], [], [1143, 0], [], [], [1111, 1], [], [1145, 0], [1114, 1], [], [], [1145, 0], [3010, 3011, 3012, 0], []]
set_option maxRecDepth 100000 in
theorem zk_Bu_finish : zc_Bu_finish.length = zw__Bu_finish.length ∧ (zc_Bu_finish.zip zw__Bu_finish).all (fun q => zck RX0 false cX0_finish q.1 q.2) = true := by decide +kernel
def zw__Pl_init : List (List Nat) := [[], [1201, 1021], [], [1202, 1088, 1006], [], [1203, 1090, 1], [1204, 0], [], [1202, 1088, 1006], [], [1203, 1090, 1], [1208, 0], [], [], [1080], [1212, 0], []]
set_option maxRecDepth 100000 in
theorem zk_Pl_init : zc_Pl_init.length = zw__Pl_init.length ∧ (zc_Pl_init.zip zw__Pl_init).all (fun q => zck RX1 true cX1_init q.1 q.2) = true := by decide +kernel
def zw__Pl_sideOf : List (List Nat) := [[], [], [], [1204, 0], [], [], [1208, 0], []]
set_option maxRecDepth 100000 in
theorem zk_Pl_sideOf : zc_Pl_sideOf.length = zw__Pl_sideOf.length ∧ (zc_Pl_sideOf.zip zw__Pl_sideOf).all (fun q => zck RX1 false cX1_sideOf q.1 q.2) = true := by decide +kernel
def zw__Pl_isPutOffBy : List (List Nat) := [[], [1215, 0], [], [], [1212, 0], [], [], [3095, 3061, 1], [], [], [], [], []]
set_option maxRecDepth 100000 in
theorem zk_Pl_isPutOffBy : zc_Pl_isPutOffBy.length = zw__Pl_isPutOffBy.length ∧ (zc_Pl_isPutOffBy.zip zw__Pl_isPutOffBy).all (fun q => zck RX1 false cX1_isPutOffBy q.1 q.2) = true := by decide +kernel
def zw__Re_init : List (List Nat) := [[], [1028, 1021], [], [1029, 1030, 1003], [], [1031, 1032, 1], [1161, 0], [], [1067, 1068, 1004], [], [1069, 1070, 1], [1163, 0], [], [1081, 1082, 1005], [], [1083, 1084, 1], [1164, 0], []]
set_option maxRecDepth 100000 in
theorem zk_Re_init : zc_Re_init.length = zw__Re_init.length ∧ (zc_Re_init.zip zw__Re_init).all (fun q => zck RX2 true cX2_init q.1 q.2) = true := by decide +kernel
def zw__Re_readAll : List (List Nat) := [[], [1161, 0], [2101, 2102, 2103, 0], [], [1163, 0], [2123, 2124, 2125, 0], [], [], [], [], [], [], [1161, 0], [1040, 1], [], [], [], [], [1161, 0], [2127, 2128, 2129, 0], [], [], [1161, 0], [], [2131, 2117, 2118, 0], [], [], [], [], [], [], [], [], [1161, 0], [], [2131, 2117, 2118, 0], [], [], [], [], [], [], [], [2132, 2134, 1, 0], [], [], [], [], [], [], []]
set_option maxRecDepth 100000 in
theorem zk_Re_readAll : zc_Re_readAll.length = zw__Re_readAll.length ∧ (zc_Re_readAll.zip zw__Re_readAll).all (fun q => zck RX2 false cX2_readAll q.1 q.2) = true := by decide +kernel
def zw__Re_readPromise : List (List Nat) := [[], [1164, 0], [], [1205, 1], [2136, 2137, 2138, 0], [], [], [2144, 2146, 2, 0], [], [], [], [], [1164, 0], [3006, 3007, 3008, 0], [], [1161, 0], [1040, 1], [], [], [], [1161, 0], [1040, 1], [], [], [], [1161, 0], [], [2131, 2117, 2118, 0], [], [], [], [1161, 0], [1040, 1], [], [], [], [], [], [1218, 1], [], [1161, 0], [2164, 2106, 2107, 0], [], [1164, 0], [], [1209, 1], [2136, 2137, 2138, 0], [], [], [2144, 2146, 2, 0], [], [], [], [], [1164, 0], [3006, 3007, 3008, 0], [], [], [3023, 3025, 12, 0], [], [], [], [], [1161, 0], [1040, 1], [], [], [], [1161, 0], [], [2131, 2117, 2118, 0], [], [], [1205, 1], [1107, 1], [], [], [1209, 1], [1107, 1], [], [], [1161, 0], [], [2131, 2117, 2118, 0], [], [], [1205, 1], [1113, 1], [], [], [1209, 1], [1113, 1], [], [], [1161, 0], [], [2131, 2117, 2118, 0], [], [], [1161, 0], [2164, 2106, 2107, 0], [], []]
set_option maxRecDepth 100000 in
theorem zk_Re_readPromise : zc_Re_readPromise.length = zw__Re_readPromise.length ∧ (zc_Re_readPromise.zip zw__Re_readPromise).all (fun q => zck RX2 false cX2_readPromise q.1 q.2) = true := by decide +kernel
def zw__Re_readOff : List (List Nat) := [[], [], [1161, 0], [1040, 1], [], [], [], [], [], [1216, 1], [], [1216, 1], [], [], [], [], [1161, 0], [2164, 2106, 2107, 0], [], [], [2179, 2181, 8, 0], [], [], [], [], [1163, 0], [], [1213, 1], [], [3027, 2208, 2209, 0], [], []]
set_option maxRecDepth 100000 in
theorem zk_Re_readOff : zc_Re_readOff.length = zw__Re_readOff.length ∧ (zc_Re_readOff.zip zw__Re_readOff).all (fun q => zck RX2 false cX2_readOff q.1 q.2) = true := by decide +kernel
def zw__Re_readChoice : List (List Nat) := [[], [], [2148, 2150, 3, 0], [], [], [], [], [], [], [], [], [], [1161, 0], [1040, 1], [], [], [], [1161, 0], [2164, 2106, 2107, 0], [], [], [2148, 2150, 3, 0], [], [], [], [], [1164, 0], [3002, 3003, 3004, 0], [], [], [], []]
set_option maxRecDepth 100000 in
theorem zk_Re_readChoice : zc_Re_readChoice.length = zw__Re_readChoice.length ∧ (zc_Re_readChoice.zip zw__Re_readChoice).all (fun q => zck RX2 false cX2_readChoice q.1 q.2) = true := by decide +kernel
def zw__Re_readChain : List (List Nat) := [[], [], [2152, 2154, 4, 0], [], [], [], [], [], [], [], [], [], [1161, 0], [1040, 1], [], [], [], [1161, 0], [2164, 2106, 2107, 0], [], [], [2152, 2154, 4, 0], [], [], [], [], [1164, 0], [2238, 2239, 3000, 0], [], [], [], []]
set_option maxRecDepth 100000 in
theorem zk_Re_readChain : zc_Re_readChain.length = zw__Re_readChain.length ∧ (zc_Re_readChain.zip zw__Re_readChain).all (fun q => zck RX2 false cX2_readChain q.1 q.2) = true := by decide +kernel
def zw__Re_readRepeated : List (List Nat) := [[], [], [2156, 2158, 5, 0], [], [], [], [], [1161, 0], [1040, 1], [], [], [], [], [], [1161, 0], [2164, 2106, 2107, 0], [], [1161, 0], [1043, 1], [], [], [], [2211, 2213, 10, 0], [], [], [], [], [1161, 0], [1043, 1], [], [], [], [], [2215, 2216, 1012], [2211, 2213, 10, 0], [], [], [], [], [1164, 0], [], [], [2218, 2219, 2220, 0], [], []]
set_option maxRecDepth 100000 in
theorem zk_Re_readRepeated : zc_Re_readRepeated.length = zw__Re_readRepeated.length ∧ (zc_Re_readRepeated.zip zw__Re_readRepeated).all (fun q => zck RX2 false cX2_readRepeated q.1 q.2) = true := by decide +kernel
def zw__Re_readNumber : List (List Nat) := [[], [1161, 0], [1040, 1], [], [], [], [1161, 0], [], [2131, 2117, 2118, 0], [], [], [1161, 0], [1043, 1], [], [], [], [1161, 0], [1043, 1], [], [], [], [1161, 0], [], [2131, 2117, 2118, 0], [], [], [1161, 0], [2164, 2106, 2107, 0], [], []]
set_option maxRecDepth 100000 in
theorem zk_Re_readNumber : zc_Re_readNumber.length = zw__Re_readNumber.length ∧ (zc_Re_readNumber.zip zw__Re_readNumber).all (fun q => zck RX2 false cX2_readNumber q.1 q.2) = true := by decide +kernel
def zw__Re_readPart : List (List Nat) := [[], [1161, 0], [1040, 1], [], [], [], [], [2160, 2162, 6, 0], [], [], [], [], [1164, 0], [], [1163, 0], [2195, 2196, 2197, 0], [], [], [], [], [], [], [1161, 0], [], [2131, 2117, 2118, 0], [], [], [1161, 0], [2164, 2106, 2107, 0], [], [], [], [], [2144, 2146, 2, 0], [], [], [], [], [1161, 0], [1040, 1], [], [], [], [1161, 0], [], [2131, 2117, 2118, 0], [], [], [1161, 0], [2164, 2106, 2107, 0], [], []]
set_option maxRecDepth 100000 in
theorem zk_Re_readPart : zc_Re_readPart.length = zw__Re_readPart.length ∧ (zc_Re_readPart.zip zw__Re_readPart).all (fun q => zck RX2 false cX2_readPart q.1 q.2) = true := by decide +kernel
def zw__Re_readCondition : List (List Nat) := [[], [], [], [], [], [], [], [], [1161, 0], [1040, 1], [], [], [], [], [], [], [], [], [], [1161, 0], [2164, 2106, 2107, 0], [], [], [], [], [2165, 2167, 7, 0], [], [], [], [], [], [], [1163, 0], [2191, 2192, 2193, 0], [], []]
set_option maxRecDepth 100000 in
theorem zk_Re_readCondition : zc_Re_readCondition.length = zw__Re_readCondition.length ∧ (zc_Re_readCondition.zip zw__Re_readCondition).all (fun q => zck RX2 false cX2_readCondition q.1 q.2) = true := by decide +kernel
def zw__Re_readPlain : List (List Nat) := [[], [1161, 0], [1040, 1], [], [], [], [1163, 0], [], [1161, 0], [1043, 1], [2169, 2170, 2171, 0], [], [1161, 0], [2164, 2106, 2107, 0], [], [], [], [1161, 0], [1040, 1], [], [], [], [1161, 0], [], [2131, 2117, 2118, 0], [], [], [], [], [], [1161, 0], [], [2131, 2117, 2118, 0], [], [], [1161, 0], [2164, 2106, 2107, 0], [], [], [], [], [2179, 2181, 8, 0], [], [], [], [], [1161, 0], [1040, 1], [], [], [], [1161, 0], [], [2131, 2117, 2118, 0], [], [], [1161, 0], [2164, 2106, 2107, 0], [], []]
set_option maxRecDepth 100000 in
theorem zk_Re_readPlain : zc_Re_readPlain.length = zw__Re_readPlain.length ∧ (zc_Re_readPlain.zip zw__Re_readPlain).all (fun q => zck RX2 false cX2_readPlain q.1 q.2) = true := by decide +kernel
def zw__Re_readAnyOf : List (List Nat) := [[], [], [2183, 2185, 9, 0], [], [], [], [], [], [], [], [], [], [1161, 0], [1040, 1], [], [], [], [1161, 0], [2164, 2106, 2107, 0], [], [], [2183, 2185, 9, 0], [], [], [], [], [1163, 0], [], [2187, 2188, 2189, 0], [], [], [], []]
set_option maxRecDepth 100000 in
theorem zk_Re_readAnyOf : zc_Re_readAnyOf.length = zw__Re_readAnyOf.length ∧ (zc_Re_readAnyOf.zip zw__Re_readAnyOf).all (fun q => zck RX2 false cX2_readAnyOf q.1 q.2) = true := by decide +kernel
def zw__Re_readAllOf : List (List Nat) := [[], [], [2160, 2162, 6, 0], [], [], [], [], [], [], [], [], [], [1161, 0], [1040, 1], [], [], [], [1161, 0], [2164, 2106, 2107, 0], [], [], [2160, 2162, 6, 0], [], [], [], [], [1163, 0], [], [2187, 2188, 2189, 0], [], [], [], []]
set_option maxRecDepth 100000 in
theorem zk_Re_readAllOf : zc_Re_readAllOf.length = zw__Re_readAllOf.length ∧ (zc_Re_readAllOf.zip zw__Re_readAllOf).all (fun q => zck RX2 false cX2_readAllOf q.1 q.2) = true := by decide +kernel
def zw__Se_init : List (List Nat) := [[], [1092, 1021], [], [], [1080], [1093, 0], [], [], [1080], [1095, 0], [], [], [1080], [1096, 0], []]
set_option maxRecDepth 100000 in
theorem zk_Se_init : zc_Se_init.length = zw__Se_init.length ∧ (zc_Se_init.zip zw__Se_init).all (fun q => zck RX3 true cX3_init q.1 q.2) = true := by decide +kernel
def zw__Se_clear : List (List Nat) := [[], [], [1102, 0], [], [], [1104, 0], [], [], [1112, 0], []]
set_option maxRecDepth 100000 in
theorem zk_Se_clear : zc_Se_clear.length = zw__Se_clear.length ∧ (zc_Se_clear.zip zw__Se_clear).all (fun q => zck RX3 false cX3_clear q.1 q.2) = true := by decide +kernel
def zw__Se_addCondition : List (List Nat) := [[], [1104, 0], [], [], [], [1102, 0], [], [], [], [], [1112, 0], [], [1112, 0], [], [], [2203, 2204, 2205, 0], [], [], [], [], [1096, 0], [], [1102, 0], [2207, 2208, 2209, 0], [], [], [1104, 0], [], [], [1104, 0], [], [1093, 0], [], [1104, 0], [], [], [], [1095, 0], [], [1102, 0], [], [], [1104, 0], [], [], [], [], [1102, 0], [], [], [1102, 0], [], [], [1104, 0], [], []]
set_option maxRecDepth 100000 in
theorem zk_Se_addCondition : zc_Se_addCondition.length = zw__Se_addCondition.length ∧ (zc_Se_addCondition.zip zw__Se_addCondition).all (fun q => zck RX3 false cX3_addCondition q.1 q.2) = true := by decide +kernel
def zw__Se_link : List (List Nat) := [[], [], [], [], [], [], [1104, 0], [], [], [], [], [], [], [], [], [], [], [], [], [1093, 0], [], [], [], [], [], [], [], [], [], [], [], [], []]
set_option maxRecDepth 100000 in
theorem zk_Se_link : zc_Se_link.length = zw__Se_link.length ∧ (zc_Se_link.zip zw__Se_link).all (fun q => zck RX3 false cX3_link q.1 q.2) = true := by decide +kernel
def zw__Se_copyBlock : List (List Nat) := [[], [1104, 0], [], [], [], [], [], [], [], [], [], [], [], [], [], [], [], [], [], [], [1112, 0], [], [], [], [], [], [], [], [], [], [], [], [], [], [], [], [], [], [], [], [], [], [], [], [], [1093, 0], [], [], [], [], [1093, 0], [], [], [], [], [], [], [], [], [], [], [], [], [], [1102, 0], [], [], [1095, 0], [], [], [], [], [], [], [], [], [], [], [], [1095, 0], [], [], [], [], [], [], [], [], [], [], [], [], [], [], [], [], [], [], [], [], [], [], [1104, 0], []]
set_option maxRecDepth 100000 in
theorem zk_Se_copyBlock : zc_Se_copyBlock.length = zw__Se_copyBlock.length ∧ (zc_Se_copyBlock.zip zw__Se_copyBlock).all (fun q => zck RX3 false cX3_copyBlock q.1 q.2) = true := by decide +kernel
def zw__Se_findUseful : List (List Nat) := [[], [], [1100, 0], [], [], [1101, 0], [], [], [], [], [], [], [1102, 0], [], [], [1096, 0], [], [3014, 3015, 1], [], [], [], [1095, 0], [], [], [], [], [], [], [], [1104, 0], [], [], [], [], [], [], [], [], [1093, 0], [], [], [], [1100, 0], [], [], [], [], [], [], [], [], [], [], [], [], [1101, 0], [], [], [1101, 0], [], [], [], [], [], [], [], [], [], [1098, 0], [], [], [], [], [], [], [], [1100, 0], [], [], [1100, 0], [], [], []]
set_option maxRecDepth 100000 in
theorem zk_Se_findUseful : zc_Se_findUseful.length = zw__Se_findUseful.length ∧ (zc_Se_findUseful.zip zw__Se_findUseful).all (fun q => zck RX3 false cX3_findUseful q.1 q.2) = true := by decide +kernel
def zw__Se_openTo : List (List Nat) := [[], [], [], [], [], [], [1102, 0], [], [], [1096, 0], [], [], [3060, 3061, 1], [], [], [], [1095, 0], [], [], [], [], [], [], [], [], [1100, 0], [], []]
set_option maxRecDepth 100000 in
theorem zk_Se_openTo : zc_Se_openTo.length = zw__Se_openTo.length ∧ (zc_Se_openTo.zip zw__Se_openTo).all (fun q => zck RX3 false cX3_openTo q.1 q.2) = true := by decide +kernel
def zw__Se_after : List (List Nat) := [[], [], [], [], [], [], [], [], [1104, 0], [], [], [], [], [], [], [], [], [], [], [], [], [], [1093, 0], [], [], [], [], [], [], [], [], [], [], [], [], [], []]
set_option maxRecDepth 100000 in
theorem zk_Se_after : zc_Se_after.length = zw__Se_after.length ∧ (zc_Se_after.zip zw__Se_after).all (fun q => zck RX3 false cX3_after q.1 q.2) = true := by decide +kernel
def zw__Se_walk : List (List Nat) := [[], [], [], [], [], [], [], [], [], [], [], [], [], [], [], [1182, 1], [], [], [3154, 3057, 3058, 0], [3155, 3068, 3069, 0], [], [], [], [], []]
set_option maxRecDepth 100000 in
theorem zk_Se_walk : zc_Se_walk.length = zw__Se_walk.length ∧ (zc_Se_walk.zip zw__Se_walk).all (fun q => zck RX3 false cX3_walk q.1 q.2) = true := by decide +kernel
def zw__Se_hasEnded : List (List Nat) := [[], [], [1098, 0], [], [], [], [], [], [], [], []]
set_option maxRecDepth 100000 in
theorem zk_Se_hasEnded : zc_Se_hasEnded.length = zw__Se_hasEnded.length ∧ (zc_Se_hasEnded.zip zw__Se_hasEnded).all (fun q => zck RX3 false cX3_hasEnded q.1 q.2) = true := by decide +kernel
def zw__Se_goesOn : List (List Nat) := [[], [], [1101, 0], [], [], [], [], [], [], [], []]
set_option maxRecDepth 100000 in
theorem zk_Se_goesOn : zc_Se_goesOn.length = zw__Se_goesOn.length ∧ (zc_Se_goesOn.zip zw__Se_goesOn).all (fun q => zck RX3 false cX3_goesOn q.1 q.2) = true := by decide +kernel
def zw__Sh_init : List (List Nat) := [[], [2034, 1021], [], [], [1138], [2035, 0], [], [], [2039, 0], []]
set_option maxRecDepth 100000 in
theorem zk_Sh_init : zc_Sh_init.length = zw__Sh_init.length ∧ (zc_Sh_init.zip zw__Sh_init).all (fun q => zck RX4 true cX4_init q.1 q.2) = true := by decide +kernel
def zw__Sh_renew : List (List Nat) := [[], [], [2037, 0], [], [], [2039, 0], [], [], [], [], [], [], [2035, 0], [], [], [], [], [], []]
set_option maxRecDepth 100000 in
theorem zk_Sh_renew : zc_Sh_renew.length = zw__Sh_renew.length ∧ (zc_Sh_renew.zip zw__Sh_renew).all (fun q => zck RX4 false cX4_renew q.1 q.2) = true := by decide +kernel
def zw__Sh_tearAt : List (List Nat) := [[], [2039, 0], [], [], [], [], [], [2037, 0], [], [], [], [], [], [], [], [2039, 0], [], [], [], [], []]
set_option maxRecDepth 100000 in
theorem zk_Sh_tearAt : zc_Sh_tearAt.length = zw__Sh_tearAt.length ∧ (zc_Sh_tearAt.zip zw__Sh_tearAt).all (fun q => zck RX4 false cX4_tearAt q.1 q.2) = true := by decide +kernel
def zw__Sh_setCell : List (List Nat) := [[], [2037, 0], [], [], [2035, 0], [], [], [], [], [], [], [2035, 0], [], [], [], [], [], [], [2035, 0], [], [], [], []]
set_option maxRecDepth 100000 in
theorem zk_Sh_setCell : zc_Sh_setCell.length = zw__Sh_setCell.length ∧ (zc_Sh_setCell.zip zw__Sh_setCell).all (fun q => zck RX4 false cX4_setCell q.1 q.2) = true := by decide +kernel
def zw__Ta_init : List (List Nat) := [[], [1034, 1021], [], [], [1066], [1035, 0], []]
set_option maxRecDepth 100000 in
theorem zk_Ta_init : zc_Ta_init.length = zw__Ta_init.length ∧ (zc_Ta_init.zip zw__Ta_init).all (fun q => zck RX5 true cX5_init q.1 q.2) = true := by decide +kernel
def zw__Ta_begin : List (List Nat) := [[], [], [1039, 0], [], [], [1045, 0], [], [], [1047, 0], [], [2105, 2106, 2107, 0], []]
set_option maxRecDepth 100000 in
theorem zk_Ta_begin : zc_Ta_begin.length = zw__Ta_begin.length ∧ (zc_Ta_begin.zip zw__Ta_begin).all (fun q => zck RX5 false cX5_begin q.1 q.2) = true := by decide +kernel
def zw__Ta_refuse : List (List Nat) := [[], [1045, 0], [], [], [], [1045, 0], [], [], [1044, 0], [1047, 0], [], []]
set_option maxRecDepth 100000 in
theorem zk_Ta_refuse : zc_Ta_refuse.length = zw__Ta_refuse.length ∧ (zc_Ta_refuse.zip zw__Ta_refuse).all (fun q => zck RX5 false cX5_refuse q.1 q.2) = true := by decide +kernel
def zw__Ta_advance : List (List Nat) := [[], [1039, 0], [], [1038, 0], [], [], [1035, 0], [], [1039, 0], [], [], [], [], [], [1039, 0], [], [], [1039, 0], [], [], [], [1039, 0], [1044, 0], [], [1039, 0], [], [1038, 0], [], [], [], [1041, 0], [], [], [1035, 0], [], [1039, 0], [], [], [], [], [1039, 0], [], [], [1039, 0], [], [], [], [], [], [], [], [], [1041, 0], [], [], [], [], [1042, 0], [], [], [2109, 2110, 0], [], [], [], [2112, 2114, 0, 0], [], [], [2120, 2121, 0], [], [], [], [1041, 0], [], [], [], [1041, 0], [], [], [2116, 2117, 2118, 0], [], []]
set_option maxRecDepth 100000 in
theorem zk_Ta_advance : zc_Ta_advance.length = zw__Ta_advance.length ∧ (zc_Ta_advance.zip zw__Ta_advance).all (fun q => zck RX5 false cX5_advance q.1 q.2) = true := by decide +kernel
def zw__Ta_advanceNumber : List (List Nat) := [[], [], [1041, 0], [], [], [], [], [1042, 0], [], [], [], [1039, 0], [], [1038, 0], [], [], [1035, 0], [], [1039, 0], [], [2109, 2110, 0], [], [], [], [], [], [], [1042, 0], [], [], [], [1035, 0], [], [1039, 0], [], [], [], [], [1042, 0], [], [], [], [1039, 0], [], [], [1039, 0], [], [], [], [], [], [], [1041, 0], [], [], [2116, 2117, 2118, 0], [], []]
set_option maxRecDepth 100000 in
theorem zk_Ta_advanceNumber : zc_Ta_advanceNumber.length = zw__Ta_advanceNumber.length ∧ (zc_Ta_advanceNumber.zip zw__Ta_advanceNumber).all (fun q => zck RX5 false cX5_advanceNumber q.1 q.2) = true := by decide +kernel
def zw__Ta_isFigure : List (List Nat) := [[], [], [], [], [], [], [], [], [], []]
set_option maxRecDepth 100000 in
theorem zk_Ta_isFigure : zc_Ta_isFigure.length = zw__Ta_isFigure.length ∧ (zc_Ta_isFigure.zip zw__Ta_isFigure).all (fun q => zck RX5 false cX5_isFigure q.1 q.2) = true := by decide +kernel
def zw__Ta_isSign : List (List Nat) := [[], [], [], [], [], []]
set_option maxRecDepth 100000 in
theorem zk_Ta_isSign : zc_Ta_isSign.length = zw__Ta_isSign.length ∧ (zc_Ta_isSign.zip zw__Ta_isSign).all (fun q => zck RX5 false cX5_isSign q.1 q.2) = true := by decide +kernel
def zw__Ta_beginsSequence : List (List Nat) := [[], [1041, 0], [], [], [], [1041, 0], [], [], [], [1041, 0], [], [], [], [1041, 0], [], [], [], [], [], []]
set_option maxRecDepth 100000 in
theorem zk_Ta_beginsSequence : zc_Ta_beginsSequence.length = zw__Ta_beginsSequence.length ∧ (zc_Ta_beginsSequence.zip zw__Ta_beginsSequence).all (fun q => zck RX5 false cX5_beginsSequence q.1 q.2) = true := by decide +kernel
def zw__Tr_init : List (List Nat) := [[], [1179, 1021], [], [], [1138], [1180, 0], []]
set_option maxRecDepth 100000 in
theorem zk_Tr_init : zc_Tr_init.length = zw__Tr_init.length ∧ (zc_Tr_init.zip zw__Tr_init).all (fun q => zck RX6 true cX6_init q.1 q.2) = true := by decide +kernel
def zw__Tr_add : List (List Nat) := [[], [1184, 0], [], [], [], [1180, 0], [], [1184, 0], [], [], [], [], [1184, 0], [], [], [1184, 0], []]
set_option maxRecDepth 100000 in
theorem zk_Tr_add : zc_Tr_add.length = zw__Tr_add.length ∧ (zc_Tr_add.zip zw__Tr_add).all (fun q => zck RX6 false cX6_add q.1 q.2) = true := by decide +kernel
def zw__Tr_become : List (List Nat) := [[], [1180, 0], [], [], [1180, 0], [], [], [1184, 0], [4015, 4017, 4016, 1014], [], [], [1184, 0], [1184, 0], []]
set_option maxRecDepth 100000 in
theorem zk_Tr_become : zc_Tr_become.length = zw__Tr_become.length ∧ (zc_Tr_become.zip zw__Tr_become).all (fun q => zck RX6 false cX6_become q.1 q.2) = true := by decide +kernel
def zw__TS_init : List (List Nat) := [[], [1072, 1021], [], [], [1080], [1073, 0], []]
set_option maxRecDepth 100000 in
theorem zk_TS_init : zc_TS_init.length = zw__TS_init.length ∧ (zc_TS_init.zip zw__TS_init).all (fun q => zck RX7 true cX7_init q.1 q.2) = true := by decide +kernel
def zw__TS_clear : List (List Nat) := [[], [], [1074, 0], []]
set_option maxRecDepth 100000 in
theorem zk_TS_clear : zc_TS_clear.length = zw__TS_clear.length ∧ (zc_TS_clear.zip zw__TS_clear).all (fun q => zck RX7 false cX7_clear q.1 q.2) = true := by decide +kernel
def zw__TS_pushWire : List (List Nat) := [[], [1074, 0], [], [], [], [], [], [], [], [], [], [], [], [1073, 0], [], [1074, 0], [], [], [], [], [], [], [2173, 2174, 0], [], [], [], [], [], [1074, 0], [], [], [1074, 0], []]
set_option maxRecDepth 100000 in
theorem zk_TS_pushWire : zc_TS_pushWire.length = zw__TS_pushWire.length ∧ (zc_TS_pushWire.zip zw__TS_pushWire).all (fun q => zck RX7 false cX7_pushWire q.1 q.2) = true := by decide +kernel
def zw__TS_wordOfWire : List (List Nat) := [[], [2176], [], [], [2176], [], [], [], [], [], [2176], [], [], [], [], [], [], [2178], [], [], []]
set_option maxRecDepth 100000 in
theorem zk_TS_wordOfWire : zc_TS_wordOfWire.length = zw__TS_wordOfWire.length ∧ (zc_TS_wordOfWire.zip zw__TS_wordOfWire).all (fun q => zck RX7 false cX7_wordOfWire q.1 q.2) = true := by decide +kernel
def zw__TS_negate : List (List Nat) := [[], [1074, 0], [], [], [], [], [], [], [], [], [], [1073, 0], [], [1074, 0], [], [], [], [], [], [], [], [1073, 0], [], [1074, 0], [], [], [], [], [], [], [], [2178], [], [], [], [], []]
set_option maxRecDepth 100000 in
theorem zk_TS_negate : zc_TS_negate.length = zw__TS_negate.length ∧ (zc_TS_negate.zip zw__TS_negate).all (fun q => zck RX7 false cX7_negate q.1 q.2) = true := by decide +kernel
def zw__TS_joinTwo : List (List Nat) := [[], [1074, 0], [], [], [], [], [], [1074, 0], [], [], [1074, 0], [], [], [], [], [], [], [1074, 0], [], [], [], [], [], [], [], [], [1073, 0], [], [1074, 0], [], [], [], [], [], [], [], [1073, 0], [], [], [], [], [1073, 0], [], [], [], [], [], [], [1073, 0], [], [], [], [], [], [], [], []]
set_option maxRecDepth 100000 in
theorem zk_TS_joinTwo : zc_TS_joinTwo.length = zw__TS_joinTwo.length ∧ (zc_TS_joinTwo.zip zw__TS_joinTwo).all (fun q => zck RX7 false cX7_joinTwo q.1 q.2) = true := by decide +kernel
def zw__TS_drop : List (List Nat) := [[], [1074, 0], [], [], [], [1074, 0], [], [], [1074, 0], []]
set_option maxRecDepth 100000 in
theorem zk_TS_drop : zc_TS_drop.length = zw__TS_drop.length ∧ (zc_TS_drop.zip zw__TS_drop).all (fun q => zck RX7 false cX7_drop q.1 q.2) = true := by decide +kernel
def zw__TS_moveTop : List (List Nat) := [[], [1074, 0], [], [], [], [], [], [1074, 0], [], [], [1074, 0], [], [], [], [], [], [], [], [], [], [], [], [], [1073, 0], [], [1074, 0], [], [], [], [], [], [], [], [], []]
set_option maxRecDepth 100000 in
theorem zk_TS_moveTop : zc_TS_moveTop.length = zw__TS_moveTop.length ∧ (zc_TS_moveTop.zip zw__TS_moveTop).all (fun q => zck RX7 false cX7_moveTop q.1 q.2) = true := by decide +kernel
def zw__Wa_init : List (List Nat) := [[], [1237, 1021], [], [], [1080], [1238, 0], [], [], [1080], [1239, 0], [], [], [1138], [2000, 0], [], [], [1080], [2002, 0], [], [], [1138], [2004, 0], [], [], [1138], [2006, 0], []]
set_option maxRecDepth 100000 in
theorem zk_Wa_init : zc_Wa_init.length = zw__Wa_init.length ∧ (zc_Wa_init.zip zw__Wa_init).all (fun q => zck RX8 true cX8_init q.1 q.2) = true := by decide +kernel
def zw__Wa_restart : List (List Nat) := [[], [], [2008, 0], [], [], [2009, 0], [], [], [2010, 0], []]
set_option maxRecDepth 100000 in
theorem zk_Wa_restart : zc_Wa_restart.length = zw__Wa_restart.length ∧ (zc_Wa_restart.zip zw__Wa_restart).all (fun q => zck RX8 false cX8_restart q.1 q.2) = true := by decide +kernel
def zw__Wa_catchUp : List (List Nat) := [[], [2010, 0], [], [1185, 1], [], [], [], [], [1181, 1], [], [2010, 0], [], [3052, 3054, 15, 0], [], [], [2010, 0], [], [], [2010, 0], [], []]
set_option maxRecDepth 100000 in
theorem zk_Wa_catchUp : zc_Wa_catchUp.length = zw__Wa_catchUp.length ∧ (zc_Wa_catchUp.zip zw__Wa_catchUp).all (fun q => zck RX8 false cX8_catchUp q.1 q.2) = true := by decide +kernel
def zw__Wa_takeIn : List (List Nat) := [[], [1238, 0], [], [2010, 0], [], [], [], [1239, 0], [], [2010, 0], [], [], [], [2002, 0], [], [2010, 0], [], [], [], [2004, 0], [], [2010, 0], [], [], [], [1210, 1], [], [3056, 3057, 3058, 0], [], [], [], [1210, 1], [], [3063, 3065, 16, 0], [], [], [1206, 1], [], [1206, 1], [], [3056, 3057, 3058, 0], [3083, 3085, 18, 0], [], [], [], [], [3087, 3089, 19, 0], [], [], [], [], [3091, 3092, 3093, 0], [3096, 3098, 20, 0], []]
set_option maxRecDepth 100000 in
theorem zk_Wa_takeIn : zc_Wa_takeIn.length = zw__Wa_takeIn.length ∧ (zc_Wa_takeIn.zip zw__Wa_takeIn).all (fun q => zck RX8 false cX8_takeIn q.1 q.2) = true := by decide +kernel
def zw__Wa_moveDuties : List (List Nat) := [[], [], [], [], [2010, 0], [], [], [1239, 0], [], [], [], [], [], [], [1239, 0], [], [], [], [1239, 0], [], [], [], [3067, 3068, 3069, 0], [], [], [], [], [3071, 3073, 17, 0], [], [], []]
set_option maxRecDepth 100000 in
theorem zk_Wa_moveDuties : zc_Wa_moveDuties.length = zw__Wa_moveDuties.length ∧ (zc_Wa_moveDuties.zip zw__Wa_moveDuties).all (fun q => zck RX8 false cX8_moveDuties q.1 q.2) = true := by decide +kernel
def zw__Wa_moveTries : List (List Nat) := [[], [], [], [], [], [], [2010, 0], [], [], [1238, 0], [], [], [], [], [], [], [1238, 0], [], [], [], [1238, 0], [], [], [], [3067, 3068, 3069, 0], [], [], [], [1238, 0], [], [], [3075, 3076, 3077, 0], [], [], [2002, 0], [], [], [], [], [], [2010, 0], [], [], [], [], [], [], [], [], []]
set_option maxRecDepth 100000 in
theorem zk_Wa_moveTries : zc_Wa_moveTries.length = zw__Wa_moveTries.length ∧ (zc_Wa_moveTries.zip zw__Wa_moveTries).all (fun q => zck RX8 false cX8_moveTries q.1 q.2) = true := by decide +kernel
def zw__Wa_beginDuty : List (List Nat) := [[], [1210, 1], [], [], [1239, 0], [], [2010, 0], [], [1219, 1], [], [], [], [], [], [], [], [3067, 3068, 3069, 0], [], [], [], [], [2010, 0], [3071, 3073, 17, 0], []]
set_option maxRecDepth 100000 in
theorem zk_Wa_beginDuty : zc_Wa_beginDuty.length = zw__Wa_beginDuty.length ∧ (zc_Wa_beginDuty.zip zw__Wa_beginDuty).all (fun q => zck RX8 false cX8_beginDuty q.1 q.2) = true := by decide +kernel
def zw__Wa_settleDuty : List (List Nat) := [[], [1239, 0], [], [], [], [], [], [3075, 3076, 3077, 0], [], [], [], [2008, 0], [], [], [], [], [2008, 0], [], [], [], [3079, 3080, 3081, 0], [], [], [], [2009, 0], [], [], [], [], [2009, 0], [], [], [], [2000, 0], [], [], [2010, 0], [], [], [1239, 0], [], [], [], []]
set_option maxRecDepth 100000 in
theorem zk_Wa_settleDuty : zc_Wa_settleDuty.length = zw__Wa_settleDuty.length ∧ (zc_Wa_settleDuty.zip zw__Wa_settleDuty).all (fun q => zck RX8 false cX8_settleDuty q.1 q.2) = true := by decide +kernel
def zw__Wa_judgeTries : List (List Nat) := [[], [], [], [], [2010, 0], [], [], [2004, 0], [], [], [], [], [2004, 0], [], [], [], [], [], [], [], [1206, 1], [], [3100, 3102, 21, 0], [], [], [2006, 0], [], [], [2010, 0], [], [], [], []]
set_option maxRecDepth 100000 in
theorem zk_Wa_judgeTries : zc_Wa_judgeTries.length = zw__Wa_judgeTries.length ∧ (zc_Wa_judgeTries.zip zw__Wa_judgeTries).all (fun q => zck RX8 false cX8_judgeTries q.1 q.2) = true := by decide +kernel
def zw__Wa_judge : List (List Nat) := [[], [2002, 0], [], [], [], [2009, 0], [], [], [], [], [], [], [], [2002, 0], [], [], [], [2008, 0], [3104], [], [], [], [], [], [], [], [1238, 0], [], [], [3079, 3080, 3081, 0], [], [], [], [], [2002, 0], [], [], [], [], [], [], [], [], []]
set_option maxRecDepth 100000 in
theorem zk_Wa_judge : zc_Wa_judge.length = zw__Wa_judge.length ∧ (zc_Wa_judge.zip zw__Wa_judge).all (fun q => zck RX8 false cX8_judge q.1 q.2) = true := by decide +kernel
def zw__Wa_howMany : List (List Nat) := [[], [], [], [], [], [], [2010, 0], [], [], [2004, 0], [], [], [], [], [], [], [], [], []]
set_option maxRecDepth 100000 in
theorem zk_Wa_howMany : zc_Wa_howMany.length = zw__Wa_howMany.length ∧ (zc_Wa_howMany.zip zw__Wa_howMany).all (fun q => zck RX8 false cX8_howMany q.1 q.2) = true := by decide +kernel
def zw__Wa_earliest : List (List Nat) := [[], [], [], [], [2010, 0], [], [], [2004, 0], [], [], [], [], [], [], [], [], [], []]
set_option maxRecDepth 100000 in
theorem zk_Wa_earliest : zc_Wa_earliest.length = zw__Wa_earliest.length ∧ (zc_Wa_earliest.zip zw__Wa_earliest).all (fun q => zck RX8 false cX8_earliest q.1 q.2) = true := by decide +kernel
def zw__Wa_failedBy : List (List Nat) := [[], [], [], [], [], [], [2010, 0], [], [], [2004, 0], [], [], [], [], [], [2006, 0], [], [], [], [], [], [], [], [], []]
set_option maxRecDepth 100000 in
theorem zk_Wa_failedBy : zc_Wa_failedBy.length = zw__Wa_failedBy.length ∧ (zc_Wa_failedBy.zip zw__Wa_failedBy).all (fun q => zck RX8 false cX8_failedBy q.1 q.2) = true := by decide +kernel
def zw__Wa_allDuties : List (List Nat) := [[], [], [], [], [], [], [2010, 0], [], [], [], [2002, 0], [], [], [3109, 3018, 0], [], [], [], [], [], []]
set_option maxRecDepth 100000 in
theorem zk_Wa_allDuties : zc_Wa_allDuties.length = zw__Wa_allDuties.length ∧ (zc_Wa_allDuties.zip zw__Wa_allDuties).all (fun q => zck RX8 false cX8_allDuties q.1 q.2) = true := by decide +kernel
def zw__Wa_dutyTick : List (List Nat) := [[], [], [], [], [], [], [2010, 0], [], [], [2002, 0], [], [], [], [], [], [], [], [], [], [], [], [], [], [], [], [], [], [], []]
set_option maxRecDepth 100000 in
theorem zk_Wa_dutyTick : zc_Wa_dutyTick.length = zw__Wa_dutyTick.length ∧ (zc_Wa_dutyTick.zip zw__Wa_dutyTick).all (fun q => zck RX8 false cX8_dutyTick q.1 q.2) = true := by decide +kernel
def zw__Wa_dutyState : List (List Nat) := [[], [2008, 0], [], [], [], [], [], [], [], [], [], [], [2009, 0], [], [], [], [], [], [], [], [], [], [], []]
set_option maxRecDepth 100000 in
theorem zk_Wa_dutyState : zc_Wa_dutyState.length = zw__Wa_dutyState.length ∧ (zc_Wa_dutyState.zip zw__Wa_dutyState).all (fun q => zck RX8 false cX8_dutyState q.1 q.2) = true := by decide +kernel
def zw__PT_init : List (List Nat) := [[], [1020, 1021], [], [1023, 1024, 1002], [], [1025, 1026, 1], [2048, 0], [], [], [2048, 0], [1162, 1], [2049, 0], [], [], [1172, 1173], [2050, 0], [], [1174, 1175, 1007], [], [1176, 1177, 1], [2051, 0], [], [], [1174, 1192], [2052, 0], [], [], [1232], [2053, 0], [], [], [1193, 1194], [2054, 0], [], [], [1195, 1196], [2055, 0], [], [], [1195, 1196], [2056, 0], [], [], [], [], [], [], [2055, 0], [], [1195, 1197, 1008], [], [1198, 1199, 1], [], [], [2056, 0], [], [1195, 1197, 1008], [], [1198, 1199, 1], [], [], [2050, 0], [], [1172, 1233, 1009], [], [1234, 1235, 1], [], [], [], [], [], [], [], [], [], [2052, 0], [], [1174, 1175, 1007], [], [1176, 1177, 1], [], [], [], [], [], [], [], [], [], [2054, 0], [], [1193, 2030, 1010], [], [2031, 2032, 1], [], [], [], []]
set_option maxRecDepth 100000 in
theorem zk_PT_init : zc_PT_init.length = zw__PT_init.length ∧ (zc_PT_init.zip zw__PT_init).all (fun q => zck RX9 true cX9_init q.1 q.2) = true := by decide +kernel
def zw__PT_feed : List (List Nat) := [[], [], [], [], [], [], [], [], [2049, 0], [1037, 1], [], [], [], [], [], [2049, 0], [1036, 1], [], [2049, 0], [1037, 1], [], [], [], [], [2049, 0], [], [1037, 1], [], [], [1037, 1], [], [2049, 0], [1037, 1], []]
set_option maxRecDepth 100000 in
theorem zk_PT_feed : zc_PT_feed.length = zw__PT_feed.length ∧ (zc_PT_feed.zip zw__PT_feed).all (fun q => zck RX9 false cX9_feed q.1 q.2) = true := by decide +kernel
def zw__PT_end : List (List Nat) := [[], [2049, 0], [1037, 1], [], [], [], [], [], [], [], [], [], [2049, 0], [], [1037, 1], [], []]
set_option maxRecDepth 100000 in
theorem zk_PT_end : zc_PT_end.length = zw__PT_end.length ∧ (zc_PT_end.zip zw__PT_end).all (fun q => zck RX9 false cX9_end q.1 q.2) = true := by decide +kernel
def zw__PT_text : List (List Nat) := [[], [2048, 0], [], [2056, 0], [2097, 2098, 2099, 0], [], [], [2049, 0], [], [1037, 1], [], [], [2049, 0], [1046, 1], [2058, 0], [], [], [], [], [2049, 0], [1048, 1], [], [], [], [2055, 0], [], [], [], [2056, 0], [2055, 0], [], [], [2056, 0], [], [], [2057, 0], [], [], [], [], [], [], [2053, 0], [], [], [], [], [], [], [3028, 3030, 13, 0], [], []]
set_option maxRecDepth 100000 in
theorem zk_PT_text : zc_PT_text.length = zw__PT_text.length ∧ (zc_PT_text.zip zw__PT_text).all (fun q => zck RX9 false cX9_text q.1 q.2) = true := by decide +kernel
def zw__PT_fault : List (List Nat) := [[], [2058, 0], []]
set_option maxRecDepth 100000 in
theorem zk_PT_fault : zc_PT_fault.length = zw__PT_fault.length ∧ (zc_PT_fault.zip zw__PT_fault).all (fun q => zck RX9 false cX9_fault q.1 q.2) = true := by decide +kernel
def zw__PT_rule : List (List Nat) := [[], [], [], [], [], [], [], [], [], [], [2057, 0], [], [], [], [], [], [2051, 0], [1186, 1], [], [], [], [], [], [], [], [2057, 0], [], [], [], [3044, 3046, 14, 0], [], [], [], [], [], [], [3105, 3106, 3107, 0], [], [], [], [], [], [3110, 3111, 3112, 0], [], [], [], [], [], []]
set_option maxRecDepth 100000 in
theorem zk_PT_rule : zc_PT_rule.length = zw__PT_rule.length ∧ (zc_PT_rule.zip zw__PT_rule).all (fun q => zck RX9 false cX9_rule q.1 q.2) = true := by decide +kernel
def zw__PT_promise : List (List Nat) := [[], [], [3118, 3120, 22, 0], [], [], [], [], [2055, 0], [], [], [], [], [], [], [1220, 1], [], [], [1217, 1], [], [], [], [], [], [], [1207, 1], [1103, 1], [], [], [1211, 1], [1103, 1], [], [], [1207, 1], [1106, 1], [], [], [1211, 1], [1106, 1], [], [], [1207, 1], [1108, 1], [], [], [1211, 1], [1108, 1], [], [], [1207, 1], [1110, 1], [], [], [1211, 1], [1110, 1], [], [], []]
set_option maxRecDepth 100000 in
theorem zk_PT_promise : zc_PT_promise.length = zw__PT_promise.length ∧ (zc_PT_promise.zip zw__PT_promise).all (fun q => zck RX9 false cX9_promise q.1 q.2) = true := by decide +kernel
def zw__PT_fulfils : List (List Nat) := [[], [], [], [], [3126, 3128, 23, 0], [], [], [3137, 3138, 0], [], [], [], [], [], [], [], [2055, 0], [], [], [1214, 1], [], [], [3140, 3061, 0], [], [], [2055, 0], [], [], [], [3133, 3134, 3135, 0], [1097, 1], [], [], [3140, 3061, 0], [], [], [], [], [], [], []]
set_option maxRecDepth 100000 in
theorem zk_PT_fulfils : zc_PT_fulfils.length = zw__PT_fulfils.length ∧ (zc_PT_fulfils.zip zw__PT_fulfils).all (fun q => zck RX9 false cX9_fulfils q.1 q.2) = true := by decide +kernel
def zw__PT_fulfilled : List (List Nat) := [[], [], [], [], [3126, 3128, 23, 0], [], [], [], [], [], [], [], [2055, 0], [], [], [1214, 1], [], [3145, 3015, 0], [], [], [2055, 0], [], [], [], [3133, 3134, 3135, 0], [1097, 1], [], [3145, 3015, 0], []]
set_option maxRecDepth 100000 in
theorem zk_PT_fulfilled : zc_PT_fulfilled.length = zw__PT_fulfilled.length ∧ (zc_PT_fulfilled.zip zw__PT_fulfilled).all (fun q => zck RX9 false cX9_fulfilled q.1 q.2) = true := by decide +kernel
def zw__PT_matches : List (List Nat) := [[], [], [3118, 3120, 22, 0], [], [], [3130, 3131, 0], [], [], [], [], [], [2051, 0], [1186, 1], [], [], [], [], [], [], [], [], [2051, 0], [1186, 1], [], [], [], [], [2055, 0], [], [], [], [3133, 3134, 3135, 0], [], [], [], [], [2051, 0], [], [], [], [], [3150, 3151, 3152, 0], [3156, 3076, 3077, 0], [], [], [], [], []]
set_option maxRecDepth 100000 in
theorem zk_PT_matches : zc_PT_matches.length = zw__PT_matches.length ∧ (zc_PT_matches.zip zw__PT_matches).all (fun q => zck RX9 false cX9_matches q.1 q.2) = true := by decide +kernel
def zw__PT_might : List (List Nat) := [[], [], [3118, 3120, 22, 0], [], [], [3130, 3131, 0], [], [], [], [], [], [2051, 0], [1186, 1], [], [], [], [], [2055, 0], [], [], [], [3133, 3134, 3135, 0], [], [], [], [], [2051, 0], [], [], [2051, 0], [1186, 1], [3150, 3151, 3152, 0], [3161, 3080, 3081, 0], [], [], [], [], []]
set_option maxRecDepth 100000 in
theorem zk_PT_might : zc_PT_might.length = zw__PT_might.length ∧ (zc_PT_might.zip zw__PT_might).all (fun q => zck RX9 false cX9_might q.1 q.2) = true := by decide +kernel
def zw__PT_tick : List (List Nat) := [[], [3137, 3138, 0], [], [], [], [], [2051, 0], [1186, 1], [], [], [], [], [], [2051, 0], [], [3166, 3167, 3168, 0], [], [], [], [], [], [], [2057, 0], [], [], [], [], [3044, 3046, 14, 0], [], [2051, 0], [1186, 1], [], [], [3170, 3171, 3172, 0], [], [], [], [], [], []]
set_option maxRecDepth 100000 in
theorem zk_PT_tick : zc_PT_tick.length = zw__PT_tick.length ∧ (zc_PT_tick.zip zw__PT_tick).all (fun q => zck RX9 false cX9_tick q.1 q.2) = true := by decide +kernel
def zw__PT_bits : List (List Nat) := [[], [], [3178, 3180, 24, 0], [], [], [2051, 0], [1183, 1], [], [], [], [], []]
set_option maxRecDepth 100000 in
theorem zk_PT_bits : zc_PT_bits.length = zw__PT_bits.length ∧ (zc_PT_bits.zip zw__PT_bits).all (fun q => zck RX9 false cX9_bits q.1 q.2) = true := by decide +kernel
def zw__PT_put : List (List Nat) := [[], [], [3178, 3180, 24, 0], [], [], [3137, 3138, 0], [], [], [], [], [2051, 0], [1183, 1], [], [], [], [], [2051, 0], [1183, 1], [], [], [], [], [3028, 3030, 13, 0], [], []]
set_option maxRecDepth 100000 in
theorem zk_PT_put : zc_PT_put.length = zw__PT_put.length ∧ (zc_PT_put.zip zw__PT_put).all (fun q => zck RX9 false cX9_put q.1 q.2) = true := by decide +kernel
def zw__PT_keeps : List (List Nat) := [[], [2051, 0], [1186, 1], [], [], [], [], [], [], [], [], [], [2051, 0], [], [1186, 1], [], [3028, 3030, 13, 0], [], []]
set_option maxRecDepth 100000 in
theorem zk_PT_keeps : zc_PT_keeps.length = zw__PT_keeps.length ∧ (zc_PT_keeps.zip zw__PT_keeps).all (fun q => zck RX9 false cX9_keeps q.1 q.2) = true := by decide +kernel
def zw__PT_draw : List (List Nat) := [[], [], [], [], [], [], [], [], [], [2051, 0], [1186, 1], [], [], [], [], [], [], [], [], [], [], [], [], [], [], [3194, 3195, 0], [], [], [3198, 3199, 0], [], [], [3194, 3195, 0], [], [], [2051, 0], [], [], [3198, 3199, 0], [], [3166, 3167, 3168, 0], [], [], [], [2051, 0], [1186, 1], []]
set_option maxRecDepth 100000 in
theorem zk_PT_draw : zc_PT_draw.length = zw__PT_draw.length ∧ (zc_PT_draw.zip zw__PT_draw).all (fun q => zck RX9 false cX9_draw q.1 q.2) = true := by decide +kernel
def zw__PT_verdict : List (List Nat) := [[], [], [], [3205, 3207, 25, 0], [], [], [], [3044, 3046, 14, 0], [2005, 1], [], [], [], [], []]
set_option maxRecDepth 100000 in
theorem zk_PT_verdict : zc_PT_verdict.length = zw__PT_verdict.length ∧ (zc_PT_verdict.zip zw__PT_verdict).all (fun q => zck RX9 false cX9_verdict q.1 q.2) = true := by decide +kernel
def zw__PT_decided : List (List Nat) := [[], [], [], [3205, 3207, 25, 0], [], [], [], [], [], [3044, 3046, 14, 0], [], [], [2005, 1], [], [], [], [], [], [], [2007, 1], [], [], []]
set_option maxRecDepth 100000 in
theorem zk_PT_decided : zc_PT_decided.length = zw__PT_decided.length ∧ (zc_PT_decided.zip zw__PT_decided).all (fun q => zck RX9 false cX9_decided q.1 q.2) = true := by decide +kernel
def zw__PT_duties : List (List Nat) := [[], [], [], [3205, 3207, 25, 0], [], [], [], [3044, 3046, 14, 0], [2003, 1], [], [], [3017, 3018, 0], [], [], []]
set_option maxRecDepth 100000 in
theorem zk_PT_duties : zc_PT_duties.length = zw__PT_duties.length ∧ (zc_PT_duties.zip zw__PT_duties).all (fun q => zck RX9 false cX9_duties q.1 q.2) = true := by decide +kernel
def zw__PT_duty : List (List Nat) := [[], [], [], [3205, 3207, 25, 0], [], [], [], [], [], [], [], [], [], [], [], [], [3044, 3046, 14, 0], [], [], [], [], [3221, 3222, 3223, 0], [], [], [], [], [], [], [], [], [], [], [], [3225, 3226, 3227, 0], [], [], [], [], [], [], [], [], [], [], [], [2001, 1], [], [], []]
set_option maxRecDepth 100000 in
theorem zk_PT_duty : zc_PT_duty.length = zw__PT_duty.length ∧ (zc_PT_duty.zip zw__PT_duty).all (fun q => zck RX9 false cX9_duty q.1 q.2) = true := by decide +kernel
def zw__PT_tries : List (List Nat) := [[], [], [3118, 3120, 22, 0], [], [], [3233, 3234, 0], [], [], [], [3044, 3046, 14, 0], [], [3110, 3111, 3112, 0], [], [], []]
set_option maxRecDepth 100000 in
theorem zk_PT_tries : zc_PT_tries.length = zw__PT_tries.length ∧ (zc_PT_tries.zip zw__PT_tries).all (fun q => zck RX9 false cX9_tries q.1 q.2) = true := by decide +kernel
def zw__PT_first : List (List Nat) := [[], [], [3118, 3120, 22, 0], [], [], [3233, 3234, 0], [], [], [], [3044, 3046, 14, 0], [], [4000, 4001, 4002, 0], [], [], []]
set_option maxRecDepth 100000 in
theorem zk_PT_first : zc_PT_first.length = zw__PT_first.length ∧ (zc_PT_first.zip zw__PT_first).all (fun q => zck RX9 false cX9_first q.1 q.2) = true := by decide +kernel
def zw__PT_keep : List (List Nat) := [[], [4008, 4009, 0], [], [], [], [], [2053, 0], [], [], [], [], [], [], [], [], [2052, 0], [], [], [], [2051, 0], [4011, 4012, 4013, 0], [], [2053, 0], [], [], [], [], []]
set_option maxRecDepth 100000 in
theorem zk_PT_keep : zc_PT_keep.length = zw__PT_keep.length ∧ (zc_PT_keep.zip zw__PT_keep).all (fun q => zck RX9 false cX9_keep q.1 q.2) = true := by decide +kernel
def zw__PT_back : List (List Nat) := [[], [4008, 4009, 0], [], [], [], [], [2053, 0], [], [], [], [], [], [], [2051, 0], [], [2052, 0], [], [], [4011, 4012, 4013, 0], [], [3028, 3030, 13, 0], [], [2051, 0], [1186, 1], []]
set_option maxRecDepth 100000 in
theorem zk_PT_back : zc_PT_back.length = zw__PT_back.length ∧ (zc_PT_back.zip zw__PT_back).all (fun q => zck RX9 false cX9_back q.1 q.2) = true := by decide +kernel
def zw__PT_sheet : List (List Nat) := [[], [4026, 4027, 0], [], [], [4029, 4030, 0], [], [], [], [], [], [], [], [], [], [], [], [2054, 0], [], [], [], [], [4032, 4033, 4034, 0], [], []]
set_option maxRecDepth 100000 in
theorem zk_PT_sheet : zc_PT_sheet.length = zw__PT_sheet.length ∧ (zc_PT_sheet.zip zw__PT_sheet).all (fun q => zck RX9 false cX9_sheet q.1 q.2) = true := by decide +kernel
def zw__PT_lay : List (List Nat) := [[], [4026, 4027, 0], [], [], [], [], [2054, 0], [], [], [], [], [], [2038, 1], [], [4040, 4041, 4042, 0], [], [], [], [], [], [], [], [], [], [], [4044, 4045, 4046, 0], [], []]
set_option maxRecDepth 100000 in
theorem zk_PT_lay : zc_PT_lay.length = zw__PT_lay.length ∧ (zc_PT_lay.zip zw__PT_lay).all (fun q => zck RX9 false cX9_lay q.1 q.2) = true := by decide +kernel
def zw__PT_run : List (List Nat) := [[], [4026, 4027, 0], [], [], [4029, 4030, 0], [], [], [], [], [], [], [], [], [], [], [2059, 0], [], [2054, 0], [], [], [], [], [], [], [], [], [], [], [], [2051, 0], [1186, 1], [], [], [], [], [], [], [], [], [4040, 4041, 4042, 0], [2059, 0], [], [2059, 0], [], [], [], [], [2051, 0], [], [2036, 1], [], [], [], [], [3166, 3167, 3168, 0], [], [], [], [], []]
set_option maxRecDepth 100000 in
theorem zk_PT_run : zc_PT_run.length = zw__PT_run.length ∧ (zc_PT_run.zip zw__PT_run).all (fun q => zck RX9 false cX9_run q.1 q.2) = true := by decide +kernel
def zw__PT_torn : List (List Nat) := [[], [2059, 0], []]
set_option maxRecDepth 100000 in
theorem zk_PT_torn : zc_PT_torn.length = zw__PT_torn.length ∧ (zc_PT_torn.zip zw__PT_torn).all (fun q => zck RX9 false cX9_torn q.1 q.2) = true := by decide +kernel
def zw__PT_count : List (List Nat) := [[], [], [], [4060, 4062, 26, 0], [], [], [2049, 0], [1037, 1], [], [], [2054, 0], [], [], [2040, 1], [], [], [], [], [2054, 0], [], [], [2040, 1], [], [], []]
set_option maxRecDepth 100000 in
theorem zk_PT_count : zc_PT_count.length = zw__PT_count.length ∧ (zc_PT_count.zip zw__PT_count).all (fun q => zck RX9 false cX9_count q.1 q.2) = true := by decide +kernel
def zw__PT_isPromise : List (List Nat) := [[], [], [], [], [2057, 0], [], [], [], [], []]
set_option maxRecDepth 100000 in
theorem zk_PT_isPromise : zc_PT_isPromise.length = zw__PT_isPromise.length ∧ (zc_PT_isPromise.zip zw__PT_isPromise).all (fun q => zck RX9 false cX9_isPromise q.1 q.2) = true := by decide +kernel
def zw__PT_isTick : List (List Nat) := [[], [], [], [], [2051, 0], [1186, 1], [], [], [], [], []]
set_option maxRecDepth 100000 in
theorem zk_PT_isTick : zc_PT_isTick.length = zw__PT_isTick.length ∧ (zc_PT_isTick.zip zw__PT_isTick).all (fun q => zck RX9 false cX9_isTick q.1 q.2) = true := by decide +kernel
def zw__PT_isTry : List (List Nat) := [[], [], [3118, 3120, 22, 0], [], [], [], [3178, 3180, 24, 0], [], [], [], [], []]
set_option maxRecDepth 100000 in
theorem zk_PT_isTry : zc_PT_isTry.length = zw__PT_isTry.length ∧ (zc_PT_isTry.zip zw__PT_isTry).all (fun q => zck RX9 false cX9_isTry q.1 q.2) = true := by decide +kernel
def zw__PT_isCondition : List (List Nat) := [[], [], [3118, 3120, 22, 0], [], [], [], [], [], [], [], [2055, 0], [], [], [1217, 1], [], [], [3130, 3131, 0], [], [], [], [], [], [2055, 0], [], [], [], [3133, 3134, 3135, 0], [1103, 1], [], [], [], [], []]
set_option maxRecDepth 100000 in
theorem zk_PT_isCondition : zc_PT_isCondition.length = zw__PT_isCondition.length ∧ (zc_PT_isCondition.zip zw__PT_isCondition).all (fun q => zck RX9 false cX9_isCondition q.1 q.2) = true := by decide +kernel
def zw__PT_isBits : List (List Nat) := [[], [], [], [], [], [], [], [], []]
set_option maxRecDepth 100000 in
theorem zk_PT_isBits : zc_PT_isBits.length = zw__PT_isBits.length ∧ (zc_PT_isBits.zip zw__PT_isBits).all (fun q => zck RX9 false cX9_isBits q.1 q.2) = true := by decide +kernel
def zw__PT_isSide : List (List Nat) := [[], [], [], [], [], [], [], [], []]
set_option maxRecDepth 100000 in
theorem zk_PT_isSide : zc_PT_isSide.length = zw__PT_isSide.length ∧ (zc_PT_isSide.zip zw__PT_isSide).all (fun q => zck RX9 false cX9_isSide q.1 q.2) = true := by decide +kernel
def zw__PT_isVerdict : List (List Nat) := [[], [], [], [], [], [], [], [], []]
set_option maxRecDepth 100000 in
theorem zk_PT_isVerdict : zc_PT_isVerdict.length = zw__PT_isVerdict.length ∧ (zc_PT_isVerdict.zip zw__PT_isVerdict).all (fun q => zck RX9 false cX9_isVerdict q.1 q.2) = true := by decide +kernel
def zw__PT_isImage : List (List Nat) := [[], [], [], [], [], [], [], [], []]
set_option maxRecDepth 100000 in
theorem zk_PT_isImage : zc_PT_isImage.length = zw__PT_isImage.length ∧ (zc_PT_isImage.zip zw__PT_isImage).all (fun q => zck RX9 false cX9_isImage q.1 q.2) = true := by decide +kernel
def zw__PT_isSheet : List (List Nat) := [[], [], [], [], [], [], [], [], []]
set_option maxRecDepth 100000 in
theorem zk_PT_isSheet : zc_PT_isSheet.length = zw__PT_isSheet.length ∧ (zc_PT_isSheet.zip zw__PT_isSheet).all (fun q => zck RX9 false cX9_isSheet q.1 q.2) = true := by decide +kernel
def zw__PT_isLane : List (List Nat) := [[], [], [], [], [], [], [], [], []]
set_option maxRecDepth 100000 in
theorem zk_PT_isLane : zc_PT_isLane.length = zw__PT_isLane.length ∧ (zc_PT_isLane.zip zw__PT_isLane).all (fun q => zck RX9 false cX9_isLane q.1 q.2) = true := by decide +kernel
def zw__PT_nextSeed : List (List Nat) := [[], [3197], [], [], [], []]
set_option maxRecDepth 100000 in
theorem zk_PT_nextSeed : zc_PT_nextSeed.length = zw__PT_nextSeed.length ∧ (zc_PT_nextSeed.zip zw__PT_nextSeed).all (fun q => zck RX9 false cX9_nextSeed q.1 q.2) = true := by decide +kernel
def zw__PT_got : List (List Nat) := [[], [], [], [], [], []]
set_option maxRecDepth 100000 in
theorem zk_PT_got : zc_PT_got.length = zw__PT_got.length ∧ (zc_PT_got.zip zw__PT_got).all (fun q => zck RX9 false cX9_got q.1 q.2) = true := by decide +kernel
def zw__PT_howManyImages : List (List Nat) := [[], [], [], [], [], [], [], [], [2053, 0], [], [], [], [], [], [], [], []]
set_option maxRecDepth 100000 in
theorem zk_PT_howManyImages : zc_PT_howManyImages.length = zw__PT_howManyImages.length ∧ (zc_PT_howManyImages.zip zw__PT_howManyImages).all (fun q => zck RX9 false cX9_howManyImages q.1 q.2) = true := by decide +kernel
def zw__PT_watchOf : List (List Nat) := [[], [2050, 0], [], [], [], [], [], [2055, 0], [], [], [], [2051, 0], [3048, 3049, 3050, 0], [], []]
set_option maxRecDepth 100000 in
theorem zk_PT_watchOf : zc_PT_watchOf.length = zw__PT_watchOf.length ∧ (zc_PT_watchOf.zip zw__PT_watchOf).all (fun q => zck RX9 false cX9_watchOf q.1 q.2) = true := by decide +kernel
def zw__PT_watchAnew : List (List Nat) := [[], [], [], [], [], [], [2050, 0], [], [], [3032, 3033, 3034, 0], [], [], []]
set_option maxRecDepth 100000 in
theorem zk_PT_watchAnew : zc_PT_watchAnew.length = zw__PT_watchAnew.length ∧ (zc_PT_watchAnew.zip zw__PT_watchAnew).all (fun q => zck RX9 false cX9_watchAnew q.1 q.2) = true := by decide +kernel
def zw__PT_isFulfilled : List (List Nat) := [[], [], [], [], [], [], [], [], [], [], [], [], [], [], [], [], [], [], [], [], [], []]
set_option maxRecDepth 100000 in
theorem zk_PT_isFulfilled : zc_PT_isFulfilled.length = zw__PT_isFulfilled.length ∧ (zc_PT_isFulfilled.zip zw__PT_isFulfilled).all (fun q => zck RX9 false cX9_isFulfilled q.1 q.2) = true := by decide +kernel
def zw__PT_howManyFulfil : List (List Nat) := [[], [], [], [], [], [], [], [], [], [], [], [], [], [], [], [3017, 3018, 0], [], [], [], [], [], []]
set_option maxRecDepth 100000 in
theorem zk_PT_howManyFulfil : zc_PT_howManyFulfil.length = zw__PT_howManyFulfil.length ∧ (zc_PT_howManyFulfil.zip zw__PT_howManyFulfil).all (fun q => zck RX9 false cX9_howManyFulfil q.1 q.2) = true := by decide +kernel
def zw__Mo_init : List (List Nat) := [[], [4069, 1021], [], [], [1138], [4076, 0], [], [], [1138], [4077, 0], [], [], [1080], [4078, 0], [], [], [1080], [4079, 0], [], [], [1138], [4080, 0], [], [], [1138], [4081, 0], [], [], [1080], [4082, 0], [], [], [1080], [4083, 0], [], [], [1138], [4085, 0], [], [], [1138], [4086, 0], [], [], [1232], [4087, 0], [], [], [1138], [4088, 0], [], [], [1080], [4097, 0], [], [], [1080], [4098, 0], [], [], [1232], [4099, 0], [], [], [1232], [4100, 0], [], [], [1232], [4101, 0], [], [], [1080], [4102, 0], [], [], [1080], [], [], [4070], [], [], [], [4071], [], [], [], [4072], [], [], [], [4073], [], [], [], [4074], [], [], [], [4075], [], [4104, 0], [], [], [1138], [4105, 0], [], [], [1080], [4106, 0], [], [], [1080], [4107, 0], [], [], [1232], [4108, 0], [], [], [1138], [4109, 0], [], [], [1138], [4110, 0], [], [], [1138], [4111, 0], [], [], [1232], [4112, 0], [], [], [1080], [4116, 0], [], [], [1080], [4117, 0], [], [], [1138], [4118, 0], [], [], [1138], [4119, 0], [], [], [1232], [4120, 0], [], [], [1138], [4124, 0], [], [], [1138], [4125, 0], [], [], [1138], [4126, 0], [], [], [], [], [], [], [4124, 0], [], [], [], [], [], []]
set_option maxRecDepth 100000 in
theorem zk_Mo_init : zc_Mo_init.length = zw__Mo_init.length ∧ (zc_Mo_init.zip zw__Mo_init).all (fun q => zck RX10 true cX10_init q.1 q.2) = true := by decide +kernel
def zw__Mo_in : List (List Nat) := [[], [], [], [], [], [], [], [], [], [], [], []]
set_option maxRecDepth 100000 in
theorem zk_Mo_in : zc_Mo_in.length = zw__Mo_in.length ∧ (zc_Mo_in.zip zw__Mo_in).all (fun q => zck RX10 false cX10_in q.1 q.2) = true := by decide +kernel
def zw__Mo_flag : List (List Nat) := [[], [], [], [], [], []]
set_option maxRecDepth 100000 in
theorem zk_Mo_flag : zc_Mo_flag.length = zw__Mo_flag.length ∧ (zc_Mo_flag.zip zw__Mo_flag).all (fun q => zck RX10 false cX10_flag q.1 q.2) = true := by decide +kernel
def zw__Mo_least : List (List Nat) := [[], [], [], [], [], [], []]
set_option maxRecDepth 100000 in
theorem zk_Mo_least : zc_Mo_least.length = zw__Mo_least.length ∧ (zc_Mo_least.zip zw__Mo_least).all (fun q => zck RX10 false cX10_least q.1 q.2) = true := by decide +kernel
def zw__Mo_greatest : List (List Nat) := [[], [], [], [], [], [], []]
set_option maxRecDepth 100000 in
theorem zk_Mo_greatest : zc_Mo_greatest.length = zw__Mo_greatest.length ∧ (zc_Mo_greatest.zip zw__Mo_greatest).all (fun q => zck RX10 false cX10_greatest q.1 q.2) = true := by decide +kernel
def zw__Mo_feed : List (List Nat) := [[], [], [], [4237], [4238, 4239, 0], [], [], [], [], [4089, 0], [], [], [], [], [], [4088, 0], [], [4089, 0], [], [], [], [], [4089, 0], [], [], [4089, 0], [], [4089, 0], []]
set_option maxRecDepth 100000 in
theorem zk_Mo_feed : zc_Mo_feed.length = zw__Mo_feed.length ∧ (zc_Mo_feed.zip zw__Mo_feed).all (fun q => zck RX10 false cX10_feed q.1 q.2) = true := by decide +kernel
def zw__Mo_end : List (List Nat) := [[], [], [], [], [4089, 0], [], [4238, 4239, 0], [], [], [], [], [4089, 0], [], [], [], [4089, 0], [], []]
set_option maxRecDepth 100000 in
theorem zk_Mo_end : zc_Mo_end.length = zw__Mo_end.length ∧ (zc_Mo_end.zip zw__Mo_end).all (fun q => zck RX10 false cX10_end q.1 q.2) = true := by decide +kernel
def zw__Mo_requires : List (List Nat) := [[], [], [], [4094, 0], [], [], [], [4094, 0], [], [], [4091, 0], [4095, 0], []]
set_option maxRecDepth 100000 in
theorem zk_Mo_requires : zc_Mo_requires.length = zw__Mo_requires.length ∧ (zc_Mo_requires.zip zw__Mo_requires).all (fun q => zck RX10 false cX10_requires q.1 q.2) = true := by decide +kernel
def zw__Mo_byteAt : List (List Nat) := [[], [], [4089, 0], [], [], [4088, 0], [], [], [], [], []]
set_option maxRecDepth 100000 in
theorem zk_Mo_byteAt : zc_Mo_byteAt.length = zw__Mo_byteAt.length ∧ (zc_Mo_byteAt.zip zw__Mo_byteAt).all (fun q => zck RX10 false cX10_byteAt q.1 q.2) = true := by decide +kernel
def zw__Mo_isSignByte : List (List Nat) := [[], [], [], [], [], [], [], [], [], [], [], [], [], [], [], [], [], [], [], [], [], [], [], [], [], [], [], [], [], [], [], [], [], [], [], [], [], [], [], [], [], [], [], [], [], []]
set_option maxRecDepth 100000 in
theorem zk_Mo_isSignByte : zc_Mo_isSignByte.length = zw__Mo_isSignByte.length ∧ (zc_Mo_isSignByte.zip zw__Mo_isSignByte).all (fun q => zck RX10 false cX10_isSignByte q.1 q.2) = true := by decide +kernel
def zw__Mo_reads : List (List Nat) := [[], [4094, 0], [], [], [], [], [4090, 0], [5013, 5015, 28, 0], [], [], [], [], [4090, 0], [], [], [4090, 0], [], [], [], [4090, 0], [4091, 0], [], [], [4090, 0], [5013, 5015, 28, 0], [], [], [], [], [], [4092, 0], [], [], [], [5017], [5018], [4238, 4239, 0], [], [], [], [4092, 0], [], [], [4093, 0], [], [], [4090, 0], [5013, 5015, 28, 0], [], [5017], [5018], [4238, 4239, 0], [], [], [], [4090, 0], [], [4091, 0], [], [], [], [], [], [4093, 0], [], [], [], [4090, 0], [5013, 5015, 28, 0], [], [], [], [], [], [4093, 0], [4093, 0], [], [], [4090, 0], [], [], [4090, 0], [], [], [], [4090, 0], [], [4091, 0], [], [], [], [], [], [], [], [5019, 5021, 29, 0], [], [], [], [], [5023], [5024], [4238, 4239, 0], [], [], [], [], [4092, 0], [], [], [4092, 0], [], [], [], [5025, 5026, 0], [], [], [], [], [], [5019, 5021, 29, 0], [], [], [4090, 0], [], [], [4090, 0], []]
set_option maxRecDepth 100000 in
theorem zk_Mo_reads : zc_Mo_reads.length = zw__Mo_reads.length ∧ (zc_Mo_reads.zip zw__Mo_reads).all (fun q => zck RX10 false cX10_reads q.1 q.2) = true := by decide +kernel
def zw__Mo_isSign : List (List Nat) := [[], [4094, 0], [], [], [4092, 0], [], [], [], [], [4091, 0], [5013, 5015, 28, 0], [], [], [], [], [], []]
set_option maxRecDepth 100000 in
theorem zk_Mo_isSign : zc_Mo_isSign.length = zw__Mo_isSign.length ∧ (zc_Mo_isSign.zip zw__Mo_isSign).all (fun q => zck RX10 false cX10_isSign q.1 q.2) = true := by decide +kernel
def zw__Mo_readNumber : List (List Nat) := [[], [4094, 0], [], [], [], [4092, 0], [], [], [], [], [], [], [5019, 5021, 29, 0], [], [4094, 0], [], [], [], [4093, 0], [], [], [], [], [], [4238, 4239, 0], [], [5019, 5021, 29, 0], [], [4094, 0], [], [], [4093, 0], [], [], [], [], [5009, 5011, 27, 0], [], []]
set_option maxRecDepth 100000 in
theorem zk_Mo_readNumber : zc_Mo_readNumber.length = zw__Mo_readNumber.length ∧ (zc_Mo_readNumber.zip zw__Mo_readNumber).all (fun q => zck RX10 false cX10_readNumber q.1 q.2) = true := by decide +kernel
def zw__Mo_nests : List (List Nat) := [[], [], [4096, 0], [], [], [], [], [], [], [5019, 5021, 29, 0], [], [], [4096, 0], [], [], [4096, 0], [], [5009, 5011, 27, 0], []]
set_option maxRecDepth 100000 in
theorem zk_Mo_nests : zc_Mo_nests.length = zw__Mo_nests.length ∧ (zc_Mo_nests.zip zw__Mo_nests).all (fun q => zck RX10 false cX10_nests q.1 q.2) = true := by decide +kernel
def zw__Mo_wires : List (List Nat) := [[], [], [], [], [], [], [4102, 0], [], [], [], [], [], [4104, 0], [], [], [], [], [], [], [], [], [], [], [], [], [5075], [], [], [], [], [], []]
set_option maxRecDepth 100000 in
theorem zk_Mo_wires : zc_Mo_wires.length = zw__Mo_wires.length ∧ (zc_Mo_wires.zip zw__Mo_wires).all (fun q => zck RX10 false cX10_wires q.1 q.2) = true := by decide +kernel
def zw__Mo_opensDepth : List (List Nat) := [[], [4099, 0], [], [4103, 0], [], [], [], [4100, 0], [], [4103, 0], [], [], [], [4101, 0], [], [4103, 0], [], [], []]
set_option maxRecDepth 100000 in
theorem zk_Mo_opensDepth : zc_Mo_opensDepth.length = zw__Mo_opensDepth.length ∧ (zc_Mo_opensDepth.zip zw__Mo_opensDepth).all (fun q => zck RX10 false cX10_opensDepth q.1 q.2) = true := by decide +kernel
def zw__Mo_joinsAnds : List (List Nat) := [[], [], [], [], [], [], [4101, 0], [], [4103, 0], [], [], [], [4102, 0], [], [], [5075], [], [], [], [4102, 0], [], [], [], [], [4098, 0], [], [], [4103, 0], [], [], [], [], [4100, 0], [], [4103, 0], [], [], [], [4098, 0], [], [], [4103, 0], [], [], [], [], [], [], [], [], [], [], [], [], [4100, 0], [], [4103, 0], [], [], [], [4101, 0], [], [4103, 0], [], [], []]
set_option maxRecDepth 100000 in
theorem zk_Mo_joinsAnds : zc_Mo_joinsAnds.length = zw__Mo_joinsAnds.length ∧ (zc_Mo_joinsAnds.zip zw__Mo_joinsAnds).all (fun q => zck RX10 false cX10_joinsAnds q.1 q.2) = true := by decide +kernel
def zw__Mo_joinsOrs : List (List Nat) := [[], [], [], [], [], [], [4097, 0], [], [], [4103, 0], [], [], [], [], [4099, 0], [], [4103, 0], [], [], [], [4097, 0], [], [], [4103, 0], [], [], [], [], [], [4098, 0], [], [], [4103, 0], [], [], [], [], [], [], [], [4098, 0], [], [], [4103, 0], [], [], [], [], [], [], [], [], [4099, 0], [], [4103, 0], [], [], [], [4100, 0], [], [4103, 0], [], [], []]
set_option maxRecDepth 100000 in
theorem zk_Mo_joinsOrs : zc_Mo_joinsOrs.length = zw__Mo_joinsOrs.length ∧ (zc_Mo_joinsOrs.zip zw__Mo_joinsOrs).all (fun q => zck RX10 false cX10_joinsOrs q.1 q.2) = true := by decide +kernel
def zw__Mo_readOperand : List (List Nat) := [[], [], [], [], [], [], [5036, 5038, 32, 0], [], [], [4101, 0], [], [4103, 0], [], [4101, 0], [], [4103, 0], [], [], [], [], [], [], [], [5009, 5011, 27, 0], [], [], [], [5036, 5038, 32, 0], [], [], [5052, 5054, 36, 0], [], [], [4103, 0], [], [4094, 0], [], [], [], [], [5056, 5057, 0], [], [4103, 0], [], [4094, 0], [], [], [], [], [], [], [], [], [5063, 5065, 38, 0], [], [], [], [], [], [4094, 0], [], [], [], [4092, 0], [], [], [], [], [], [], [5019, 5021, 29, 0], [], [4094, 0], [], [], [], [], [4091, 0], [5013, 5015, 28, 0], [], [], [5071, 5073, 40, 0], [], [5076, 5078, 41, 0], [], [5009, 5011, 27, 0], []]
set_option maxRecDepth 100000 in
theorem zk_Mo_readOperand : zc_Mo_readOperand.length = zw__Mo_readOperand.length ∧ (zc_Mo_readOperand.zip zw__Mo_readOperand).all (fun q => zck RX10 false cX10_readOperand q.1 q.2) = true := by decide +kernel
def zw__Mo_readCondition : List (List Nat) := [[], [], [4103, 0], [], [5063, 5065, 38, 0], [], [4094, 0], [], [], [], [], [], [], [], [], [5067, 5069, 39, 0], [], [], [], [], [], [4094, 0], [], [], [4103, 0], [], [], [], [5036, 5038, 32, 0], [], [], [], [], [], [], [], [], [5080, 5082, 42, 0], [], [], [], [], [], [], [4102, 0], [], [], [4097, 0], [], [], [4103, 0], [], [], [], [], [], [], [], [], [], [4103, 0], [], [], [4103, 0], [], [], [4096, 0], [], [], [4096, 0], [], [5076, 5078, 41, 0], [], [5009, 5011, 27, 0], [], [], [4103, 0], [], [], [], [], [], [], [], [], [], [], [], [5036, 5038, 32, 0], [], [], [], [5036, 5038, 32, 0], [], [], [], [], [], [], [], [], [], [5036, 5038, 32, 0], [], [], [5080, 5082, 42, 0], [], [5009, 5011, 27, 0], [], [4094, 0], [], [], [], [], [], [], [], [4094, 0], [], [], [], [4103, 0], [], [], [], [], [], [5019, 5021, 29, 0], [], [4094, 0], [], [], [5080, 5082, 42, 0], [], [], [], [], [], [], [4102, 0], [], [], [4097, 0], [], [], [], [], [], []]
set_option maxRecDepth 100000 in
theorem zk_Mo_readCondition : zc_Mo_readCondition.length = zw__Mo_readCondition.length ∧ (zc_Mo_readCondition.zip zw__Mo_readCondition).all (fun q => zck RX10 false cX10_readCondition q.1 q.2) = true := by decide +kernel
def zw__Mo_placesNow : List (List Nat) := [[], [4077, 0], [], [], [4114, 0], [], [], [], [], []]
set_option maxRecDepth 100000 in
theorem zk_Mo_placesNow : zc_Mo_placesNow.length = zw__Mo_placesNow.length ∧ (zc_Mo_placesNow.zip zw__Mo_placesNow).all (fun q => zck RX10 false cX10_placesNow q.1 q.2) = true := by decide +kernel
def zw__Mo_takes : List (List Nat) := [[], [4105, 0], [], [], [4105, 0], [], [], [], [], [4106, 0], [], [], [4106, 0], [], [], [], [], [4107, 0], [], [], [4107, 0], [], [], [], [], [4108, 0], [], [], [4108, 0], [], [], [], [], [4109, 0], [], [], [4109, 0], [], [], [], [], [4110, 0], [], [], [4110, 0], [], [], [], [], [4111, 0], [], [], [4111, 0], [], [], [], [], [4112, 0], [], [], [], []]
set_option maxRecDepth 100000 in
theorem zk_Mo_takes : zc_Mo_takes.length = zw__Mo_takes.length ∧ (zc_Mo_takes.zip zw__Mo_takes).all (fun q => zck RX10 false cX10_takes q.1 q.2) = true := by decide +kernel
def zw__Mo_sum : List (List Nat) := [[], [], [], [5115], [5116, 5117, 0], []]
set_option maxRecDepth 100000 in
theorem zk_Mo_sum : zc_Mo_sum.length = zw__Mo_sum.length ∧ (zc_Mo_sum.zip zw__Mo_sum).all (fun q => zck RX10 false cX10_sum q.1 q.2) = true := by decide +kernel
def zw__Mo_follows : List (List Nat) := [[], [], [], [], [], [], [], [], [], [], [], [], [], [], [4079, 0], [], [], [4114, 0], [], [], [], [], [], [], [], [], [], [], [], [], []]
set_option maxRecDepth 100000 in
theorem zk_Mo_follows : zc_Mo_follows.length = zw__Mo_follows.length ∧ (zc_Mo_follows.zip zw__Mo_follows).all (fun q => zck RX10 false cX10_follows q.1 q.2) = true := by decide +kernel
def zw__Mo_chains : List (List Nat) := [[], [4112, 0], [], [], [], [], [], [], [5123, 5125, 51, 0], [], [], [], [4107, 0], [], [], [], [4106, 0], [], [], [5111, 5113, 49, 0], [], [4106, 0], [], [], [], [], [4108, 0], [], [], [], [], [4106, 0], [], [], [], [], [], [], [], [4107, 0], [], [], [4107, 0], [], [], [], [4108, 0], [], [], [], [], [4107, 0], [], [], [], [], [], [], [], [4108, 0], [], [], [4108, 0], [], [], [], [], [4108, 0], [], [], [], [], [], [], [], [], [4109, 0], [], [], [4109, 0], [], [], [], [4109, 0], [], [], [5127, 5128, 0], [], [], [4110, 0], [], [], [4110, 0], [], [], [], [4110, 0], [], [], [5127, 5128, 0], [], [], [4111, 0], [], [], [4111, 0], [], [], [], [4111, 0], [], [], [5127, 5128, 0], [], []]
set_option maxRecDepth 100000 in
theorem zk_Mo_chains : zc_Mo_chains.length = zw__Mo_chains.length ∧ (zc_Mo_chains.zip zw__Mo_chains).all (fun q => zck RX10 false cX10_chains q.1 q.2) = true := by decide +kernel
def zw__Mo_chooses : List (List Nat) := [[], [4112, 0], [], [], [], [], [], [], [5123, 5125, 51, 0], [], [], [4106, 0], [], [], [], [], [4106, 0], [], [], [], [], [], [4107, 0], [], [], [], [], [4107, 0], [], [], [], [], [], [4108, 0], [], [], [4108, 0], [], [], [], [], [4108, 0], [], [], [], [], [], [], [], [], [4109, 0], [], [], [4109, 0], [], [], [], [4109, 0], [], [], [5127, 5128, 0], [], [], [4110, 0], [], [], [4110, 0], [], [], [], [4110, 0], [], [], [5116, 5117, 0], [], [], [4111, 0], [], [], [4111, 0], [], [], [], [4111, 0], [], [], [5100, 5101, 0], [], []]
set_option maxRecDepth 100000 in
theorem zk_Mo_chooses : zc_Mo_chooses.length = zw__Mo_chooses.length ∧ (zc_Mo_chooses.zip zw__Mo_chooses).all (fun q => zck RX10 false cX10_chooses q.1 q.2) = true := by decide +kernel
def zw__Mo_onePlace : List (List Nat) := [[], [], [4114, 0], [], [], [], [4077, 0], [], [], [], [], [], [], [4077, 0], [], [], [], [], [], [], [4105, 0], [], [], [], [], [], [4115, 0], [], [], [], [], [], [], [], [], [], [], [4115, 0], [], [4106, 0], [], [], [4115, 0], [], [], [], [], [], [], [], [], [4107, 0], [], [], [4106, 0], [], [], [], [], [4108, 0], [], [], [], [], [4109, 0], [], [], [], [], [4110, 0], [], [], [], [], [4111, 0], [], [], [], [], [4115, 0], [], [], [4077, 0], [], [], [], [], [], [], [], [], [4077, 0], [], [], [], [], [], [], [], [], [], [], [], [], [], [], [4079, 0], [], [], [4114, 0], [], [], [], [], [], [], [], [], [], [], [4102, 0], [], [], [], [], [], [], [4077, 0], [], [], [], [], [], [], [4115, 0], [], [], [], [], [5056, 5057, 0], [], [], []]
set_option maxRecDepth 100000 in
theorem zk_Mo_onePlace : zc_Mo_onePlace.length = zw__Mo_onePlace.length ∧ (zc_Mo_onePlace.zip zw__Mo_onePlace).all (fun q => zck RX10 false cX10_onePlace q.1 q.2) = true := by decide +kernel
def zw__Mo_repeats : List (List Nat) := [[], [4105, 0], [], [], [], [], [5107, 5109, 48, 0], [], [], [], [], [4106, 0], [], [], [], [], [4107, 0], [], [], [], [], [4108, 0], [], [], [], [], [], [4115, 0], [], [], [], [], [], [], [], [], [], [], [], [4115, 0], [], [4115, 0], [], [], [], [], [], [], [], [], [], [], [4114, 0], [], [], [], [], [], [], [], [4079, 0], [], [], [], [], [4079, 0], [], [], [], [], [], [], [], [], [], [], [], [], [], [], [4077, 0], [], [], [4114, 0], [], [], [], [], [], [], [], [], [4077, 0], [], [], [4114, 0], [], [], [], [], [], [], [], [], [], [], [], [], [], [], [4077, 0], [], [], [4114, 0], [], [], [], [], [], [], [], [], [], [], [], [], [], [], [], [], [], [], [], [], [], [], [], [], [], [], [], [], [], [], [], [], [], [], [], [], [], [], [], [], [], [], [5111, 5113, 49, 0], [], [], [], [], [], [], [], [], [], [], [], [], [], [], [], [], [], [], [], [], [], [], [], [], [], [], [], [], [], [], [], [], [], [], [], [4106, 0], [], [], [], [], [4107, 0], [], [], [], [], [4108, 0], [], [], [], [], [], [], [], [], [], [], [4109, 0], [], [], [], [4109, 0], [], [], [], [5115], [5116, 5117, 0], [], [], [4110, 0], [], [], [], [4110, 0], [], [], [], [5115], [5116, 5117, 0], [], [], [4111, 0], [], [], [], [4111, 0], [], [], [], [5115], [5116, 5117, 0], [], []]
set_option maxRecDepth 100000 in
theorem zk_Mo_repeats : zc_Mo_repeats.length = zw__Mo_repeats.length ∧ (zc_Mo_repeats.zip zw__Mo_repeats).all (fun q => zck RX10 false cX10_repeats q.1 q.2) = true := by decide +kernel
def zw__Mo_opensSequence : List (List Nat) := [[], [4112, 0], [], [], [4113, 0], [], [], [], [], [4112, 0], [], [], [4113, 0], [], [], [], []]
set_option maxRecDepth 100000 in
theorem zk_Mo_opensSequence : zc_Mo_opensSequence.length = zw__Mo_opensSequence.length ∧ (zc_Mo_opensSequence.zip zw__Mo_opensSequence).all (fun q => zck RX10 false cX10_opensSequence q.1 q.2) = true := by decide +kernel
def zw__Mo_readBegin : List (List Nat) := [[], [], [5036, 5038, 32, 0], [], [], [5052, 5054, 36, 0], [], [], [4113, 0], [], [4094, 0], [], [], [], [], [5056, 5057, 0], [], [4113, 0], [], [5044, 5046, 34, 0], [], [], [], [5059, 5061, 37, 0], [], [4094, 0], [], [], [5084, 5086, 43, 0], []]
set_option maxRecDepth 100000 in
theorem zk_Mo_readBegin : zc_Mo_readBegin.length = zw__Mo_readBegin.length ∧ (zc_Mo_readBegin.zip zw__Mo_readBegin).all (fun q => zck RX10 false cX10_readBegin q.1 q.2) = true := by decide +kernel
def zw__Mo_readTimes : List (List Nat) := [[], [], [5036, 5038, 32, 0], [], [], [5009, 5011, 27, 0], [], [], [], [5096, 5098, 46, 0], [], [], [], [], [5100, 5101, 0], [], [5096, 5098, 46, 0], [], [], [4094, 0], [], [], [], [], [5103, 5105, 47, 0], []]
set_option maxRecDepth 100000 in
theorem zk_Mo_readTimes : zc_Mo_readTimes.length = zw__Mo_readTimes.length ∧ (zc_Mo_readTimes.zip zw__Mo_readTimes).all (fun q => zck RX10 false cX10_readTimes q.1 q.2) = true := by decide +kernel
def zw__Mo_readEnds : List (List Nat) := [[], [4094, 0], [], [], [], [], [], [], [], [], [5092, 5094, 45, 0], [], [4094, 0], [], [], [], [], [], [], [], [], [], [], [4113, 0], [], [], [5119, 5121, 50, 0], [], [4113, 0], [], [], [], [5036, 5038, 32, 0], [], [], [], [], [], [], [], [], [], [], [4113, 0], [], [], [], [4113, 0], [], [5130, 5132, 52, 0], [], [], [], [4113, 0], [], [], [5123, 5125, 51, 0], [], [], [4113, 0], [], [], [4113, 0], [], [], [4096, 0], [], [], [4096, 0], [], [5009, 5011, 27, 0], [], [4094, 0], [], [], [], [], [], [], []]
set_option maxRecDepth 100000 in
theorem zk_Mo_readEnds : zc_Mo_readEnds.length = zw__Mo_readEnds.length ∧ (zc_Mo_readEnds.zip zw__Mo_readEnds).all (fun q => zck RX10 false cX10_readEnds q.1 q.2) = true := by decide +kernel
def zw__Mo_readSequence : List (List Nat) := [[], [], [4114, 0], [], [], [4113, 0], [], [], [4115, 0], [], [], [], [], [], [], [4077, 0], [], [], [], [], [], [], [], [], [], [], [], [], [], [], [], [4079, 0], [], [], [], [], [], [], [], [], [], [], [5044, 5046, 34, 0], [], [4094, 0], [], [], [], [], [], [], [], [], [5048, 5050, 35, 0], [], [5088, 5090, 44, 0], [], [], [5036, 5038, 32, 0], [], [], [], [5036, 5038, 32, 0], [], [], [], [], [], [], [], [], [], [5036, 5038, 32, 0], [], [], [], [], [4113, 0], [], [], [], [4113, 0], [], [5130, 5132, 52, 0], [], [4112, 0], [], [], [4113, 0], [], [], [], [], [5009, 5011, 27, 0], [], [4094, 0], [], [], [], [], [], [], [], [4094, 0], [], [], [], [4113, 0], [], [], [], [], [], [5019, 5021, 29, 0], [], [4094, 0], [], [], [], [], [5130, 5132, 52, 0], [], [], [5134, 5136, 53, 0], []]
set_option maxRecDepth 100000 in
theorem zk_Mo_readSequence : zc_Mo_readSequence.length = zw__Mo_readSequence.length ∧ (zc_Mo_readSequence.zip zw__Mo_readSequence).all (fun q => zck RX10 false cX10_readSequence q.1 q.2) = true := by decide +kernel
def zw__Mo_isFulfillable : List (List Nat) := [[], [], [], [], [], [], [], [], [], [4077, 0], [], [], [], [], [], [], [], [], [], [], [], [], [], [], [], [], [], [], [], [4079, 0], [], [], [], [], [], [], [], [], [], [], [], [], [], [], []]
set_option maxRecDepth 100000 in
theorem zk_Mo_isFulfillable : zc_Mo_isFulfillable.length = zw__Mo_isFulfillable.length ∧ (zc_Mo_isFulfillable.zip zw__Mo_isFulfillable).all (fun q => zck RX10 false cX10_isFulfillable q.1 q.2) = true := by decide +kernel
def zw__Mo_ends : List (List Nat) := [[], [], [], [], [], [4079, 0], [], [], [], [], [4106, 0], [], [], [], [], [4079, 0], [], [], [], [], [4107, 0], [], [], [], [], [4077, 0], [], [], [], [], [], [], [4109, 0], [], [], [], [], [4077, 0], [], [], [], [], [], [], [4110, 0], [], [], [], [], [4077, 0], [], [], [], [], [], [], [4111, 0], [], [], [], [], [], [], [], [], [], [], [], [4115, 0], [], [], [], [], [], [5107, 5109, 48, 0], [], [], [], [], [5138, 5140, 54, 0], [], [], [4107, 0], [], [], [], [], [], [], [], [], [], [], [4079, 0], [], [], [], [], [], [], [], [], [], [], [], [], [], [], [], [], [], [], [], [], [], [], [], [], [], [], [], [], [], [], [4079, 0], [], [], [], [], [], []]
set_option maxRecDepth 100000 in
theorem zk_Mo_ends : zc_Mo_ends.length = zw__Mo_ends.length ∧ (zc_Mo_ends.zip zw__Mo_ends).all (fun q => zck RX10 false cX10_ends q.1 q.2) = true := by decide +kernel
def zw__Mo_isBegin : List (List Nat) := [[], [4094, 0], [], [], [4092, 0], [], [], [], [], [5036, 5038, 32, 0], [], [], [], [5036, 5038, 32, 0], [], [], [], [5036, 5038, 32, 0], [], [], [], [], []]
set_option maxRecDepth 100000 in
theorem zk_Mo_isBegin : zc_Mo_isBegin.length = zw__Mo_isBegin.length ∧ (zc_Mo_isBegin.zip zw__Mo_isBegin).all (fun q => zck RX10 false cX10_isBegin q.1 q.2) = true := by decide +kernel
def zw__Mo_readPromise : List (List Nat) := [[], [], [5032, 5034, 31, 0], [], [5019, 5021, 29, 0], [], [], [], [], [], [], [], [], [5019, 5021, 29, 0], [], [], [], [], [], [], [], [], [], [4096, 0], [], [4094, 0], [], [], [], [], [], [], [5040, 5042, 33, 0], [], [4108, 0], [], [], [], [], [4081, 0], [], [], [], [], [], [5036, 5038, 32, 0], [5056, 5057, 0], [], [], [4094, 0], [], [], [], [], [5036, 5038, 32, 0], [], [], [], [5036, 5038, 32, 0], [], [], [], [], [], [5019, 5021, 29, 0], [], [5009, 5011, 27, 0], [], [], [], [], [], [], [5040, 5042, 33, 0], [], [4108, 0], [], [], [], [], [4081, 0], [], [], [], [], [], [], [], [5036, 5038, 32, 0], [5056, 5057, 0], [], [], [], [5036, 5038, 32, 0], [], [], [5009, 5011, 27, 0], [], [], [5059, 5061, 37, 0], [], [], [], [], [], [], [4083, 0], [], [], [], [], [], [], [4102, 0], [], [], [], [], [], [], [4094, 0], [], [], [], [], [5036, 5038, 32, 0], [], [5019, 5021, 29, 0], [], [], [], [], [], [], [], [], [], [5019, 5021, 29, 0], [], [], [4077, 0], [], [], [], [], [], [], [], [], [], [4077, 0], [], [], [], [], [], [], [], [], [], [], [], [], [], [], [], [], [5019, 5021, 29, 0], [], [5009, 5011, 27, 0], []]
set_option maxRecDepth 100000 in
theorem zk_Mo_readPromise : zc_Mo_readPromise.length = zw__Mo_readPromise.length ∧ (zc_Mo_readPromise.zip zw__Mo_readPromise).all (fun q => zck RX10 false cX10_readPromise q.1 q.2) = true := by decide +kernel
def zw__Mo_text : List (List Nat) := [[], [], [4094, 0], [], [], [4090, 0], [], [], [], [5009, 5011, 27, 0], [], [4094, 0], [], [], [4092, 0], [], [], [], [5028, 5030, 30, 0], [], [], [], [], [4089, 0], [], [4094, 0], [], [], [], [4095, 0], [], [], [], [], [4084, 0], [], [], [], [], [], [], [4076, 0], [], [], [4077, 0], [], [], [], [], [], [], [], [], [], [], [], [4078, 0], [], [], [4079, 0], [], [], [], [], [], [], [], [], [], [], [], [4080, 0], [], [], [4081, 0], [], [], [], [], [], [], [], [], [], [], [], [4082, 0], [], [], [4083, 0], [], [], [], [], [], [], [4087, 0], [], [], [], [], [4087, 0], [], [], [], [], []]
set_option maxRecDepth 100000 in
theorem zk_Mo_text : zc_Mo_text.length = zw__Mo_text.length ∧ (zc_Mo_text.zip zw__Mo_text).all (fun q => zck RX10 false cX10_text q.1 q.2) = true := by decide +kernel
def zw__Mo_fault : List (List Nat) := [[], [4094, 0], []]
set_option maxRecDepth 100000 in
theorem zk_Mo_fault : zc_Mo_fault.length = zw__Mo_fault.length ∧ (zc_Mo_fault.zip zw__Mo_fault).all (fun q => zck RX10 false cX10_fault q.1 q.2) = true := by decide +kernel
def zw__Mo_isPromise : List (List Nat) := [[], [], [], [], [4084, 0], [], [], [], [4238, 4239, 0], []]
set_option maxRecDepth 100000 in
theorem zk_Mo_isPromise : zc_Mo_isPromise.length = zw__Mo_isPromise.length ∧ (zc_Mo_isPromise.zip zw__Mo_isPromise).all (fun q => zck RX10 false cX10_isPromise q.1 q.2) = true := by decide +kernel
def zw__Mo_isSide : List (List Nat) := [[], [], [], [], [4238, 4239, 0], []]
set_option maxRecDepth 100000 in
theorem zk_Mo_isSide : zc_Mo_isSide.length = zw__Mo_isSide.length ∧ (zc_Mo_isSide.zip zw__Mo_isSide).all (fun q => zck RX10 false cX10_isSide q.1 q.2) = true := by decide +kernel
def zw__Mo_areBits : List (List Nat) := [[], [], [], [5162], [4238, 4239, 0], []]
set_option maxRecDepth 100000 in
theorem zk_Mo_areBits : zc_Mo_areBits.length = zw__Mo_areBits.length ∧ (zc_Mo_areBits.zip zw__Mo_areBits).all (fun q => zck RX10 false cX10_areBits q.1 q.2) = true := by decide +kernel
def zw__Mo_fulfilsOne : List (List Nat) := [[], [4078, 0], [], [], [], [], [], [], [], [], [], [], [], [], [], [], [], [], [], [], [], [], [], [], [], [], [], [], []]
set_option maxRecDepth 100000 in
theorem zk_Mo_fulfilsOne : zc_Mo_fulfilsOne.length = zw__Mo_fulfilsOne.length ∧ (zc_Mo_fulfilsOne.zip zw__Mo_fulfilsOne).all (fun q => zck RX10 false cX10_fulfilsOne q.1 q.2) = true := by decide +kernel
def zw__Mo_fulfilsOff : List (List Nat) := [[], [4080, 0], [], [], [], [], [], [], [], [], [], [4082, 0], [], [], [], [], [], [], [], [], [], [], [], [], [], [], [], [], [], [], [], [], []]
set_option maxRecDepth 100000 in
theorem zk_Mo_fulfilsOff : zc_Mo_fulfilsOff.length = zw__Mo_fulfilsOff.length ∧ (zc_Mo_fulfilsOff.zip zw__Mo_fulfilsOff).all (fun q => zck RX10 false cX10_fulfilsOff q.1 q.2) = true := by decide +kernel
def zw__Mo_findsFulfilling : List (List Nat) := [[], [], [], [], [], [], [], [], [], [], [], [], [], [], [], [4085, 0], [], [], [], [], [], [], [], [], [], [4076, 0], [], [], [], [], [], [], [], [], [], [], [], [4076, 0], [], [], [], [], [], [], [], [], [], [4085, 0], [], [], [], [], [5167, 5169, 58, 0], [], [], [], [], [], [], [], [], [], [], [], [4116, 0], [], [], [], [], [], [], [], [], [], [], [], []]
set_option maxRecDepth 100000 in
theorem zk_Mo_findsFulfilling : zc_Mo_findsFulfilling.length = zw__Mo_findsFulfilling.length ∧ (zc_Mo_findsFulfilling.zip zw__Mo_findsFulfilling).all (fun q => zck RX10 false cX10_findsFulfilling q.1 q.2) = true := by decide +kernel
def zw__Mo_nextOf : List (List Nat) := [[], [], [], [], [], [], [4076, 0], [], [], [], [], [], [], [], [], [], [], [], [], [], [], [], [], [], [4078, 0], [], [], [], [], [], [], [], [], [], [], [], [], [], [], [], []]
set_option maxRecDepth 100000 in
theorem zk_Mo_nextOf : zc_Mo_nextOf.length = zw__Mo_nextOf.length ∧ (zc_Mo_nextOf.zip zw__Mo_nextOf).all (fun q => zck RX10 false cX10_nextOf q.1 q.2) = true := by decide +kernel
def zw__Mo_firstOf : List (List Nat) := [[], [4078, 0], [], [], [], [], [], [], []]
set_option maxRecDepth 100000 in
theorem zk_Mo_firstOf : zc_Mo_firstOf.length = zw__Mo_firstOf.length ∧ (zc_Mo_firstOf.zip zw__Mo_firstOf).all (fun q => zck RX10 false cX10_firstOf q.1 q.2) = true := by decide +kernel
def zw__Mo_isEnd : List (List Nat) := [[], [], [4078, 0], [], [], [], [], [], [], [], [], [], [], [], [], [], []]
set_option maxRecDepth 100000 in
theorem zk_Mo_isEnd : zc_Mo_isEnd.length = zw__Mo_isEnd.length ∧ (zc_Mo_isEnd.zip zw__Mo_isEnd).all (fun q => zck RX10 false cX10_isEnd q.1 q.2) = true := by decide +kernel
def zw__Mo_canEnd : List (List Nat) := [[], [], [4078, 0], [], [], [], [], [], [], [], [], [], [], [], [], [], []]
set_option maxRecDepth 100000 in
theorem zk_Mo_canEnd : zc_Mo_canEnd.length = zw__Mo_canEnd.length ∧ (zc_Mo_canEnd.zip zw__Mo_canEnd).all (fun q => zck RX10 false cX10_canEnd q.1 q.2) = true := by decide +kernel
def zw__Mo_isConditionAsked : List (List Nat) := [[], [], [5154, 5156, 56, 0], [], [], [], [], [5158], [4238, 4239, 0], [], [], [], [], [], [], [], [4080, 0], [], [], [], [], [], [], [], [], [], [], [], [], [], [], [], [], [4076, 0], [], [], [], [], [], [], [], [], [], [], [], [], [], [4238, 4239, 0], []]
set_option maxRecDepth 100000 in
theorem zk_Mo_isConditionAsked : zc_Mo_isConditionAsked.length = zw__Mo_isConditionAsked.length ∧ (zc_Mo_isConditionAsked.zip zw__Mo_isConditionAsked).all (fun q => zck RX10 false cX10_isConditionAsked q.1 q.2) = true := by decide +kernel
def zw__Mo_fulfils : List (List Nat) := [[], [], [], [], [5150, 5152, 55, 0], [], [], [5159, 5160, 0], [], [], [], [], [], [], [], [], [], [5163, 5165, 57, 0], [], [], [], [], [], [], [], [], [], [5167, 5169, 58, 0], [5056, 5057, 0], []]
set_option maxRecDepth 100000 in
theorem zk_Mo_fulfils : zc_Mo_fulfils.length = zw__Mo_fulfils.length ∧ (zc_Mo_fulfils.zip zw__Mo_fulfils).all (fun q => zck RX10 false cX10_fulfils q.1 q.2) = true := by decide +kernel
def zw__Mo_fulfilled : List (List Nat) := [[], [], [], [], [5150, 5152, 55, 0], [], [], [], [], [], [], [], [], [], [], [], [], [], [], [], [], [5175, 5147, 5148, 0], [], [], [], [], [], []]
set_option maxRecDepth 100000 in
theorem zk_Mo_fulfilled : zc_Mo_fulfilled.length = zw__Mo_fulfilled.length ∧ (zc_Mo_fulfilled.zip zw__Mo_fulfilled).all (fun q => zck RX10 false cX10_fulfilled q.1 q.2) = true := by decide +kernel
def zw__Mo_matches : List (List Nat) := [[], [], [5154, 5156, 56, 0], [], [], [5180, 5181, 0], [], [], [], [], [], [4085, 0], [], [], [], [4238, 4239, 0], [], [], [], [], [], [], [], [], [4085, 0], [], [], [], [], [], [], [], [5183, 5185, 59, 0], [], [], [], [], [], [], [], [], [], [], [], [], [], [], [], [], [5187, 5189, 60, 0], [], [], [], [], [], [], [], [], [5191, 5193, 61, 0], [], [4116, 0], [], [], [], [], [], [], [], [], [], [], [], [], [], [], [], [], [], [5195, 5197, 62, 0], [5056, 5057, 0], []]
set_option maxRecDepth 100000 in
theorem zk_Mo_matches : zc_Mo_matches.length = zw__Mo_matches.length ∧ (zc_Mo_matches.zip zw__Mo_matches).all (fun q => zck RX10 false cX10_matches q.1 q.2) = true := by decide +kernel
def zw__Mo_might : List (List Nat) := [[], [], [5154, 5156, 56, 0], [], [], [5180, 5181, 0], [], [], [], [], [], [4085, 0], [], [], [], [4238, 4239, 0], [], [], [], [], [], [5183, 5185, 59, 0], [], [], [], [], [], [], [5187, 5189, 60, 0], [], [], [], [], [], [4085, 0], [], [], [], [], [], [], [], [], [], [], [], [4116, 0], [], [], [], [], [], [], [], [5191, 5193, 61, 0], [], [], [], [], [], [], [], [], [], [], [5203, 5205, 63, 0], [5056, 5057, 0], []]
set_option maxRecDepth 100000 in
theorem zk_Mo_might : zc_Mo_might.length = zw__Mo_might.length ∧ (zc_Mo_might.zip zw__Mo_might).all (fun q => zck RX10 false cX10_might q.1 q.2) = true := by decide +kernel
def zw__Mo_promise : List (List Nat) := [[], [], [5154, 5156, 56, 0], [], [], [], [], [5211], [4238, 4239, 0], [], [], [], [], [], [], [], [4080, 0], [], [], [], [], [], [], [], [], [], [], [], [], [], [], [], [], [], [], [4076, 0], [], [], [], [], [], [], [], [], [], [], [], [], [], [], [], [], [], [], [], []]
set_option maxRecDepth 100000 in
theorem zk_Mo_promise : zc_Mo_promise.length = zw__Mo_promise.length ∧ (zc_Mo_promise.zip zw__Mo_promise).all (fun q => zck RX10 false cX10_promise q.1 q.2) = true := by decide +kernel
def zw__Mo_goesOn : List (List Nat) := [[], [], [], [], [], [], [], [4117, 0], [], [], [], [4116, 0], [], [], [], [], [], [], [], [4117, 0], [], [], [], [], [5191, 5193, 61, 0], [], [], [], [], [5195, 5197, 62, 0], [], [], [4118, 0], [], [], [], [], [4119, 0], [], [], [], [], [], [], [], [], [5232, 5234, 68, 0], []]
set_option maxRecDepth 100000 in
theorem zk_Mo_goesOn : zc_Mo_goesOn.length = zw__Mo_goesOn.length ∧ (zc_Mo_goesOn.zip zw__Mo_goesOn).all (fun q => zck RX10 false cX10_goesOn q.1 q.2) = true := by decide +kernel
def zw__Mo_dies : List (List Nat) := [[], [], [], [4117, 0], [], [], [5203, 5205, 63, 0], [], [], [4118, 0], [], [], [], [], [4119, 0], [], [], [], []]
set_option maxRecDepth 100000 in
theorem zk_Mo_dies : zc_Mo_dies.length = zw__Mo_dies.length ∧ (zc_Mo_dies.zip zw__Mo_dies).all (fun q => zck RX10 false cX10_dies q.1 q.2) = true := by decide +kernel
def zw__Mo_begins : List (List Nat) := [[], [4120, 0], [], [], [], [], [4118, 0], [], [], [], [], [4119, 0], [], [], [], [], [4117, 0], [], [], [], [], [], [], [], [5187, 5189, 60, 0], [], [], [4080, 0], [], [], [], [], [], [], [], [], [], [5228, 5230, 67, 0], [], [], [], [], [], [], [], [], [], [5232, 5234, 68, 0], []]
set_option maxRecDepth 100000 in
theorem zk_Mo_begins : zc_Mo_begins.length = zw__Mo_begins.length ∧ (zc_Mo_begins.zip zw__Mo_begins).all (fun q => zck RX10 false cX10_begins q.1 q.2) = true := by decide +kernel
def zw__Mo_isAny : List (List Nat) := [[], [], [], [], [], [], [], [], [], [], [4120, 0], [], [], [], [], [], [], [], [4118, 0], [], [], [], [], [], [], [], [], [], [], [], []]
set_option maxRecDepth 100000 in
theorem zk_Mo_isAny : zc_Mo_isAny.length = zw__Mo_isAny.length ∧ (zc_Mo_isAny.zip zw__Mo_isAny).all (fun q => zck RX10 false cX10_isAny q.1 q.2) = true := by decide +kernel
def zw__Mo_goesThrough : List (List Nat) := [[], [], [], [], [5187, 5189, 60, 0], [], [], [], [4121, 0], [], [], [4122, 0], [], [], [], [], [4085, 0], [], [], [], [], [], [4116, 0], [], [], [], [], [], [], [], [], [], [5191, 5193, 61, 0], [], [], [], [], [], [], [], [4120, 0], [], [], [], [], [4118, 0], [], [], [], [], [], [], [], [5228, 5230, 67, 0], [], [], [], [4120, 0], [], [], [], [], [], [], [], [], [5195, 5197, 62, 0], [], [], [], [], [5236, 5238, 69, 0], [], [4121, 0], [], [], [], [], [], [], [], [6000, 6002, 70, 0], [4121, 0], [], [], [4121, 0], [], [], [], [], [4122, 0], [], [], []]
set_option maxRecDepth 100000 in
theorem zk_Mo_goesThrough : zc_Mo_goesThrough.length = zw__Mo_goesThrough.length ∧ (zc_Mo_goesThrough.zip zw__Mo_goesThrough).all (fun q => zck RX10 false cX10_goesThrough q.1 q.2) = true := by decide +kernel
def zw__Mo_verdictBy : List (List Nat) := [[], [], [], [4085, 0], [], [], [], [], [5163, 5165, 57, 0], [], [], [], [], [], [], [], [6004, 6006, 71, 0], [], [], [], [], [], [], [], [6004, 6006, 71, 0], [], [], [], [], [], [], [5203, 5205, 63, 0], [], [], [], [], [], [], [], [6004, 6006, 71, 0], [], [], [], [], []]
set_option maxRecDepth 100000 in
theorem zk_Mo_verdictBy : zc_Mo_verdictBy.length = zw__Mo_verdictBy.length ∧ (zc_Mo_verdictBy.zip zw__Mo_verdictBy).all (fun q => zck RX10 false cX10_verdictBy q.1 q.2) = true := by decide +kernel
def zw__Mo_isTick : List (List Nat) := [[], [], [], [], [4085, 0], [], [], [], [], [], [4238, 4239, 0], []]
set_option maxRecDepth 100000 in
theorem zk_Mo_isTick : zc_Mo_isTick.length = zw__Mo_isTick.length ∧ (zc_Mo_isTick.zip zw__Mo_isTick).all (fun q => zck RX10 false cX10_isTick q.1 q.2) = true := by decide +kernel
def zw__Mo_isTry : List (List Nat) := [[], [], [5154, 5156, 56, 0], [], [], [], [5220, 5222, 65, 0], [], [], [], [], [], [5183, 5185, 59, 0], [], [], [], [5224, 5226, 66, 0], [], []]
set_option maxRecDepth 100000 in
theorem zk_Mo_isTry : zc_Mo_isTry.length = zw__Mo_isTry.length ∧ (zc_Mo_isTry.zip zw__Mo_isTry).all (fun q => zck RX10 false cX10_isTry q.1 q.2) = true := by decide +kernel
def zw__Mo_dutiesFrom : List (List Nat) := [[], [], [], [], [], [], [4085, 0], [], [], [], [], [], [4120, 0], [], [], [5056, 5057, 0], [], [], [], [], [], []]
set_option maxRecDepth 100000 in
theorem zk_Mo_dutiesFrom : zc_Mo_dutiesFrom.length = zw__Mo_dutiesFrom.length ∧ (zc_Mo_dutiesFrom.zip zw__Mo_dutiesFrom).all (fun q => zck RX10 false cX10_dutiesFrom q.1 q.2) = true := by decide +kernel
def zw__Mo_verdict : List (List Nat) := [[], [], [], [5216, 5218, 64, 0], [], [], [4121, 0], [], [], []]
set_option maxRecDepth 100000 in
theorem zk_Mo_verdict : zc_Mo_verdict.length = zw__Mo_verdict.length ∧ (zc_Mo_verdict.zip zw__Mo_verdict).all (fun q => zck RX10 false cX10_verdict q.1 q.2) = true := by decide +kernel
def zw__Mo_decided : List (List Nat) := [[], [], [], [5216, 5218, 64, 0], [], [], [4122, 0], [], [], []]
set_option maxRecDepth 100000 in
theorem zk_Mo_decided : zc_Mo_decided.length = zw__Mo_decided.length ∧ (zc_Mo_decided.zip zw__Mo_decided).all (fun q => zck RX10 false cX10_decided q.1 q.2) = true := by decide +kernel
def zw__Mo_duties : List (List Nat) := [[], [], [], [5216, 5218, 64, 0], [], [], [], [6016, 6018, 72, 0], [], [], []]
set_option maxRecDepth 100000 in
theorem zk_Mo_duties : zc_Mo_duties.length = zw__Mo_duties.length ∧ (zc_Mo_duties.zip zw__Mo_duties).all (fun q => zck RX10 false cX10_duties q.1 q.2) = true := by decide +kernel
def zw__Mo_duty : List (List Nat) := [[], [], [], [5216, 5218, 64, 0], [], [], [], [], [], [], [5158], [4238, 4239, 0], [], [], [], [], [], [], [], [], [], [4085, 0], [], [], [], [], [4120, 0], [], [], [], [], [], [], [], [], [], [], [], [], [], [4118, 0], [], [], [], [], [4119, 0], [], [], [], [], [], [], [], []]
set_option maxRecDepth 100000 in
theorem zk_Mo_duty : zc_Mo_duty.length = zw__Mo_duty.length ∧ (zc_Mo_duty.zip zw__Mo_duty).all (fun q => zck RX10 false cX10_duty q.1 q.2) = true := by decide +kernel
def zw__Mo_triesOf : List (List Nat) := [[], [], [], [], [5183, 5185, 59, 0], [], [], [], [], [4085, 0], [], [], [], [], [], [], [5224, 5226, 66, 0], [], [], [4121, 0], [], [], [], [], [], [5056, 5057, 0], [], [], [], [], [], []]
set_option maxRecDepth 100000 in
theorem zk_Mo_triesOf : zc_Mo_triesOf.length = zw__Mo_triesOf.length ∧ (zc_Mo_triesOf.zip zw__Mo_triesOf).all (fun q => zck RX10 false cX10_triesOf q.1 q.2) = true := by decide +kernel
def zw__Mo_tries : List (List Nat) := [[], [], [5154, 5156, 56, 0], [], [], [], [], [6028], [4238, 4239, 0], [], [], [], [], [6029, 6031, 73, 0], [], [], []]
set_option maxRecDepth 100000 in
theorem zk_Mo_tries : zc_Mo_tries.length = zw__Mo_tries.length ∧ (zc_Mo_tries.zip zw__Mo_tries).all (fun q => zck RX10 false cX10_tries q.1 q.2) = true := by decide +kernel
def zw__Mo_first : List (List Nat) := [[], [], [5154, 5156, 56, 0], [], [], [], [], [6028], [4238, 4239, 0], [], [], [], [], [], [5183, 5185, 59, 0], [], [], [], [], [4085, 0], [], [], [], [], [], [], [5224, 5226, 66, 0], [], [4121, 0], [], [], [], [], [], [], [], []]
set_option maxRecDepth 100000 in
theorem zk_Mo_first : zc_Mo_first.length = zw__Mo_first.length ∧ (zc_Mo_first.zip zw__Mo_first).all (fun q => zck RX10 false cX10_first q.1 q.2) = true := by decide +kernel
def zw__Mo_allDuties : List (List Nat) := [[], [], [], [], [], [], [4084, 0], [], [], [], [5183, 5185, 59, 0], [], [], [], [], [4085, 0], [], [], [], [], [], [], [5224, 5226, 66, 0], [], [], [], [6016, 6018, 72, 0], [], [], [], [], [], [], [], []]
set_option maxRecDepth 100000 in
theorem zk_Mo_allDuties : zc_Mo_allDuties.length = zw__Mo_allDuties.length ∧ (zc_Mo_allDuties.zip zw__Mo_allDuties).all (fun q => zck RX10 false cX10_allDuties q.1 q.2) = true := by decide +kernel
def zw__Mo_allTries : List (List Nat) := [[], [], [], [], [], [], [4084, 0], [], [], [], [], [], [6029, 6031, 73, 0], [], [], [], [], [], []]
set_option maxRecDepth 100000 in
theorem zk_Mo_allTries : zc_Mo_allTries.length = zw__Mo_allTries.length ∧ (zc_Mo_allTries.zip zw__Mo_allTries).all (fun q => zck RX10 false cX10_allTries q.1 q.2) = true := by decide +kernel
def zw__Mo_rule : List (List Nat) := [[], [], [], [6041], [4238, 4239, 0], [], [], [], [], [], [], [4084, 0], [], [], [], [], [], [4085, 0], [], [], [], [], [], [], [], [6042, 6044, 74, 0], [], [], [], [], [], [6046, 6048, 75, 0], []]
set_option maxRecDepth 100000 in
theorem zk_Mo_rule : zc_Mo_rule.length = zw__Mo_rule.length ∧ (zc_Mo_rule.zip zw__Mo_rule).all (fun q => zck RX10 false cX10_rule q.1 q.2) = true := by decide +kernel
def zw__Mo_failedBy : List (List Nat) := [[], [], [], [], [], [], [4084, 0], [], [], [], [5183, 5185, 59, 0], [], [], [], [], [], [], [], [], [5224, 5226, 66, 0], [], [], [4121, 0], [], [], [], [4122, 0], [], [], [], [], [], [5056, 5057, 0], [], [], [], [], [], [], [], []]
set_option maxRecDepth 100000 in
theorem zk_Mo_failedBy : zc_Mo_failedBy.length = zw__Mo_failedBy.length ∧ (zc_Mo_failedBy.zip zw__Mo_failedBy).all (fun q => zck RX10 false cX10_failedBy q.1 q.2) = true := by decide +kernel
def zw__Mo_tick : List (List Nat) := [[], [5159, 5160, 0], [], [], [], [], [4085, 0], [], [], [], [], [], [], [], [4085, 0], [], [], [4085, 0], [], [], [], [], [], [], [4085, 0], [], [], [], [], [], [], [], [], [4085, 0], [], [], [], [], [6054, 6056, 76, 0], []]
set_option maxRecDepth 100000 in
theorem zk_Mo_tick : zc_Mo_tick.length = zw__Mo_tick.length ∧ (zc_Mo_tick.zip zw__Mo_tick).all (fun q => zck RX10 false cX10_tick q.1 q.2) = true := by decide +kernel
def zw__Mo_bits : List (List Nat) := [[], [], [5220, 5222, 65, 0], [], [], [4085, 0], [], [], [], [], [], [], []]
set_option maxRecDepth 100000 in
theorem zk_Mo_bits : zc_Mo_bits.length = zw__Mo_bits.length ∧ (zc_Mo_bits.zip zw__Mo_bits).all (fun q => zck RX10 false cX10_bits q.1 q.2) = true := by decide +kernel
def zw__Mo_put : List (List Nat) := [[], [], [5220, 5222, 65, 0], [], [], [5159, 5160, 0], [], [], [], [], [4085, 0], [], [], [], [], [], [], [4085, 0], [], [], [], [], [], [], []]
set_option maxRecDepth 100000 in
theorem zk_Mo_put : zc_Mo_put.length = zw__Mo_put.length ∧ (zc_Mo_put.zip zw__Mo_put).all (fun q => zck RX10 false cX10_put q.1 q.2) = true := by decide +kernel
def zw__Mo_keeps : List (List Nat) := [[], [], [], [], [4085, 0], [], [], [], [4238, 4239, 0], [], [], [], [], [4085, 0], [], [], [], [], [4085, 0], [], [], [], [], []]
set_option maxRecDepth 100000 in
theorem zk_Mo_keeps : zc_Mo_keeps.length = zw__Mo_keeps.length ∧ (zc_Mo_keeps.zip zw__Mo_keeps).all (fun q => zck RX10 false cX10_keeps q.1 q.2) = true := by decide +kernel
def zw__Mo_gets : List (List Nat) := [[], [], [4123, 0], [6079], [], [], [], [4123, 0], [], [4123, 0], [], [], [], [], []]
set_option maxRecDepth 100000 in
theorem zk_Mo_gets : zc_Mo_gets.length = zw__Mo_gets.length ∧ (zc_Mo_gets.zip zw__Mo_gets).all (fun q => zck RX10 false cX10_gets q.1 q.2) = true := by decide +kernel
def zw__Mo_draw : List (List Nat) := [[], [], [], [6074], [4238, 4239, 0], [], [], [], [], [4085, 0], [], [], [], [], [], [], [], [], [], [], [4123, 0], [], [], [], [], [], [], [6075, 6077, 77, 0], [], [], [], [], [4085, 0], [], [], [4085, 0], [], [], [], [], [], [6075, 6077, 77, 0], [], [], [], [], [], [4085, 0], [], [], [], [], [], [], [], [], [], [4085, 0], [], [], []]
set_option maxRecDepth 100000 in
theorem zk_Mo_draw : zc_Mo_draw.length = zw__Mo_draw.length ∧ (zc_Mo_draw.zip zw__Mo_draw).all (fun q => zck RX10 false cX10_draw q.1 q.2) = true := by decide +kernel
def zw__Mo_keep : List (List Nat) := [[], [], [], [], [4238, 4239, 0], [], [], [], [], [4087, 0], [], [], [5056, 5057, 0], [], [], [4087, 0], [], [], [], [], [], [], [], [], [], [4086, 0], [], [], [], [], [], [], [4085, 0], [], [], [], [], [], [], []]
set_option maxRecDepth 100000 in
theorem zk_Mo_keep : zc_Mo_keep.length = zw__Mo_keep.length ∧ (zc_Mo_keep.zip zw__Mo_keep).all (fun q => zck RX10 false cX10_keep q.1 q.2) = true := by decide +kernel
def zw__Mo_back : List (List Nat) := [[], [], [], [], [4238, 4239, 0], [], [], [], [], [4087, 0], [], [], [], [], [], [], [], [], [], [], [], [4085, 0], [], [], [4086, 0], [], [], [], [], [], [], [], [], [], [], [4085, 0], [], [], []]
set_option maxRecDepth 100000 in
theorem zk_Mo_back : zc_Mo_back.length = zw__Mo_back.length ∧ (zc_Mo_back.zip zw__Mo_back).all (fun q => zck RX10 false cX10_back q.1 q.2) = true := by decide +kernel
def zw__Mo_isSheet : List (List Nat) := [[], [], [], [6095], [4238, 4239, 0], [], [], [], [], [5158], [4238, 4239, 0], [], [], [], [], []]
set_option maxRecDepth 100000 in
theorem zk_Mo_isSheet : zc_Mo_isSheet.length = zw__Mo_isSheet.length ∧ (zc_Mo_isSheet.zip zw__Mo_isSheet).all (fun q => zck RX10 false cX10_isSheet q.1 q.2) = true := by decide +kernel
def zw__Mo_sheet : List (List Nat) := [[], [], [6092, 6093, 0], [], [], [], [], [], [], [], [], [], [], [], [4124, 0], [], [], [], [], [4125, 0], [], [], [], [], [], [], [], [], [], [4126, 0], [], [], [], [], [], [], [], [], [], [], []]
set_option maxRecDepth 100000 in
theorem zk_Mo_sheet : zc_Mo_sheet.length = zw__Mo_sheet.length ∧ (zc_Mo_sheet.zip zw__Mo_sheet).all (fun q => zck RX10 false cX10_sheet q.1 q.2) = true := by decide +kernel
def zw__Mo_lay : List (List Nat) := [[], [], [6092, 6093, 0], [], [], [], [], [4124, 0], [], [], [], [], [], [], [], [], [], [], [4125, 0], [], [], [], [], [], [4238, 4239, 0], [], [], [], [], [4126, 0], [], [], [], [], [], [], [4124, 0], [], [], [], [], [], [], [], [4124, 0], [], [], [], [], [], [6100], [], [], [], [], [], []]
set_option maxRecDepth 100000 in
theorem zk_Mo_lay : zc_Mo_lay.length = zw__Mo_lay.length ∧ (zc_Mo_lay.zip zw__Mo_lay).all (fun q => zck RX10 false cX10_lay q.1 q.2) = true := by decide +kernel
def zw__Mo_run : List (List Nat) := [[], [], [6092, 6093, 0], [], [], [], [], [6074], [4238, 4239, 0], [], [], [], [], [], [], [], [4127, 0], [], [], [], [], [4127, 0], [], [], [4085, 0], [], [], [], [], [], [], [], [], [], [], [], [], [4124, 0], [], [], [], [], [], [], [], [4124, 0], [], [], [], [], [], [], [], [], [], [4125, 0], [], [], [], [], [], [4238, 4239, 0], [], [], [], [], [4127, 0], [], [4127, 0], [], [], [4085, 0], [], [], [4085, 0], [], [], [], [], [4126, 0], [], [], [], [], [], [], [], [], [], [], [], [4085, 0], [], [], [], [], [], [], [], [], [], []]
set_option maxRecDepth 100000 in
theorem zk_Mo_run : zc_Mo_run.length = zw__Mo_run.length ∧ (zc_Mo_run.zip zw__Mo_run).all (fun q => zck RX10 false cX10_run q.1 q.2) = true := by decide +kernel
def zw__Mo_torn : List (List Nat) := [[], [4127, 0], []]
set_option maxRecDepth 100000 in
theorem zk_Mo_torn : zc_Mo_torn.length = zw__Mo_torn.length ∧ (zc_Mo_torn.zip zw__Mo_torn).all (fun q => zck RX10 false cX10_torn q.1 q.2) = true := by decide +kernel
def zw__Mo_count : List (List Nat) := [[], [], [], [4087, 0], [], [], [5056, 5057, 0], [], [4087, 0], [], [], [5056, 5057, 0], [], [], [], [4089, 0], [], [], [4124, 0], [], [], [], [], [], [], [], [4125, 0], [], [], [], [], []]
set_option maxRecDepth 100000 in
theorem zk_Mo_count : zc_Mo_count.length = zw__Mo_count.length ∧ (zc_Mo_count.zip zw__Mo_count).all (fun q => zck RX10 false cX10_count q.1 q.2) = true := by decide +kernel
def zw__JL_bitCount : List (List Nat) := [[], [], [], [], [3020], [], [], [], [], [3021], [], [], [], [], [3021], [], [], [], [], [], [], [], [], [3022], [], [], [], [], [], [], [], [], [], [], [], [], [], [], [], [], [], [], [], [], [], [], [], [], []]
set_option maxRecDepth 100000 in
theorem zk_JL_bitCount : zc_JL_bitCount.length = zw__JL_bitCount.length ∧ (zc_JL_bitCount.zip zw__JL_bitCount).all (fun q => zck RJ13 false cJ13_bitCount_95d88 q.1 q.2) = true := by decide +kernel
end
section
def zw__La_law : List (List Nat) := [[1015, 1016, 1001], [], [1017, 1018, 0], [], [4064, 4065, 1011], [], [4066, 4067, 0], [], [], [], [], [], [], [], [], [], [], [], [], [], [], [], [], [], [], [], [], [], [2085, 2086, 2087, 0], [], [], [], [], [], [], [4233, 4234, 4235, 0], [], [], [], [], [], [], [], [], [], [2089, 2090, 2091, 0], [], [], [], [], [], [], [5001, 5002, 5003, 0], [], [], [], [], [2093, 2094, 2095, 0], [], [5005, 5006, 5007, 0], [], [], [], [], [3036, 3037, 3038, 0], [], [5142, 5143, 5144, 0], [], [], [], [], [], [], [], [], [], [3040, 3041, 3042, 0], [], [], [], [], [], [], [6037, 6038, 6039, 0], [], [], [], [], [], [], [], [], [], [], [], [], [], [], [3114, 3115, 3116, 0], [], [], [], [], [], [], [], [], [], [], [], [5207, 5208, 5209, 0], [], [], [], [], [], [], [], [], [], [], [], [], [], [], [], [], [], [], [], [], [], [], [], [], [3122, 3123, 3124, 0], [], [], [], [], [], [], [], [], [], [], [], [], [], [], [], [], [], [], [], [], [], [5146, 5147, 5148, 0], [], [], [], [], [], [], [], [], [], [], [], [], [], [], [], [], [], [], [], [3141, 3142, 3143, 0], [], [], [], [], [], [], [], [], [], [], [], [], [], [], [], [], [5171, 5172, 5173, 0], [], [], [], [], [], [], [], [], [], [], [], [], [], [], [], [], [], [], [], [], [], [], [], [], [3146, 3147, 3148, 0], [], [], [], [], [], [], [], [], [], [], [], [], [], [], [], [], [], [], [], [], [], [5176, 5177, 5178, 0], [], [], [], [], [], [], [], [], [], [], [], [], [], [], [], [], [], [], [], [3157, 3158, 3159, 0], [], [], [], [], [], [], [], [], [], [], [], [], [], [], [], [], [5199, 5200, 5201, 0], [], [], [], [], [], [], [], [], [], [3162, 3163, 3164, 0], [], [], [], [], [], [], [6050, 6051, 6052, 0], [], [], [], [], [], [], [], [], [], [3174, 3175, 3176, 0], [], [], [], [], [], [], [6058, 6059, 6060, 0], [], [], [], [], [], [], [], [], [], [], [], [], [], [], [3182, 3183, 3184, 0], [], [], [], [], [], [], [], [], [], [], [], [6062, 6063, 6064, 0], [], [], [], [], [], [], [], [], [], [3186, 3187, 3188, 0], [], [], [], [], [], [], [6066, 6067, 6068, 0], [], [], [], [], [], [], [], [], [], [], [], [], [], [], [3190, 3191, 3192, 0], [], [], [], [], [], [], [], [], [], [], [], [6070, 6071, 6072, 0], [], [], [], [], [], [], [], [], [], [], [], [], [], [], [3201, 3202, 3203, 0], [], [], [], [], [], [], [], [], [], [], [], [5212, 5213, 5214, 0], [], [], [], [], [], [], [], [], [], [], [], [], [], [], [3209, 3210, 3211, 0], [], [], [], [], [], [], [], [], [], [], [], [6008, 6009, 6010, 0], [], [], [], [], [], [], [], [], [], [], [], [], [], [], [3213, 3214, 3215, 0], [], [], [], [], [], [], [], [], [], [], [], [6012, 6013, 6014, 0], [], [], [], [], [], [], [], [], [], [], [], [], [], [], [], [], [], [], [], [], [], [], [], [], [3217, 3218, 3219, 0], [], [], [], [], [], [], [], [], [], [], [], [], [], [], [], [], [], [], [], [], [], [6020, 6021, 6022, 0], [], [], [], [], [], [], [], [], [], [], [], [], [], [], [3229, 3230, 3231, 0], [], [], [], [], [], [], [], [], [], [], [], [6024, 6025, 6026, 0], [], [], [], [], [], [], [], [], [], [], [], [], [], [], [3236, 3237, 3238, 0], [], [], [], [], [], [], [], [], [], [], [], [6033, 6034, 6035, 0], [], [], [], [], [], [], [], [], [], [4004, 4005, 4006, 0], [], [], [], [], [], [], [6080, 6081, 6082, 0], [], [], [], [], [], [], [], [], [], [4018, 4019, 4020, 0], [], [], [], [], [], [], [6084, 6085, 6086, 0], [], [], [], [], [], [], [], [], [], [], [], [], [], [], [], [], [], [], [], [4022, 4023, 4024, 0], [], [], [], [], [], [], [], [], [], [], [], [], [], [], [], [], [6088, 6089, 6090, 0], [], [], [], [], [], [], [], [], [], [], [], [], [], [], [], [], [], [], [], [4036, 4037, 4038, 0], [], [], [], [], [], [], [], [], [], [], [], [], [], [], [], [], [6096, 6097, 6098, 0], [], [], [], [], [], [], [], [], [], [], [], [], [], [], [], [], [], [], [], [], [], [], [], [], [4048, 4049, 4050, 0], [], [], [], [], [], [], [], [], [], [], [], [], [], [], [], [], [], [], [], [], [], [6101, 6102, 6103, 0], [], [], [], [], [4052, 4053, 4054, 0], [], [6105, 6106, 6107, 0], [], [], [], [], [], [], [], [], [], [4056, 4057, 4058, 0], [], [], [], [], [], [], [6109, 6110, 6111, 0], [], [], [], [], [], [], []]
theorem zk_La_law_len : zc_La_law.length = zw__La_law.length := by decide +kernel
set_option maxRecDepth 100000 in
theorem zk_La_law_0 : (((zc_La_law.zip zw__La_law).drop 0).take 60).all (fun q => zck RL false cL_law q.1 q.2) = true := by decide +kernel
set_option maxRecDepth 100000 in
theorem zk_La_law_1 : (((zc_La_law.zip zw__La_law).drop 60).take 60).all (fun q => zck RL false cL_law q.1 q.2) = true := by decide +kernel
set_option maxRecDepth 100000 in
theorem zk_La_law_2 : (((zc_La_law.zip zw__La_law).drop 120).take 60).all (fun q => zck RL false cL_law q.1 q.2) = true := by decide +kernel
set_option maxRecDepth 100000 in
theorem zk_La_law_3 : (((zc_La_law.zip zw__La_law).drop 180).take 60).all (fun q => zck RL false cL_law q.1 q.2) = true := by decide +kernel
set_option maxRecDepth 100000 in
theorem zk_La_law_4 : (((zc_La_law.zip zw__La_law).drop 240).take 60).all (fun q => zck RL false cL_law q.1 q.2) = true := by decide +kernel
set_option maxRecDepth 100000 in
theorem zk_La_law_5 : (((zc_La_law.zip zw__La_law).drop 300).take 60).all (fun q => zck RL false cL_law q.1 q.2) = true := by decide +kernel
set_option maxRecDepth 100000 in
theorem zk_La_law_6 : (((zc_La_law.zip zw__La_law).drop 360).take 60).all (fun q => zck RL false cL_law q.1 q.2) = true := by decide +kernel
set_option maxRecDepth 100000 in
theorem zk_La_law_7 : (((zc_La_law.zip zw__La_law).drop 420).take 60).all (fun q => zck RL false cL_law q.1 q.2) = true := by decide +kernel
set_option maxRecDepth 100000 in
theorem zk_La_law_8 : (((zc_La_law.zip zw__La_law).drop 480).take 60).all (fun q => zck RL false cL_law q.1 q.2) = true := by decide +kernel
set_option maxRecDepth 100000 in
theorem zk_La_law_9 : (((zc_La_law.zip zw__La_law).drop 540).take 60).all (fun q => zck RL false cL_law q.1 q.2) = true := by decide +kernel
set_option maxRecDepth 100000 in
theorem zk_La_law_10 : (((zc_La_law.zip zw__La_law).drop 600).take 60).all (fun q => zck RL false cL_law q.1 q.2) = true := by decide +kernel
set_option maxRecDepth 100000 in
theorem zk_La_law_11 : (((zc_La_law.zip zw__La_law).drop 660).take 60).all (fun q => zck RL false cL_law q.1 q.2) = true := by decide +kernel
set_option maxRecDepth 100000 in
theorem zk_La_law_12 : (((zc_La_law.zip zw__La_law).drop 720).take 60).all (fun q => zck RL false cL_law q.1 q.2) = true := by decide +kernel
theorem zall_cut {α : Type} {f : α → Bool} {l : List α} (a n : Nat) (h1 : ((l.drop a).take n).all f = true) (h2 : (l.drop (a + n)).all f = true) : (l.drop a).all f = true := by
  have e : l.drop a = (l.drop a).take n ++ l.drop (a + n) := by
    rw [← List.drop_drop]; exact (List.take_append_drop n (l.drop a)).symm
  rw [e, List.all_append, h1, h2]; rfl
theorem zk_La_law : zc_La_law.length = zw__La_law.length ∧ (zc_La_law.zip zw__La_law).all (fun q => zck RL false cL_law q.1 q.2) = true := by
  refine ⟨zk_La_law_len, ?_⟩
  refine zall_cut 0 60 zk_La_law_0 ?_
  refine zall_cut 60 60 zk_La_law_1 ?_
  refine zall_cut 120 60 zk_La_law_2 ?_
  refine zall_cut 180 60 zk_La_law_3 ?_
  refine zall_cut 240 60 zk_La_law_4 ?_
  refine zall_cut 300 60 zk_La_law_5 ?_
  refine zall_cut 360 60 zk_La_law_6 ?_
  refine zall_cut 420 60 zk_La_law_7 ?_
  refine zall_cut 480 60 zk_La_law_8 ?_
  refine zall_cut 540 60 zk_La_law_9 ?_
  refine zall_cut 600 60 zk_La_law_10 ?_
  refine zall_cut 660 60 zk_La_law_11 ?_
  refine zall_cut 720 60 zk_La_law_12 ?_
  decide +kernel
end
section
/-! the abstract memory in the machine's heap -/
def zv (ad : Nat → Nat) (v : Value) : Value := match v with
  | .ref a => .ref (ad a)
  | v => v
theorem zv_cat (ad : Nat → Nat) (v : Value) : (zv ad v).category = v.category := by cases v <;> rfl
def zad (t0 b0 base k : Nat) : Nat := if k = 0 then t0 else if k = 1 then b0 else base + (k - 2)
theorem zad_2 {t0 b0 base k : Nat} (h : 2 ≤ k) : zad t0 b0 base k = base + (k - 2) := by
  unfold zad; rw [if_neg (by omega), if_neg (by omega)]
theorem zad_lt {t0 b0 base k : Nat} (h0 : t0 < base) (h1 : b0 < base) (h : k < 2) : zad t0 b0 base k < base := by
  unfold zad
  by_cases a : k = 0
  · rw [if_pos a]; exact h0
  · rw [if_neg a, if_pos (by omega)]; exact h1
theorem zad_ne {t0 b0 base a b : Nat} (h0 : t0 < base) (h1 : b0 < base) (ha : 2 ≤ a) (hab : b ≠ a) : zad t0 b0 base b ≠ zad t0 b0 base a := by
  rw [zad_2 ha]
  by_cases hb : 2 ≤ b
  · rw [zad_2 hb]; omega
  · have := zad_lt (base := base) h0 h1 (k := b) (by omega)
    omega
/-! locals -/
def zLoc (ad : Nat → Nat) (ls : Array Slot) (nL : Nat) (l : zLs) : Prop := ls.size = nL ∧ l.length = nL ∧ lv_wf ls ∧ ∀ (i : Nat) (v : Value), l[i]? = some (some v) → ls[i]? = some (.val (zv ad v))
def zlv (ad : Nat → Nat) (l : zLs) : List (Nat × Value) := (List.range l.length).filterMap (fun i => match l[i]? with
  | some (some v) => some (i, zv ad v)
  | _ => none)
theorem zlv_mem {ad : Nat → Nat} {l : zLs} {i : Nat} {v : Value} (h : l[i]? = some (some v)) : (i, zv ad v) ∈ zlv ad l := by
  unfold zlv
  refine List.mem_filterMap.mpr ⟨i, List.mem_range.mpr (List.getElem?_eq_some_iff.mp h).1, ?_⟩
  rw [h]
theorem zlv_of {ad : Nat → Nat} {l : zLs} {q : Nat × Value} (h : q ∈ zlv ad l) : ∃ v, l[q.1]? = some (some v) ∧ q.2 = zv ad v := by
  unfold zlv at h
  obtain ⟨i, -, hi⟩ := List.mem_filterMap.mp h
  split at hi
  · rename_i v hv
    cases hi
    exact ⟨v, hv, rfl⟩
  · cases hi
theorem zLoc.has {ad : Nat → Nat} {ls : Array Slot} {nL : Nat} {l : zLs} (h : zLoc ad ls nL l) : lv_has ls nL (zlv ad l) := by
  refine ⟨h.1, h.2.2.1, fun q hq => ?_⟩
  obtain ⟨v, h1, h2⟩ := zlv_of hq
  rw [h2]
  exact h.2.2.2 _ _ h1
theorem zcut_length (l : zLs) (i : Nat) : (zcut l i).length = l.length := by
  cases i with
  | zero => rfl
  | succ j =>
    unfold zcut
    dsimp only
    split
    · split <;> simp
    · rfl
theorem zcut_get {l : zLs} {i j : Nat} {w : Value} (h : (zcut l i)[j]? = some (some w)) : l[j]? = some (some w) ∧ ¬ (j + 1 = i ∧ w.category = 2) := by
  cases i with
  | zero => exact ⟨h, fun q => by omega⟩
  | succ k =>
    unfold zcut at h
    dsimp only at h
    split at h
    · rename_i v hv
      split at h
      · rename_i hc
        by_cases hj : j = k
        · subst hj
          simp [List.getElem?_set] at h
        · rw [List.getElem?_set_ne (fun q => hj q.symm)] at h
          exact ⟨h, fun q => hj (by omega)⟩
      · rename_i hc
        refine ⟨h, fun q => ?_⟩
        have : j = k := by omega
        subst this
        rw [hv] at h
        cases h
        exact hc q.2
    · rename_i hn
      refine ⟨h, fun q => ?_⟩
      have : j = k := by omega
      subst this
      exact hn w h
theorem zLoc.st1 {ad : Nat → Nat} {ls' : Array Slot} {nL : Nat} {l : zLs} {i : Nat} {v : Value} (hl : l.length = nL) (h : lv_has ls' nL ((i, zv ad v) :: (zlv ad l).filter (fun q => !(q.1 == i) && !(q.1 + 1 == i && q.2.category == 2)))) : zLoc ad ls' nL (zst1 l i v) := by
  refine ⟨h.1, by unfold zst1; rw [List.length_set, zcut_length]; exact hl, h.2.1, fun j w hj => ?_⟩
  unfold zst1 at hj
  by_cases hji : j = i
  · subst hji
    have hlt : j < (zcut l j).length := by
      have := (List.getElem?_eq_some_iff.mp hj).1
      rwa [List.length_set] at this
    rw [List.getElem?_set_self hlt] at hj
    cases hj
    exact h.2.2 (j, zv ad v) List.mem_cons_self
  · rw [List.getElem?_set_ne (fun q => hji q.symm)] at hj
    obtain ⟨h1, h2⟩ := zcut_get hj
    refine h.2.2 (j, zv ad w) (List.mem_cons_of_mem _ (List.mem_filter.mpr ⟨zlv_mem h1, ?_⟩))
    simp only [Bool.and_eq_true, Bool.not_eq_true', beq_eq_false_iff_ne, ne_eq, Bool.and_eq_false_iff, zv_cat]
    refine ⟨hji, ?_⟩
    by_cases q : j + 1 = i
    · exact Or.inr (fun z => h2 ⟨q, z⟩)
    · exact Or.inl q
theorem zLoc.st2 {ad : Nat → Nat} {ls' : Array Slot} {nL : Nat} {l : zLs} {i : Nat} {v : Value} (hl : l.length = nL) (h : lv_has ls' nL ((i, zv ad v) :: (zlv ad l).filter (fun q => !(q.1 == i) && (!(q.1 == i + 1) && !(q.1 + 1 == i && q.2.category == 2))))) : zLoc ad ls' nL (zst2 l i v) := by
  refine ⟨h.1, by unfold zst2; rw [List.length_set, List.length_set, zcut_length]; exact hl, h.2.1, fun j w hj => ?_⟩
  unfold zst2 at hj
  by_cases hj1 : j = i + 1
  · subst hj1
    exfalso
    have hlt := (List.getElem?_eq_some_iff.mp hj).1
    rw [List.length_set] at hlt
    rw [List.getElem?_set_self hlt] at hj
    cases hj
  rw [List.getElem?_set_ne (fun q => hj1 q.symm)] at hj
  by_cases hji : j = i
  · subst hji
    have hlt : j < (zcut l j).length := by
      have := (List.getElem?_eq_some_iff.mp hj).1
      rwa [List.length_set] at this
    rw [List.getElem?_set_self hlt] at hj
    cases hj
    exact h.2.2 (j, zv ad v) List.mem_cons_self
  · rw [List.getElem?_set_ne (fun q => hji q.symm)] at hj
    obtain ⟨h1, h2⟩ := zcut_get hj
    refine h.2.2 (j, zv ad w) (List.mem_cons_of_mem _ (List.mem_filter.mpr ⟨zlv_mem h1, ?_⟩))
    simp only [Bool.and_eq_true, Bool.not_eq_true', beq_eq_false_iff_ne, ne_eq, Bool.and_eq_false_iff, zv_cat]
    refine ⟨hji, hj1, ?_⟩
    by_cases q : j + 1 = i
    · exact Or.inr (fun z => h2 ⟨q, z⟩)
    · exact Or.inl q
theorem zforget_length : ∀ (ds : List Nat) (l : zLs), (zforget ds l).length = l.length
  | [], _ => rfl
  | i :: ds, l => by unfold zforget; rw [zforget_length ds, List.length_set]
theorem zforget_get : ∀ (ds : List Nat) (l : zLs) {i : Nat} {v : Value}, (zforget ds l)[i]? = some (some v) → l[i]? = some (some v)
  | [], _, _, _, h => h
  | k :: ds, l, i, v, h => by
    unfold zforget at h
    have h2 := zforget_get ds _ h
    by_cases e : i = k
    · subst e
      exfalso
      have hlt := (List.getElem?_eq_some_iff.mp h2).1
      rw [List.length_set] at hlt
      rw [List.getElem?_set_self hlt] at h2
      cases h2
    · rwa [List.getElem?_set_ne (fun q => e q.symm)] at h2
theorem zLoc.fg {ad : Nat → Nat} {ls : Array Slot} {nL : Nat} {l : zLs} {H : List (Nat × List Nat)} {pc : Nat} (h : zLoc ad ls nL l) : zLoc ad ls nL (zfg H pc l) := by
  unfold zfg
  split
  · exact h
  · exact ⟨h.1, by rw [zforget_length]; exact h.2.1, h.2.2.1, fun i v hv => h.2.2.2 i v (zforget_get _ _ hv)⟩
/-! the entry's locals -/
theorem zent_get {ad : Nat → Nat} : ∀ (as : List Value) (k i : Nat) (v : Value), (zent as)[i]? = some (some v) → (k + i, zv ad v) ∈ lv_args k (as.map (zv ad))
  | [], _, _, _, h => by cases h
  | a :: as, k, i, v, h => by
    unfold zent at h
    show _ ∈ (k, zv ad a) :: lv_args (if (zv ad a).category = 2 then k + 2 else k + 1) (as.map (zv ad))
    rw [zv_cat]
    split at h
    · rename_i hc
      match i, h with
      | 0, h => cases h; exact List.mem_cons_self
      | 1, h => cases h
      | i + 2, h =>
        refine List.mem_cons_of_mem _ ?_
        rw [if_pos hc]
        have := zent_get (ad := ad) as (k + 2) i v h
        rwa [show k + (i + 2) = k + 2 + i by omega]
    · rename_i hc
      match i, h with
      | 0, h => cases h; exact List.mem_cons_self
      | i + 1, h =>
        refine List.mem_cons_of_mem _ ?_
        rw [if_neg hc]
        have := zent_get (ad := ad) as (k + 1) i v h
        rwa [show k + (i + 1) = k + 1 + i by omega]
theorem zpad_get : ∀ (n : Nat) (l : zLs) (i : Nat) (v : Value), (zpad n l)[i]? = some (some v) → l[i]? = some (some v)
  | 0, _, _, _, h => h
  | n + 1, [], i, v, h => by
    exfalso
    unfold zpad at h
    match i, h with
    | 0, h => cases h
    | i + 1, h => exact absurd (zpad_get n [] i v h) (by simp)
  | n + 1, x :: l, i, v, h => by
    unfold zpad at h
    match i, h with
    | 0, h => exact h
    | i + 1, h => exact zpad_get n l i v h
theorem zpad_length : ∀ (n : Nat) (l : zLs), l.length ≤ n → (zpad n l).length = n
  | 0, [], _ => rfl
  | 0, _ :: _, h => absurd h (by simp)
  | n + 1, [], _ => by unfold zpad; rw [List.length_cons, zpad_length n [] (Nat.zero_le _)]
  | n + 1, x :: l, h => by unfold zpad; rw [List.length_cons, zpad_length n l (Nat.le_of_succ_le_succ h)]
theorem zent_length (ad : Nat → Nat) : ∀ (as : List Value), (zent as).length = (lg_sl (as.map (zv ad))).length
  | [] => rfl
  | a :: as => by
    have ih := zent_length ad as
    have e : lg_sl ((a :: as).map (zv ad)) = (if (zv ad a).category = 2 then [Slot.val (zv ad a), Slot.second] else [Slot.val (zv ad a)]) ++ lg_sl (as.map (zv ad)) := by simp [lg_sl]
    rw [e, List.length_append, zv_cat, zent]
    split
    · rename_i hc
      rw [if_pos hc]
      simp only [List.length_cons, List.length_nil, ih]
      omega
    · rename_i hc
      rw [if_neg hc]
      simp only [List.length_cons, List.length_nil, ih]
      omega
theorem zLoc.entry {ad : Nat → Nat} {as : List Value} {n : Nat} (h : (zent as).length ≤ n) : zLoc ad ((lg_sl (as.map (zv ad)) ++ List.replicate (n - (lg_sl (as.map (zv ad))).length) Slot.unset).toArray) n (zloc n as) := by
  have hl := lv_entry (as.map (zv ad)) (n := n) (by rw [← zent_length ad as]; exact h)
  refine ⟨hl.1, zpad_length n _ h, hl.2.1, fun i v hv => ?_⟩
  have h1 := zent_get (ad := ad) as 0 i v (zpad_get _ _ _ _ hv)
  rw [Nat.zero_add] at h1
  exact hl.2.2 (i, zv ad v) h1
end
section
/-! cells -/
def zfv (ad : Nat → Nat) (ty : FieldType) (x : Int32) (y : Int64) (r : Option Nat) : Value := match ty with
  | .long => .long y
  | .object _ => va_rf (r.map ad)
  | .array _ => va_rf (r.map ad)
  | _ => .int x
def zAr (s : State) (H : Heap) (q : Nat) (ty : FieldType) (n : Nat) (f : Nat → Value) : Prop := ∃ cell : Cell, H[q]? = some cell ∧ s.isArrayOf cell ty ∧ cell.vm ≠ .unknown ∧ n ≤ cell.slots.size ∧ cell.slots.size.toInt32 = Int32.ofNat n ∧ ∀ j, j < n → cell.slots[j]? = some (f j)
def zAv (s : State) (H : Heap) (q : Nat) (ty : FieldType) (n : Nat) (f : Nat → Value) : Prop := ∃ cA : ClassId, H[q]? = some (arrV cA n f) ∧ ArrOfT s cA ty ∧ va_RA s cA ty
theorem zAv.ar {s : State} {H : Heap} {q : Nat} {ty : FieldType} {n : Nat} {f : Nat → Value} (h : zAv s H q ty n f) : zAr s H q ty n f := by
  obtain ⟨cA, h1, h2, -⟩ := h
  exact ⟨_, h1, h2 n f, fun z => (by cases z), by rw [arrV_size]; exact Nat.le_refl n, by rw [arrV_size] <;> rfl, fun j hj => arrV_read _ _ hj⟩
def zcel (D : va_G) (ad : Nat → Nat) (s : State) (H : Heap) (q t n : Nat) (fI : Nat → Int32) (fL : Nat → Int64) (fR : Nat → Option Nat) : Prop :=
  (∀ (ci : Nat) (r : vw_C), t = ci + 1 → vwCl[ci]? = some r → t_OB q (D.1 ci) r.2.2 (D.2 ci) H (fun k => zfv ad (ztys ci k) (fI k) (fL k) (fR k))) ∧
  (t = 20 → zAv s H q .int n (fun j => .int (fI j))) ∧ (t = 21 → zAv s H q .boolean n (fun j => .int (fI j))) ∧ (t = 22 → zAv s H q .byte n (fun j => .int (fI j))) ∧
  (t = 23 → zAv s H q .long n (fun j => .long (fL j))) ∧ (t = 24 → zAr s H q .int n (fun j => .int (fI j))) ∧ (t = 25 → zAr s H q .long n (fun j => .long (fL j))) ∧
  ∀ (ci : Nat) (r : vw_C), t = 30 + ci → vwCl[ci]? = some r → zAv s H q (.object r.1) n (fun j => va_rf ((fR j).map ad))
def ztag (t : Nat) : Prop := t = 0 ∨ (t < 26) ∨ ∃ (ci : Nat) (r : vw_C), t = 30 + ci ∧ vwCl[ci]? = some r
def zRep (D : va_G) (t0 b0 base : Nat) (s : State) (H : Heap) (M : zM) : Prop :=
  H.size + 2 = base + zN M ∧ 2 ≤ zN M ∧ (∀ a, zN M ≤ a → zK M a = (0, 0)) ∧ (∀ a, a < 2 → (zK M a).1 = 24 ∨ (zK M a).1 = 25) ∧ (∀ a, 2 ≤ a → ¬ (zK M a).1 = 24 ∧ ¬ (zK M a).1 = 25) ∧ t0 < base ∧ b0 < base ∧
  (∀ a, zcel D (zad t0 b0 base) s H (zad t0 b0 base a) (zK M a).1 (zK M a).2 (zI M a) (zL M a) (zR M a)) ∧ ∀ a, ztag (zK M a).1
theorem zAr.kept {s : State} {H H1 : Heap} {q : Nat} {ty : FieldType} {n : Nat} {f : Nat → Value} (h : zAr s H q ty n f) (e : H1[q]? = H[q]?) : zAr s H1 q ty n f := by
  obtain ⟨c, h1, h2⟩ := h
  exact ⟨c, by rw [e]; exact h1, h2⟩
theorem zAv.kept {s : State} {H H1 : Heap} {q : Nat} {ty : FieldType} {n : Nat} {f : Nat → Value} (h : zAv s H q ty n f) (e : H1[q]? = H[q]?) : zAv s H1 q ty n f := by
  obtain ⟨c, h1, h2⟩ := h
  exact ⟨c, by rw [e]; exact h1, h2⟩
theorem zcel.kept {D : va_G} {ad : Nat → Nat} {s : State} {H H1 : Heap} {q t n : Nat} {fI : Nat → Int32} {fL : Nat → Int64} {fR : Nat → Option Nat} (h : zcel D ad s H q t n fI fL fR) (e : H1[q]? = H[q]?) : zcel D ad s H1 q t n fI fL fR := by
  obtain ⟨h1, h2, h3, h4, h5, h6, h7, h8⟩ := h
  exact ⟨fun ci r a b => (h1 ci r a b).kept e, fun a => (h2 a).kept e, fun a => (h3 a).kept e, fun a => (h4 a).kept e, fun a => (h5 a).kept e, fun a => (h6 a).kept e, fun a => (h7 a).kept e, fun ci r a b => (h8 ci r a b).kept e⟩
theorem zcel.moved {D : va_G} {ad : Nat → Nat} {u U : State} (hvm : u.vm.Alike U.vm) {H : Heap} {q t n : Nat} {fI : Nat → Int32} {fL : Nat → Int64} {fR : Nat → Option Nat} (h : zcel D ad u H q t n fI fL fR) : zcel D ad U H q t n fI fL fR := by
  have m1 : ∀ {ty : FieldType} {f : Nat → Value}, zAr u H q ty n f → zAr U H q ty n f := fun ⟨c, a, b, d⟩ => ⟨c, a, State.isArrayOf_alike hvm b, d⟩
  have m2 : ∀ {ty : FieldType} {f : Nat → Value}, zAv u H q ty n f → zAv U H q ty n f := fun ⟨c, a, b, d⟩ => ⟨c, a, arrOfT_moved hvm b, va_RA.moved hvm d⟩
  obtain ⟨h1, h2, h3, h4, h5, h6, h7, h8⟩ := h
  exact ⟨h1, fun a => m2 (h2 a), fun a => m2 (h3 a), fun a => m2 (h4 a), fun a => m2 (h5 a), fun a => m1 (h6 a), fun a => m1 (h7 a), fun ci r a b => m2 (h8 ci r a b)⟩
theorem zRep.moved {D : va_G} {t0 b0 base : Nat} {u U : State} (hvm : u.vm.Alike U.vm) {H : Heap} {M : zM} (h : zRep D t0 b0 base u H M) : zRep D t0 b0 base U H M :=
  ⟨h.1, h.2.1, h.2.2.1, h.2.2.2.1, h.2.2.2.2.1, h.2.2.2.2.2.1, h.2.2.2.2.2.2.1, fun a => (h.2.2.2.2.2.2.2.1 a).moved hvm, h.2.2.2.2.2.2.2.2⟩
theorem zRep.inn {D : va_G} {t0 b0 base : Nat} {s : State} {H : Heap} {M : zM} (h : zRep D t0 b0 base s H M) {a : Nat} (ha : ¬ (zK M a).1 = 0) : a < zN M := by
  rcases Nat.lt_or_ge a (zN M) with q | q
  · exact q
  · exact absurd (by rw [h.2.2.1 a q]) ha
theorem zRep.two {D : va_G} {t0 b0 base : Nat} {s : State} {H : Heap} {M : zM} (h : zRep D t0 b0 base s H M) {a : Nat} (h1 : ¬ (zK M a).1 = 24) (h2 : ¬ (zK M a).1 = 25) : 2 ≤ a := by
  rcases Nat.lt_or_ge a 2 with q | q
  · exact absurd (h.2.2.2.1 a q) (fun z => z.elim h1 h2)
  · exact q
theorem zRep.base {D : va_G} {t0 b0 base : Nat} {s : State} {H : Heap} {M : zM} (h : zRep D t0 b0 base s H M) : base ≤ H.size := by
  have := h.1; have := h.2.1; omega
/-- one cell changes -/
theorem zRep.put {D : va_G} {t0 b0 base : Nat} {s : State} {H H1 : Heap} {M M1 : zM} {a : Nat} (h : zRep D t0 b0 base s H M) (ha : 2 ≤ a) (hN : zN M1 = zN M) (hK : zK M1 = zK M) (hI : ∀ b, b ≠ a → zI M1 b = zI M b) (hL : ∀ b, b ≠ a → zL M1 b = zL M b) (hR : ∀ b, b ≠ a → zR M1 b = zR M b)
    (z : H1.size = H.size) (o : ∀ q, q ≠ zad t0 b0 base a → H1[q]? = H[q]?) (hc : zcel D (zad t0 b0 base) s H1 (zad t0 b0 base a) (zK M a).1 (zK M a).2 (zI M1 a) (zL M1 a) (zR M1 a)) : zRep D t0 b0 base s H1 M1 := by
  obtain ⟨h1, h2, h3, h4, h5, h6, h7, h8, h9⟩ := h
  refine ⟨by rw [z, hN]; exact h1, by rw [hN]; exact h2, by rw [hN, hK]; exact h3, by rw [hK]; exact h4, by rw [hK]; exact h5, h6, h7, fun b => ?_, by rw [hK]; exact h9⟩
  rw [hK]
  by_cases hb : b = a
  · subst hb; exact hc
  · rw [hI b hb, hL b hb, hR b hb]
    exact (h8 b).kept (o _ (zad_ne h6 h7 ha hb))
theorem zu_row {α : Type} (f : Nat → Nat → α) (a i : Nat) (v : α) {b : Nat} (h : b ≠ a) : zu f a i v b = f b := by
  funext j
  simp [zu, h]
theorem zu_at {α : Type} (f : Nat → Nat → α) (a i : Nat) (v : α) (j : Nat) : zu f a i v a j = if j = i then v else f a j := by
  simp [zu]
/-- a new cell -/
theorem zRep.new {D : va_G} {t0 b0 base : Nat} {s : State} {H H1 : Heap} {M : zM} {t n : Nat} (h : zRep D t0 b0 base s H M) (ht : ¬ t = 24 ∧ ¬ t = 25) (htg : ztag t) (z : H1.size = H.size + 1) (o : ∀ q, q < H.size → H1[q]? = H[q]?)
    (hc : zcel D (zad t0 b0 base) s H1 H.size t n (fun _ => 0) (fun _ => 0) (fun _ => none)) : zRep D t0 b0 base s H1 (znew M t n) := by
  have hin : ∀ {a : Nat}, ¬ (zK M a).1 = 0 → a < zN M := fun q => zRep.inn h q
  obtain ⟨h1, h2, h3, h4, h5, h6, h7, h8, h9⟩ := h
  have hN : zN (znew M t n) = zN M + 1 := rfl
  have hz : zad t0 b0 base (zN M) = H.size := by rw [zad_2 h2]; omega
  have e1 : zK (znew M t n) (zN M) = (t, n) := by simp [zK, znew, zN]
  have e2 : ∀ b, b ≠ zN M → zK (znew M t n) b = zK M b := fun b hb => by
    have : ¬ b = M.1 := hb
    simp [zK, znew, this]
  have eI : zI (znew M t n) (zN M) = fun _ => 0 := by funext j; simp [zI, znew, zrow, zN]
  have eL : zL (znew M t n) (zN M) = fun _ => 0 := by funext j; simp [zL, znew, zrow, zN]
  have eR : zR (znew M t n) (zN M) = fun _ => none := by funext j; simp [zR, znew, zrow, zN]
  refine ⟨by rw [z, hN]; omega, by rw [hN]; omega, fun a ha => ?_, fun a ha => ?_, fun a ha => ?_, h6, h7, fun b => ?_, fun a => ?_⟩
  · rw [hN] at ha
    rw [e2 a (by omega)]
    exact h3 a (by omega)
  · rw [e2 a (by omega)]; exact h4 a ha
  · by_cases q : a = zN M
    · subst q; rw [e1]; exact ht
    · rw [e2 a q]; exact h5 a ha
  · by_cases q : b = zN M
    · subst q
      rw [e1, hz, eI, eL, eR]
      exact hc
    · have q' : ¬ b = M.1 := q
      rw [e2 b q]
      have fI : zI (znew M t n) b = zI M b := by funext j; simp [zI, znew, zrow, q']
      have fL : zL (znew M t n) b = zL M b := by funext j; simp [zL, znew, zrow, q']
      have fR : zR (znew M t n) b = zR M b := by funext j; simp [zR, znew, zrow, q']
      rw [fI, fL, fR]
      by_cases hb0 : (zK M b).1 = 0
      · rw [hb0]
        have := h8 b
        rw [hb0] at this
        exact ⟨fun ci r a => by omega, fun a => by omega, fun a => by omega, fun a => by omega, fun a => by omega, fun a => by omega, fun a => by omega, fun ci r a => by omega⟩
      · refine (h8 b).kept (o _ ?_)
        have hb := hin hb0
        by_cases hb2 : 2 ≤ b
        · rw [zad_2 hb2]; omega
        · have := zad_lt (base := base) h6 h7 (k := b) (by omega)
          omega
  · by_cases q : a = zN M
    · subst q; rw [e1]; exact htg
    · rw [e2 a q]; exact h9 a
/-! words of the tables -/
def znest (w : Cond) : Bool := match w with
  | .fieldLinkNest _ _ _ _ _ _ => true
  | .methodLinkNest _ _ _ _ => true
  | .arrayOver (.object _) => true
  | _ => false
def zTb (U : State) : Prop := ∀ w ∈ lw_tbl, (goodWord w || znest w) = true → ∀ a : Array Value, w.before a U = true
theorem zTb.warm {s U : State} (h : zTb s) (hW : s.WarmedH U.vm) : zTb U := by
  intro w hw hg a
  rcases Bool.or_eq_true_iff.mp hg with g | g
  · exact word_at hW (good_of_word g) (h w hw hg #[])
  · unfold znest at g
    split at g
    · exact va_Nw.use rfl (va_Nw.warmF hW (va_Nw.of rfl (h _ hw hg #[])))
    · exact va_Nw.use rfl (va_Nw.warmM hW (va_Nw.of rfl (h _ hw hg #[])))
    · exact va_AO.use (va_AO.moved hW.alike (va_AO.of (h _ hw hg #[])))
    · cases g
theorem zlay {ci : Nat} {r : vw_C} (h : vwCl[ci]? = some r) : ∀ w ∈ u_ws r.1 r.2.1 r.2.2, w ∈ lw_tbl := by
  match ci, h with
  | 0, h => cases h; exact zlay_0
  | 1, h => cases h; exact zlay_1
  | 2, h => cases h; exact zlay_2
  | 3, h => cases h; exact zlay_3
  | 4, h => cases h; exact zlay_4
  | 5, h => cases h; exact zlay_5
  | 6, h => cases h; exact zlay_6
  | 7, h => cases h; exact zlay_7
  | 8, h => cases h; exact zlay_8
  | 9, h => cases h; exact zlay_9
  | 10, h => cases h; exact zlay_10
  | n + 11, h => simp [vwCl] at h
theorem ztyp {ci : Nat} {r : vw_C} (h : vwCl[ci]? = some r) : ∀ k, k < r.2.2 → parseFieldDescriptor (r.2.1 k).2.2.1 = some (ztys ci k) := by
  match ci, h with
  | 0, h => cases h; exact tyX0_ok
  | 1, h => cases h; exact tyX1_ok
  | 2, h => cases h; exact tyX2_ok
  | 3, h => cases h; exact tyX3_ok
  | 4, h => cases h; exact tyX4_ok
  | 5, h => cases h; exact tyX5_ok
  | 6, h => cases h; exact tyX6_ok
  | 7, h => cases h; exact tyX7_ok
  | 8, h => cases h; exact tyX8_ok
  | 9, h => cases h; exact tyX9_ok
  | 10, h => cases h; exact tyX10_ok
  | n + 11, h => simp [vwCl] at h
theorem znam {ci : Nat} {r : vw_C} (h : vwCl[ci]? = some r) : ∀ a, a < r.2.2 → ∀ b, b < r.2.2 → a ≠ b → (r.2.1 a).2.1 ≠ (r.2.1 b).2.1 := by
  match ci, h with
  | 0, h => cases h; exact nmX0
  | 1, h => cases h; exact nmX1
  | 2, h => cases h; exact nmX2
  | 3, h => cases h; exact nmX3
  | 4, h => cases h; exact nmX4
  | 5, h => cases h; exact nmX5
  | 6, h => cases h; exact nmX6
  | 7, h => cases h; exact nmX7
  | 8, h => cases h; exact nmX8
  | 9, h => cases h; exact nmX9
  | 10, h => cases h; exact nmX10
  | n + 11, h => simp [vwCl] at h
theorem zlaygood {ci : Nat} {r : vw_C} {k : Nat} : goodWord (u_lay r.1 r.2.1 k) = true := by
  unfold u_lay
  split <;> rfl
end
section
/-! the machine's rows over the abstract memory -/
def zCx (D : va_G) (t0 base : Nat) (p : Program) (s : State) (m : MethodId) (c : Code) (own : String) (cc : ByteArray) (nL : Nat) : Prop :=
  p.tables.exec = Jvm.exec ∧ c.code = cc ∧ c.maxLocals = nL ∧ s.vm.findClass own = some m.cls ∧ zTb s ∧ va_K D vwCl [] s ∧ va_Z "PromiseTries$TruthStack" "PATTERNS" "[J" (.ref t0) (fun q => base ≤ q) s s.heap ∧ base ≤ s.heap.size
theorem zword_ok {s : State} (hT : zTb s) {p : Nat} {w : Cond} (h : zword p w = true) (hg : (goodWord w || znest w) = true) (a : Array Value) : w.before a s = true := hT w (zword_mem h) hg a
theorem zlays {s : State} (hT : zTb s) {ci : Nat} {r : vw_C} (h : vwCl[ci]? = some r) (args : Array Value) : ∀ w ∈ u_ws r.1 r.2.1 r.2.2, w.before args s = true := by
  intro w hw
  refine hT w (zlay h w hw) ?_ args
  obtain ⟨k, -, rfl⟩ := List.mem_map.mp hw
  rw [zlaygood (ci := ci) (r := r)]
  rfl
theorem zin_iff {j : Int32} {n : Nat} : zin j n = true ↔ ¬ j < 0 ∧ j.toNatClampNeg < n := by
  unfold zin
  simp only [Bool.and_eq_true, decide_eq_true_eq]
theorem zin_in {j : Int32} {n : Nat} (h : zin j n = true) : ¬ (j < 0 ∨ n ≤ j.toNatClampNeg) := by
  obtain ⟨h1, h2⟩ := zin_iff.mp h
  exact fun q => q.elim h1 (fun z => by omega)
theorem zin_in2 {j : Int32} {n k : Nat} (h : zin j n = true) (hk : n ≤ k) : ¬ (j < 0 ∨ k ≤ j.toNatClampNeg) := by
  obtain ⟨h1, h2⟩ := zin_iff.mp h
  exact fun q => q.elim h1 (fun z => by omega)
section ZOPS
variable {p : Program} {l : Launch} {e : Env} {R : Room} {s : State} {m : MethodId} {args : Array Value} {below : List Frame} {meth : Method} {c : Code} {H : Heap} {locs : List Loc} {cells slots : Nat} {Q : State → Prop}
variable {cc : ByteArray} {pc nL : Nat} {ls : Array Slot} {rest : List Value} {D : va_G} {t0 b0 base : Nat} {own : String} {M : zM}
theorem zfck_inv {idx ci k : Nat} {w : List Nat} (h : zfck own idx ci k w = true) : ∃ (r : vw_C) (pp nn : Nat), vwCl[ci]? = some r ∧ w = [pp, nn] ∧ k < r.2.2 ∧ ((nn = 0 ∧ zword pp (.fieldLink own idx (r.2.1 k).1 (r.2.1 k).2.1 (r.2.1 k).2.2.1) = true) ∨ (¬ nn = 0 ∧ zword pp (.fieldLinkNest own idx (r.2.1 k).1 (r.2.1 k).2.1 (r.2.1 k).2.2.1 zhost) = true)) := by
  unfold zfck at h
  split at h
  · rename_i C T N pp hc
    simp only [Bool.and_eq_true, decide_eq_true_eq] at h
    exact ⟨(C, T, N), pp, 0, hc, rfl, h.1, Or.inl ⟨rfl, h.2⟩⟩
  · rename_i C T N pp nn hne hc
    simp only [Bool.and_eq_true, decide_eq_true_eq] at h
    exact ⟨(C, T, N), pp, nn, hc, rfl, h.1, Or.inr ⟨fun z => by subst z; exact hne rfl, h.2⟩⟩
  · cases h
theorem zget (cx : zCx D t0 base p s m c own cc nL) (hrep : zRep D t0 b0 base s H M) {idx ci k a : Nat} {w : List Nat} (hka : (zK M a).1 = ci + 1) (hfk : zfck own idx ci k w = true) (hdg : decode cc pc = .ok (.getfield idx, 3))
    (kk : W p l e R s m args below meth c H locs cells slots Q (F0 m (pc + 3) ls (zfv (zad t0 b0 base) (ztys ci k) (zI M a k) (zL M a k) (zR M a k) :: rest))) : W p l e R s m args below meth c H locs cells slots Q (F0 m pc ls (.ref (zad t0 b0 base a) :: rest)) := by
  obtain ⟨hx, hb, -, hown, hT, hK, -, -⟩ := cx
  obtain ⟨r, pp, nn, hc, -, hk, hw⟩ := zfck_inv hfk
  have hob := (hrep.2.2.2.2.2.2.2.1 a).1 ci r hka hc
  obtain ⟨C, T, N⟩ := r
  have hP : va_P D vwCl [(zad t0 b0 base a, .inr (ci, (List.range N).map (fun k => zfv (zad t0 b0 base) (ztys ci k) (zI M a k) (zL M a k) (zR M a k))))] H := by
    intro i q hq
    match i, hq with
    | 0, hq =>
      cases hq
      refine ⟨(C, T, N), hc, hob.to fun j hj => ?_⟩
      have hj' : j < N := hj
      simp [vp_V, hj']
  have hv : ((List.range N).map (fun k => zfv (zad t0 b0 base) (ztys ci k) (zI M a k) (zL M a k) (zR M a k)))[k]? = some (zfv (zad t0 b0 base) (ztys ci k) (zI M a k) (zL M a k) (zR M a k)) := by
    have hk' : k < N := hk
    simp [hk']
  rcases hw with ⟨-, hw⟩ | ⟨-, hw⟩
  · exact va_get (D := D) (cl := vwCl) (tys := []) (C := C) (T := T) (N := N) (Ts := u_ws C T N) hx hb (zlays hT hc args) (fun _ h => h) hown hK hP 0 rfl hc k hk (zword_ok hT hw rfl args) (fun _ h => h) hv hdg kk
  · exact va_getN (D := D) (cl := vwCl) (tys := []) (C := C) (T := T) (N := N) (Ts := u_ws C T N) hx hb (zlays hT hc args) (fun _ h => h) hown hK hP 0 rfl hc k hk (zword_ok hT hw rfl args) (fun _ h => h) hv hdg kk
theorem zput0 (cx : zCx D t0 base p s m c own cc nL) {idx ci k q : Nat} {w : List Nat} {V : Nat → Value} {r : vw_C} (hc : vwCl[ci]? = some r) (hob : t_OB q (D.1 ci) r.2.2 (D.2 ci) H V) (hfk : zfck own idx ci k w = true) (hdg : decode cc pc = .ok (.putfield idx, 3)) {v : Value} (hn : narrow (ztys ci k) v = v) (hfit : fits (ztys ci k) v = true)
    (hfin : zfin ci k = true → meth.name = "<init>" ∧ (w.drop 1).headD 1 = 0 ∧ ((vwCl[ci]?).map (fun q => (q.2.1 k).1)) = some own)
    (kk : ∀ (H1 : Heap) (i : Nat), t_OB q (D.1 ci) r.2.2 (D.2 ci) H1 (updV V k v) → H1.size = H.size → (∀ x, x ≠ q → H1[x]? = H[x]?) → W p l e R s m args below meth c H1 (locs ++ [⟨q, i⟩]) cells slots Q (F0 m (pc + 3) ls rest)) : W p l e R s m args below meth c H locs cells slots Q (F0 m pc ls (v :: .ref q :: rest)) := by
  obtain ⟨hx, hb, -, hown, hT, hK, -, -⟩ := cx
  obtain ⟨r2, pp, nn, hc2, hwe, hk, hw⟩ := zfck_inv hfk
  cases hc.symm.trans hc2
  have hts := zlays hT hc args
  have hap := va_apart (own := own) hts (fun _ h => h) (ztys ci) (ztyp hc) (znam hc) hK hc
  have hd := ztyp hc k hk
  obtain ⟨cell, q1, q2, q3, q4⟩ := hob
  obtain ⟨hS, hfc, kC, hkC, hkind⟩ := hK.1 ci _ hc
  obtain ⟨cf, kf, fi, f, hi, hsl⟩ := hS k hk
  have hlay := hts _ (u_in_lay hk)
  have hlays := u_lays hts (fun _ h => h) hk
  have hst := (u_facts hfc hkC hlays hi).1
  have hend : ∀ H' : Heap, H'[q]? = some (cell.setSlot f.slot v) → H'.size = H.size → (∀ x, x ≠ q → H'[x]? = H[x]?) → W p l e R s m args below meth c H' (locs ++ [⟨q, f.slot⟩]) cells slots Q (F0 m (pc + 3) ls rest) := by
    intro H' e1 e2 e3
    rw [hsl] at e1 ⊢
    exact kk H' _ ⟨_, e1, q2, q3, t_set q4 hap hk v⟩ e2 e3
  cases hfb : (r.2.1 k).2.2.2 with
  | false =>
    unfold u_lay at hlay
    rw [if_neg (by rw [hfb]; decide)] at hlay
    have h6 := u_store hfc hkC hkind hlay hi hd hn hfit
    rcases hw with ⟨-, hw⟩ | ⟨-, hw⟩
    · exact W.putK hx hb (f := f) ⟨hown, zword_ok hT hw rfl args, ⟨_, _, _, hi⟩, hst⟩ (by rw [q2]; exact h6) q1 q3 (by rw [hsl]; exact k2_hasslot (q4 k hk)) rfl rfl hdg hend
    · exact va_WputK hx hb (f := f) hown (zword_ok hT hw rfl args) hi hst (by rw [q2]; exact h6) q1 q3 (by rw [hsl]; exact k2_hasslot (q4 k hk)) rfl rfl hdg hend
  | true =>
    unfold u_lay at hlay
    rw [if_pos hfb] at hlay
    obtain ⟨hnm, hw0, hdecl⟩ := hfin (by unfold zfin; rw [hc]; exact hfb)
    rw [hc] at hdecl
    have hdecl : (r.2.1 k).1 = own := Option.some.inj hdecl
    rw [hwe] at hw0
    have hn0 : nn = 0 := hw0
    rcases hw with ⟨-, hw⟩ | ⟨hne, hw⟩
    · have hcf : m.cls = cf := by
        obtain ⟨_, _, c', _, _, _, -, -, hf', -, -, -, hown2, -⟩ := Cond.laysFinal_spec hlay
        have e1 : c' = cf := by have := hi.symm.trans hf'; simp at this; exact this.1.symm
        rw [hdecl] at hown2
        rw [← e1]; exact Option.some.inj (hown.symm.trans hown2)
      have h6 := u_fits hfc hkC hkind (Or.inr hlay) hi hd hn hfit
      exact W.putFinK hx hb hown (zword_ok hT hw rfl args) hi hst hcf hnm (by rw [q2]; exact h6) q1 q3 (by rw [hsl]; exact k2_hasslot (q4 k hk)) rfl rfl hdg hend
    · exact absurd hn0 hne
theorem zS_put {A : Nat → Prop} {H0 H1 : Heap} {q i : Nat} (h : va_S A H0 H locs) (z : H1.size = H.size) (o : ∀ x, x ≠ q → H1[x]? = H[x]?) (ha : A q) : va_S A H0 H1 (locs ++ [⟨q, i⟩]) := h.put z o ha
theorem zad_A {a : Nat} (ha : 2 ≤ a) : base ≤ zad t0 b0 base a := by rw [zad_2 ha]; omega
theorem updV_fun {V : Nat → Value} {k : Nat} {v : Value} (W' : Nat → Value) (h1 : W' k = v) (h2 : ∀ j, j ≠ k → W' j = V j) : updV V k v = W' := by
  funext j
  by_cases h : j = k
  · subst h; simp [updV, h1]
  · simp [updV, h, h2 j h]
theorem zput_int (cx : zCx D t0 base p s m c own cc nL) (hrep : zRep D t0 b0 base s H M) (hS : va_S (fun q => base ≤ q) s.heap H locs) {idx ci k a ty : Nat} {w : List Nat} {x : Int32} (hka : (zK M a).1 = ci + 1) (hci : ci < 11) (hfk : zfck own idx ci k w = true) (hty : ty = ztyc (ztys ci k)) (hx01 : ty = 0 ∨ (ty = 3 ∧ (x = 0 ∨ x = 1))) (hdg : decode cc pc = .ok (.putfield idx, 3))
    (hfin : zfin ci k = true → meth.name = "<init>" ∧ (w.drop 1).headD 1 = 0 ∧ ((vwCl[ci]?).map (fun q => (q.2.1 k).1)) = some own)
    (kk : ∀ (H1 : Heap) (locs1 : List Loc), zRep D t0 b0 base s H1 (zsI M a k x) → va_S (fun q => base ≤ q) s.heap H1 locs1 → W p l e R s m args below meth c H1 locs1 cells slots Q (F0 m (pc + 3) ls rest)) : W p l e R s m args below meth c H locs cells slots Q (F0 m pc ls (.int x :: .ref (zad t0 b0 base a) :: rest)) := by
  obtain ⟨r, pp, nn, hc, -, hk, -⟩ := zfck_inv hfk
  have hob := (hrep.2.2.2.2.2.2.2.1 a).1 ci r hka hc
  have h2 : 2 ≤ a := hrep.two (by rw [hka]; omega) (by rw [hka]; omega)
  have hnf : narrow (ztys ci k) (.int x) = .int x ∧ fits (ztys ci k) (.int x) = true ∧ zfv (zad t0 b0 base) (ztys ci k) x (zL M a k) (zR M a k) = .int x := by
    rcases hx01 with h | ⟨h, hx⟩
    · rw [h] at hty
      generalize ztys ci k = t at hty
      unfold ztyc at hty
      split at hty <;> first | (exact ⟨rfl, rfl, rfl⟩) | (cases hty)
    · rw [h] at hty
      generalize ztys ci k = t at hty
      unfold ztyc at hty
      split at hty <;> first | (rcases hx with rfl | rfl <;> exact ⟨rfl, rfl, rfl⟩) | (cases hty)
  refine zput0 cx hc hob hfk hdg hnf.1 hnf.2.1 hfin fun H1 i e1 z o => ?_
  refine kk H1 _ (hrep.put h2 rfl rfl (fun b hb => zu_row _ _ _ _ hb) (fun _ _ => rfl) (fun _ _ => rfl) z o ?_) (hS.put z o (zad_A h2))
  refine ⟨fun ci2 r2 ht hc2 => ?_, fun q => by omega, fun q => by omega, fun q => by omega, fun q => by omega, fun q => by omega, fun q => by omega, fun ci2 r2 q => by omega⟩
  have : ci2 = ci := by omega
  subst this
  cases hc.symm.trans hc2
  refine e1.to fun j _ => ?_
  show updV _ k _ j = zfv _ _ (zu _ a k x a j) _ _
  rw [zu_at]
  by_cases hj : j = k
  · subst hj
    rw [if_pos rfl]
    simp only [updV, if_true]
    exact hnf.2.2.symm
  · rw [if_neg hj]
    simp [updV, hj]
    rfl
theorem zput_long (cx : zCx D t0 base p s m c own cc nL) (hrep : zRep D t0 b0 base s H M) (hS : va_S (fun q => base ≤ q) s.heap H locs) {idx ci k a : Nat} {w : List Nat} {x : Int64} (hka : (zK M a).1 = ci + 1) (hci : ci < 11) (hfk : zfck own idx ci k w = true) (hty : 1 = ztyc (ztys ci k)) (hdg : decode cc pc = .ok (.putfield idx, 3))
    (hfin : zfin ci k = true → meth.name = "<init>" ∧ (w.drop 1).headD 1 = 0 ∧ ((vwCl[ci]?).map (fun q => (q.2.1 k).1)) = some own)
    (kk : ∀ (H1 : Heap) (locs1 : List Loc), zRep D t0 b0 base s H1 (zsL M a k x) → va_S (fun q => base ≤ q) s.heap H1 locs1 → W p l e R s m args below meth c H1 locs1 cells slots Q (F0 m (pc + 3) ls rest)) : W p l e R s m args below meth c H locs cells slots Q (F0 m pc ls (.long x :: .ref (zad t0 b0 base a) :: rest)) := by
  obtain ⟨r, pp, nn, hc, -, hk, -⟩ := zfck_inv hfk
  have hob := (hrep.2.2.2.2.2.2.2.1 a).1 ci r hka hc
  have h2 : 2 ≤ a := hrep.two (by rw [hka]; omega) (by rw [hka]; omega)
  have hnf : narrow (ztys ci k) (.long x) = .long x ∧ fits (ztys ci k) (.long x) = true ∧ zfv (zad t0 b0 base) (ztys ci k) (zI M a k) x (zR M a k) = .long x := by
    generalize ztys ci k = t at hty
    unfold ztyc at hty
    split at hty <;> first | (exact ⟨rfl, rfl, rfl⟩) | (cases hty)
  refine zput0 cx hc hob hfk hdg hnf.1 hnf.2.1 hfin fun H1 i e1 z o => ?_
  refine kk H1 _ (hrep.put h2 rfl rfl (fun _ _ => rfl) (fun b hb => zu_row _ _ _ _ hb) (fun _ _ => rfl) z o ?_) (hS.put z o (zad_A h2))
  refine ⟨fun ci2 r2 ht hc2 => ?_, fun q => by omega, fun q => by omega, fun q => by omega, fun q => by omega, fun q => by omega, fun q => by omega, fun ci2 r2 q => by omega⟩
  have : ci2 = ci := by omega
  subst this
  cases hc.symm.trans hc2
  refine e1.to fun j _ => ?_
  show updV _ k _ j = zfv _ _ _ (zu _ a k x a j) _
  rw [zu_at]
  by_cases hj : j = k
  · subst hj
    rw [if_pos rfl]
    simp only [updV, if_true]
    exact hnf.2.2.symm
  · rw [if_neg hj]
    simp [updV, hj]
    rfl
theorem zput_ref (cx : zCx D t0 base p s m c own cc nL) (hrep : zRep D t0 b0 base s H M) (hS : va_S (fun q => base ≤ q) s.heap H locs) {idx ci k a x : Nat} {w : List Nat} (hka : (zK M a).1 = ci + 1) (hci : ci < 11) (hfk : zfck own idx ci k w = true) (hty : 2 = ztyc (ztys ci k)) (hdg : decode cc pc = .ok (.putfield idx, 3))
    (hfin : zfin ci k = true → meth.name = "<init>" ∧ (w.drop 1).headD 1 = 0 ∧ ((vwCl[ci]?).map (fun q => (q.2.1 k).1)) = some own)
    (kk : ∀ (H1 : Heap) (locs1 : List Loc), zRep D t0 b0 base s H1 (zsR M a k (some x)) → va_S (fun q => base ≤ q) s.heap H1 locs1 → W p l e R s m args below meth c H1 locs1 cells slots Q (F0 m (pc + 3) ls rest)) : W p l e R s m args below meth c H locs cells slots Q (F0 m pc ls (.ref (zad t0 b0 base x) :: .ref (zad t0 b0 base a) :: rest)) := by
  obtain ⟨r, pp, nn, hc, -, hk, -⟩ := zfck_inv hfk
  have hob := (hrep.2.2.2.2.2.2.2.1 a).1 ci r hka hc
  have h2 : 2 ≤ a := hrep.two (by rw [hka]; omega) (by rw [hka]; omega)
  have hnf : narrow (ztys ci k) (.ref (zad t0 b0 base x)) = .ref (zad t0 b0 base x) ∧ fits (ztys ci k) (.ref (zad t0 b0 base x)) = true ∧ zfv (zad t0 b0 base) (ztys ci k) (zI M a k) (zL M a k) (some x) = .ref (zad t0 b0 base x) := by
    generalize ztys ci k = t at hty
    unfold ztyc at hty
    split at hty <;> first | (exact ⟨rfl, rfl, rfl⟩) | (cases hty)
  refine zput0 cx hc hob hfk hdg hnf.1 hnf.2.1 hfin fun H1 i e1 z o => ?_
  refine kk H1 _ (hrep.put h2 rfl rfl (fun _ _ => rfl) (fun _ _ => rfl) (fun b hb => zu_row _ _ _ _ hb) z o ?_) (hS.put z o (zad_A h2))
  refine ⟨fun ci2 r2 ht hc2 => ?_, fun q => by omega, fun q => by omega, fun q => by omega, fun q => by omega, fun q => by omega, fun q => by omega, fun ci2 r2 q => by omega⟩
  have : ci2 = ci := by omega
  subst this
  cases hc.symm.trans hc2
  refine e1.to fun j _ => ?_
  show updV _ k _ j = zfv _ _ _ _ (zu _ a k (some x) a j)
  rw [zu_at]
  by_cases hj : j = k
  · subst hj
    rw [if_pos rfl]
    simp only [updV, if_true]
    exact hnf.2.2.symm
  · rw [if_neg hj]
    simp [updV, hj]
    rfl
/-! rows of numbers -/
theorem zar_i (hrep : zRep D t0 b0 base s H M) {a : Nat} (h : (zK M a).1 = 20 ∨ (zK M a).1 = 24) : zAr s H (zad t0 b0 base a) .int (zK M a).2 (fun j => .int (zI M a j)) := by
  obtain ⟨-, h2, -, -, -, h6, -, -⟩ := hrep.2.2.2.2.2.2.2.1 a
  rcases h with h | h
  · exact (h2 h).ar
  · exact h6 h
theorem zar_l (hrep : zRep D t0 b0 base s H M) {a : Nat} (h : (zK M a).1 = 23 ∨ (zK M a).1 = 25) : zAr s H (zad t0 b0 base a) .long (zK M a).2 (fun j => .long (zL M a j)) := by
  obtain ⟨-, -, -, -, h5, -, h7, -⟩ := hrep.2.2.2.2.2.2.2.1 a
  rcases h with h | h
  · exact (h5 h).ar
  · exact h7 h
theorem zald_i (cx : zCx D t0 base p s m c own cc nL) (hrep : zRep D t0 b0 base s H M) {a : Nat} {j : Int32} (h : (zK M a).1 = 20 ∨ (zK M a).1 = 24) (hj : zin j (zK M a).2 = true) (hdg : decode cc pc = .ok (.iaload, 1))
    (kk : W p l e R s m args below meth c H locs cells slots Q (F0 m (pc + 1) ls (.int (zI M a j.toNatClampNeg) :: rest))) : W p l e R s m args below meth c H locs cells slots Q (F0 m pc ls (.int j :: .ref (zad t0 b0 base a) :: rest)) := by
  obtain ⟨cell, h1, h2, h3, h4, h6, h5⟩ := zar_i hrep h
  exact W.iald cx.1 cx.2.1 h1 h2 h3 (zin_in2 hj h4) (h5 _ (zin_iff.mp hj).2) rfl rfl hdg kk
theorem zald_l (cx : zCx D t0 base p s m c own cc nL) (hrep : zRep D t0 b0 base s H M) {a : Nat} {j : Int32} (h : (zK M a).1 = 23 ∨ (zK M a).1 = 25) (hj : zin j (zK M a).2 = true) (hdg : decode cc pc = .ok (.laload, 1))
    (kk : W p l e R s m args below meth c H locs cells slots Q (F0 m (pc + 1) ls (.long (zL M a j.toNatClampNeg) :: rest))) : W p l e R s m args below meth c H locs cells slots Q (F0 m pc ls (.int j :: .ref (zad t0 b0 base a) :: rest)) := by
  obtain ⟨cell, h1, h2, h3, h4, h6, h5⟩ := zar_l hrep h
  exact W.lald cx.1 cx.2.1 h1 h2 h3 (zin_in2 hj h4) (h5 _ (zin_iff.mp hj).2) rfl rfl hdg kk
theorem zald_b (cx : zCx D t0 base p s m c own cc nL) (hrep : zRep D t0 b0 base s H M) {a : Nat} {j : Int32} (h : (zK M a).1 = 21 ∨ (zK M a).1 = 22) (hj : zin j (zK M a).2 = true) (hdg : decode cc pc = .ok (.baload, 1))
    (kk : W p l e R s m args below meth c H locs cells slots Q (F0 m (pc + 1) ls (.int (zI M a j.toNatClampNeg) :: rest))) : W p l e R s m args below meth c H locs cells slots Q (F0 m pc ls (.int j :: .ref (zad t0 b0 base a) :: rest)) := by
  obtain ⟨-, -, h3, h4, -, -, -, -⟩ := hrep.2.2.2.2.2.2.2.1 a
  rcases h with h | h
  · obtain ⟨cell, h1, h2, h3, h4, h6, h5⟩ := (h3 h).ar
    exact W.zald cx.1 cx.2.1 h1 h2 h3 (zin_in2 hj h4) (h5 _ (zin_iff.mp hj).2) rfl rfl hdg kk
  · obtain ⟨cell, h1, h2, h3, h4, h6, h5⟩ := (h4 h).ar
    exact W.bald cx.1 cx.2.1 h1 h2 h3 (zin_in2 hj h4) (h5 _ (zin_iff.mp hj).2) rfl rfl hdg kk
theorem zald_r (cx : zCx D t0 base p s m c own cc nL) (hrep : zRep D t0 b0 base s H M) {a ci q : Nat} {r : vw_C} {j : Int32} (h : (zK M a).1 = 30 + ci) (hc : vwCl[ci]? = some r) (hj : zin j (zK M a).2 = true) (hq : zR M a j.toNatClampNeg = some q) (hdg : decode cc pc = .ok (.aaload, 1))
    (kk : W p l e R s m args below meth c H locs cells slots Q (F0 m (pc + 1) ls (.ref (zad t0 b0 base q) :: rest))) : W p l e R s m args below meth c H locs cells slots Q (F0 m pc ls (.int j :: .ref (zad t0 b0 base a) :: rest)) := by
  obtain ⟨-, -, -, -, -, -, -, h8⟩ := hrep.2.2.2.2.2.2.2.1 a
  obtain ⟨cell, h1, h2, h3, h4, h6, h5⟩ := (h8 ci r h hc).ar
  exact W.aald (ty := .object r.1) cx.1 cx.2.1 h1 h2 rfl h3 (zin_in2 hj h4) (by rw [h5 _ (zin_iff.mp hj).2]; show some (va_rf (Option.map _ (zR M a _))) = _; rw [hq]; rfl) rfl rfl hdg kk
theorem zalen (cx : zCx D t0 base p s m c own cc nL) (hrep : zRep D t0 b0 base s H M) {a n : Nat} {ty : FieldType} {f : Nat → Value} (h : zAr s H (zad t0 b0 base a) ty n f) (hdg : decode cc pc = .ok (.arraylength, 1))
    (kk : W p l e R s m args below meth c H locs cells slots Q (F0 m (pc + 1) ls (.int (Int32.ofNat n) :: rest))) : W p l e R s m args below meth c H locs cells slots Q (F0 m pc ls (.ref (zad t0 b0 base a) :: rest)) := by
  obtain ⟨cell, h1, h2, h3, h4, h6, h5⟩ := h
  exact W.alen (n := Int32.ofNat n) cx.1 cx.2.1 h1 h2 h6 rfl rfl hdg kk
theorem zupd_i {fI : Nat → Int32} {j : Nat} {x : Int32} (cA : ClassId) (n : Nat) : (arrV cA n (fun i => .int (fI i))).setSlot j (.int x) = arrV cA n (fun i => .int (if i = j then x else fI i)) := by
  rw [arrV_store]
  congr 1
  funext i
  by_cases h : i = j
  · subst h; simp [updV]
  · simp [updV, h]
theorem zupd_l {fI : Nat → Int64} {j : Nat} {x : Int64} (cA : ClassId) (n : Nat) : (arrV cA n (fun i => .long (fI i))).setSlot j (.long x) = arrV cA n (fun i => .long (if i = j then x else fI i)) := by
  rw [arrV_store]
  congr 1
  funext i
  by_cases h : i = j
  · subst h; simp [updV]
  · simp [updV, h]
theorem zupd_r {ad : Nat → Nat} {fI : Nat → Option Nat} {j : Nat} {x : Nat} (cA : ClassId) (n : Nat) : (arrV cA n (fun i => va_rf ((fI i).map ad))).setSlot j (.ref (ad x)) = arrV cA n (fun i => va_rf ((if i = j then some x else fI i).map ad)) := by
  rw [arrV_store]
  congr 1
  funext i
  by_cases h : i = j
  · subst h; simp [updV, va_rf]
  · simp [updV, h]
theorem zast_i (cx : zCx D t0 base p s m c own cc nL) (hrep : zRep D t0 b0 base s H M) (hS : va_S (fun q => base ≤ q) s.heap H locs) {a : Nat} {j x : Int32} (h : (zK M a).1 = 20) (hj : zin j (zK M a).2 = true) (hdg : decode cc pc = .ok (.iastore, 1))
    (kk : ∀ (H1 : Heap) (locs1 : List Loc), zRep D t0 b0 base s H1 (zsI M a j.toNatClampNeg x) → va_S (fun q => base ≤ q) s.heap H1 locs1 → W p l e R s m args below meth c H1 locs1 cells slots Q (F0 m (pc + 1) ls rest)) : W p l e R s m args below meth c H locs cells slots Q (F0 m pc ls (.int x :: .int j :: .ref (zad t0 b0 base a) :: rest)) := by
  obtain ⟨cA, h1, h2, h3⟩ := (hrep.2.2.2.2.2.2.2.1 a).2.1 h
  have ha : 2 ≤ a := hrep.two (by omega) (by omega)
  refine W.iast cx.1 cx.2.1 h1 (h2 _ _) (fun q => by cases q) (by rw [arrV_size]; exact zin_in hj) rfl rfl hdg fun H1 e1 z o => ?_
  refine kk H1 _ (hrep.put ha rfl rfl (fun b hb => zu_row _ _ _ _ hb) (fun _ _ => rfl) (fun _ _ => rfl) z o ?_) (hS.put z o (zad_A ha))
  refine ⟨fun ci2 r2 q hc2 => ?_, fun q => ?_, fun q => by omega, fun q => by omega, fun q => by omega, fun q => by omega, fun q => by omega, fun ci2 r2 q => by omega⟩
  · exfalso
    have hlt : ci2 < 11 := (List.getElem?_eq_some_iff.mp hc2).1
    omega
  · refine ⟨cA, ?_, h2, h3⟩
    rw [e1, zupd_i]
    congr 2
    funext i
    show _ = Value.int (zu _ a _ x a i)
    rw [zu_at]
    rfl
theorem zast_l (cx : zCx D t0 base p s m c own cc nL) (hrep : zRep D t0 b0 base s H M) (hS : va_S (fun q => base ≤ q) s.heap H locs) {a : Nat} {j : Int32} {x : Int64} (h : (zK M a).1 = 23) (hj : zin j (zK M a).2 = true) (hdg : decode cc pc = .ok (.lastore, 1))
    (kk : ∀ (H1 : Heap) (locs1 : List Loc), zRep D t0 b0 base s H1 (zsL M a j.toNatClampNeg x) → va_S (fun q => base ≤ q) s.heap H1 locs1 → W p l e R s m args below meth c H1 locs1 cells slots Q (F0 m (pc + 1) ls rest)) : W p l e R s m args below meth c H locs cells slots Q (F0 m pc ls (.long x :: .int j :: .ref (zad t0 b0 base a) :: rest)) := by
  obtain ⟨cA, h1, h2, h3⟩ := (hrep.2.2.2.2.2.2.2.1 a).2.2.2.2.1 h
  have ha : 2 ≤ a := hrep.two (by omega) (by omega)
  refine W.last cx.1 cx.2.1 h1 (h2 _ _) (fun q => by cases q) (by rw [arrV_size]; exact zin_in hj) rfl rfl hdg fun H1 e1 z o => ?_
  refine kk H1 _ (hrep.put ha rfl rfl (fun _ _ => rfl) (fun b hb => zu_row _ _ _ _ hb) (fun _ _ => rfl) z o ?_) (hS.put z o (zad_A ha))
  refine ⟨fun ci2 r2 q hc2 => ?_, fun q => by omega, fun q => by omega, fun q => by omega, fun q => ?_, fun q => by omega, fun q => by omega, fun ci2 r2 q => by omega⟩
  · exfalso
    have hlt : ci2 < 11 := (List.getElem?_eq_some_iff.mp hc2).1
    omega
  · refine ⟨cA, ?_, h2, h3⟩
    rw [e1, zupd_l]
    congr 2
    funext i
    show _ = Value.long (zu _ a _ x a i)
    rw [zu_at]
    rfl
theorem znar_z (x : Int32) : narrow .boolean (.int x) = .int (vp_nar .boolean x) := rfl
theorem znar_b (x : Int32) : narrow .byte (.int x) = .int (vp_nar .byte x) := rfl
theorem zast_z (cx : zCx D t0 base p s m c own cc nL) (hrep : zRep D t0 b0 base s H M) (hS : va_S (fun q => base ≤ q) s.heap H locs) {a : Nat} {j x : Int32} (h : (zK M a).1 = 21) (hj : zin j (zK M a).2 = true) (hdg : decode cc pc = .ok (.bastore, 1))
    (kk : ∀ (H1 : Heap) (locs1 : List Loc), zRep D t0 b0 base s H1 (zsI M a j.toNatClampNeg (vp_nar .boolean x)) → va_S (fun q => base ≤ q) s.heap H1 locs1 → W p l e R s m args below meth c H1 locs1 cells slots Q (F0 m (pc + 1) ls rest)) : W p l e R s m args below meth c H locs cells slots Q (F0 m pc ls (.int x :: .int j :: .ref (zad t0 b0 base a) :: rest)) := by
  obtain ⟨cA, h1, h2, h3⟩ := (hrep.2.2.2.2.2.2.2.1 a).2.2.1 h
  have ha : 2 ≤ a := hrep.two (by omega) (by omega)
  refine W.zast cx.1 cx.2.1 h1 (h2 _ _) (fun q => by cases q) (by rw [arrV_size]; exact zin_in hj) rfl rfl hdg fun H1 e1 z o => ?_
  refine kk H1 _ (hrep.put ha rfl rfl (fun b hb => zu_row _ _ _ _ hb) (fun _ _ => rfl) (fun _ _ => rfl) z o ?_) (hS.put z o (zad_A ha))
  refine ⟨fun ci2 r2 q hc2 => ?_, fun q => by omega, fun q => ?_, fun q => by omega, fun q => by omega, fun q => by omega, fun q => by omega, fun ci2 r2 q => by omega⟩
  · exfalso
    have hlt : ci2 < 11 := (List.getElem?_eq_some_iff.mp hc2).1
    omega
  · refine ⟨cA, ?_, h2, h3⟩
    rw [e1, znar_z, zupd_i]
    congr 2
    funext i
    show _ = Value.int (zu _ a _ _ a i)
    rw [zu_at]
    rfl
theorem zast_b (cx : zCx D t0 base p s m c own cc nL) (hrep : zRep D t0 b0 base s H M) (hS : va_S (fun q => base ≤ q) s.heap H locs) {a : Nat} {j x : Int32} (h : (zK M a).1 = 22) (hj : zin j (zK M a).2 = true) (hdg : decode cc pc = .ok (.bastore, 1))
    (kk : ∀ (H1 : Heap) (locs1 : List Loc), zRep D t0 b0 base s H1 (zsI M a j.toNatClampNeg (vp_nar .byte x)) → va_S (fun q => base ≤ q) s.heap H1 locs1 → W p l e R s m args below meth c H1 locs1 cells slots Q (F0 m (pc + 1) ls rest)) : W p l e R s m args below meth c H locs cells slots Q (F0 m pc ls (.int x :: .int j :: .ref (zad t0 b0 base a) :: rest)) := by
  obtain ⟨cA, h1, h2, h3⟩ := (hrep.2.2.2.2.2.2.2.1 a).2.2.2.1 h
  have ha : 2 ≤ a := hrep.two (by omega) (by omega)
  refine W.bast cx.1 cx.2.1 h1 (h2 _ _) (fun q => by cases q) (by rw [arrV_size]; exact zin_in hj) rfl rfl hdg fun H1 e1 z o => ?_
  refine kk H1 _ (hrep.put ha rfl rfl (fun b hb => zu_row _ _ _ _ hb) (fun _ _ => rfl) (fun _ _ => rfl) z o ?_) (hS.put z o (zad_A ha))
  refine ⟨fun ci2 r2 q hc2 => ?_, fun q => by omega, fun q => by omega, fun q => ?_, fun q => by omega, fun q => by omega, fun q => by omega, fun ci2 r2 q => by omega⟩
  · exfalso
    have hlt : ci2 < 11 := (List.getElem?_eq_some_iff.mp hc2).1
    omega
  · refine ⟨cA, ?_, h2, h3⟩
    rw [e1, znar_b, zupd_i]
    congr 2
    funext i
    show _ = Value.int (zu _ a _ _ a i)
    rw [zu_at]
    rfl
theorem zast_r (cx : zCx D t0 base p s m c own cc nL) (hrep : zRep D t0 b0 base s H M) (hS : va_S (fun q => base ≤ q) s.heap H locs) {a q ci : Nat} {j : Int32} {r : vw_C} (hq : (zK M q).1 = ci + 1) (h : (zK M a).1 = 30 + ci) (hc : vwCl[ci]? = some r) (hj : zin j (zK M a).2 = true) (hdg : decode cc pc = .ok (.aastore, 1))
    (kk : ∀ (H1 : Heap) (locs1 : List Loc), zRep D t0 b0 base s H1 (zsR M a j.toNatClampNeg (some q)) → va_S (fun q => base ≤ q) s.heap H1 locs1 → W p l e R s m args below meth c H1 locs1 cells slots Q (F0 m (pc + 1) ls rest)) : W p l e R s m args below meth c H locs cells slots Q (F0 m pc ls (.ref (zad t0 b0 base q) :: .int j :: .ref (zad t0 b0 base a) :: rest)) := by
  obtain ⟨cA, h1, h2, h3⟩ := (hrep.2.2.2.2.2.2.2.1 a).2.2.2.2.2.2.2 ci r h hc
  have ha : 2 ≤ a := hrep.two (by omega) (by omega)
  obtain ⟨cellV, g1, g2, g3, -⟩ := (hrep.2.2.2.2.2.2.2.1 q).1 ci r hq hc
  have hcls := (cx.2.2.2.2.2.1.1 ci r hc).2
  obtain ⟨kA, comp, k1, k2, k3, k4⟩ := id h3
  have hcomp : comp = D.1 ci := Option.some.inj (k3.symm.trans hcls.1)
  subst hcomp
  obtain ⟨kC, hkC, -⟩ := hcls.2
  refine W.aast cx.1 cx.2.1 h1 (fun q h => by cases h) (fun h => by cases h) k1 k2 rfl hkC ⟨(zin_iff.mp hj).1, by rw [arrV_size]; exact (zin_iff.mp hj).2⟩ g1 (fun q h => by rw [g3] at h; cases h) (by rw [g2]; exact hkC) (by rw [g2]; exact va_assign hcls) rfl rfl hdg fun H1 e1 z o => ?_
  refine kk H1 _ (hrep.put ha rfl rfl (fun _ _ => rfl) (fun _ _ => rfl) (fun b hb => zu_row _ _ _ _ hb) z o ?_) (hS.put z o (zad_A ha))
  have hlt0 : ci < 11 := (List.getElem?_eq_some_iff.mp hc).1
  refine ⟨fun ci2 r2 q hc2 => ?_, fun q => by omega, fun q => by omega, fun q => by omega, fun q => by omega, fun q => by omega, fun q => by omega, fun ci2 r2 q2 hc2 => ?_⟩
  · exfalso
    have hlt : ci2 < 11 := (List.getElem?_eq_some_iff.mp hc2).1
    omega
  · have : ci2 = ci := by omega
    subst this
    cases hc.symm.trans hc2
    refine ⟨cA, ?_, h2, h3⟩
    rw [e1, zupd_r]
    congr 2
    funext i
    show _ = va_rf (Option.map _ (zu _ a _ _ a i))
    rw [zu_at]
    rfl
end ZOPS
end
section
section ZOPS2
variable {p : Program} {l : Launch} {e : Env} {R : Room} {s : State} {m : MethodId} {args : Array Value} {below : List Frame} {meth : Method} {c : Code} {H : Heap} {locs : List Loc} {cells slots : Nat} {Q : State → Prop}
variable {cc : ByteArray} {pc nL : Nat} {ls : Array Slot} {rest : List Value} {D : va_G} {t0 b0 base : Nat} {own : String} {M : zM}
theorem zS_new {A : Nat → Prop} {H0 H1 : Heap} (h : va_S A H0 H locs) (z : H1.size = H.size + 1) (o : ∀ x, x < H.size → H1[x]? = H[x]?) : va_S A H0 H1 locs :=
  ⟨by rw [z]; exact Nat.le_succ_of_le h.1, fun q h1 h2 => by rw [o q (Nat.lt_of_lt_of_le h1 h.1)]; exact h.2.1 q h1 h2, h.2.2⟩
theorem zdef {ad : Nat → Nat} {ty : FieldType} (h : ¬ ztyc ty = 9) : defaultValue ty = zfv ad ty 0 0 none := by
  cases ty <;> first | rfl | exact absurd rfl h
theorem ztyc9 {ci : Nat} {r : vw_C} (h : vwCl[ci]? = some r) : ∀ k, k < r.2.2 → ¬ ztyc (ztys ci k) = 9 := by
  match ci, h with
  | 0, h => cases h; decide +kernel
  | 1, h => cases h; decide +kernel
  | 2, h => cases h; decide +kernel
  | 3, h => cases h; decide +kernel
  | 4, h => cases h; decide +kernel
  | 5, h => cases h; decide +kernel
  | 6, h => cases h; decide +kernel
  | 7, h => cases h; decide +kernel
  | 8, h => cases h; decide +kernel
  | 9, h => cases h; decide +kernel
  | 10, h => cases h; decide +kernel
  | n + 11, h => simp [vwCl] at h
theorem zH_N (hrep : zRep D t0 b0 base s H M) : zad t0 b0 base (zN M) = H.size := by
  rw [zad_2 hrep.2.1]
  have := hrep.1
  have := hrep.2.1
  omega
theorem znew_o (cx : zCx D t0 base p s m c own cc nL) (hrep : zRep D t0 b0 base s H M) (hS : va_S (fun q => base ≤ q) s.heap H locs) {ci idx p1 p2 p3 : Nat} {r : vw_C} (hc : vwCl[ci]? = some r) (w1 : zword p1 (.classLink own idx r.1) = true) (w2 : zword p2 (.instantiable r.1 r.2.2) = true) (w3 : zword p3 (.initialized r.1) = true)
    (hcells : cells + 1 ≤ R.cells) (hslots : slots + r.2.2 ≤ R.slots) (hdg : decode cc pc = .ok (.new idx, 3))
    (kk : ∀ (H1 : Heap), zRep D t0 b0 base s H1 (znew M (ci + 1) r.2.2) → va_S (fun q => base ≤ q) s.heap H1 locs → W p l e R s m args below meth c H1 locs (cells + 1) (slots + r.2.2) Q (F0 m (pc + 3) ls (.ref (zad t0 b0 base (zN M)) :: rest))) : W p l e R s m args below meth c H locs cells slots Q (F0 m pc ls rest) := by
  obtain ⟨hx, hb, -, hown, hT, hK, -, -⟩ := cx
  have hKn := hK.1 ci _ hc
  have hlt : ci < 11 := (List.getElem?_eq_some_iff.mp hc).1
  refine W.newcK hx hb hown (zword_ok hT w1 rfl args) (zword_ok hT w2 rfl args) (zword_ok hT w3 rfl args) rfl hdg hcells hslots hKn.2.1 rfl fun H1 kC hkC e1 z1 o1 => ?_
  have k1 := kk H1 (hrep.new (by omega) (Or.inr (Or.inl (by omega))) z1 o1 ?_) (zS_new hS z1 o1)
  · rw [zH_N hrep] at k1
    exact k1
  · refine ⟨fun ci2 r2 q hc2 => ?_, fun q => by omega, fun q => by omega, fun q => by omega, fun q => by omega, fun q => by omega, fun q => by omega, fun ci2 r2 q hc2 => by omega⟩
    have : ci2 = ci := by omega
    subst this
    cases hc.symm.trans hc2
    exact (u_born (ztys ci2) (zlays hT hc args) (fun _ h => h) hKn hkC e1 (ztyp hc)).to fun j hj => zdef (ztyc9 hc j hj)
theorem zcel_ar {ad : Nat → Nat} {H1 : Heap} {q t n : Nat} {cA : ClassId} {ty : FieldType} (h1 : H1[q]? = some (arrV cA n (fun _ => defaultValue ty))) (h2 : ArrOfT s cA ty) (h3 : va_RA s cA ty) (ht : (t = 20 ∧ ty = .int) ∨ (t = 21 ∧ ty = .boolean) ∨ (t = 22 ∧ ty = .byte) ∨ (t = 23 ∧ ty = .long)) : zcel D ad s H1 q t n (fun _ => 0) (fun _ => 0) (fun _ => none) := by
  have hno : ∀ (ci2 : Nat) (r2 : vw_C), t = ci2 + 1 → vwCl[ci2]? = some r2 → False := by
    intro ci2 r2 q hc2
    have hlt : ci2 < 11 := (List.getElem?_eq_some_iff.mp hc2).1
    omega
  rcases ht with ⟨h, rfl⟩ | ⟨h, rfl⟩ | ⟨h, rfl⟩ | ⟨h, rfl⟩
  · exact ⟨fun a b c d => (hno a b c d).elim, fun _ => ⟨cA, h1, h2, h3⟩, fun q => by omega, fun q => by omega, fun q => by omega, fun q => by omega, fun q => by omega, fun ci2 r2 q hc2 => by omega⟩
  · exact ⟨fun a b c d => (hno a b c d).elim, fun q => by omega, fun _ => ⟨cA, h1, h2, h3⟩, fun q => by omega, fun q => by omega, fun q => by omega, fun q => by omega, fun ci2 r2 q hc2 => by omega⟩
  · exact ⟨fun a b c d => (hno a b c d).elim, fun q => by omega, fun q => by omega, fun _ => ⟨cA, h1, h2, h3⟩, fun q => by omega, fun q => by omega, fun q => by omega, fun ci2 r2 q hc2 => by omega⟩
  · exact ⟨fun a b c d => (hno a b c d).elim, fun q => by omega, fun q => by omega, fun q => by omega, fun _ => ⟨cA, h1, h2, h3⟩, fun q => by omega, fun q => by omega, fun ci2 r2 q hc2 => by omega⟩
theorem znew_a (cx : zCx D t0 base p s m c own cc nL) (hrep : zRep D t0 b0 base s H M) (hS : va_S (fun q => base ≤ q) s.heap H locs) {t p1 : Nat} {atype : ArrayType} (w1 : zword p1 (.arrayClass (newarray.typeOf atype)) = true) (ht : (t = 20 ∧ newarray.typeOf atype = .int) ∨ (t = 21 ∧ newarray.typeOf atype = .boolean) ∨ (t = 22 ∧ newarray.typeOf atype = .byte) ∨ (t = 23 ∧ newarray.typeOf atype = .long)) {n : Int32} (hn : ¬ n < 0) (hmax : n.toNatClampNeg ≤ 100000)
    (hcells : cells + 1 ≤ R.cells) (hslots : slots + n.toNatClampNeg ≤ R.slots) (hdg : decode cc pc = .ok (.newarray atype, 2))
    (kk : ∀ (H1 : Heap), zRep D t0 b0 base s H1 (znew M t n.toNatClampNeg) → va_S (fun q => base ≤ q) s.heap H1 locs → W p l e R s m args below meth c H1 locs (cells + 1) (slots + n.toNatClampNeg) Q (F0 m (pc + 2) ls (.ref (zad t0 b0 base (zN M)) :: rest))) : W p l e R s m args below meth c H locs cells slots Q (F0 m pc ls (.int n :: rest)) := by
  obtain ⟨hx, hb, -, hown, hT, hK, -, -⟩ := cx
  have hby : n.toNatClampNeg * componentBytes (newarray.typeOf atype) ≤ 536870912 := by
    have h8 : componentBytes (newarray.typeOf atype) ≤ 8 := by cases atype <;> decide
    exact Nat.le_trans (Nat.mul_le_mul hmax h8) (by decide)
  refine va_newaK hx hb (zword_ok hT w1 rfl args) rfl hdg rfl hn rfl hby hcells hslots rfl fun H1 cA e1 z1 o1 hAr hNm => ?_
  have hRA : va_RA s cA (newarray.typeOf atype) := by cases atype <;> exact hNm
  have k1 := kk H1 (hrep.new (by omega) (Or.inr (Or.inl (by omega))) z1 o1 (zcel_ar e1 hAr hRA ht)) (zS_new hS z1 o1)
  rw [zH_N hrep] at k1
  exact k1
theorem znew_q (cx : zCx D t0 base p s m c own cc nL) (hrep : zRep D t0 b0 base s H M) (hS : va_S (fun q => base ≤ q) s.heap H locs) {ci idx p1 p2 : Nat} {r : vw_C} (hc : vwCl[ci]? = some r) (w1 : zword p1 (.classLink own idx r.1) = true) (w2 : zword p2 (.arrayOver (.object r.1)) = true) {n : Int32} (hn : ¬ n < 0) (hmax : n.toNatClampNeg ≤ 100000)
    (hcells : cells + 1 ≤ R.cells) (hslots : slots + n.toNatClampNeg ≤ R.slots) (hdg : decode cc pc = .ok (.anewarray idx, 3))
    (kk : ∀ (H1 : Heap), zRep D t0 b0 base s H1 (znew M (30 + ci) n.toNatClampNeg) → va_S (fun q => base ≤ q) s.heap H1 locs → W p l e R s m args below meth c H1 locs (cells + 1) (slots + n.toNatClampNeg) Q (F0 m (pc + 3) ls (.ref (zad t0 b0 base (zN M)) :: rest))) : W p l e R s m args below meth c H locs cells slots Q (F0 m pc ls (.int n :: rest)) := by
  obtain ⟨hx, hb, -, hown, hT, hK, -, -⟩ := cx
  have hlt : ci < 11 := (List.getElem?_eq_some_iff.mp hc).1
  refine W.anew hx hb hown (zword_ok hT w1 rfl args) (zword_ok hT w2 rfl args) rfl hdg rfl hn (by omega) hcells hslots fun cA kA comp h1 h2 h3 h4 => ?_
  rw [arrV_new]
  have z1 : (H.push (arrV cA n.toNatClampNeg (fun _ => .null))).size = H.size + 1 := by simp
  have o1 : ∀ x, x < H.size → (H.push (arrV cA n.toNatClampNeg (fun _ => .null)))[x]? = H[x]? := fun x hx => by rw [Array.getElem?_push, if_neg (Nat.ne_of_lt hx)]
  have k1 := kk _ (hrep.new (t := 30 + ci) (n := n.toNatClampNeg) (by omega) (Or.inr (Or.inr ⟨ci, r, rfl, hc⟩)) z1 o1 ?_) (zS_new hS z1 o1)
  · rw [zH_N hrep] at k1
    exact k1
  · refine ⟨fun ci2 r2 q hc2 => ?_, fun q => by omega, fun q => by omega, fun q => by omega, fun q => by omega, fun q => by omega, fun q => by omega, fun ci2 r2 q hc2 => ?_⟩
    · exfalso
      have hlt : ci2 < 11 := (List.getElem?_eq_some_iff.mp hc2).1
      omega
    · have : ci2 = ci := by omega
      subst this
      cases hc.symm.trans hc2
      exact ⟨cA, by simp [va_rf], fun n z => ⟨fun k h => (by cases h), kA, h2, comp, h3⟩, kA, comp, h2, h3, h4, h1⟩
theorem zcopy_W (cx : zCx D t0 base p s m c own cc nL) (hrep : zRep D t0 b0 base s H M) (hS : va_S (fun q => base ≤ q) s.heap H locs) (hsz : ls.size = nL) {idx p1 p2 p3 p4 a b : Nat} (w1 : zword p1 (.methodLink own idx arraycopyName) = true) (w2 : zword p2 (.native arraycopyName) = true) (w3 : zword p3 (.static arraycopyName) = true) (w4 : zword p4 (.initialized "java/lang/System") = true)
    {sp dp n : Int32} (ha : (zK M a).1 = 20) (hb' : (zK M b).1 = 20) (h1 : ¬ sp < 0) (h2 : ¬ dp < 0) (h3 : ¬ n < 0) (h4 : sp.toNatClampNeg + n.toNatClampNeg ≤ (zK M a).2) (h5 : dp.toNatClampNeg + n.toNatClampNeg ≤ (zK M b).2)
    (hframes : 1 ≤ R.frames) (hlocals : (rest.map fun v => v.category).sum + 18 ≤ R.locals) (hdg : decode cc pc = .ok (.invokestatic idx, 3))
    (kk : ∀ (H1 : Heap) (locs1 : List Loc), zRep D t0 b0 base s H1 (zcopy M a sp.toNatClampNeg b dp.toNatClampNeg n.toNatClampNeg) → va_S (fun q => base ≤ q) s.heap H1 locs1 → W p l e R s m args below meth c H1 locs1 cells slots Q (F0 m (pc + 3) ls rest)) : W p l e R s m args below meth c H locs cells slots Q (F0 m pc ls (.int n :: .int dp :: .ref (zad t0 b0 base b) :: .int sp :: .ref (zad t0 b0 base a) :: rest)) := by
  obtain ⟨hx, hb, hml, hown, hT, hK, -, -⟩ := cx
  have nn : ∀ z : Int32, ¬ z < 0 → z.toInt = (z.toNatClampNeg : Int) := by
    intro z hz
    have hz0 : (0 : Int) ≤ z.toInt := by
      have := Int32.not_lt.mp hz
      simpa using Int32.le_iff_toInt_le.mp this
    show z.toInt = ((z.toInt.toNat : Nat) : Int)
    omega
  obtain ⟨c0, hc0, g2, g3⟩ := (hrep.2.2.2.2.2.2.2.1 a).2.1 ha
  obtain ⟨c1, hc1, f2, f3⟩ := (hrep.2.2.2.2.2.2.2.1 b).2.1 hb'
  have hb2 : 2 ≤ b := hrep.two (by omega) (by omega)
  generalize hn0 : (zK M a).2 = n0 at *
  generalize hn1 : (zK M b).2 = n1 at *
  intro T hT' X
  obtain ⟨-, k0, hk0, cm0, hkk0⟩ := g2 n0 (fun j => .int (zI M a j))
  obtain ⟨-, k1, hk1, cm1, hkk1⟩ := f2 n1 (fun j => .int (zI M b j))
  obtain ⟨vm', X', step⟩ := X.arraycopy hx hown (zword_ok hT w1 rfl args) (zword_ok hT w2 rfl args) (zword_ok hT w3 rfl args) (zword_ok hT w4 rfl args) (srcPos := sp) (destPos := dp) (n := n) (by rw [hT']; exact hc0) (by rw [hT']; exact hc1)
    (fun _ h => by cases h) (fun _ h => by cases h) (fun h => by cases h) (fun h => by cases h) hk0 hk1 hkk0 hkk1 rfl h1 h2 h3
    (by rw [nn sp h1, nn n h3]; show ¬ _ > ((arrV c0 n0 _).slots.size : Int); rw [arrV_size]; omega)
    (by rw [nn dp h2, nn n h3]; show ¬ _ > ((arrV c1 n1 _).slots.size : Int); rw [arrV_size]; omega)
    (fun vm₁ _ i hi => by
      have e : (arrV c0 n0 (fun j => Value.int (zI M a j))).slots.getD (sp.toNatClampNeg + i) .null = .int (zI M a (sp.toNatClampNeg + i)) := by
        rw [Array.getD_eq_getD_getElem?, arrV_read _ _ (by omega)]
        rfl
      refine ⟨?_, ?_⟩
      · rw [e]; rfl
      · rw [e]; exact trivial)
    (g := F0 m pc ls (.int n :: .int dp :: .ref (zad t0 b0 base b) :: .int sp :: .ref (zad t0 b0 base a) :: rest)) rfl (by rw [hml]; exact hsz) (rest := rest) rfl (by rw [hb]; exact hdg) hframes (by show 2 * 0 + _ + (5 + 2 + 11) ≤ _; omega)
  have e1 : copied (arrV c0 n0 (fun j => Value.int (zI M a j))) (arrV c1 n1 (fun j => Value.int (zI M b j))) sp dp n = arrV c1 n1 (fun j => Value.int (va_cpy (zI M a) (zI M b) sp.toNatClampNeg dp.toNatClampNeg n.toNatClampNeg j)) := va_copied (fun z => .int z) c0 c1 _ _ h4
  rw [e1] at X' step
  have hl : zad t0 b0 base b < H.size := (Array.getElem?_eq_some_iff.mp hc1).1
  generalize hcell : arrV c1 n1 (fun j => Value.int (va_cpy (zI M a) (zI M b) sp.toNatClampNeg dp.toNatClampNeg n.toNatClampNeg j)) = cell at X' step
  have hheap : ((T.setVm vm').setCell (zad t0 b0 base b) cell).heap = H.setIfInBounds (zad t0 b0 base b) cell := by rw [← hT']; rfl
  have oq : ∀ q : Nat, q ≠ zad t0 b0 base b → (H.setIfInBounds (zad t0 b0 base b) cell)[q]? = H[q]? := fun q hq => by simp [Array.getElem?_setIfInBounds, Ne.symm hq]
  have zz : (H.setIfInBounds (zad t0 b0 base b) cell).size = H.size := by simp
  obtain ⟨t, a1, b1⟩ := kk _ (locs ++ ((arrV c0 n0 (fun j => Value.int (zI M a j))).stretch sp.toNatClampNeg n.toNatClampNeg).zipIdx.map fun q => ⟨zad t0 b0 base b, dp.toNatClampNeg + q.2⟩) (hrep.put (M1 := zcopy M a sp.toNatClampNeg b dp.toNatClampNeg n.toNatClampNeg) hb2 rfl rfl (fun x hx => by funext j; simp [zI, zcopy, zrow, hx]) (fun _ _ => rfl) (fun _ _ => rfl) zz oq (by
      refine ⟨fun ci2 r2 q hc2 => ?_, fun q => ?_, fun q => by omega, fun q => by omega, fun q => by omega, fun q => by omega, fun q => by omega, fun ci2 r2 q hc2 => by omega⟩
      · exfalso
        have hlt : ci2 < 11 := (List.getElem?_eq_some_iff.mp hc2).1
        omega
      · refine ⟨c1, ?_, f2, f3⟩
        rw [show (H.setIfInBounds (zad t0 b0 base b) cell)[zad t0 b0 base b]? = some cell by simp [Array.getElem?_setIfInBounds, hl], ← hcell, hn1]
        congr 2
        funext j
        simp [zI, zcopy, zrow]))
    ⟨by rw [zz]; exact hS.1, fun q g1 g2 => by
      rw [oq q (fun e => g2 (by rw [e]; exact zad_A hb2))]
      exact hS.2.1 q g1 g2, fun q hq => by
      rcases List.mem_append.mp hq with h | h
      · exact hS.2.2 q h
      · obtain ⟨z, -, hz⟩ := List.mem_map.mp h
        rw [← hz]
        exact zad_A hb2⟩ _ hheap X'
  exact ⟨t, step t a1, b1⟩
end ZOPS2
end
section
/-! calls -/
def zPc (D : va_G) (t0 b0 base : Nat) (as : List Value) (M : zM) : Array Value → State → Prop := fun v U => v = (as.map (zv (zad t0 b0 base))).toArray ∧ zRep D t0 b0 base U U.heap M ∧ va_K D vwCl [] U ∧ zTb U ∧ va_Z "PromiseTries$TruthStack" "PATTERNS" "[J" (.ref t0) (fun q => base ≤ q) U U.heap
def zQc (D : va_G) (t0 b0 base : Nat) (rv : Option Value) (M' : zM) : Array Value → State → Outcome → State → Prop := fun _ st oc t => oc = .returned (rv.map (zv (zad t0 b0 base))) ∧ zRep D t0 b0 base t t.heap M' ∧ st.heap.size ≤ t.heap.size ∧ ∀ q, q < base → t.heap[q]? = st.heap[q]?
def zRoom (d : Nat) (M M' : zM) : Room := { frames := d, cells := zN M' - zN M, slots := zsz M' - zsz M, locals := 64 * d }
def zMet (l : Launch) (d : Nat) (E : zE0) : Prop := ∀ (y : Nat) (as : List Value) (M : zM) (rv : Option Value) (M' : zM), y < 210 → E y as M = some (rv, M') → ∀ (D : va_G) (t0 b0 base : Nat), Met l (zNm y).1 [.code (zNm y).1 (zNm y).2.1 (zNm y).2.2.1 (zNm y).2.2.2] (zRoom d M M') (zPc D t0 b0 base as M) (zQc D t0 b0 base rv M') (zN M' - zN M) (zsz M' - zsz M) (fun q => base ≤ q)
theorem zPc.blind {D : va_G} {t0 b0 base : Nat} {as : List Value} {M : zM} : FrameBlind (zPc D t0 b0 base as M) := by
  intro a U g mk h
  obtain ⟨h1, h2, h3, h4, h5⟩ := h
  exact ⟨h1, zRep.moved (u := U) (U := U.calling g mk a) (Vm.Alike.refl U.vm) h2, va_K.moved (u := U) (U := U.calling g mk a) (Vm.Alike.refl U.vm) h3, zTb.warm (s := U) (U := U.calling g mk a) h4 (State.WarmedH.refl U), va_Z.moved (u := U) (U := U.calling g mk a) (Vm.Alike.refl U.vm) h5⟩
theorem zNm_mem {y : Nat} (h : y < 210) : zNm y ∈ zNl := by
  have hl : zNl.length = 210 := by decide +kernel
  unfold zNm
  rw [List.getD_eq_getElem?_getD, List.getElem?_eq_getElem (by rw [hl]; exact h)]
  exact List.getElem_mem _
theorem zmk_at {y : Nat} (h : y < 210) : ∃ w, zmk y w = true := by
  have hl : ((List.range 210).zip zmw).length = 210 := by decide +kernel
  have hy : y < ((List.range 210).zip zmw).length := by rw [hl]; exact h
  have hm := List.all_eq_true.mp zmk_ok _ (List.getElem_mem hy)
  have e : (((List.range 210).zip zmw)[y]).1 = y := by
    rw [List.getElem_zip]
    simp
  rw [e] at hm
  exact ⟨_, hm⟩
theorem zmk_inv {y : Nat} {w : List Nat} (h : zmk y w = true) : plainName (zNm y).1.cls = true ∧ (Cond.initialized (zNm y).1.cls) ∈ lw_tbl ∧ ((zNm y).1.cls ≠ "java/lang/invoke/MethodHandle" ∧ (zNm y).1.cls ≠ "java/lang/invoke/VarHandle") ∧ (zT y).1 = (zNm y).2.2.1 ∧ (zNm y).2.2.1 ≤ 40 ∧ zrtc (zT y).2.1 (zNm y).2.2.2 = true := by
  unfold zmk at h
  split at h
  · simp only [Bool.and_eq_true, decide_eq_true_eq] at h
    obtain ⟨⟨⟨⟨⟨⟨h1, h2⟩, h3⟩, h4⟩, h5⟩, h6⟩, h7⟩ := h
    exact ⟨h1, zword_mem h2, ⟨h3, h4⟩, h5, h6, h7⟩
  · cases h
section ZCALL
variable {p : Program} {l : Launch} {e : Env} {R : Room} {s : State} {m : MethodId} {args : Array Value} {below : List Frame} {meth : Method} {c : Code} {H : Heap} {locs : List Loc} {cells slots : Nat} {Q : State → Prop}
variable {cc : ByteArray} {pc nL : Nat} {ls : Array Slot} {rest : List Value} {D : va_G} {t0 b0 base : Nat} {own : String} {M M1 : zM} {d : Nat} {E : zE0} {y idx : Nat} {as : List Value} {rv : Option Value} {st0 : List Value}
theorem zrun_W {mc ms : Nat} {Ar : Array Value} (cx : zCx D t0 base p s m c own cc nL) (hr : va_Run p l e R s m args below meth c H locs cells slots mc ms (F0 m pc ls st0) rest (zQc D t0 b0 base rv M1 Ar) (fun q => base ≤ q)) (hS : va_S (fun q => base ≤ q) s.heap H locs)
    (kk : ∀ (H1 : Heap) (locs1 : List Loc), zRep D t0 b0 base s H1 M1 → va_S (fun q => base ≤ q) s.heap H1 locs1 → W p l e R s m args below meth c H1 locs1 (cells + mc) (slots + ms) Q (F0 m (pc + 3) ls ((rv.map (zv (zad t0 b0 base))).toList ++ rest))) : W p l e R s m args below meth c H locs cells slots Q (F0 m pc ls st0) := by
  intro T hT X
  obtain ⟨v, st₀, t, T', L, h0, X', hL, e1, e2, ⟨hv, hrep, hz, hk⟩, st⟩ := hr T hT X
  have hv : v = rv.map (zv (zad t0 b0 base)) := by cases hv; rfl
  subst hv
  have hvm : s.vm.Alike t.vm := by rw [← e2]; exact X'.warmed.alike
  obtain ⟨t2, a1, b1⟩ := kk t.heap (locs ++ L) (hrep.moved hvm.symm) ⟨Nat.le_trans hS.1 (by rw [← h0]; exact hz), fun q g1 g2 => by
      rw [hk q (Nat.not_le.mp g2), h0]
      exact hS.2.1 q g1 g2, fun q hq => by
      rcases List.mem_append.mp hq with h | h
      · exact hS.2.2 q h
      · exact hL q h⟩ T' e1 X'
  exact ⟨t2, st t2 a1, b1⟩
theorem zpre (cx : zCx D t0 base p s m c own cc nL) (hrep : zRep D t0 b0 base s H M) (hS : va_S (fun q => base ≤ q) s.heap H locs) : ∀ U : State, U.heap = H → s.WarmedH U.vm → zPc D t0 b0 base as M ((as.map (zv (zad t0 b0 base))).toArray) U := by
  intro U hU hW
  obtain ⟨hx, hb, -, hown, hT, hK, hZ, -⟩ := cx
  exact ⟨rfl, by rw [hU]; exact hrep.moved hW.alike, va_K.moved hW.alike hK, hT.warm hW, by rw [hU]; exact (hZ.kept (fun a ha hn => hS.2.1 a ha hn)).moved hW.alike⟩
theorem zcode_w (hT : zTb s) (hy : y < 210) : ∀ w ∈ ([.code (zNm y).1 (zNm y).2.1 (zNm y).2.2.1 (zNm y).2.2.2] : List Cond), ∀ (a' : Array Value) (U : State), s.WarmedH U.vm → w.before a' U = true := by
  intro w hw a' U hW
  rw [List.mem_singleton.mp hw]
  exact hT.warm hW _ (zcw _ (zNm_mem hy)) rfl a'
theorem zsig {n : Nat} {desc : String} (h : (parseMethodDescriptor desc).map (fun d => d.parameters.length) = some n) : ∀ sig, parseMethodDescriptor desc = some sig → n = sig.parameters.length := by
  intro sig hs
  rw [hs] at h
  exact (Option.some.inj h).symm
theorem zcallS (cx : zCx D t0 base p s m c own cc nL) (hrep : zRep D t0 b0 base s H M) (hS : va_S (fun q => base ≤ q) s.heap H locs) (hsz : ls.size = nL) (hM : zMet l d E) (hy : y < 210) (hE : E y as M = some (rv, M1)) (hfr : d + 1 ≤ R.frames) (hlo : 64 * (d + 1) ≤ R.locals) (hcells : cells + (zN M1 - zN M) ≤ R.cells) (hslots : slots + (zsz M1 - zsz M) ≤ R.slots)
    (hsg : (parseMethodDescriptor (zNm y).1.desc).map (fun d => d.parameters.length) = some as.length) {p1 p2 nest : Nat} (w2 : zword p2 (.static (zNm y).1) = true) (w1 : (nest = 0 ∧ zword p1 (.methodLink own idx (zNm y).1) = true) ∨ (¬ nest = 0 ∧ zword p1 (.methodLinkNest own idx (zNm y).1 zhost) = true)) (hroom : (rest.map fun v => v.category).sum ≤ 8) (hdg : decode cc pc = .ok (.invokestatic idx, 3))
    (kk : ∀ (H1 : Heap) (locs1 : List Loc), zRep D t0 b0 base s H1 M1 → va_S (fun q => base ≤ q) s.heap H1 locs1 → W p l e R s m args below meth c H1 locs1 (cells + (zN M1 - zN M)) (slots + (zsz M1 - zsz M)) Q (F0 m (pc + 3) ls ((rv.map (zv (zad t0 b0 base))).toList ++ rest))) : W p l e R s m args below meth c H locs cells slots Q (F0 m pc ls ((as.map (zv (zad t0 b0 base))).reverse ++ rest)) := by
  obtain ⟨w, hw⟩ := zmk_at hy
  obtain ⟨-, hini, hne, -, hmx, -⟩ := zmk_inv hw
  obtain ⟨hx, hb, hml, hown, hT, hK, hZ, hbs⟩ := id cx
  have hMm := hM y as M rv M1 hy hE D t0 b0 base
  have hlen : (as.map (zv (zad t0 b0 base))).length = as.length := List.length_map _
  rcases w1 with ⟨-, w1⟩ | ⟨-, w1⟩
  · refine zrun_W cx (va_runS (Ts := []) (rest := rest) ⟨hx, hb, hml, hown, fun _ h => absurd h List.not_mem_nil⟩ hMm ⟨⟨rfl, rfl, hfr, ?_, zcode_w hT hy, List.mem_singleton.mpr rfl, hT _ (zcw _ (zNm_mem hy)) rfl args, hT _ hini rfl args, hne, zsig hsg, zword_ok hT w1 rfl args⟩, zword_ok hT w2 rfl args⟩ ⟨zPc.blind, zpre cx hrep hS⟩ rfl hlen hsz rfl (lv_room hroom) hdg ⟨hcells, hslots⟩) hS kk
    show 8 + ((zNm y).2.2.1 + 11) + 64 * d ≤ R.locals
    omega
  · refine zrun_W cx (va_runSN (Ts := []) (rest := rest) ⟨hx, hb, hml, hown, fun _ h => absurd h List.not_mem_nil⟩ hMm ⟨⟨⟨rfl, rfl, hfr, ?_, zcode_w hT hy, List.mem_singleton.mpr rfl⟩, hT _ (zcw _ (zNm_mem hy)) rfl args, hT _ hini rfl args, hne, zsig hsg, zword_ok hT w1 rfl args⟩, zword_ok hT w2 rfl args, trivial⟩ ⟨zPc.blind, zpre cx hrep hS⟩ rfl hlen hsz rfl (lv_room hroom) hdg ⟨hcells, hslots⟩) hS kk
    show 8 + ((zNm y).2.2.1 + 11) + 64 * d ≤ R.locals
    omega
theorem zcallI (cx : zCx D t0 base p s m c own cc nL) (hrep : zRep D t0 b0 base s H M) (hS : va_S (fun q => base ≤ q) s.heap H locs) (hsz : ls.size = nL) (hM : zMet l d E) (hy : y < 210) {b : Nat} {as0 : List Value} (hab : as = .ref b :: as0) (hE : E y as M = some (none, M1)) (hfr : d + 1 ≤ R.frames) (hlo : 64 * (d + 1) ≤ R.locals) (hcells : cells + (zN M1 - zN M) ≤ R.cells) (hslots : slots + (zsz M1 - zsz M) ≤ R.slots)
    (hsg : (parseMethodDescriptor (zNm y).1.desc).map (fun d => d.parameters.length) = some as0.length) (hnone : (zNm y).2.2.2 = none) (hinit : (zNm y).1.name = "<init>") {p1 p2 nest : Nat} (w2 : zword p2 (.instanceMethod (zNm y).1) = true) (w1 : (nest = 0 ∧ zword p1 (.methodLink own idx (zNm y).1) = true) ∨ (¬ nest = 0 ∧ zword p1 (.methodLinkNest own idx (zNm y).1 zhost) = true)) (hroom : (rest.map fun v => v.category).sum ≤ 8) (hdg : decode cc pc = .ok (.invokespecial idx, 3))
    (kk : ∀ (H1 : Heap) (locs1 : List Loc), zRep D t0 b0 base s H1 M1 → va_S (fun q => base ≤ q) s.heap H1 locs1 → W p l e R s m args below meth c H1 locs1 (cells + (zN M1 - zN M)) (slots + (zsz M1 - zsz M)) Q (F0 m (pc + 3) ls rest)) : W p l e R s m args below meth c H locs cells slots Q (F0 m pc ls ((as.map (zv (zad t0 b0 base))).reverse ++ rest)) := by
  subst hab
  obtain ⟨w, hw⟩ := zmk_at hy
  obtain ⟨-, hini, hne, -, hmx, -⟩ := zmk_inv hw
  obtain ⟨hx, hb, hml, hown, hT, hK, hZ, hbs⟩ := id cx
  have hMm := hM y _ M none M1 hy hE D t0 b0 base
  rw [hnone] at hMm
  have hcw := zcw _ (zNm_mem hy)
  rw [hnone] at hcw
  have hcw2 := zcode_w hT hy
  rw [hnone] at hcw2
  have hlen : (as0.map (zv (zad t0 b0 base))).length = as0.length := List.length_map _
  have hst : ((Value.ref b :: as0).map (zv (zad t0 b0 base))).reverse ++ rest = (as0.map (zv (zad t0 b0 base))).reverse ++ .ref (zad t0 b0 base b) :: rest := by
    simp [zv]
  rw [hst]
  rcases w1 with ⟨-, w1⟩ | ⟨-, w1⟩
  · refine zrun_W (rv := none) cx (va_runI (Ts := []) (rest := rest) ⟨hx, hb, hml, hown, fun _ h => absurd h List.not_mem_nil⟩ hMm ⟨⟨rfl, rfl, hfr, ?_, hcw2, List.mem_singleton.mpr rfl, hT _ hcw rfl args, hT _ hini rfl args, hne, zsig hsg, zword_ok hT w1 rfl args⟩, hinit, zword_ok hT w2 rfl args⟩ ⟨zPc.blind, zpre cx hrep hS⟩ rfl hlen hsz rfl (lv_room hroom) hdg ⟨hcells, hslots⟩) hS kk
    show 8 + ((zNm y).2.2.1 + 11) + 64 * d ≤ R.locals
    omega
  · refine zrun_W (rv := none) cx (va_runIN (Ts := []) (rest := rest) ⟨hx, hb, hml, hown, fun _ h => absurd h List.not_mem_nil⟩ hMm ⟨⟨⟨rfl, rfl, hfr, ?_, hcw2, List.mem_singleton.mpr rfl⟩, hT _ hcw rfl args, hT _ hini rfl args, hne, zsig hsg, zword_ok hT w1 rfl args⟩, hinit, zword_ok hT w2 rfl args⟩ ⟨zPc.blind, zpre cx hrep hS⟩ rfl hlen hsz rfl (lv_room hroom) hdg ⟨hcells, hslots⟩) hS kk
    show 8 + ((zNm y).2.2.1 + 11) + 64 * d ≤ R.locals
    omega
theorem zcallV (cx : zCx D t0 base p s m c own cc nL) (hrep : zRep D t0 b0 base s H M) (hS : va_S (fun q => base ≤ q) s.heap H locs) (hsz : ls.size = nL) (hM : zMet l d E) (hy : y < 210) {b t : Nat} {as0 : List Value} (hab : as = .ref b :: as0) (hE : E y as M = some (rv, M1)) (hfr : d + 1 ≤ R.frames) (hlo : 64 * (d + 1) ≤ R.locals) (hcells : cells + (zN M1 - zN M) ≤ R.cells) (hslots : slots + (zsz M1 - zsz M) ≤ R.slots)
    (hsg : (parseMethodDescriptor (zNm y).1.desc).map (fun d => d.parameters.length) = some as0.length) (ht : (zK M b).1 = t + 1) (hcl : (vwCl[t]?).map (fun q => q.1) = some (zNm y).1.cls) {p1 p2 p3 nest : Nat} (w2 : zword p2 (.instanceMethod (zNm y).1) = true) (w3 : zword p3 (.selects (zNm y).1.cls (zNm y).1 (zNm y).1) = true) (w1 : (nest = 0 ∧ zword p1 (.methodLink own idx (zNm y).1) = true) ∨ (¬ nest = 0 ∧ zword p1 (.methodLinkNest own idx (zNm y).1 zhost) = true)) (hroom : (rest.map fun v => v.category).sum ≤ 8) (hdg : decode cc pc = .ok (.invokevirtual idx, 3))
    (kk : ∀ (H1 : Heap) (locs1 : List Loc), zRep D t0 b0 base s H1 M1 → va_S (fun q => base ≤ q) s.heap H1 locs1 → W p l e R s m args below meth c H1 locs1 (cells + (zN M1 - zN M)) (slots + (zsz M1 - zsz M)) Q (F0 m (pc + 3) ls ((rv.map (zv (zad t0 b0 base))).toList ++ rest))) : W p l e R s m args below meth c H locs cells slots Q (F0 m pc ls ((as.map (zv (zad t0 b0 base))).reverse ++ rest)) := by
  subst hab
  obtain ⟨w, hw⟩ := zmk_at hy
  obtain ⟨-, hini, hne, -, hmx, -⟩ := zmk_inv hw
  obtain ⟨hx, hb, hml, hown, hT, hK, hZ, hbs⟩ := id cx
  have hMm := hM y _ M rv M1 hy hE D t0 b0 base
  have hlen : (as0.map (zv (zad t0 b0 base))).length = as0.length := List.length_map _
  have hst : ((Value.ref b :: as0).map (zv (zad t0 b0 base))).reverse ++ rest = (as0.map (zv (zad t0 b0 base))).reverse ++ .ref (zad t0 b0 base b) :: rest := by
    simp [zv]
  rw [hst]
  obtain ⟨r, hc, hrc⟩ := Option.map_eq_some_iff.mp hcl
  obtain ⟨cellB, g1, g2, g3, -⟩ := (hrep.2.2.2.2.2.2.2.1 b).1 t r ht hc
  have hrecv : ∃ cellB : Cell, H[zad t0 b0 base b]? = some cellB ∧ cellB.vm.isStatics = false ∧ s.vm.findClass (zNm y).1.cls = some cellB.cls := ⟨cellB, g1, by rw [g3]; rfl, by rw [g2, ← hrc]; exact (hK.1 t r hc).2.1⟩
  rcases w1 with ⟨-, w1⟩ | ⟨-, w1⟩
  · refine zrun_W cx (va_runV (Ts := []) (C := (zNm y).1.cls) (rest := rest) ⟨hx, hb, hml, hown, fun _ h => absurd h List.not_mem_nil⟩ hMm ⟨⟨rfl, rfl, hfr, ?_, zcode_w hT hy, List.mem_singleton.mpr rfl, hT _ (zcw _ (zNm_mem hy)) rfl args, hT _ hini rfl args, hne, zsig hsg, zword_ok hT w1 rfl args⟩, zword_ok hT w2 rfl args, zword_ok hT w3 rfl args⟩ ⟨zPc.blind, hrecv, zpre cx hrep hS⟩ rfl hlen hsz rfl (lv_room hroom) hdg ⟨hcells, hslots⟩) hS kk
    show 8 + ((zNm y).2.2.1 + 11) + 64 * d ≤ R.locals
    omega
  · refine zrun_W cx (va_runVN (Ts := []) (C := (zNm y).1.cls) (rest := rest) ⟨hx, hb, hml, hown, fun _ h => absurd h List.not_mem_nil⟩ hMm ⟨⟨⟨rfl, rfl, hfr, ?_, zcode_w hT hy, List.mem_singleton.mpr rfl⟩, hT _ (zcw _ (zNm_mem hy)) rfl args, hT _ hini rfl args, hne, zsig hsg, zword_ok hT w1 rfl args⟩, zword_ok hT w2 rfl args, zword_ok hT w3 rfl args⟩ ⟨zPc.blind, hrecv, zpre cx hrep hS⟩ rfl hlen hsz rfl (lv_room hroom) hdg ⟨hcells, hslots⟩) hS kk
    show 8 + ((zNm y).2.2.1 + 11) + 64 * d ≤ R.locals
    omega
end ZCALL
end
section
theorem ite_inv {c : Prop} [Decidable c] {a b : zO} {r : Option Value × zM} (h : (if c then a else b) = some r) : (c → a = some r) ∧ (¬ c → b = some r) := by
  by_cases hc : c
  · rw [if_pos hc] at h; exact ⟨fun _ => h, fun q => absurd hc q⟩
  · rw [if_neg hc] at h; exact ⟨fun q => absurd q hc, fun _ => h⟩
theorem zfv_1 {ad : Nat → Nat} {ty : FieldType} {x : Int32} {y : Int64} {r : Option Nat} (h : ztyc ty = 1) : zfv ad ty x y r = .long y := by
  cases ty <;> first | rfl | (exact absurd h (by simp [ztyc]))
theorem zfv_2 {ad : Nat → Nat} {ty : FieldType} {x : Int32} {y : Int64} {r : Option Nat} (h : ztyc ty = 2) : zfv ad ty x y r = va_rf (r.map ad) := by
  cases ty <;> first | rfl | (exact absurd h (by simp [ztyc]))
theorem zfv_0 {ad : Nat → Nat} {ty : FieldType} {x : Int32} {y : Int64} {r : Option Nat} (h1 : ztyc ty ≠ 1) (h2 : ztyc ty ≠ 2) : zfv ad ty x y r = .int x := by
  cases ty <;> first | rfl | exact absurd rfl h1 | exact absurd rfl h2
theorem ztyc_0 {t : Nat} {ty : FieldType} (h : t = ztyc ty) (h1 : t = 1 → False) (h2 : t = 2 → False) (h3 : t = 3 → False) (h9 : t ≠ 9) : t = 0 := by
  subst h
  cases ty <;> first | rfl | exact absurd rfl h1 | exact absurd rfl h2 | exact absurd rfl h3 | exact absurd rfl h9
theorem ztbl_inv {pc d lo2 : Nat} {lo hi dflt : Int} {offs : List Int} {ts : List Nat} (h : ztbl pc lo hi offs d dflt lo2 ts = true) : (pc : Int) + dflt = (d : Int) ∧ lo = (lo2 : Int) ∧ hi = (lo2 : Int) + (ts.length : Int) - 1 ∧ offs.map (fun o => (pc : Int) + o) = ts.map (fun (t : Nat) => (t : Int)) ∧ lo2 + ts.length < 1000 := by
  unfold ztbl at h
  simp only [Bool.and_eq_true, decide_eq_true_eq] at h
  exact ⟨h.1.1.1.1, h.1.1.1.2, h.1.1.2, h.1.2, h.2⟩
theorem zsw_inv {x : Int32} {d : Nat} {K : Nat → zO} {res : Option Value × zM} : ∀ {ts : List Nat} {lo : Nat}, zsw x lo ts d K = some res → ∃ t, ((∀ j, j < ts.length → ¬ x = Int32.ofNat (lo + j)) ∧ t = d ∨ ∃ j, j < ts.length ∧ x = Int32.ofNat (lo + j) ∧ ts[j]? = some t) ∧ K t = some res
  | [], lo, h => ⟨d, Or.inl ⟨fun j hj => absurd hj (Nat.not_lt_zero j), rfl⟩, h⟩
  | t :: ts, lo, h => by
    unfold zsw at h
    have h := ite_inv h
    by_cases hx : x = Int32.ofNat lo
    · exact ⟨t, Or.inr ⟨0, Nat.zero_lt_succ _, hx, rfl⟩, h.1 hx⟩
    · obtain ⟨t2, h1, h2⟩ := zsw_inv (h.2 hx)
      refine ⟨t2, ?_, h2⟩
      rcases h1 with ⟨h1, h3⟩ | ⟨j, h1, h3, h4⟩
      · refine Or.inl ⟨fun j hj => ?_, h3⟩
        match j, hj with
        | 0, _ => exact hx
        | j + 1, hj =>
          have := h1 j (by simpa using hj)
          rwa [show lo + (j + 1) = lo + 1 + j by omega]
      · exact Or.inr ⟨j + 1, by simpa using h1, by rw [show lo + (j + 1) = lo + 1 + j by omega]; exact h3, h4⟩
theorem zsw_out {x : Int32} {lo n : Nat} (hb : lo + n < 1000) (h : ∀ j, j < n → ¬ x = Int32.ofNat (lo + j)) : x.toInt < (lo : Int) ∨ (lo : Int) + (n : Int) - 1 < x.toInt := by
  by_cases h1 : x.toInt < (lo : Int)
  · exact Or.inl h1
  · by_cases h2 : (lo : Int) + (n : Int) - 1 < x.toInt
    · exact Or.inr h2
    · exfalso
      refine h (x.toInt.toNat - lo) (by omega) ?_
      apply Int32.toInt_inj.mp
      rw [show Int32.ofNat (lo + (x.toInt.toNat - lo)) = nI (lo + (x.toInt.toNat - lo)) from rfl, nI_toInt (by omega)]
      omega
theorem zlk_inv {x : Int32} {d pc : Nat} {dflt : Int} {K : Nat → zO} {res : Option Value × zM} (hd : (pc : Int) + dflt = (d : Int)) : ∀ {ps : List (Int × Int)} {ts : List Nat}, zevn ts = true → ps.map (fun q => (q.1, (pc : Int) + q.2)) = zpairs ts → zlk x ts d K = some res → ∃ t : Nat, (pc : Int) + Op.lookupswitch.offset ps dflt x.toInt = (t : Int) ∧ K t = some res
  | [], [], _, _, h => ⟨d, hd, h⟩
  | q :: ps, [], _, hp, h => by simp [zpairs] at hp
  | _, [_], he, _, _ => by simp [zevn] at he
  | [], k :: t :: ts, _, hp, _ => by simp [zpairs] at hp
  | (a, o) :: ps, k :: t :: ts, he, hp, h => by
    unfold zlk at h
    unfold zpairs at hp
    unfold zevn at he
    obtain ⟨hk, he⟩ := Bool.and_eq_true_iff.mp he
    have hk : k < 1000 := of_decide_eq_true hk
    simp only [List.map_cons, List.cons.injEq, Prod.mk.injEq] at hp
    obtain ⟨⟨ha, ho⟩, hp⟩ := hp
    have h := ite_inv h
    have hkt : (Int32.ofNat k).toInt = a := by rw [ha]; exact nI_toInt (by omega)
    by_cases hx : x = Int32.ofNat k
    · refine ⟨t, ?_, h.1 hx⟩
      have e : Op.lookupswitch.offset ((a, o) :: ps) dflt x.toInt = o := by
        rw [hx, hkt]
        simp [Op.lookupswitch.offset]
      rw [e]
      exact ho
    · obtain ⟨t2, h1, h2⟩ := zlk_inv hd he hp (h.2 hx)
      refine ⟨t2, ?_, h2⟩
      rw [lv_osw hx hkt]
      exact h1
theorem zcp_inv {E : zE0} {st : List Value} {M : zM} {K : List Value → zM → zO} {r : Option Value × zM} (h : zinvoke E [1001, 5, 0, 0] st M K = some r) : ∃ (n dp : Int32) (b : Nat) (sp : Int32) (a : Nat) (s : List Value), st = .int n :: .int dp :: .ref b :: .int sp :: .ref a :: s ∧ ((zK M a).1 = 20 ∧ (zK M b).1 = 20 ∧ zroomy s = true ∧ (¬ sp < 0) ∧ (¬ dp < 0) ∧ (¬ n < 0) ∧ sp.toNatClampNeg + n.toNatClampNeg ≤ (zK M a).2 ∧ dp.toNatClampNeg + n.toNatClampNeg ≤ (zK M b).2) ∧ K s (zcopy M a sp.toNatClampNeg b dp.toNatClampNeg n.toNatClampNeg) = some r := by
  match st, h with
  | .int n :: .int dp :: .ref b :: .int sp :: .ref a :: s, h =>
    have h : (if ((zK M a).1 = 20 ∧ (zK M b).1 = 20 ∧ zroomy s = true ∧ (¬ sp < 0) ∧ (¬ dp < 0) ∧ (¬ n < 0) ∧ sp.toNatClampNeg + n.toNatClampNeg ≤ (zK M a).2 ∧ dp.toNatClampNeg + n.toNatClampNeg ≤ (zK M b).2) then K s (zcopy M a sp.toNatClampNeg b dp.toNatClampNeg n.toNatClampNeg) else none) = some r := h
    split at h
    · rename_i hc; exact ⟨n, dp, b, sp, a, s, rfl, hc, h⟩
    · cases h
def zEs (E : zE0) : Prop := ∀ (y : Nat) (as : List Value) (M : zM) (res : Option Value × zM), y < 210 → (zNm y).1.name = "<init>" → E y as M = some res → ∃ b as0, as = .ref b :: as0
theorem zspecial {y : Nat} {E : zE0} {as : List Value} {M M1 : zM} {rv : Option Value} (hy : y < 210) (hE : E y as M = some (rv, M1)) (hn : (zNm y).1.name = "<init>") (h : zEs E) : ∃ b as0, as = .ref b :: as0 := h y as M _ hy hn hE
section ZCK
variable {own : String} {ini : Bool} {cc : ByteArray} {pc len : Nat} {r w : List Nat}
theorem zck_table {dflt lo hi : Int} {offs : Array Int} (h : zck own ini cc (pc, .tableswitch dflt lo hi offs, len, r) w = true) : ∃ (d lo2 : Nat) (ts : List Nat), r = d :: lo2 :: ts ∧ (pc : Int) + dflt = (d : Int) ∧ lo = (lo2 : Int) ∧ hi = (lo2 : Int) + (ts.length : Int) - 1 ∧ offs.toList.map (fun o => (pc : Int) + o) = ts.map (fun (t : Nat) => (t : Int)) ∧ lo2 + ts.length < 1000 := by
  have h := (Bool.and_eq_true_iff.mp h).2
  dsimp only at h
  split at h
  · exact ⟨_, _, _, rfl, ztbl_inv h⟩
  · cases h
theorem zck_look {dflt : Int} {ps : Array (Int × Int)} (h : zck own ini cc (pc, .lookupswitch dflt ps, len, r) w = true) : ∃ (d : Nat) (ts : List Nat), r = d :: ts ∧ (pc : Int) + dflt = (d : Int) ∧ zevn ts = true ∧ ps.toList.map (fun q => (q.1, (pc : Int) + q.2)) = zpairs ts ∧ (ps.toList.zip (ps.toList.drop 1)).all (fun (a, next) => a.1 < next.1) = true := by
  have h := (Bool.and_eq_true_iff.mp h).2
  dsimp only at h
  split at h
  · obtain ⟨h1, h4⟩ := Bool.and_eq_true_iff.mp h
    obtain ⟨h1, h3⟩ := Bool.and_eq_true_iff.mp h1
    obtain ⟨h1, h2⟩ := Bool.and_eq_true_iff.mp h1
    exact ⟨_, _, rfl, of_decide_eq_true h1, h2, of_decide_eq_true h3, h4⟩
  · cases h
theorem zck_get {z : Nat} (h : zck own ini cc (pc, .getfield z, len, r) w = true) : ∃ ty ci k, len = 3 ∧ r = [ty, ci, k] ∧ zfck own z ci k w = true ∧ (ty = ztyc (ztys ci k) ∨ (ty = 0 ∧ ztyc (ztys ci k) = 3)) := by
  have h := (Bool.and_eq_true_iff.mp h).2
  obtain ⟨h1, h⟩ := Bool.and_eq_true_iff.mp h
  dsimp only at h
  split at h
  · obtain ⟨h3, h4⟩ := Bool.and_eq_true_iff.mp h
    refine ⟨_, _, _, of_decide_eq_true h1, rfl, h3, ?_⟩
    rcases Bool.or_eq_true_iff.mp h4 with q | q
    · exact Or.inl (of_decide_eq_true q)
    · obtain ⟨q1, q2⟩ := Bool.and_eq_true_iff.mp q
      exact Or.inr ⟨of_decide_eq_true q1, of_decide_eq_true q2⟩
  · cases h
theorem zck_put {z : Nat} (h : zck own ini cc (pc, .putfield z, len, r) w = true) : ∃ ty ci k, len = 3 ∧ r = [ty, ci, k] ∧ zfck own z ci k w = true ∧ ty = ztyc (ztys ci k) ∧ (zfin ci k = true → ini = true ∧ (w.drop 1).headD 1 = 0 ∧ ((vwCl[ci]?).map (fun q => (q.2.1 k).1)) = some own) := by
  have h := (Bool.and_eq_true_iff.mp h).2
  obtain ⟨h1, h⟩ := Bool.and_eq_true_iff.mp h
  dsimp only at h
  split at h
  · obtain ⟨h3, h5⟩ := Bool.and_eq_true_iff.mp h
    obtain ⟨h3, h4⟩ := Bool.and_eq_true_iff.mp h3
    refine ⟨_, _, _, of_decide_eq_true h1, rfl, h3, of_decide_eq_true h4, fun hf => ?_⟩
    rw [hf] at h5
    dsimp only at h5
    obtain ⟨h6, h7⟩ := Bool.and_eq_true_iff.mp h5
    obtain ⟨h6, h8⟩ := Bool.and_eq_true_iff.mp h6
    exact ⟨h6, of_decide_eq_true h8, of_decide_eq_true h7⟩
  · cases h
theorem zck_new {z : Nat} (h : zck own ini cc (pc, .new z, len, r) w = true) : ∃ (C : String) (T : u_T) (N ci p1 p2 p3 : Nat), len = 3 ∧ r = [ci, N] ∧ vwCl[ci]? = some (C, T, N) ∧ zword p1 (.classLink own z C) = true ∧ zword p2 (.instantiable C N) = true ∧ zword p3 (.initialized C) = true := by
  have h := (Bool.and_eq_true_iff.mp h).2
  obtain ⟨h1, h⟩ := Bool.and_eq_true_iff.mp h
  dsimp only at h
  split at h
  · split at h
    · rename_i hc
      obtain ⟨h3, h6⟩ := Bool.and_eq_true_iff.mp h
      obtain ⟨h3, h5⟩ := Bool.and_eq_true_iff.mp h3
      obtain ⟨h3, h4⟩ := Bool.and_eq_true_iff.mp h3
      have h3 := of_decide_eq_true h3
      subst h3
      exact ⟨_, _, _, _, _, _, _, of_decide_eq_true h1, rfl, hc, h4, h5, h6⟩
    · cases h
  · cases h
theorem zck_newa {z : ArrayType} (h : zck own ini cc (pc, .newarray z, len, r) w = true) : ∃ t, len = 2 ∧ r = [t] ∧ zword (w.headD 0) (.arrayClass (newarray.typeOf z)) = true ∧ ((t = 20 ∧ newarray.typeOf z = .int) ∨ (t = 21 ∧ newarray.typeOf z = .boolean) ∨ (t = 22 ∧ newarray.typeOf z = .byte) ∨ (t = 23 ∧ newarray.typeOf z = .long)) := by
  have h := (Bool.and_eq_true_iff.mp h).2
  obtain ⟨h1, h⟩ := Bool.and_eq_true_iff.mp h
  dsimp only at h
  split at h
  · obtain ⟨h3, h4⟩ := Bool.and_eq_true_iff.mp h
    refine ⟨_, of_decide_eq_true h1, rfl, h3, ?_⟩
    clear h3
    revert h4
    generalize newarray.typeOf z = ty
    intro h4
    split at h4
    · exact Or.inl ⟨rfl, rfl⟩
    · exact Or.inr (Or.inl ⟨rfl, rfl⟩)
    · exact Or.inr (Or.inr (Or.inl ⟨rfl, rfl⟩))
    · exact Or.inr (Or.inr (Or.inr ⟨rfl, rfl⟩))
    · cases h4
  · cases h
theorem zck_anew {z : Nat} (h : zck own ini cc (pc, .anewarray z, len, r) w = true) : ∃ (C : String) (T : u_T) (N ci p1 p2 : Nat), len = 3 ∧ r = [ci] ∧ vwCl[ci]? = some (C, T, N) ∧ zword p1 (.classLink own z C) = true ∧ zword p2 (.arrayOver (.object C)) = true := by
  have h := (Bool.and_eq_true_iff.mp h).2
  obtain ⟨h1, h⟩ := Bool.and_eq_true_iff.mp h
  dsimp only at h
  split at h
  · split at h
    · rename_i hc
      obtain ⟨h3, h4⟩ := Bool.and_eq_true_iff.mp h
      exact ⟨_, _, _, _, _, _, of_decide_eq_true h1, rfl, hc, h3, h4⟩
    · cases h
  · cases h
theorem znest_inv {y p1 nest z : Nat} (h : (match nest with
      | 0 => zword p1 (.methodLink own z (zNm y).1)
      | _ => zword p1 (.methodLinkNest own z (zNm y).1 zhost)) = true) : ((nest = 0 ∧ zword p1 (.methodLink own z (zNm y).1) = true) ∨ (¬ nest = 0 ∧ zword p1 (.methodLinkNest own z (zNm y).1 zhost) = true)) := by
  cases nest with
  | zero => exact Or.inl ⟨rfl, h⟩
  | succ n => exact Or.inr ⟨Nat.succ_ne_zero n, h⟩
theorem zck_virt {z : Nat} (h : zck own ini cc (pc, .invokevirtual z, len, r) w = true) : ∃ y n rt tag p1 p2 p3 nest : Nat, len = 3 ∧ r = [y, n, rt, tag] ∧ y < 210 ∧ 1 ≤ n ∧ (parseMethodDescriptor (zNm y).1.desc).map (fun d => d.parameters.length) = some (n - 1) ∧ 1 ≤ tag ∧ (vwCl[tag - 1]?).map (fun q => q.1) = some (zNm y).1.cls ∧ zword p2 (.instanceMethod (zNm y).1) = true ∧ zword p3 (.selects (zNm y).1.cls (zNm y).1 (zNm y).1) = true ∧ ((nest = 0 ∧ zword p1 (.methodLink own z (zNm y).1) = true) ∨ (¬ nest = 0 ∧ zword p1 (.methodLinkNest own z (zNm y).1 zhost) = true)) := by
  have h := (Bool.and_eq_true_iff.mp h).2
  obtain ⟨h1, h⟩ := Bool.and_eq_true_iff.mp h
  dsimp only at h
  split at h
  · obtain ⟨h, hw⟩ := Bool.and_eq_true_iff.mp h
    obtain ⟨h, w3⟩ := Bool.and_eq_true_iff.mp h
    obtain ⟨h, w2⟩ := Bool.and_eq_true_iff.mp h
    obtain ⟨h, hcl⟩ := Bool.and_eq_true_iff.mp h
    obtain ⟨h, htg⟩ := Bool.and_eq_true_iff.mp h
    obtain ⟨h, hrt⟩ := Bool.and_eq_true_iff.mp h
    obtain ⟨h, hsg⟩ := Bool.and_eq_true_iff.mp h
    obtain ⟨hy, hn1⟩ := Bool.and_eq_true_iff.mp h
    exact ⟨_, _, _, _, _, _, _, _, of_decide_eq_true h1, rfl, of_decide_eq_true hy, of_decide_eq_true hn1, of_decide_eq_true hsg, of_decide_eq_true htg, of_decide_eq_true hcl, w2, w3, znest_inv hw⟩
  · cases h
theorem zck_spec {z : Nat} (h : zck own ini cc (pc, .invokespecial z, len, r) w = true) : (∃ p1 p2 : Nat, len = 3 ∧ r = [1000, 1, 0, 0] ∧ zword p1 (.methodLink own z Lib.objectInit) = true ∧ zword p2 (.instanceMethod Lib.objectInit) = true) ∨ ∃ y n p1 p2 nest : Nat, len = 3 ∧ r = [y, n, 0, 0] ∧ y < 210 ∧ 1 ≤ n ∧ (parseMethodDescriptor (zNm y).1.desc).map (fun d => d.parameters.length) = some (n - 1) ∧ (zNm y).2.2.2 = none ∧ (zNm y).1.name = "<init>" ∧ zword p2 (.instanceMethod (zNm y).1) = true ∧ ((nest = 0 ∧ zword p1 (.methodLink own z (zNm y).1) = true) ∨ (¬ nest = 0 ∧ zword p1 (.methodLinkNest own z (zNm y).1 zhost) = true)) := by
  have h := (Bool.and_eq_true_iff.mp h).2
  obtain ⟨h1, h⟩ := Bool.and_eq_true_iff.mp h
  dsimp only at h
  split at h
  · obtain ⟨w1, w2⟩ := Bool.and_eq_true_iff.mp h
    exact Or.inl ⟨_, _, of_decide_eq_true h1, rfl, w1, w2⟩
  · obtain ⟨h, hw⟩ := Bool.and_eq_true_iff.mp h
    obtain ⟨h, w2⟩ := Bool.and_eq_true_iff.mp h
    obtain ⟨h, hnm⟩ := Bool.and_eq_true_iff.mp h
    obtain ⟨h, hno⟩ := Bool.and_eq_true_iff.mp h
    obtain ⟨h, hrt⟩ := Bool.and_eq_true_iff.mp h
    obtain ⟨h, hsg⟩ := Bool.and_eq_true_iff.mp h
    obtain ⟨hy, hn1⟩ := Bool.and_eq_true_iff.mp h
    have hrt := of_decide_eq_true hrt
    subst hrt
    exact Or.inr ⟨_, _, _, _, _, of_decide_eq_true h1, rfl, of_decide_eq_true hy, of_decide_eq_true hn1, of_decide_eq_true hsg, of_decide_eq_true hno, of_decide_eq_true hnm, w2, znest_inv hw⟩
  · cases h
theorem zck_stat {z : Nat} (h : zck own ini cc (pc, .invokestatic z, len, r) w = true) : (∃ p1 p2 p3 p4 : Nat, len = 3 ∧ r = [1001, 5, 0, 0] ∧ zword p1 (.methodLink own z arraycopyName) = true ∧ zword p2 (.native arraycopyName) = true ∧ zword p3 (.static arraycopyName) = true ∧ zword p4 (.initialized "java/lang/System") = true) ∨ (∃ p1 p2 p3 : Nat, len = 3 ∧ r = [1002, 2, 1, 0] ∧ zword p1 (.methodLink own z Lib.Math.max.name) = true ∧ zword p2 (.static Lib.Math.max.name) = true ∧ zword p3 (.initialized "java/lang/Math") = true) ∨ (∃ p1 p2 p3 : Nat, len = 3 ∧ r = [1003, 2, 1, 0] ∧ zword p1 (.methodLink own z Lib.Math.min.name) = true ∧ zword p2 (.static Lib.Math.min.name) = true ∧ zword p3 (.initialized "java/lang/Math") = true) ∨ ∃ y n rt p1 p2 nest : Nat, len = 3 ∧ r = [y, n, rt, 0] ∧ y < 210 ∧ (parseMethodDescriptor (zNm y).1.desc).map (fun d => d.parameters.length) = some n ∧ zword p2 (.static (zNm y).1) = true ∧ ((nest = 0 ∧ zword p1 (.methodLink own z (zNm y).1) = true) ∨ (¬ nest = 0 ∧ zword p1 (.methodLinkNest own z (zNm y).1 zhost) = true)) := by
  have h := (Bool.and_eq_true_iff.mp h).2
  obtain ⟨h1, h⟩ := Bool.and_eq_true_iff.mp h
  dsimp only at h
  split at h
  · obtain ⟨h, w4⟩ := Bool.and_eq_true_iff.mp h
    obtain ⟨h, w3⟩ := Bool.and_eq_true_iff.mp h
    obtain ⟨w1, w2⟩ := Bool.and_eq_true_iff.mp h
    exact Or.inl ⟨_, _, _, _, of_decide_eq_true h1, rfl, w1, w2, w3, w4⟩
  · obtain ⟨h, w3⟩ := Bool.and_eq_true_iff.mp h
    obtain ⟨w1, w2⟩ := Bool.and_eq_true_iff.mp h
    exact Or.inr (Or.inl ⟨_, _, _, of_decide_eq_true h1, rfl, w1, w2, w3⟩)
  · obtain ⟨h, w3⟩ := Bool.and_eq_true_iff.mp h
    obtain ⟨w1, w2⟩ := Bool.and_eq_true_iff.mp h
    exact Or.inr (Or.inr (Or.inl ⟨_, _, _, of_decide_eq_true h1, rfl, w1, w2, w3⟩))
  · obtain ⟨h, hw⟩ := Bool.and_eq_true_iff.mp h
    obtain ⟨h, w2⟩ := Bool.and_eq_true_iff.mp h
    obtain ⟨h, hrt⟩ := Bool.and_eq_true_iff.mp h
    obtain ⟨hy, hsg⟩ := Bool.and_eq_true_iff.mp h
    exact Or.inr (Or.inr (Or.inr ⟨_, _, _, _, _, _, of_decide_eq_true h1, rfl, of_decide_eq_true hy, of_decide_eq_true hsg, w2, znest_inv hw⟩))
  · cases h
end ZCK
theorem zkind {D : va_G} {t0 b0 base : Nat} {s : State} {H : Heap} {M : zM} (hrep : zRep D t0 b0 base s H M) {a : Nat} {j : Int32} (h1 : 30 ≤ (zK M a).1) (h2 : zin j (zK M a).2 = true) : ∃ (ci : Nat) (r : vw_C), (zK M a).1 = 30 + ci ∧ vwCl[ci]? = some r := by
  rcases hrep.2.2.2.2.2.2.2.2 a with h | h | ⟨ci, r, h, hc⟩
  · rw [h] at h1; exact absurd h1 (by decide)
  · omega
  · exact ⟨ci, r, h, hc⟩
theorem zkind_ar {D : va_G} {t0 b0 base : Nat} {s : State} {H : Heap} {M : zM} (hrep : zRep D t0 b0 base s H M) {a : Nat} (h1 : 20 ≤ (zK M a).1) : ∃ (ty : FieldType) (f : Nat → Value), zAr s H (zad t0 b0 base a) ty (zK M a).2 f := by
  obtain ⟨-, h2, h3, h4, h5, h6, h7, h8⟩ := hrep.2.2.2.2.2.2.2.1 a
  rcases hrep.2.2.2.2.2.2.2.2 a with h | h | ⟨ci, r, h, hc⟩
  · rw [h] at h1; exact absurd h1 (by decide)
  · rcases (show (zK M a).1 = 20 ∨ (zK M a).1 = 21 ∨ (zK M a).1 = 22 ∨ (zK M a).1 = 23 ∨ (zK M a).1 = 24 ∨ (zK M a).1 = 25 by omega) with q | q | q | q | q | q
    · exact ⟨_, _, (h2 q).ar⟩
    · exact ⟨_, _, (h3 q).ar⟩
    · exact ⟨_, _, (h4 q).ar⟩
    · exact ⟨_, _, (h5 q).ar⟩
    · exact ⟨_, _, h6 q⟩
    · exact ⟨_, _, h7 q⟩
  · exact ⟨_, _, (h8 ci r h hc).ar⟩
theorem z1i_inv {st : List Value} {f : Int32 → List Value → zO} {r : Option Value × zM} (h : z1i st f = some r) : ∃ (x : Int32) (s : List Value), st = .int x :: s ∧ f x s = some r := by
  unfold z1i at h
  split at h
  · exact ⟨_, _, rfl, h⟩
  · cases h
theorem z2i_inv {st : List Value} {f : Int32 → Int32 → List Value → zO} {r : Option Value × zM} (h : z2i st f = some r) : ∃ (x : Int32) (y : Int32) (s : List Value), st = .int y :: .int x :: s ∧ f x y s = some r := by
  unfold z2i at h
  split at h
  · exact ⟨_, _, _, rfl, h⟩
  · cases h
theorem z1l_inv {st : List Value} {f : Int64 → List Value → zO} {r : Option Value × zM} (h : z1l st f = some r) : ∃ (x : Int64) (s : List Value), st = .long x :: s ∧ f x s = some r := by
  unfold z1l at h
  split at h
  · exact ⟨_, _, rfl, h⟩
  · cases h
theorem z2l_inv {st : List Value} {f : Int64 → Int64 → List Value → zO} {r : Option Value × zM} (h : z2l st f = some r) : ∃ (x : Int64) (y : Int64) (s : List Value), st = .long y :: .long x :: s ∧ f x y s = some r := by
  unfold z2l at h
  split at h
  · exact ⟨_, _, _, rfl, h⟩
  · cases h
theorem zli_inv {st : List Value} {f : Int64 → Int32 → List Value → zO} {r : Option Value × zM} (h : zli st f = some r) : ∃ (x : Int64) (y : Int32) (s : List Value), st = .int y :: .long x :: s ∧ f x y s = some r := by
  unfold zli at h
  split at h
  · exact ⟨_, _, _, rfl, h⟩
  · cases h
theorem z1r_inv {st : List Value} {f : Nat → List Value → zO} {r : Option Value × zM} (h : z1r st f = some r) : ∃ (x : Nat) (s : List Value), st = .ref x :: s ∧ f x s = some r := by
  unfold z1r at h
  split at h
  · exact ⟨_, _, rfl, h⟩
  · cases h
theorem zri_inv {st : List Value} {f : Nat → Int32 → List Value → zO} {r : Option Value × zM} (h : zri st f = some r) : ∃ (a : Nat) (j : Int32) (s : List Value), st = .int j :: .ref a :: s ∧ f a j s = some r := by
  unfold zri at h
  split at h
  · exact ⟨_, _, _, rfl, h⟩
  · cases h
theorem zrl_inv {st : List Value} {f : Nat → Int64 → List Value → zO} {r : Option Value × zM} (h : zrl st f = some r) : ∃ (a : Nat) (j : Int64) (s : List Value), st = .long j :: .ref a :: s ∧ f a j s = some r := by
  unfold zrl at h
  split at h
  · exact ⟨_, _, _, rfl, h⟩
  · cases h
theorem zrr_inv {st : List Value} {f : Nat → Nat → List Value → zO} {r : Option Value × zM} (h : zrr st f = some r) : ∃ (a : Nat) (q : Nat) (s : List Value), st = .ref q :: .ref a :: s ∧ f a q s = some r := by
  unfold zrr at h
  split at h
  · exact ⟨_, _, _, rfl, h⟩
  · cases h
theorem zrii_inv {st : List Value} {f : Nat → Int32 → Int32 → List Value → zO} {r : Option Value × zM} (h : zrii st f = some r) : ∃ (a : Nat) (j : Int32) (x : Int32) (s : List Value), st = .int x :: .int j :: .ref a :: s ∧ f a j x s = some r := by
  unfold zrii at h
  split at h
  · exact ⟨_, _, _, _, rfl, h⟩
  · cases h
theorem zril_inv {st : List Value} {f : Nat → Int32 → Int64 → List Value → zO} {r : Option Value × zM} (h : zril st f = some r) : ∃ (a : Nat) (j : Int32) (x : Int64) (s : List Value), st = .long x :: .int j :: .ref a :: s ∧ f a j x s = some r := by
  unfold zril at h
  split at h
  · exact ⟨_, _, _, _, rfl, h⟩
  · cases h
theorem zrir_inv {st : List Value} {f : Nat → Int32 → Nat → List Value → zO} {r : Option Value × zM} (h : zrir st f = some r) : ∃ (a : Nat) (j : Int32) (q : Nat) (s : List Value), st = .ref q :: .int j :: .ref a :: s ∧ f a j q s = some r := by
  unfold zrir at h
  split at h
  · exact ⟨_, _, _, _, rfl, h⟩
  · cases h
theorem zld_i {l : zLs} {i : Nat} {f : Int32 → zO} {r : Option Value × zM} (h : zld l i (fun v => zvi v f) = some r) : ∃ x, l[i]? = some (some (.int x)) ∧ f x = some r := by
  unfold zld at h
  split at h
  · rename_i v hv
    have h : zvi v f = some r := h
    cases v with
    | int x => exact ⟨x, hv, h⟩
    | _ => cases h
  · cases h
theorem zld_l {l : zLs} {i : Nat} {f : Int64 → zO} {r : Option Value × zM} (h : zld l i (fun v => zvl v f) = some r) : ∃ x, l[i]? = some (some (.long x)) ∧ f x = some r := by
  unfold zld at h
  split at h
  · rename_i v hv
    have h : zvl v f = some r := h
    cases v with
    | long x => exact ⟨x, hv, h⟩
    | _ => cases h
  · cases h
theorem zld_r {l : zLs} {i : Nat} {f : Nat → zO} {r : Option Value × zM} (h : zld l i (fun v => zvr v f) = some r) : ∃ x, l[i]? = some (some (.ref x)) ∧ f x = some r := by
  unfold zld at h
  split at h
  · rename_i v hv
    have h : zvr v f = some r := h
    cases v with
    | ref x => exact ⟨x, hv, h⟩
    | _ => cases h
  · cases h
theorem zif_inv {c : Prop} [Decidable c] {x : zO} {r : Option Value × zM} (h : zif c x = some r) : c ∧ x = some r := by
  unfold zif at h
  split at h
  · rename_i hc; exact ⟨hc, h⟩
  · cases h
theorem zoR_inv {v : Option Nat} {f : Nat → zO} {r : Option Value × zM} (h : zoR v f = some r) : ∃ q, v = some q ∧ f q = some r := by
  cases v with
  | some q => exact ⟨q, rfl, h⟩
  | none => cases h
theorem zret_inv {rt : Nat} {o : zO} {rest : List Value} {K : List Value → zM → zO} {r : Option Value × zM} (h : zret rt o rest K = some r) : ∃ rv M1, o = some (rv, M1) ∧ K (rv.toList ++ rest) M1 = some r ∧ (rt = 0 → rv = none) := by
  unfold zret at h
  split at h
  · unfold zbV at h
    split at h
    · exact ⟨none, _, rfl, h, fun _ => rfl⟩
    · cases h
  · unfold zbI at h
    split at h
    · exact ⟨some (.int _), _, rfl, h, fun q => absurd q (by decide)⟩
    · cases h
  · unfold zbL at h
    split at h
    · exact ⟨some (.long _), _, rfl, h, fun q => absurd q (by decide)⟩
    · cases h
  · rename_i h0 h1 h2
    unfold zbR at h
    split at h
    · exact ⟨some (.ref _), _, rfl, h, fun q => (h0 q).elim⟩
    · cases h
theorem zroomy_le {ad : Nat → Nat} {st : List Value} (h : zroomy st = true) : ((st.map (zv ad)).map fun v => v.category).sum ≤ 8 := by
  unfold zroomy at h
  have e : (st.map (zv ad)).map (fun v => v.category) = st.map fun v => v.category := by
    rw [List.map_map]
    exact List.map_congr_left fun v _ => zv_cat ad v
  rw [e]
  exact Nat.ble_eq.mp h
theorem zcall_inv {E : zE0} {y n rt tag : Nat} {st : List Value} {M : zM} {K : List Value → zM → zO} {r : Option Value × zM} (h : zcall E y n rt tag st M K = some r) : n ≤ st.length ∧ zroomy (st.drop n) = true ∧ ∃ rv M1, E y (st.take n).reverse M = some (rv, M1) ∧ K (rv.toList ++ st.drop n) M1 = some r ∧ (rt = 0 → rv = none) ∧ (¬ tag = 0 → ∃ b as0, (st.take n).reverse = .ref b :: as0 ∧ (zK M b).1 = tag) := by
  unfold zcall at h
  cases hb : (Nat.ble n st.length && zroomy (st.drop n)) with
  | false => rw [hb] at h; cases h
  | true =>
    rw [hb] at h
    obtain ⟨h1, h2⟩ := Bool.and_eq_true_iff.mp hb
    refine ⟨Nat.ble_eq.mp h1, h2, ?_⟩
    match tag, h with
    | 0, h =>
      obtain ⟨rv, M1, e1, e2, e3⟩ := zret_inv h
      exact ⟨rv, M1, e1, e2, e3, fun q => absurd rfl q⟩
    | t + 1, h =>
      dsimp only at h
      generalize ha : (st.take n).reverse = as at h ⊢
      match as, h with
      | .ref b :: as0, h =>
        obtain ⟨hk, h⟩ := zif_inv h
        obtain ⟨rv, M1, e1, e2, e3⟩ := zret_inv h
        exact ⟨rv, M1, e1, e2, e3, fun _ => ⟨b, as0, rfl, hk⟩⟩
def zRm (CF SF cells slots : Nat) (M M' : zM) : Prop := zle M M' ∧ cells + (zN M' - zN M) ≤ CF ∧ slots + (zsz M' - zsz M) ≤ SF
def zRetI (rt : Nat) (i : Instr) (rv : Option Value) : Prop := (i = .ireturn ∧ ∃ x, rv = some (.int x) ∧ (rt = 1 ∨ (rt = 2 ∧ (x = 0 ∨ x = 1)))) ∨ (i = .lreturn ∧ rt = 3 ∧ ∃ x, rv = some (.long x)) ∨ (i = .areturn ∧ rt = 4 ∧ ∃ a, rv = some (.ref a)) ∨ (i = .return_ ∧ rt = 0 ∧ rv = none)
theorem zRm.new {CF SF cells slots t n : Nat} {M M' : zM} (h : zRm CF SF cells slots M M') (k : zle (znew M t n) M') : zRm CF SF (cells + 1) (slots + n) (znew M t n) M' ∧ cells + 1 ≤ CF ∧ slots + n ≤ SF := by
  obtain ⟨⟨h1, h2⟩, h3, h4⟩ := h
  have e1 : zN (znew M t n) = zN M + 1 := rfl
  have e2 := zsz_new M t n
  obtain ⟨k1, k2⟩ := k
  rw [e1] at k1
  rw [e2] at k2
  refine ⟨⟨⟨by rw [e1]; exact k1, by rw [e2]; exact k2⟩, by rw [e1]; omega, by rw [e2]; omega⟩, by omega, by omega⟩
theorem zRm.call {CF SF cells slots : Nat} {M M1 M' : zM} (h : zRm CF SF cells slots M M') (k0 : zle M M1) (k : zle M1 M') : zRm CF SF (cells + (zN M1 - zN M)) (slots + (zsz M1 - zsz M)) M1 M' ∧ cells + (zN M1 - zN M) ≤ CF ∧ slots + (zsz M1 - zsz M) ≤ SF := by
  obtain ⟨⟨h1, h2⟩, h3, h4⟩ := h
  obtain ⟨k1, k2⟩ := k
  obtain ⟨k3, k4⟩ := k0
  refine ⟨⟨⟨k1, k2⟩, by omega, by omega⟩, by omega, by omega⟩
theorem zrest_map {ad : Nat → Nat} {st : List Value} {n : Nat} (h : n ≤ st.length) : st.map (zv ad) = ((st.take n).reverse.map (zv ad)).reverse ++ (st.drop n).map (zv ad) := by
  rw [List.map_reverse, List.reverse_reverse, ← List.map_append, List.take_append_drop]
theorem zrv_map {ad : Nat → Nat} {rv : Option Value} {rest : List Value} : (rv.toList ++ rest).map (zv ad) = (rv.map (zv ad)).toList ++ rest.map (zv ad) := by
  cases rv <;> simp
section ZSIM
variable {p : Program} {l : Launch} {e : Env} {R : Room} {s : State} {m : MethodId} {args : Array Value} {below : List Frame} {meth : Method} {c : Code} {H : Heap} {locs : List Loc} {cells slots : Nat} {Q : State → Prop}
variable {cc : ByteArray} {pc nL : Nat} {ls : Array Slot} {D : va_G} {t0 b0 base : Nat} {own : String} {M M' : zM} {d : Nat} {E : zE0} {rv : Option Value}
/-- what comes behind a step -/
def zGo (p : Program) (l : Launch) (e : Env) (R : Room) (s : State) (m : MethodId) (args : Array Value) (below : List Frame) (meth : Method) (c : Code) (Q : State → Prop) (D : va_G) (t0 b0 base nL CF SF : Nat) (M' : zM) (K : zKt) (rv : Option Value) : Prop :=
  ∀ (pc' : Nat) (l' : zLs) (st' : List Value) (M1 : zM), K pc' l' st' M1 = some (rv, M') → ∀ (ls' : Array Slot) (H' : Heap) (locs' : List Loc) (cells' slots' : Nat), zLoc (zad t0 b0 base) ls' nL l' → zRep D t0 b0 base s H' M1 → va_S (fun q => base ≤ q) s.heap H' locs' → zRm CF SF cells' slots' M1 M' → W p l e R s m args below meth c H' locs' cells' slots' Q (F0 m pc' ls' (st'.map (zv (zad t0 b0 base))))
/-- what comes at a return -/
def zEnd (p : Program) (l : Launch) (e : Env) (R : Room) (s : State) (m : MethodId) (args : Array Value) (below : List Frame) (meth : Method) (c : Code) (Q : State → Prop) (D : va_G) (t0 b0 base CF SF : Nat) (M' : zM) (cc : ByteArray) (rt : Nat) (rv : Option Value) : Prop :=
  ∀ (i : Instr) (pc' : Nat) (ls' : Array Slot) (H' : Heap) (locs' : List Loc) (cells' slots' : Nat), decode cc pc' = .ok (i, 1) → zRetI rt i rv → zRep D t0 b0 base s H' M' → va_S (fun q => base ≤ q) s.heap H' locs' → cells' ≤ CF → slots' ≤ SF → W p l e R s m args below meth c H' locs' cells' slots' Q (F0 m pc' ls' ((rv.map (zv (zad t0 b0 base))).toList))
set_option maxHeartbeats 8000000 in
theorem zsim_step (cx : zCx D t0 base p s m c own cc nL) (hM : zMet l d E) (hEok : zEok E) (hEs : zEs E) (hfr : d + 1 ≤ R.frames) (hlo : 64 * (d + 1) ≤ R.locals) {CF SF : Nat} (hCF : CF ≤ R.cells) (hSF : SF ≤ R.slots) {ini : Bool} (hini : ini = true → meth.name = "<init>") {rt len : Nat} {i : Instr} {r w : List Nat} (hck : zck own ini cc (pc, i, len, r) w = true) {K : zKt} (hKl : ∀ pc l st M1, K pc l st M1 = some (rv, M') → zle M1 M')
    (hK : zGo p l e R s m args below meth c Q D t0 b0 base nL CF SF M' K rv) (hR : zEnd p l e R s m args below meth c Q D t0 b0 base CF SF M' cc rt rv)
    {lv : zLs} {st : List Value} (hloc : zLoc (zad t0 b0 base) ls nL lv) (hrep : zRep D t0 b0 base s H M) (hS : va_S (fun q => base ≤ q) s.heap H locs) (hrm : zRm CF SF cells slots M M') (hst : zstep E rt i r pc lv st M K = some (rv, M')) : W p l e R s m args below meth c H locs cells slots Q (F0 m pc ls (st.map (zv (zad t0 b0 base)))) := by
  have hx := cx.1
  have hb := cx.2.1
  have hown := cx.2.2.2.1
  have hT := cx.2.2.2.2.1
  have hfrm : 1 ≤ R.frames := by omega
  have hd : decode cc pc = .ok (i, len) := of_decide_eq_true (Bool.and_eq_true_iff.mp hck).1
  cases i
  case iconst z =>
    replace hck := (Bool.and_eq_true_iff.mp hck).2
    obtain ⟨h1, h2⟩ := Bool.and_eq_true_iff.mp hck
    have h1 : len = _ := of_decide_eq_true h1
    subst h1
    refine lv_iconst hx hb hd (of_decide_eq_true h2) ?_
    exact hK _ _ _ _ hst _ _ _ _ _ hloc hrep hS hrm
  case bipush z =>
    replace hck := (Bool.and_eq_true_iff.mp hck).2
    obtain ⟨h1, h2⟩ := Bool.and_eq_true_iff.mp hck
    have h1 : len = _ := of_decide_eq_true h1
    subst h1
    refine lv_bipush hx hb hd (of_decide_eq_true h2) ?_
    exact hK _ _ _ _ hst _ _ _ _ _ hloc hrep hS hrm
  case sipush z =>
    replace hck := (Bool.and_eq_true_iff.mp hck).2
    obtain ⟨h1, h2⟩ := Bool.and_eq_true_iff.mp hck
    have h1 : len = _ := of_decide_eq_true h1
    subst h1
    refine lv_sipush hx hb hd (of_decide_eq_true h2) ?_
    exact hK _ _ _ _ hst _ _ _ _ _ hloc hrep hS hrm
  case lconst z =>
    replace hck := (Bool.and_eq_true_iff.mp hck).2
    obtain ⟨h1, h2⟩ := Bool.and_eq_true_iff.mp hck
    have h1 : len = _ := of_decide_eq_true h1
    subst h1
    refine lv_lconst hx hb hd (of_decide_eq_true h2) ?_
    exact hK _ _ _ _ hst _ _ _ _ _ hloc hrep hS hrm
  case ldc z =>
    replace hck := (Bool.and_eq_true_iff.mp hck).2
    obtain ⟨h1, h2⟩ := Bool.and_eq_true_iff.mp hck
    have h1 : len = _ := of_decide_eq_true h1
    subst h1
    refine W.ldc hx hb hown (zword_ok hT h2 rfl args) rfl hd ?_
    exact hK _ _ _ _ hst _ _ _ _ _ hloc hrep hS hrm
  case ldc_w z =>
    replace hck := (Bool.and_eq_true_iff.mp hck).2
    obtain ⟨h1, h2⟩ := Bool.and_eq_true_iff.mp hck
    have h1 : len = _ := of_decide_eq_true h1
    subst h1
    refine lv_ldcw hx hb hown (zword_ok hT h2 rfl args) hd ?_
    exact hK _ _ _ _ hst _ _ _ _ _ hloc hrep hS hrm
  case ldc2_w z =>
    replace hck := (Bool.and_eq_true_iff.mp hck).2
    obtain ⟨h1, h2⟩ := Bool.and_eq_true_iff.mp hck
    have h1 : len = _ := of_decide_eq_true h1
    subst h1
    refine W.ldc2 hx hb hown (zword_ok hT h2 rfl args) rfl hd ?_
    exact hK _ _ _ _ hst _ _ _ _ _ hloc hrep hS hrm
  case iload_n z =>
    replace hck := (Bool.and_eq_true_iff.mp hck).2
    have h1 : len = _ := of_decide_eq_true hck
    subst h1
    obtain ⟨x, h1, hst⟩ := zld_i hst
    refine lv_iload_n hx hb hd rfl (hloc.2.2.2 _ _ h1) ?_
    exact hK _ _ _ _ hst _ _ _ _ _ hloc hrep hS hrm
  case iload z =>
    replace hck := (Bool.and_eq_true_iff.mp hck).2
    have h1 : len = _ := of_decide_eq_true hck
    subst h1
    obtain ⟨x, h1, hst⟩ := zld_i hst
    refine lv_iload hx hb hd (hloc.2.2.2 _ _ h1) ?_
    exact hK _ _ _ _ hst _ _ _ _ _ hloc hrep hS hrm
  case istore_n z =>
    replace hck := (Bool.and_eq_true_iff.mp hck).2
    have h1 : len = _ := of_decide_eq_true hck
    subst h1
    obtain ⟨x, s1, rfl, hst⟩ := z1i_inv hst
    obtain ⟨hlt, hst⟩ := zok_inv hst
    refine lv_istore_n hx hb hd rfl hloc.has (by rw [← hloc.2.1]; exact Nat.ble_eq.mp hlt) rfl (fun ls2 hl2 => ?_)
    exact hK _ _ _ _ hst _ _ _ _ _ (zLoc.st1 hloc.2.1 hl2) hrep hS hrm
  case istore z =>
    replace hck := (Bool.and_eq_true_iff.mp hck).2
    have h1 : len = _ := of_decide_eq_true hck
    subst h1
    obtain ⟨x, s1, rfl, hst⟩ := z1i_inv hst
    obtain ⟨hlt, hst⟩ := zok_inv hst
    refine lv_istore hx hb hd hloc.has (by rw [← hloc.2.1]; exact Nat.ble_eq.mp hlt) rfl (fun ls2 hl2 => ?_)
    exact hK _ _ _ _ hst _ _ _ _ _ (zLoc.st1 hloc.2.1 hl2) hrep hS hrm
  case lload_n z =>
    replace hck := (Bool.and_eq_true_iff.mp hck).2
    have h1 : len = _ := of_decide_eq_true hck
    subst h1
    obtain ⟨x, h1, hst⟩ := zld_l hst
    refine lv_lload_n hx hb hd rfl (hloc.2.2.2 _ _ h1) ?_
    exact hK _ _ _ _ hst _ _ _ _ _ hloc hrep hS hrm
  case lload z =>
    replace hck := (Bool.and_eq_true_iff.mp hck).2
    have h1 : len = _ := of_decide_eq_true hck
    subst h1
    obtain ⟨x, h1, hst⟩ := zld_l hst
    refine lv_lload hx hb hd (hloc.2.2.2 _ _ h1) ?_
    exact hK _ _ _ _ hst _ _ _ _ _ hloc hrep hS hrm
  case lstore_n z =>
    replace hck := (Bool.and_eq_true_iff.mp hck).2
    have h1 : len = _ := of_decide_eq_true hck
    subst h1
    obtain ⟨x, s1, rfl, hst⟩ := z1l_inv hst
    obtain ⟨hlt, hst⟩ := zok_inv hst
    refine lv_lstore_n hx hb hd rfl hloc.has (by rw [← hloc.2.1]; exact Nat.ble_eq.mp hlt) rfl (fun ls2 hl2 => ?_)
    exact hK _ _ _ _ hst _ _ _ _ _ (zLoc.st2 hloc.2.1 hl2) hrep hS hrm
  case lstore z =>
    replace hck := (Bool.and_eq_true_iff.mp hck).2
    have h1 : len = _ := of_decide_eq_true hck
    subst h1
    obtain ⟨x, s1, rfl, hst⟩ := z1l_inv hst
    obtain ⟨hlt, hst⟩ := zok_inv hst
    refine lv_lstore hx hb hd hloc.has (by rw [← hloc.2.1]; exact Nat.ble_eq.mp hlt) rfl (fun ls2 hl2 => ?_)
    exact hK _ _ _ _ hst _ _ _ _ _ (zLoc.st2 hloc.2.1 hl2) hrep hS hrm
  case aload_n z =>
    replace hck := (Bool.and_eq_true_iff.mp hck).2
    have h1 : len = _ := of_decide_eq_true hck
    subst h1
    obtain ⟨x, h1, hst⟩ := zld_r hst
    refine lv_aload_n hx hb hd rfl (hloc.2.2.2 _ _ h1) ?_
    exact hK _ _ _ _ hst _ _ _ _ _ hloc hrep hS hrm
  case aload z =>
    replace hck := (Bool.and_eq_true_iff.mp hck).2
    have h1 : len = _ := of_decide_eq_true hck
    subst h1
    obtain ⟨x, h1, hst⟩ := zld_r hst
    refine lv_aload hx hb hd (hloc.2.2.2 _ _ h1) ?_
    exact hK _ _ _ _ hst _ _ _ _ _ hloc hrep hS hrm
  case astore_n z =>
    replace hck := (Bool.and_eq_true_iff.mp hck).2
    have h1 : len = _ := of_decide_eq_true hck
    subst h1
    obtain ⟨x, s1, rfl, hst⟩ := z1r_inv hst
    obtain ⟨hlt, hst⟩ := zok_inv hst
    refine lv_astore_n hx hb hd rfl hloc.has (by rw [← hloc.2.1]; exact Nat.ble_eq.mp hlt) rfl (fun ls2 hl2 => ?_)
    exact hK _ _ _ _ hst _ _ _ _ _ (zLoc.st1 hloc.2.1 hl2) hrep hS hrm
  case astore z =>
    replace hck := (Bool.and_eq_true_iff.mp hck).2
    have h1 : len = _ := of_decide_eq_true hck
    subst h1
    obtain ⟨x, s1, rfl, hst⟩ := z1r_inv hst
    obtain ⟨hlt, hst⟩ := zok_inv hst
    refine lv_astore hx hb hd hloc.has (by rw [← hloc.2.1]; exact Nat.ble_eq.mp hlt) rfl (fun ls2 hl2 => ?_)
    exact hK _ _ _ _ hst _ _ _ _ _ (zLoc.st1 hloc.2.1 hl2) hrep hS hrm
  case iinc z n =>
    replace hck := (Bool.and_eq_true_iff.mp hck).2
    obtain ⟨h1, h2⟩ := Bool.and_eq_true_iff.mp hck
    have h1 : len = _ := of_decide_eq_true h1
    subst h1
    obtain ⟨x, h1, hst⟩ := zld_i hst
    obtain ⟨hlt, hst⟩ := zok_inv hst
    have hmem := zlv_mem (ad := zad t0 b0 base) h1
    obtain ⟨k, hk⟩ := List.getElem?_of_mem hmem
    have h2 : Int32.ofInt n = zci r := of_decide_eq_true h2
    refine lv_iinc (v := x + zci r) hx hb hd hloc.has hk (by rw [h2]) (by rw [← hloc.2.1]; exact Nat.ble_eq.mp hlt) rfl (fun ls2 hl2 => ?_)
    exact hK _ _ _ _ hst _ _ _ _ _ (zLoc.st1 (v := .int (x + zci r)) hloc.2.1 hl2) hrep hS hrm
  case iadd =>
    replace hck := (Bool.and_eq_true_iff.mp hck).2
    have h1 : len = _ := of_decide_eq_true hck
    subst h1
    obtain ⟨x, y, s1, rfl, hst⟩ := z2i_inv hst
    refine lv_iadd hx hb hd ?_
    exact hK _ _ _ _ hst _ _ _ _ _ hloc hrep hS hrm
  case isub =>
    replace hck := (Bool.and_eq_true_iff.mp hck).2
    have h1 : len = _ := of_decide_eq_true hck
    subst h1
    obtain ⟨x, y, s1, rfl, hst⟩ := z2i_inv hst
    refine lv_isub hx hb hd ?_
    exact hK _ _ _ _ hst _ _ _ _ _ hloc hrep hS hrm
  case imul =>
    replace hck := (Bool.and_eq_true_iff.mp hck).2
    have h1 : len = _ := of_decide_eq_true hck
    subst h1
    obtain ⟨x, y, s1, rfl, hst⟩ := z2i_inv hst
    refine lv_imul hx hb hd ?_
    exact hK _ _ _ _ hst _ _ _ _ _ hloc hrep hS hrm
  case iand =>
    replace hck := (Bool.and_eq_true_iff.mp hck).2
    have h1 : len = _ := of_decide_eq_true hck
    subst h1
    obtain ⟨x, y, s1, rfl, hst⟩ := z2i_inv hst
    refine lv_iand hx hb hd ?_
    exact hK _ _ _ _ hst _ _ _ _ _ hloc hrep hS hrm
  case ishr =>
    replace hck := (Bool.and_eq_true_iff.mp hck).2
    have h1 : len = _ := of_decide_eq_true hck
    subst h1
    obtain ⟨x, y, s1, rfl, hst⟩ := z2i_inv hst
    refine lv_ishr hx hb hd ?_
    exact hK _ _ _ _ hst _ _ _ _ _ hloc hrep hS hrm
  case iushr =>
    replace hck := (Bool.and_eq_true_iff.mp hck).2
    have h1 : len = _ := of_decide_eq_true hck
    subst h1
    obtain ⟨x, y, s1, rfl, hst⟩ := z2i_inv hst
    refine lv_iushr hx hb hd rfl ?_
    exact hK _ _ _ _ hst _ _ _ _ _ hloc hrep hS hrm
  case idiv =>
    replace hck := (Bool.and_eq_true_iff.mp hck).2
    have h1 : len = _ := of_decide_eq_true hck
    subst h1
    obtain ⟨x, y, s1, rfl, hst⟩ := z2i_inv hst
    obtain ⟨hne, hst⟩ := zif_inv hst
    refine lv_idiv hx hb hd hne ?_
    exact hK _ _ _ _ hst _ _ _ _ _ hloc hrep hS hrm
  case irem =>
    replace hck := (Bool.and_eq_true_iff.mp hck).2
    have h1 : len = _ := of_decide_eq_true hck
    subst h1
    obtain ⟨x, y, s1, rfl, hst⟩ := z2i_inv hst
    obtain ⟨hne, hst⟩ := zif_inv hst
    refine lv_irem hx hb hd hne ?_
    exact hK _ _ _ _ hst _ _ _ _ _ hloc hrep hS hrm
  case ladd =>
    replace hck := (Bool.and_eq_true_iff.mp hck).2
    have h1 : len = _ := of_decide_eq_true hck
    subst h1
    obtain ⟨x, y, s1, rfl, hst⟩ := z2l_inv hst
    refine lv_ladd hx hb hd ?_
    exact hK _ _ _ _ hst _ _ _ _ _ hloc hrep hS hrm
  case lsub =>
    replace hck := (Bool.and_eq_true_iff.mp hck).2
    have h1 : len = _ := of_decide_eq_true hck
    subst h1
    obtain ⟨x, y, s1, rfl, hst⟩ := z2l_inv hst
    refine lv_lsub hx hb hd ?_
    exact hK _ _ _ _ hst _ _ _ _ _ hloc hrep hS hrm
  case land =>
    replace hck := (Bool.and_eq_true_iff.mp hck).2
    have h1 : len = _ := of_decide_eq_true hck
    subst h1
    obtain ⟨x, y, s1, rfl, hst⟩ := z2l_inv hst
    refine lv_land hx hb hd ?_
    exact hK _ _ _ _ hst _ _ _ _ _ hloc hrep hS hrm
  case lor =>
    replace hck := (Bool.and_eq_true_iff.mp hck).2
    have h1 : len = _ := of_decide_eq_true hck
    subst h1
    obtain ⟨x, y, s1, rfl, hst⟩ := z2l_inv hst
    refine lv_lor hx hb hd ?_
    exact hK _ _ _ _ hst _ _ _ _ _ hloc hrep hS hrm
  case lxor =>
    replace hck := (Bool.and_eq_true_iff.mp hck).2
    have h1 : len = _ := of_decide_eq_true hck
    subst h1
    obtain ⟨x, y, s1, rfl, hst⟩ := z2l_inv hst
    refine lv_lxor hx hb hd ?_
    exact hK _ _ _ _ hst _ _ _ _ _ hloc hrep hS hrm
  case lcmp =>
    replace hck := (Bool.and_eq_true_iff.mp hck).2
    have h1 : len = _ := of_decide_eq_true hck
    subst h1
    obtain ⟨x, y, s1, rfl, hst⟩ := z2l_inv hst
    refine W.lcmp hx hb hd ?_
    exact hK _ _ _ _ hst _ _ _ _ _ hloc hrep hS hrm
  case lshl =>
    replace hck := (Bool.and_eq_true_iff.mp hck).2
    have h1 : len = _ := of_decide_eq_true hck
    subst h1
    obtain ⟨x, y, s1, rfl, hst⟩ := zli_inv hst
    refine lv_lshl hx hb hd rfl ?_
    exact hK _ _ _ _ hst _ _ _ _ _ hloc hrep hS hrm
  case lshr =>
    replace hck := (Bool.and_eq_true_iff.mp hck).2
    have h1 : len = _ := of_decide_eq_true hck
    subst h1
    obtain ⟨x, y, s1, rfl, hst⟩ := zli_inv hst
    refine lv_lshr hx hb hd rfl ?_
    exact hK _ _ _ _ hst _ _ _ _ _ hloc hrep hS hrm
  case lushr =>
    replace hck := (Bool.and_eq_true_iff.mp hck).2
    have h1 : len = _ := of_decide_eq_true hck
    subst h1
    obtain ⟨x, y, s1, rfl, hst⟩ := zli_inv hst
    refine lv_lushr hx hb hd rfl ?_
    exact hK _ _ _ _ hst _ _ _ _ _ hloc hrep hS hrm
  case i2l =>
    replace hck := (Bool.and_eq_true_iff.mp hck).2
    have h1 : len = _ := of_decide_eq_true hck
    subst h1
    obtain ⟨x, s1, rfl, hst⟩ := z1i_inv hst
    refine lv_i2l hx hb hd rfl ?_
    exact hK _ _ _ _ hst _ _ _ _ _ hloc hrep hS hrm
  case l2i =>
    replace hck := (Bool.and_eq_true_iff.mp hck).2
    have h1 : len = _ := of_decide_eq_true hck
    subst h1
    obtain ⟨x, s1, rfl, hst⟩ := z1l_inv hst
    refine lv_l2i hx hb hd rfl ?_
    exact hK _ _ _ _ hst _ _ _ _ _ hloc hrep hS hrm
  case i2b =>
    replace hck := (Bool.and_eq_true_iff.mp hck).2
    have h1 : len = _ := of_decide_eq_true hck
    subst h1
    obtain ⟨x, s1, rfl, hst⟩ := z1i_inv hst
    refine lv_i2b hx hb hd rfl ?_
    exact hK _ _ _ _ hst _ _ _ _ _ hloc hrep hS hrm
  case i2c =>
    replace hck := (Bool.and_eq_true_iff.mp hck).2
    have h1 : len = _ := of_decide_eq_true hck
    subst h1
    obtain ⟨x, s1, rfl, hst⟩ := z1i_inv hst
    refine lv_i2c hx hb hd rfl ?_
    exact hK _ _ _ _ hst _ _ _ _ _ hloc hrep hS hrm
  case dup =>
    replace hck := (Bool.and_eq_true_iff.mp hck).2
    have h1 : len = _ := of_decide_eq_true hck
    subst h1
    unfold zstep at hst
    dsimp only at hst
    split at hst
    · refine lv_dup hx hb hd rfl ?_
      exact hK _ _ _ _ hst _ _ _ _ _ hloc hrep hS hrm
    · refine lv_dup hx hb hd rfl ?_
      exact hK _ _ _ _ hst _ _ _ _ _ hloc hrep hS hrm
    · cases hst
  case pop =>
    replace hck := (Bool.and_eq_true_iff.mp hck).2
    have h1 : len = _ := of_decide_eq_true hck
    subst h1
    unfold zstep at hst
    dsimp only at hst
    split at hst
    · refine lv_pop hx hb hd rfl ?_
      exact hK _ _ _ _ hst _ _ _ _ _ hloc hrep hS hrm
    · refine lv_pop hx hb hd rfl ?_
      exact hK _ _ _ _ hst _ _ _ _ _ hloc hrep hS hrm
    · cases hst
  case dup2 =>
    replace hck := (Bool.and_eq_true_iff.mp hck).2
    have h1 : len = _ := of_decide_eq_true hck
    subst h1
    unfold zstep at hst
    dsimp only at hst
    split at hst
    · refine lv_dup2_2 hx hb hd rfl ?_
      exact hK _ _ _ _ hst _ _ _ _ _ hloc hrep hS hrm
    · refine lv_dup2_11 hx hb hd rfl rfl ?_
      exact hK _ _ _ _ hst _ _ _ _ _ hloc hrep hS hrm
    · refine lv_dup2_11 hx hb hd rfl rfl ?_
      exact hK _ _ _ _ hst _ _ _ _ _ hloc hrep hS hrm
    · cases hst
  case goto z =>
    obtain ⟨h1, h2⟩ := Bool.and_eq_true_iff.mp (Bool.and_eq_true_iff.mp hck).2
    replace h1 : len = 3 := of_decide_eq_true h1
    replace h2 := of_decide_eq_true h2
    clear hck
    subst h1
    refine lv_goto hx hb hd h2 ?_
    exact hK _ _ _ _ hst _ _ _ _ _ hloc hrep hS hrm
  case ifCond cd z =>
    obtain ⟨h1, h2⟩ := Bool.and_eq_true_iff.mp (Bool.and_eq_true_iff.mp hck).2
    replace h1 : len = 3 := of_decide_eq_true h1
    replace h2 := of_decide_eq_true h2
    clear hck
    subst h1
    obtain ⟨x, s1, rfl, hst⟩ := z1i_inv hst
    cases cd
    case eq =>
      have hst := ite_inv hst
      refine lv_if_eq hx hb hd h2 (fun hc => ?_) (fun hc => ?_)
      · have hst := hst.1 hc
        exact hK _ _ _ _ hst _ _ _ _ _ hloc hrep hS hrm
      · have hst := hst.2 hc
        exact hK _ _ _ _ hst _ _ _ _ _ hloc hrep hS hrm
    case ne =>
      have hst := ite_inv hst
      refine lv_if_ne hx hb hd h2 (fun hc => ?_) (fun hc => ?_)
      · have hst := hst.1 hc
        exact hK _ _ _ _ hst _ _ _ _ _ hloc hrep hS hrm
      · have hst := hst.2 (fun q => q hc)
        exact hK _ _ _ _ hst _ _ _ _ _ hloc hrep hS hrm
    case lt =>
      have hst := ite_inv hst
      refine lv_if_lt hx hb hd h2 (fun hc => ?_) (fun hc => ?_)
      · have hst := hst.1 hc
        exact hK _ _ _ _ hst _ _ _ _ _ hloc hrep hS hrm
      · have hst := hst.2 hc
        exact hK _ _ _ _ hst _ _ _ _ _ hloc hrep hS hrm
    case ge =>
      have hst := ite_inv hst
      refine lv_if_ge hx hb hd h2 (fun hc => ?_) (fun hc => ?_)
      · have hst := hst.1 hc
        exact hK _ _ _ _ hst _ _ _ _ _ hloc hrep hS hrm
      · have hst := hst.2 hc
        exact hK _ _ _ _ hst _ _ _ _ _ hloc hrep hS hrm
    case gt =>
      have hst := ite_inv hst
      refine lv_if_gt hx hb hd h2 (fun hc => ?_) (fun hc => ?_)
      · have hst := hst.1 hc
        exact hK _ _ _ _ hst _ _ _ _ _ hloc hrep hS hrm
      · have hst := hst.2 hc
        exact hK _ _ _ _ hst _ _ _ _ _ hloc hrep hS hrm
    case le =>
      have hst := ite_inv hst
      refine lv_if_le hx hb hd h2 (fun hc => ?_) (fun hc => ?_)
      · have hst := hst.1 hc
        exact hK _ _ _ _ hst _ _ _ _ _ hloc hrep hS hrm
      · have hst := hst.2 hc
        exact hK _ _ _ _ hst _ _ _ _ _ hloc hrep hS hrm
  case if_icmp cd z =>
    obtain ⟨h1, h2⟩ := Bool.and_eq_true_iff.mp (Bool.and_eq_true_iff.mp hck).2
    replace h1 : len = 3 := of_decide_eq_true h1
    replace h2 := of_decide_eq_true h2
    clear hck
    subst h1
    obtain ⟨x, y, s1, rfl, hst⟩ := z2i_inv hst
    cases cd
    case eq =>
      have hst := ite_inv hst
      refine lv_icmp_eq hx hb hd h2 (fun hc => ?_) (fun hc => ?_)
      · have hst := hst.1 hc
        exact hK _ _ _ _ hst _ _ _ _ _ hloc hrep hS hrm
      · have hst := hst.2 hc
        exact hK _ _ _ _ hst _ _ _ _ _ hloc hrep hS hrm
    case ne =>
      have hst := ite_inv hst
      refine lv_icmp_ne hx hb hd h2 (fun hc => ?_) (fun hc => ?_)
      · have hst := hst.1 hc
        exact hK _ _ _ _ hst _ _ _ _ _ hloc hrep hS hrm
      · have hst := hst.2 (fun q => q hc)
        exact hK _ _ _ _ hst _ _ _ _ _ hloc hrep hS hrm
    case lt =>
      have hst := ite_inv hst
      refine lv_icmp_lt hx hb hd h2 (fun hc => ?_) (fun hc => ?_)
      · have hst := hst.1 hc
        exact hK _ _ _ _ hst _ _ _ _ _ hloc hrep hS hrm
      · have hst := hst.2 hc
        exact hK _ _ _ _ hst _ _ _ _ _ hloc hrep hS hrm
    case ge =>
      have hst := ite_inv hst
      refine lv_icmp_ge hx hb hd h2 (fun hc => ?_) (fun hc => ?_)
      · have hst := hst.1 hc
        exact hK _ _ _ _ hst _ _ _ _ _ hloc hrep hS hrm
      · have hst := hst.2 hc
        exact hK _ _ _ _ hst _ _ _ _ _ hloc hrep hS hrm
    case gt =>
      have hst := ite_inv hst
      refine lv_icmp_gt hx hb hd h2 (fun hc => ?_) (fun hc => ?_)
      · have hst := hst.1 hc
        exact hK _ _ _ _ hst _ _ _ _ _ hloc hrep hS hrm
      · have hst := hst.2 hc
        exact hK _ _ _ _ hst _ _ _ _ _ hloc hrep hS hrm
    case le =>
      have hst := ite_inv hst
      refine lv_icmp_le hx hb hd h2 (fun hc => ?_) (fun hc => ?_)
      · have hst := hst.1 hc
        exact hK _ _ _ _ hst _ _ _ _ _ hloc hrep hS hrm
      · have hst := hst.2 hc
        exact hK _ _ _ _ hst _ _ _ _ _ hloc hrep hS hrm
  case tableswitch dflt lo hi offs =>
    obtain ⟨x, s1, rfl, hst⟩ := z1i_inv hst
    obtain ⟨dd, lo2, ts, rfl, k1, k2, k3, k4, k5⟩ := zck_table hck
    obtain ⟨t, ht, hst2⟩ := zsw_inv (K := fun t => K t lv s1 M) (show zsw x lo2 ts dd (fun t => K t lv s1 M) = some (rv, M') from hst)
    rcases ht with ⟨hlo, rfl⟩ | ⟨j, hj, hx2, hts⟩
    · refine lv_tableOut hx hb hd ?_ k1 ?_
      · rw [k2, k3]
        exact zsw_out k5 hlo
      · exact hK _ _ _ _ hst2 _ _ _ _ _ hloc hrep hS hrm
    · have hxi : x.toInt = ((lo2 + j : Nat) : Int) := by rw [hx2]; exact nI_toInt (by omega)
      have hoff := congrArg (fun l => l[j]?) k4
      simp only [List.getElem?_map, hts, Option.map_some] at hoff
      obtain ⟨off, ho1, ho2⟩ := Option.map_eq_some_iff.mp hoff
      refine lv_tableIn hx hb hd (by rw [hxi, k2]; omega) (by rw [hxi, k3]; omega) (off := off) ?_ ho2 ?_
      · rw [hxi, k2, show (((lo2 + j : Nat) : Int) - (lo2 : Int)).toNat = j by omega, ← Array.getElem?_toList]; exact ho1
      · exact hK _ _ _ _ hst2 _ _ _ _ _ hloc hrep hS hrm
  case lookupswitch dflt ps =>
    obtain ⟨x, s1, rfl, hst⟩ := z1i_inv hst
    obtain ⟨dd, ts, rfl, k1, k2, k3, k4⟩ := zck_look hck
    obtain ⟨t, hoff, hst⟩ := zlk_inv (pc := pc) (K := fun t => K t lv s1 M) k1 k2 k3 (show zlk x ts dd (fun t => K t lv s1 M) = some (rv, M') from hst)
    refine lv_lookup hx hb hd k4 rfl hoff ?_
    exact hK _ _ _ _ hst _ _ _ _ _ hloc hrep hS hrm
  case getfield z =>
    obtain ⟨ty, ci, k, rfl, rfl, h3, h4⟩ := zck_get hck
    obtain ⟨a, s1, rfl, hst⟩ := z1r_inv hst
    obtain ⟨hka, hst⟩ := zif_inv (show zif _ _ = _ from hst)
    refine zget cx hrep hka h3 hd ?_
    match ty, h4, hst with
    | 1, h4, hst =>
      rw [zfv_1 (h4.resolve_right (fun q => by omega)).symm]
      exact hK _ _ _ _ hst _ _ _ _ _ hloc hrep hS hrm
    | 2, h4, hst =>
      obtain ⟨q, hq, hst⟩ := zoR_inv hst
      rw [zfv_2 (h4.resolve_right (fun q => by omega)).symm, hq]
      exact hK _ _ _ _ hst _ _ _ _ _ hloc hrep hS hrm
    | 0, h4, hst =>
      rw [zfv_0 (by omega) (by omega)]
      exact hK _ _ _ _ hst _ _ _ _ _ hloc hrep hS hrm
    | n + 3, h4, hst =>
      rw [zfv_0 (by omega) (by omega)]
      exact hK _ _ _ _ hst _ _ _ _ _ hloc hrep hS hrm
  case putfield z =>
    obtain ⟨ty, ci, k, rfl, rfl, h3, h4, h5⟩ := zck_put hck
    have hfin : zfin ci k = true → meth.name = "<init>" ∧ (w.drop 1).headD 1 = 0 ∧ ((vwCl[ci]?).map (fun q => (q.2.1 k).1)) = some own := fun hf => ⟨hini (h5 hf).1, (h5 hf).2⟩
    obtain ⟨r2, pp, nn, hc, -, hk, -⟩ := zfck_inv h3
    have hci : ci < 11 := (List.getElem?_eq_some_iff.mp hc).1
    have h9 : ty ≠ 9 := by rw [h4]; exact ztyc9 hc k hk
    replace hst : zputf [ty, ci, k] st M (fun s M1 => K (pc + 3) lv s M1) = some (rv, M') := hst
    match ty, h4, h9, hst with
    | 1, h4, h9, hst =>
      obtain ⟨a, x, s1, rfl, hst⟩ := zrl_inv hst
      obtain ⟨hka, hst⟩ := zif_inv hst
      refine zput_long cx hrep hS hka hci h3 h4 hd hfin fun H1 locs1 hrep hS => ?_
      exact hK _ _ _ _ hst _ _ _ _ _ hloc hrep hS hrm
    | 2, h4, h9, hst =>
      obtain ⟨a, x, s1, rfl, hst⟩ := zrr_inv hst
      obtain ⟨hka, hst⟩ := zif_inv hst
      refine zput_ref cx hrep hS hka hci h3 h4 hd hfin fun H1 locs1 hrep hS => ?_
      exact hK _ _ _ _ hst _ _ _ _ _ hloc hrep hS hrm
    | 3, h4, h9, hst =>
      obtain ⟨a, x, s1, rfl, hst⟩ := zri_inv hst
      obtain ⟨hka, hst⟩ := zif_inv hst
      refine zput_int cx hrep hS hka.1 hci h3 h4 (Or.inr ⟨rfl, hka.2⟩) hd hfin fun H1 locs1 hrep hS => ?_
      exact hK _ _ _ _ hst _ _ _ _ _ hloc hrep hS hrm
    | 0, h4, h9, hst =>
      obtain ⟨a, x, s1, rfl, hst⟩ := zri_inv hst
      obtain ⟨hka, hst⟩ := zif_inv hst
      refine zput_int cx hrep hS hka hci h3 h4 (Or.inl rfl) hd hfin fun H1 locs1 hrep hS => ?_
      exact hK _ _ _ _ hst _ _ _ _ _ hloc hrep hS hrm
    | n + 4, h4, h9, hst =>
      exact absurd (ztyc_0 h4 (by omega) (by omega) (by omega) h9) (by omega)
  case getstatic z =>
    replace hck := (Bool.and_eq_true_iff.mp hck).2
    obtain ⟨h1, h2⟩ := Bool.and_eq_true_iff.mp hck
    have h1 : len = _ := of_decide_eq_true h1
    subst h1
    refine va_gets hx hb cx.2.2.2.2.2.2.1 hS hown (zword_ok hT h2 rfl args) (fun _ h => h) hd ?_
    exact hK _ _ _ _ hst _ _ _ _ _ hloc hrep hS hrm
  case iaload =>
    replace hck := (Bool.and_eq_true_iff.mp hck).2
    have h1 : len = _ := of_decide_eq_true hck
    subst h1
    obtain ⟨a, j, s1, rfl, hst⟩ := zri_inv hst
    obtain ⟨⟨h1, h2⟩, hst⟩ := zif_inv hst
    refine zald_i cx hrep h1 h2 hd ?_
    exact hK _ _ _ _ hst _ _ _ _ _ hloc hrep hS hrm
  case baload =>
    replace hck := (Bool.and_eq_true_iff.mp hck).2
    have h1 : len = _ := of_decide_eq_true hck
    subst h1
    obtain ⟨a, j, s1, rfl, hst⟩ := zri_inv hst
    obtain ⟨⟨h1, h2⟩, hst⟩ := zif_inv hst
    refine zald_b cx hrep h1 h2 hd ?_
    exact hK _ _ _ _ hst _ _ _ _ _ hloc hrep hS hrm
  case laload =>
    replace hck := (Bool.and_eq_true_iff.mp hck).2
    have h1 : len = _ := of_decide_eq_true hck
    subst h1
    obtain ⟨a, j, s1, rfl, hst⟩ := zri_inv hst
    obtain ⟨⟨h1, h2⟩, hst⟩ := zif_inv hst
    refine zald_l cx hrep h1 h2 hd ?_
    exact hK _ _ _ _ hst _ _ _ _ _ hloc hrep hS hrm
  case aaload =>
    replace hck := (Bool.and_eq_true_iff.mp hck).2
    have h1 : len = _ := of_decide_eq_true hck
    subst h1
    obtain ⟨a, j, s1, rfl, hst⟩ := zri_inv hst
    obtain ⟨⟨h1, h2⟩, hst⟩ := zif_inv hst
    obtain ⟨q, hq, hst⟩ := zoR_inv hst
    obtain ⟨ci, r2, h3, h4⟩ := zkind hrep h1 h2
    refine zald_r cx hrep h3 h4 h2 hq hd ?_
    exact hK _ _ _ _ hst _ _ _ _ _ hloc hrep hS hrm
  case iastore =>
    replace hck := (Bool.and_eq_true_iff.mp hck).2
    have h1 : len = _ := of_decide_eq_true hck
    subst h1
    obtain ⟨a, j, x, s1, rfl, hst⟩ := zrii_inv hst
    obtain ⟨⟨h1, h2⟩, hst⟩ := zif_inv hst
    refine zast_i cx hrep hS h1 h2 hd fun H1 locs1 hrep hS => ?_
    exact hK _ _ _ _ hst _ _ _ _ _ hloc hrep hS hrm
  case lastore =>
    replace hck := (Bool.and_eq_true_iff.mp hck).2
    have h1 : len = _ := of_decide_eq_true hck
    subst h1
    obtain ⟨a, j, x, s1, rfl, hst⟩ := zril_inv hst
    obtain ⟨⟨h1, h2⟩, hst⟩ := zif_inv hst
    refine zast_l cx hrep hS h1 h2 hd fun H1 locs1 hrep hS => ?_
    exact hK _ _ _ _ hst _ _ _ _ _ hloc hrep hS hrm
  case bastore =>
    replace hck := (Bool.and_eq_true_iff.mp hck).2
    have h1 : len = _ := of_decide_eq_true hck
    subst h1
    obtain ⟨a, j, x, s1, rfl, hst⟩ := zrii_inv hst
    have hst := ite_inv hst
    by_cases h1 : (zK M a).1 = 21
    · obtain ⟨h2, hst⟩ := zif_inv (hst.1 h1)
      refine zast_z cx hrep hS h1 h2 hd fun H1 locs1 hrep hS => ?_
      exact hK _ _ _ _ hst _ _ _ _ _ hloc hrep hS hrm
    · obtain ⟨⟨h3, h2⟩, hst⟩ := zif_inv (hst.2 h1)
      refine zast_b cx hrep hS h3 h2 hd fun H1 locs1 hrep hS => ?_
      exact hK _ _ _ _ hst _ _ _ _ _ hloc hrep hS hrm
  case aastore =>
    replace hck := (Bool.and_eq_true_iff.mp hck).2
    have h1 : len = _ := of_decide_eq_true hck
    subst h1
    obtain ⟨a, j, q, s1, rfl, hst⟩ := zrir_inv hst
    obtain ⟨⟨h1, h2, h3, h4, h5⟩, hst⟩ := zif_inv hst
    obtain ⟨ci, r2, h6, h7⟩ := zkind hrep h1 h5
    refine zast_r (ci := ci) cx hrep hS (by omega) h6 h7 h5 hd fun H1 locs1 hrep hS => ?_
    exact hK _ _ _ _ hst _ _ _ _ _ hloc hrep hS hrm
  case arraylength =>
    replace hck := (Bool.and_eq_true_iff.mp hck).2
    have h1 : len = _ := of_decide_eq_true hck
    subst h1
    obtain ⟨a, s1, rfl, hst⟩ := z1r_inv hst
    obtain ⟨h1, hst⟩ := zif_inv hst
    obtain ⟨ty, f, h2⟩ := zkind_ar hrep h1
    refine zalen cx hrep h2 hd ?_
    exact hK _ _ _ _ hst _ _ _ _ _ hloc hrep hS hrm
  case new z =>
    obtain ⟨C, T, N, ci, p1, p2, p3, rfl, rfl, hc, h4, h5, h6⟩ := zck_new hck
    replace hst : K (pc + 3) lv (.ref (zN M) :: st) (znew M (ci + 1) N) = some (rv, M') := hst
    obtain ⟨k1, k2, k3⟩ := hrm.new (hKl _ _ _ _ hst)
    refine znew_o (r := (C, T, N)) cx hrep hS hc h4 h5 h6 (Nat.le_trans k2 hCF) (Nat.le_trans k3 hSF) hd fun H1 hrep hS => ?_
    exact hK _ _ _ _ hst _ _ _ _ _ hloc hrep hS k1
  case newarray z =>
    obtain ⟨t, rfl, rfl, h3, ht⟩ := zck_newa hck
    obtain ⟨n, s1, rfl, hst⟩ := z1i_inv hst
    obtain ⟨⟨hn, hmx⟩, hst⟩ := zif_inv hst
    replace hst : K (pc + 2) lv (.ref (zN M) :: s1) (znew M t n.toNatClampNeg) = some (rv, M') := hst
    obtain ⟨k1, k2, k3⟩ := hrm.new (hKl _ _ _ _ hst)
    refine znew_a cx hrep hS h3 ht hn hmx (Nat.le_trans k2 hCF) (Nat.le_trans k3 hSF) hd fun H1 hrep hS => ?_
    exact hK _ _ _ _ hst _ _ _ _ _ hloc hrep hS k1
  case anewarray z =>
    obtain ⟨C, T, N, ci, p1, p2, rfl, rfl, hc, h3, h4⟩ := zck_anew hck
    obtain ⟨n, s1, rfl, hst⟩ := z1i_inv hst
    obtain ⟨⟨hn, hmx⟩, hst⟩ := zif_inv hst
    replace hst : K (pc + 3) lv (.ref (zN M) :: s1) (znew M (30 + ci) n.toNatClampNeg) = some (rv, M') := hst
    obtain ⟨k1, k2, k3⟩ := hrm.new (hKl _ _ _ _ hst)
    refine znew_q (r := (C, T, N)) cx hrep hS hc h3 h4 hn hmx (Nat.le_trans k2 hCF) (Nat.le_trans k3 hSF) hd fun H1 hrep hS => ?_
    exact hK _ _ _ _ hst _ _ _ _ _ hloc hrep hS k1
  case invokevirtual z =>
    obtain ⟨y, n, rt2, tag, p1, p2, p3, nest, rfl, rfl, hy, hn1, hsg, htg, hcl, w2, w3, w1⟩ := zck_virt hck
    replace hst : zinvoke E [y, n, rt2, tag] st M (fun s M1 => K (pc + 3) lv s M1) = some (rv, M') := hst
    rw [zinv_c (Nat.ble_eq.mpr (by omega))] at hst
    obtain ⟨hle, hrmy, rv1, M1, hE, hst, -, htag⟩ := zcall_inv hst
    obtain ⟨b, as0, hab, hkb⟩ := htag (by omega)
    obtain ⟨k1, k2, k3⟩ := hrm.call (hEok _ _ _ _ _ hE) (hKl _ _ _ _ hst)
    have hl0 : as0.length = n - 1 := by
      have := congrArg List.length hab
      rw [List.length_reverse, List.length_take, List.length_cons, Nat.min_eq_left hle] at this
      omega
    rw [zrest_map hle]
    refine zcallV (t := tag - 1) cx hrep hS hloc.1 hM hy hab hE hfr hlo (Nat.le_trans k2 hCF) (Nat.le_trans k3 hSF) (by rw [hl0]; exact hsg) (by rw [hkb]; omega) hcl w2 w3 w1 (zroomy_le hrmy) hd fun H1 locs1 hrep hS => ?_
    rw [← zrv_map]
    exact hK _ _ _ _ hst _ _ _ _ _ hloc hrep hS k1
  case invokespecial z =>
    rcases zck_spec hck with ⟨p1, p2, rfl, rfl, w1, w2⟩ | ⟨y, n, p1, p2, nest, rfl, rfl, hy, hn1, hsg, hno, hnm, w2, w1⟩
    · obtain ⟨a, s1, rfl, hst⟩ := z1r_inv (show z1r st (fun _ s => zok (zroomy s) (K (pc + 3) lv s M)) = some (rv, M') from hst)
      obtain ⟨hry, hst⟩ := zok_inv hst
      replace hry := zroomy_le (ad := zad t0 b0 base) hry
      refine W.objInit hx hb hown (zword_ok hT w1 rfl args) (zword_ok hT w2 rfl args) (hT _ zcw_obj rfl args) rfl (by rw [cx.2.2.1]; exact hloc.1) rfl hd hfrm ?_ ?_
      · show 2 * 0 + ((s1.map (zv (zad t0 b0 base))).map fun v => v.category).sum + 12 ≤ R.locals
        omega
      · exact hK _ _ _ _ hst _ _ _ _ _ hloc hrep hS hrm
    · replace hst : zinvoke E [y, n, 0, 0] st M (fun s M1 => K (pc + 3) lv s M1) = some (rv, M') := hst
      rw [zinv_c (Nat.ble_eq.mpr (by omega))] at hst
      obtain ⟨hle, hrmy, rv1, M1, hE, hst, hv0, -⟩ := zcall_inv hst
      replace hv0 := hv0 rfl
      subst hv0
      obtain ⟨k1, k2, k3⟩ := hrm.call (hEok _ _ _ _ _ hE) (hKl _ _ _ _ hst)
      obtain ⟨b, as0, hab⟩ := zspecial hy hE hnm hEs
      have hl0 : as0.length = n - 1 := by
        have := congrArg List.length hab
        rw [List.length_reverse, List.length_take, List.length_cons, Nat.min_eq_left hle] at this
        omega
      rw [zrest_map hle]
      refine zcallI cx hrep hS hloc.1 hM hy hab hE hfr hlo (Nat.le_trans k2 hCF) (Nat.le_trans k3 hSF) (by rw [hl0]; exact hsg) hno hnm w2 w1 (zroomy_le hrmy) hd fun H1 locs1 hrep hS => ?_
      exact hK _ _ _ _ hst _ _ _ _ _ hloc hrep hS k1
  case invokestatic z =>
    rcases zck_stat hck with ⟨p1, p2, p3, p4, rfl, rfl, w1, w2, w3, w4⟩ | ⟨p1, p2, p3, rfl, rfl, w1, w2, w3⟩ | ⟨p1, p2, p3, rfl, rfl, w1, w2, w3⟩ | ⟨y, n, rt2, p1, p2, nest, rfl, rfl, hy, hsg, w2, w1⟩
    · obtain ⟨nn, dp, b, sp, a, s1, rfl, ⟨g1, g2, g3, g4, g5, g6, g7, g8⟩, hst⟩ := zcp_inv (show zinvoke E [1001, 5, 0, 0] st M (fun s M1 => K (pc + 3) lv s M1) = some (rv, M') from hst)
      have hry := zroomy_le (ad := zad t0 b0 base) g3
      refine zcopy_W cx hrep hS hloc.1 w1 w2 w3 w4 g1 g2 g4 g5 g6 g7 g8 hfrm (by omega) hd fun H1 locs1 hrep hS => ?_
      exact hK _ _ _ _ hst _ _ _ _ _ hloc hrep hS hrm
    · obtain ⟨x, y, s1, rfl, hst⟩ := z2i_inv (show z2i st (fun x y s => zok (zroomy s) (K (pc + 3) lv (.int (if x < y then y else x) :: s) M)) = some (rv, M') from hst)
      obtain ⟨hry, hst⟩ := zok_inv hst
      replace hry := zroomy_le (ad := zad t0 b0 base) hry
      refine va_mmax hx hb (by rw [cx.2.2.1, hloc.1]) hown (zword_ok hT w1 rfl args) (zword_ok hT w2 rfl args) (zword_ok hT w3 rfl args) (hT _ zcw_max rfl args) hfrm (by omega) (Nat.le_trans (Nat.le_trans (Nat.le_add_right _ _) hrm.2.1) hCF) (Nat.le_trans (Nat.le_trans (Nat.le_add_right _ _) hrm.2.2) hSF) hd ?_
      exact hK _ _ _ _ hst _ _ _ _ _ hloc hrep hS hrm
    · obtain ⟨x, y, s1, rfl, hst⟩ := z2i_inv (show z2i st (fun x y s => zok (zroomy s) (K (pc + 3) lv (.int (if y < x then y else x) :: s) M)) = some (rv, M') from hst)
      obtain ⟨hry, hst⟩ := zok_inv hst
      replace hry := zroomy_le (ad := zad t0 b0 base) hry
      refine va_mmin hx hb (by rw [cx.2.2.1, hloc.1]) hown (zword_ok hT w1 rfl args) (zword_ok hT w2 rfl args) (zword_ok hT w3 rfl args) (hT _ zcw_min rfl args) hfrm (by omega) (Nat.le_trans (Nat.le_trans (Nat.le_add_right _ _) hrm.2.1) hCF) (Nat.le_trans (Nat.le_trans (Nat.le_add_right _ _) hrm.2.2) hSF) hd ?_
      exact hK _ _ _ _ hst _ _ _ _ _ hloc hrep hS hrm
    · replace hst : zinvoke E [y, n, rt2, 0] st M (fun s M1 => K (pc + 3) lv s M1) = some (rv, M') := hst
      rw [zinv_c (Nat.ble_eq.mpr (by omega))] at hst
      obtain ⟨hle, hrmy, rv1, M1, hE, hst, -, -⟩ := zcall_inv hst
      obtain ⟨k1, k2, k3⟩ := hrm.call (hEok _ _ _ _ _ hE) (hKl _ _ _ _ hst)
      rw [zrest_map hle]
      refine zcallS cx hrep hS hloc.1 hM hy hE hfr hlo (Nat.le_trans k2 hCF) (Nat.le_trans k3 hSF) (by rw [List.length_reverse, List.length_take, Nat.min_eq_left hle]; exact hsg) w2 w1 (zroomy_le hrmy) hd fun H1 locs1 hrep hS => ?_
      rw [← zrv_map]
      exact hK _ _ _ _ hst _ _ _ _ _ hloc hrep hS k1
  case ireturn =>
    replace hck := (Bool.and_eq_true_iff.mp hck).2
    have h1 : len = _ := of_decide_eq_true hck
    subst h1
    unfold zstep at hst
    dsimp only at hst
    split at hst
    · split at hst
      · cases hst
        exact hR _ _ _ _ _ _ _ hd (Or.inl ⟨rfl, _, rfl, Or.inl rfl⟩) hrep hS (Nat.le_trans (Nat.le_add_right _ _) hrm.2.1) (Nat.le_trans (Nat.le_add_right _ _) hrm.2.2)
      · obtain ⟨h1, hst⟩ := zif_inv hst
        cases hst
        exact hR _ _ _ _ _ _ _ hd (Or.inl ⟨rfl, _, rfl, Or.inr ⟨rfl, h1⟩⟩) hrep hS (Nat.le_trans (Nat.le_add_right _ _) hrm.2.1) (Nat.le_trans (Nat.le_add_right _ _) hrm.2.2)
      · cases hst
    · cases hst
  case lreturn =>
    replace hck := (Bool.and_eq_true_iff.mp hck).2
    have h1 : len = _ := of_decide_eq_true hck
    subst h1
    unfold zstep at hst
    dsimp only at hst
    split at hst
    · obtain ⟨h1, hst⟩ := zok_inv hst
      cases hst
      exact hR _ _ _ _ _ _ _ hd (Or.inr (Or.inl ⟨rfl, Nat.eq_of_beq_eq_true h1, _, rfl⟩)) hrep hS (Nat.le_trans (Nat.le_add_right _ _) hrm.2.1) (Nat.le_trans (Nat.le_add_right _ _) hrm.2.2)
    · cases hst
  case areturn =>
    replace hck := (Bool.and_eq_true_iff.mp hck).2
    have h1 : len = _ := of_decide_eq_true hck
    subst h1
    unfold zstep at hst
    dsimp only at hst
    split at hst
    · obtain ⟨h1, hst⟩ := zok_inv hst
      cases hst
      exact hR _ _ _ _ _ _ _ hd (Or.inr (Or.inr (Or.inl ⟨rfl, Nat.eq_of_beq_eq_true h1, _, rfl⟩))) hrep hS (Nat.le_trans (Nat.le_add_right _ _) hrm.2.1) (Nat.le_trans (Nat.le_add_right _ _) hrm.2.2)
    · cases hst
  case return_ =>
    replace hck := (Bool.and_eq_true_iff.mp hck).2
    have h1 : len = _ := of_decide_eq_true hck
    subst h1
    unfold zstep at hst
    dsimp only at hst
    split at hst
    · obtain ⟨h1, hst⟩ := zok_inv hst
      cases hst
      exact hR _ _ _ _ _ _ _ hd (Or.inr (Or.inr (Or.inr ⟨rfl, Nat.eq_of_beq_eq_true h1, rfl⟩))) hrep hS (Nat.le_trans (Nat.le_add_right _ _) hrm.2.1) (Nat.le_trans (Nat.le_add_right _ _) hrm.2.2)
    · cases hst
  all_goals (exact absurd hst (by intro q; cases q))
end ZSIM
end
section
abbrev zLi : Type := zMi × zNi × Bool × List (List Nat)
def zLl : List zLi := [(zm_Bu_init, (yX0_init, cX0_init, 1, none), true, zw__Bu_init), (zm_Bu_begin, (yX0_begin, cX0_begin, 2, none), false, zw__Bu_begin), (zm_Bu_condition, (yX0_condition, cX0_condition, 4, none), false, zw__Bu_condition), (zm_Bu_chainTwo, (yX0_chainTwo, cX0_chainTwo, 2, none), false, zw__Bu_chainTwo), (zm_Bu_chooseOfTwo, (yX0_chooseOfTwo, cX0_chooseOfTwo, 2, none), false, zw__Bu_chooseOfTwo), (zm_Bu_repeat, (yX0_repeat, cX0_repeat, 5, none), false, zw__Bu_repeat), (zm_Bu_chainCopies, (yX0_chainCopies, cX0_chainCopies, 12, none), false, zw__Bu_chainCopies), (zm_Bu_finish, (yX0_finish, cX0_finish, 1, none), false, zw__Bu_finish), (zm_Pl_init, (yX1_init, cX1_init, 1, none), true, zw__Pl_init), (zm_Pl_sideOf, (yX1_sideOf, cX1_sideOf, 2, some (.object "PromiseTries$Sequence")), false, zw__Pl_sideOf), (zm_Pl_isPutOffBy, (yX1_isPutOffBy, cX1_isPutOffBy, 2, some .boolean), false, zw__Pl_isPutOffBy), (zm_Re_init, (yX2_init, cX2_init, 1, none), true, zw__Re_init), (zm_Re_readAll, (yX2_readAll, cX2_readAll, 3, some .int), false, zw__Re_readAll), (zm_Re_readPromise, (yX2_readPromise, cX2_readPromise, 2, some .boolean), false, zw__Re_readPromise), (zm_Re_readOff, (yX2_readOff, cX2_readOff, 2, some .boolean), false, zw__Re_readOff), (zm_Re_readChoice, (yX2_readChoice, cX2_readChoice, 3, some .boolean), false, zw__Re_readChoice), (zm_Re_readChain, (yX2_readChain, cX2_readChain, 3, some .boolean), false, zw__Re_readChain), (zm_Re_readRepeated, (yX2_readRepeated, cX2_readRepeated, 4, some .boolean), false, zw__Re_readRepeated), (zm_Re_readNumber, (yX2_readNumber, cX2_readNumber, 2, some .boolean), false, zw__Re_readNumber), (zm_Re_readPart, (yX2_readPart, cX2_readPart, 2, some .boolean), false, zw__Re_readPart), (zm_Re_readCondition, (yX2_readCondition, cX2_readCondition, 4, some .boolean), false, zw__Re_readCondition), (zm_Re_readPlain, (yX2_readPlain, cX2_readPlain, 2, some .boolean), false, zw__Re_readPlain), (zm_Re_readAnyOf, (yX2_readAnyOf, cX2_readAnyOf, 3, some .boolean), false, zw__Re_readAnyOf), (zm_Re_readAllOf, (yX2_readAllOf, cX2_readAllOf, 3, some .boolean), false, zw__Re_readAllOf), (zm_Se_init, (yX3_init, cX3_init, 1, none), true, zw__Se_init), (zm_Se_clear, (yX3_clear, cX3_clear, 1, none), false, zw__Se_clear), (zm_Se_addCondition, (yX3_addCondition, cX3_addCondition, 2, some .long), false, zw__Se_addCondition), (zm_Se_link, (yX3_link, cX3_link, 8, none), false, zw__Se_link), (zm_Se_copyBlock, (yX3_copyBlock, cX3_copyBlock, 11, none), false, zw__Se_copyBlock), (zm_Se_findUseful, (yX3_findUseful, cX3_findUseful, 7, none), false, zw__Se_findUseful), (zm_Se_openTo, (yX3_openTo, cX3_openTo, 5, some .long), false, zw__Se_openTo), (zm_Se_after, (yX3_after, cX3_after, 10, some .long), false, zw__Se_after), (zm_Se_walk, (yX3_walk, cX3_walk, 7, some .long), false, zw__Se_walk), (zm_Se_hasEnded, (yX3_hasEnded, cX3_hasEnded, 3, some .boolean), false, zw__Se_hasEnded), (zm_Se_goesOn, (yX3_goesOn, cX3_goesOn, 3, some .boolean), false, zw__Se_goesOn), (zm_Sh_init, (yX4_init, cX4_init, 1, none), true, zw__Sh_init), (zm_Sh_renew, (yX4_renew, cX4_renew, 4, none), false, zw__Sh_renew), (zm_Sh_tearAt, (yX4_tearAt, cX4_tearAt, 3, some .int), false, zw__Sh_tearAt), (zm_Sh_setCell, (yX4_setCell, cX4_setCell, 3, none), false, zw__Sh_setCell), (zm_Ta_init, (yX5_init, cX5_init, 1, none), true, zw__Ta_init), (zm_Ta_begin, (yX5_begin, cX5_begin, 1, none), false, zw__Ta_begin), (zm_Ta_refuse, (yX5_refuse, cX5_refuse, 2, some .boolean), false, zw__Ta_refuse), (zm_Ta_advance, (yX5_advance, cX5_advance, 2, none), false, zw__Ta_advance), (zm_Ta_advanceNumber, (yX5_advanceNumber, cX5_advanceNumber, 3, none), false, zw__Ta_advanceNumber), (zm_Ta_isFigure, (yX5_isFigure, cX5_isFigure, 1, some .boolean), false, zw__Ta_isFigure), (zm_Ta_isSign, (yX5_isSign, cX5_isSign, 1, some .boolean), false, zw__Ta_isSign), (zm_Ta_beginsSequence, (yX5_beginsSequence, cX5_beginsSequence, 1, some .boolean), false, zw__Ta_beginsSequence), (zm_Tr_init, (yX6_init, cX6_init, 1, none), true, zw__Tr_init), (zm_Tr_add, (yX6_add, cX6_add, 2, none), false, zw__Tr_add), (zm_Tr_become, (yX6_become, cX6_become, 2, none), false, zw__Tr_become), (zm_TS_init, (yX7_init, cX7_init, 1, none), true, zw__TS_init), (zm_TS_clear, (yX7_clear, cX7_clear, 1, none), false, zw__TS_clear), (zm_TS_pushWire, (yX7_pushWire, cX7_pushWire, 3, none), false, zw__TS_pushWire), (zm_TS_wordOfWire, (yX7_wordOfWire, cX7_wordOfWire, 2, some .long), false, zw__TS_wordOfWire), (zm_TS_negate, (yX7_negate, cX7_negate, 2, none), false, zw__TS_negate), (zm_TS_joinTwo, (yX7_joinTwo, cX7_joinTwo, 6, none), false, zw__TS_joinTwo), (zm_TS_drop, (yX7_drop, cX7_drop, 1, none), false, zw__TS_drop), (zm_TS_moveTop, (yX7_moveTop, cX7_moveTop, 4, none), false, zw__TS_moveTop), (zm_Wa_init, (yX8_init, cX8_init, 1, none), true, zw__Wa_init), (zm_Wa_restart, (yX8_restart, cX8_restart, 1, none), false, zw__Wa_restart), (zm_Wa_catchUp, (yX8_catchUp, cX8_catchUp, 3, none), false, zw__Wa_catchUp), (zm_Wa_takeIn, (yX8_takeIn, cX8_takeIn, 5, none), false, zw__Wa_takeIn), (zm_Wa_moveDuties, (yX8_moveDuties, cX8_moveDuties, 5, none), false, zw__Wa_moveDuties), (zm_Wa_moveTries, (yX8_moveTries, cX8_moveTries, 6, some .boolean), false, zw__Wa_moveTries), (zm_Wa_beginDuty, (yX8_beginDuty, cX8_beginDuty, 5, none), false, zw__Wa_beginDuty), (zm_Wa_settleDuty, (yX8_settleDuty, cX8_settleDuty, 5, none), false, zw__Wa_settleDuty), (zm_Wa_judgeTries, (yX8_judgeTries, cX8_judgeTries, 4, none), false, zw__Wa_judgeTries), (zm_Wa_judge, (yX8_judge, cX8_judge, 3, some .int), false, zw__Wa_judge), (zm_Wa_howMany, (yX8_howMany, cX8_howMany, 4, some .int), false, zw__Wa_howMany), (zm_Wa_earliest, (yX8_earliest, cX8_earliest, 3, some .int), false, zw__Wa_earliest), (zm_Wa_failedBy, (yX8_failedBy, cX8_failedBy, 4, some .int), false, zw__Wa_failedBy), (zm_Wa_allDuties, (yX8_allDuties, cX8_allDuties, 3, some .int), false, zw__Wa_allDuties), (zm_Wa_dutyTick, (yX8_dutyTick, cX8_dutyTick, 5, some .int), false, zw__Wa_dutyTick), (zm_Wa_dutyState, (yX8_dutyState, cX8_dutyState, 2, some .int), false, zw__Wa_dutyState), (zm_PT_init, (yX9_init, cX9_init, 2, none), true, zw__PT_init), (zm_PT_feed, (yX9_feed, cX9_feed, 2, some .int), false, zw__PT_feed), (zm_PT_end, (yX9_end, cX9_end, 3, some .int), false, zw__PT_end), (zm_PT_text, (yX9_text, cX9_text, 4, some .int), false, zw__PT_text), (zm_PT_fault, (yX9_fault, cX9_fault, 1, some .int), false, zw__PT_fault), (zm_PT_rule, (yX9_rule, cX9_rule, 5, some .int), false, zw__PT_rule), (zm_PT_promise, (yX9_promise, cX9_promise, 4, some .int), false, zw__PT_promise), (zm_PT_fulfils, (yX9_fulfils, cX9_fulfils, 6, some .int), false, zw__PT_fulfils), (zm_PT_fulfilled, (yX9_fulfilled, cX9_fulfilled, 4, some .int), false, zw__PT_fulfilled), (zm_PT_matches, (yX9_matches, cX9_matches, 6, some .int), false, zw__PT_matches), (zm_PT_might, (yX9_might, cX9_might, 5, some .int), false, zw__PT_might), (zm_PT_tick, (yX9_tick, cX9_tick, 4, some .int), false, zw__PT_tick), (zm_PT_bits, (yX9_bits, cX9_bits, 2, some .int), false, zw__PT_bits), (zm_PT_put, (yX9_put, cX9_put, 4, some .int), false, zw__PT_put), (zm_PT_keeps, (yX9_keeps, cX9_keeps, 3, some .int), false, zw__PT_keeps), (zm_PT_draw, (yX9_draw, cX9_draw, 6, some .int), false, zw__PT_draw), (zm_PT_verdict, (yX9_verdict, cX9_verdict, 3, some .int), false, zw__PT_verdict), (zm_PT_decided, (yX9_decided, cX9_decided, 4, some .int), false, zw__PT_decided), (zm_PT_duties, (yX9_duties, cX9_duties, 3, some .int), false, zw__PT_duties), (zm_PT_duty, (yX9_duty, cX9_duty, 8, some .int), false, zw__PT_duty), (zm_PT_tries, (yX9_tries, cX9_tries, 3, some .int), false, zw__PT_tries), (zm_PT_first, (yX9_first, cX9_first, 3, some .int), false, zw__PT_first), (zm_PT_keep, (yX9_keep, cX9_keep, 3, some .int), false, zw__PT_keep), (zm_PT_back, (yX9_back, cX9_back, 2, some .int), false, zw__PT_back), (zm_PT_sheet, (yX9_sheet, cX9_sheet, 4, some .int), false, zw__PT_sheet), (zm_PT_lay, (yX9_lay, cX9_lay, 6, some .int), false, zw__PT_lay), (zm_PT_run, (yX9_run, cX9_run, 8, some .int), false, zw__PT_run), (zm_PT_torn, (yX9_torn, cX9_torn, 1, some .int), false, zw__PT_torn), (zm_PT_count, (yX9_count, cX9_count, 2, some .int), false, zw__PT_count), (zm_PT_isPromise, (yX9_isPromise, cX9_isPromise, 2, some .boolean), false, zw__PT_isPromise), (zm_PT_isTick, (yX9_isTick, cX9_isTick, 2, some .boolean), false, zw__PT_isTick), (zm_PT_isTry, (yX9_isTry, cX9_isTry, 3, some .boolean), false, zw__PT_isTry), (zm_PT_isCondition, (yX9_isCondition, cX9_isCondition, 4, some .boolean), false, zw__PT_isCondition), (zm_PT_isBits, (yX9_isBits, cX9_isBits, 1, some .boolean), false, zw__PT_isBits), (zm_PT_isSide, (yX9_isSide, cX9_isSide, 1, some .boolean), false, zw__PT_isSide), (zm_PT_isVerdict, (yX9_isVerdict, cX9_isVerdict, 1, some .boolean), false, zw__PT_isVerdict), (zm_PT_isImage, (yX9_isImage, cX9_isImage, 1, some .boolean), false, zw__PT_isImage), (zm_PT_isSheet, (yX9_isSheet, cX9_isSheet, 1, some .boolean), false, zw__PT_isSheet), (zm_PT_isLane, (yX9_isLane, cX9_isLane, 1, some .boolean), false, zw__PT_isLane), (zm_PT_nextSeed, (yX9_nextSeed, cX9_nextSeed, 1, some .int), false, zw__PT_nextSeed), (zm_PT_got, (yX9_got, cX9_got, 1, some .int), false, zw__PT_got), (zm_PT_howManyImages, (yX9_howManyImages, cX9_howManyImages, 3, some .int), false, zw__PT_howManyImages), (zm_PT_watchOf, (yX9_watchOf, cX9_watchOf, 3, some (.object "PromiseTries$Watch")), false, zw__PT_watchOf), (zm_PT_watchAnew, (yX9_watchAnew, cX9_watchAnew, 2, none), false, zw__PT_watchAnew), (zm_PT_isFulfilled, (yX9_isFulfilled, cX9_isFulfilled, 3, some .boolean), false, zw__PT_isFulfilled), (zm_PT_howManyFulfil, (yX9_howManyFulfil, cX9_howManyFulfil, 4, some .int), false, zw__PT_howManyFulfil), (zm_Mo_init, (yX10_init, cX10_init, 2, none), true, zw__Mo_init), (zm_Mo_in, (yX10_in, cX10_in, 6, some .boolean), false, zw__Mo_in), (zm_Mo_flag, (yX10_flag, cX10_flag, 1, some .int), false, zw__Mo_flag), (zm_Mo_least, (yX10_least, cX10_least, 2, some .int), false, zw__Mo_least), (zm_Mo_greatest, (yX10_greatest, cX10_greatest, 2, some .int), false, zw__Mo_greatest), (zm_Mo_feed, (yX10_feed, cX10_feed, 2, some .int), false, zw__Mo_feed), (zm_Mo_end, (yX10_end, cX10_end, 3, some .int), false, zw__Mo_end), (zm_Mo_requires, (yX10_requires, cX10_requires, 3, none), false, zw__Mo_requires), (zm_Mo_byteAt, (yX10_byteAt, cX10_byteAt, 2, some .int), false, zw__Mo_byteAt), (zm_Mo_isSignByte, (yX10_isSignByte, cX10_isSignByte, 1, some .boolean), false, zw__Mo_isSignByte), (zm_Mo_reads, (yX10_reads, cX10_reads, 2, none), false, zw__Mo_reads), (zm_Mo_isSign, (yX10_isSign, cX10_isSign, 2, some .boolean), false, zw__Mo_isSign), (zm_Mo_readNumber, (yX10_readNumber, cX10_readNumber, 4, some .int), false, zw__Mo_readNumber), (zm_Mo_nests, (yX10_nests, cX10_nests, 1, none), false, zw__Mo_nests), (zm_Mo_wires, (yX10_wires, cX10_wires, 3, none), false, zw__Mo_wires), (zm_Mo_opensDepth, (yX10_opensDepth, cX10_opensDepth, 1, none), false, zw__Mo_opensDepth), (zm_Mo_joinsAnds, (yX10_joinsAnds, cX10_joinsAnds, 4, none), false, zw__Mo_joinsAnds), (zm_Mo_joinsOrs, (yX10_joinsOrs, cX10_joinsOrs, 2, none), false, zw__Mo_joinsOrs), (zm_Mo_readOperand, (yX10_readOperand, cX10_readOperand, 2, none), false, zw__Mo_readOperand), (zm_Mo_readCondition, (yX10_readCondition, cX10_readCondition, 5, none), false, zw__Mo_readCondition), (zm_Mo_placesNow, (yX10_placesNow, cX10_placesNow, 1, some .int), false, zw__Mo_placesNow), (zm_Mo_takes, (yX10_takes, cX10_takes, 3, none), false, zw__Mo_takes), (zm_Mo_sum, (yX10_sum, cX10_sum, 2, some .int), false, zw__Mo_sum), (zm_Mo_follows, (yX10_follows, cX10_follows, 6, none), false, zw__Mo_follows), (zm_Mo_chains, (yX10_chains, cX10_chains, 3, none), false, zw__Mo_chains), (zm_Mo_chooses, (yX10_chooses, cX10_chooses, 3, none), false, zw__Mo_chooses), (zm_Mo_onePlace, (yX10_onePlace, cX10_onePlace, 5, none), false, zw__Mo_onePlace), (zm_Mo_repeats, (yX10_repeats, cX10_repeats, 17, none), false, zw__Mo_repeats), (zm_Mo_opensSequence, (yX10_opensSequence, cX10_opensSequence, 1, none), false, zw__Mo_opensSequence), (zm_Mo_readBegin, (yX10_readBegin, cX10_readBegin, 1, none), false, zw__Mo_readBegin), (zm_Mo_readTimes, (yX10_readTimes, cX10_readTimes, 3, none), false, zw__Mo_readTimes), (zm_Mo_readEnds, (yX10_readEnds, cX10_readEnds, 2, none), false, zw__Mo_readEnds), (zm_Mo_readSequence, (yX10_readSequence, cX10_readSequence, 3, none), false, zw__Mo_readSequence), (zm_Mo_isFulfillable, (yX10_isFulfillable, cX10_isFulfillable, 6, some .boolean), false, zw__Mo_isFulfillable), (zm_Mo_ends, (yX10_ends, cX10_ends, 8, none), false, zw__Mo_ends), (zm_Mo_isBegin, (yX10_isBegin, cX10_isBegin, 1, some .boolean), false, zw__Mo_isBegin), (zm_Mo_readPromise, (yX10_readPromise, cX10_readPromise, 6, none), false, zw__Mo_readPromise), (zm_Mo_text, (yX10_text, cX10_text, 3, some .int), false, zw__Mo_text), (zm_Mo_fault, (yX10_fault, cX10_fault, 1, some .int), false, zw__Mo_fault), (zm_Mo_isPromise, (yX10_isPromise, cX10_isPromise, 2, some .boolean), false, zw__Mo_isPromise), (zm_Mo_isSide, (yX10_isSide, cX10_isSide, 1, some .boolean), false, zw__Mo_isSide), (zm_Mo_areBits, (yX10_areBits, cX10_areBits, 1, some .boolean), false, zw__Mo_areBits), (zm_Mo_fulfilsOne, (yX10_fulfilsOne, cX10_fulfilsOne, 4, some .boolean), false, zw__Mo_fulfilsOne), (zm_Mo_fulfilsOff, (yX10_fulfilsOff, cX10_fulfilsOff, 3, some .boolean), false, zw__Mo_fulfilsOff), (zm_Mo_findsFulfilling, (yX10_findsFulfilling, cX10_findsFulfilling, 8, none), false, zw__Mo_findsFulfilling), (zm_Mo_nextOf, (yX10_nextOf, cX10_nextOf, 7, some .long), false, zw__Mo_nextOf), (zm_Mo_firstOf, (yX10_firstOf, cX10_firstOf, 2, some .long), false, zw__Mo_firstOf), (zm_Mo_isEnd, (yX10_isEnd, cX10_isEnd, 4, some .boolean), false, zw__Mo_isEnd), (zm_Mo_canEnd, (yX10_canEnd, cX10_canEnd, 4, some .boolean), false, zw__Mo_canEnd), (zm_Mo_isConditionAsked, (yX10_isConditionAsked, cX10_isConditionAsked, 4, some .boolean), false, zw__Mo_isConditionAsked), (zm_Mo_fulfils, (yX10_fulfils, cX10_fulfils, 5, some .int), false, zw__Mo_fulfils), (zm_Mo_fulfilled, (yX10_fulfilled, cX10_fulfilled, 6, some .int), false, zw__Mo_fulfilled), (zm_Mo_matches, (yX10_matches, cX10_matches, 8, some .int), false, zw__Mo_matches), (zm_Mo_might, (yX10_might, cX10_might, 7, some .int), false, zw__Mo_might), (zm_Mo_promise, (yX10_promise, cX10_promise, 4, some .int), false, zw__Mo_promise), (zm_Mo_goesOn, (yX10_goesOn, cX10_goesOn, 7, none), false, zw__Mo_goesOn), (zm_Mo_dies, (yX10_dies, cX10_dies, 4, none), false, zw__Mo_dies), (zm_Mo_begins, (yX10_begins, cX10_begins, 3, none), false, zw__Mo_begins), (zm_Mo_isAny, (yX10_isAny, cX10_isAny, 6, some .boolean), false, zw__Mo_isAny), (zm_Mo_goesThrough, (yX10_goesThrough, cX10_goesThrough, 9, none), false, zw__Mo_goesThrough), (zm_Mo_verdictBy, (yX10_verdictBy, cX10_verdictBy, 6, some .int), false, zw__Mo_verdictBy), (zm_Mo_isTick, (yX10_isTick, cX10_isTick, 2, some .boolean), false, zw__Mo_isTick), (zm_Mo_isTry, (yX10_isTry, cX10_isTry, 3, some .boolean), false, zw__Mo_isTry), (zm_Mo_dutiesFrom, (yX10_dutiesFrom, cX10_dutiesFrom, 4, some .int), false, zw__Mo_dutiesFrom), (zm_Mo_verdict, (yX10_verdict, cX10_verdict, 3, some .int), false, zw__Mo_verdict), (zm_Mo_decided, (yX10_decided, cX10_decided, 3, some .int), false, zw__Mo_decided), (zm_Mo_duties, (yX10_duties, cX10_duties, 3, some .int), false, zw__Mo_duties), (zm_Mo_duty, (yX10_duty, cX10_duty, 7, some .int), false, zw__Mo_duty), (zm_Mo_triesOf, (yX10_triesOf, cX10_triesOf, 5, some .int), false, zw__Mo_triesOf), (zm_Mo_tries, (yX10_tries, cX10_tries, 3, some .int), false, zw__Mo_tries), (zm_Mo_first, (yX10_first, cX10_first, 4, some .int), false, zw__Mo_first), (zm_Mo_allDuties, (yX10_allDuties, cX10_allDuties, 4, some .int), false, zw__Mo_allDuties), (zm_Mo_allTries, (yX10_allTries, cX10_allTries, 4, some .int), false, zw__Mo_allTries), (zm_Mo_rule, (yX10_rule, cX10_rule, 2, some .int), false, zw__Mo_rule), (zm_Mo_failedBy, (yX10_failedBy, cX10_failedBy, 5, some .int), false, zw__Mo_failedBy), (zm_Mo_tick, (yX10_tick, cX10_tick, 2, some .int), false, zw__Mo_tick), (zm_Mo_bits, (yX10_bits, cX10_bits, 2, some .int), false, zw__Mo_bits), (zm_Mo_put, (yX10_put, cX10_put, 4, some .int), false, zw__Mo_put), (zm_Mo_keeps, (yX10_keeps, cX10_keeps, 3, some .int), false, zw__Mo_keeps), (zm_Mo_gets, (yX10_gets, cX10_gets, 1, some .int), false, zw__Mo_gets), (zm_Mo_draw, (yX10_draw, cX10_draw, 5, some .int), false, zw__Mo_draw), (zm_Mo_keep, (yX10_keep, cX10_keep, 4, some .int), false, zw__Mo_keep), (zm_Mo_back, (yX10_back, cX10_back, 3, some .int), false, zw__Mo_back), (zm_Mo_isSheet, (yX10_isSheet, cX10_isSheet, 2, some .boolean), false, zw__Mo_isSheet), (zm_Mo_sheet, (yX10_sheet, cX10_sheet, 5, some .int), false, zw__Mo_sheet), (zm_Mo_lay, (yX10_lay, cX10_lay, 4, some .int), false, zw__Mo_lay), (zm_Mo_run, (yX10_run, cX10_run, 8, some .int), false, zw__Mo_run), (zm_Mo_torn, (yX10_torn, cX10_torn, 1, some .int), false, zw__Mo_torn), (zm_Mo_count, (yX10_count, cX10_count, 2, some .int), false, zw__Mo_count), (zm_JL_bitCount, (yJ13_bitCount_95d88, cJ13_bitCount_95d88, 2, some .int), false, zw__JL_bitCount)]
def zLok (q : zLi) : Prop := q.1.2.2.1.length = q.2.2.2.length ∧ (q.1.2.2.1.zip q.2.2.2).all (fun e => zck q.2.1.1.cls q.2.2.1 q.2.1.2.1 e.1 e.2) = true
set_option maxRecDepth 20000 in
theorem zLl_ok : ∀ q ∈ zLl, zLok q := by
  unfold zLl
  refine List.forall_mem_cons.mpr ⟨zk_Bu_init, ?_⟩
  refine List.forall_mem_cons.mpr ⟨zk_Bu_begin, ?_⟩
  refine List.forall_mem_cons.mpr ⟨zk_Bu_condition, ?_⟩
  refine List.forall_mem_cons.mpr ⟨zk_Bu_chainTwo, ?_⟩
  refine List.forall_mem_cons.mpr ⟨zk_Bu_chooseOfTwo, ?_⟩
  refine List.forall_mem_cons.mpr ⟨zk_Bu_repeat, ?_⟩
  refine List.forall_mem_cons.mpr ⟨zk_Bu_chainCopies, ?_⟩
  refine List.forall_mem_cons.mpr ⟨zk_Bu_finish, ?_⟩
  refine List.forall_mem_cons.mpr ⟨zk_Pl_init, ?_⟩
  refine List.forall_mem_cons.mpr ⟨zk_Pl_sideOf, ?_⟩
  refine List.forall_mem_cons.mpr ⟨zk_Pl_isPutOffBy, ?_⟩
  refine List.forall_mem_cons.mpr ⟨zk_Re_init, ?_⟩
  refine List.forall_mem_cons.mpr ⟨zk_Re_readAll, ?_⟩
  refine List.forall_mem_cons.mpr ⟨zk_Re_readPromise, ?_⟩
  refine List.forall_mem_cons.mpr ⟨zk_Re_readOff, ?_⟩
  refine List.forall_mem_cons.mpr ⟨zk_Re_readChoice, ?_⟩
  refine List.forall_mem_cons.mpr ⟨zk_Re_readChain, ?_⟩
  refine List.forall_mem_cons.mpr ⟨zk_Re_readRepeated, ?_⟩
  refine List.forall_mem_cons.mpr ⟨zk_Re_readNumber, ?_⟩
  refine List.forall_mem_cons.mpr ⟨zk_Re_readPart, ?_⟩
  refine List.forall_mem_cons.mpr ⟨zk_Re_readCondition, ?_⟩
  refine List.forall_mem_cons.mpr ⟨zk_Re_readPlain, ?_⟩
  refine List.forall_mem_cons.mpr ⟨zk_Re_readAnyOf, ?_⟩
  refine List.forall_mem_cons.mpr ⟨zk_Re_readAllOf, ?_⟩
  refine List.forall_mem_cons.mpr ⟨zk_Se_init, ?_⟩
  refine List.forall_mem_cons.mpr ⟨zk_Se_clear, ?_⟩
  refine List.forall_mem_cons.mpr ⟨zk_Se_addCondition, ?_⟩
  refine List.forall_mem_cons.mpr ⟨zk_Se_link, ?_⟩
  refine List.forall_mem_cons.mpr ⟨zk_Se_copyBlock, ?_⟩
  refine List.forall_mem_cons.mpr ⟨zk_Se_findUseful, ?_⟩
  refine List.forall_mem_cons.mpr ⟨zk_Se_openTo, ?_⟩
  refine List.forall_mem_cons.mpr ⟨zk_Se_after, ?_⟩
  refine List.forall_mem_cons.mpr ⟨zk_Se_walk, ?_⟩
  refine List.forall_mem_cons.mpr ⟨zk_Se_hasEnded, ?_⟩
  refine List.forall_mem_cons.mpr ⟨zk_Se_goesOn, ?_⟩
  refine List.forall_mem_cons.mpr ⟨zk_Sh_init, ?_⟩
  refine List.forall_mem_cons.mpr ⟨zk_Sh_renew, ?_⟩
  refine List.forall_mem_cons.mpr ⟨zk_Sh_tearAt, ?_⟩
  refine List.forall_mem_cons.mpr ⟨zk_Sh_setCell, ?_⟩
  refine List.forall_mem_cons.mpr ⟨zk_Ta_init, ?_⟩
  refine List.forall_mem_cons.mpr ⟨zk_Ta_begin, ?_⟩
  refine List.forall_mem_cons.mpr ⟨zk_Ta_refuse, ?_⟩
  refine List.forall_mem_cons.mpr ⟨zk_Ta_advance, ?_⟩
  refine List.forall_mem_cons.mpr ⟨zk_Ta_advanceNumber, ?_⟩
  refine List.forall_mem_cons.mpr ⟨zk_Ta_isFigure, ?_⟩
  refine List.forall_mem_cons.mpr ⟨zk_Ta_isSign, ?_⟩
  refine List.forall_mem_cons.mpr ⟨zk_Ta_beginsSequence, ?_⟩
  refine List.forall_mem_cons.mpr ⟨zk_Tr_init, ?_⟩
  refine List.forall_mem_cons.mpr ⟨zk_Tr_add, ?_⟩
  refine List.forall_mem_cons.mpr ⟨zk_Tr_become, ?_⟩
  refine List.forall_mem_cons.mpr ⟨zk_TS_init, ?_⟩
  refine List.forall_mem_cons.mpr ⟨zk_TS_clear, ?_⟩
  refine List.forall_mem_cons.mpr ⟨zk_TS_pushWire, ?_⟩
  refine List.forall_mem_cons.mpr ⟨zk_TS_wordOfWire, ?_⟩
  refine List.forall_mem_cons.mpr ⟨zk_TS_negate, ?_⟩
  refine List.forall_mem_cons.mpr ⟨zk_TS_joinTwo, ?_⟩
  refine List.forall_mem_cons.mpr ⟨zk_TS_drop, ?_⟩
  refine List.forall_mem_cons.mpr ⟨zk_TS_moveTop, ?_⟩
  refine List.forall_mem_cons.mpr ⟨zk_Wa_init, ?_⟩
  refine List.forall_mem_cons.mpr ⟨zk_Wa_restart, ?_⟩
  refine List.forall_mem_cons.mpr ⟨zk_Wa_catchUp, ?_⟩
  refine List.forall_mem_cons.mpr ⟨zk_Wa_takeIn, ?_⟩
  refine List.forall_mem_cons.mpr ⟨zk_Wa_moveDuties, ?_⟩
  refine List.forall_mem_cons.mpr ⟨zk_Wa_moveTries, ?_⟩
  refine List.forall_mem_cons.mpr ⟨zk_Wa_beginDuty, ?_⟩
  refine List.forall_mem_cons.mpr ⟨zk_Wa_settleDuty, ?_⟩
  refine List.forall_mem_cons.mpr ⟨zk_Wa_judgeTries, ?_⟩
  refine List.forall_mem_cons.mpr ⟨zk_Wa_judge, ?_⟩
  refine List.forall_mem_cons.mpr ⟨zk_Wa_howMany, ?_⟩
  refine List.forall_mem_cons.mpr ⟨zk_Wa_earliest, ?_⟩
  refine List.forall_mem_cons.mpr ⟨zk_Wa_failedBy, ?_⟩
  refine List.forall_mem_cons.mpr ⟨zk_Wa_allDuties, ?_⟩
  refine List.forall_mem_cons.mpr ⟨zk_Wa_dutyTick, ?_⟩
  refine List.forall_mem_cons.mpr ⟨zk_Wa_dutyState, ?_⟩
  refine List.forall_mem_cons.mpr ⟨zk_PT_init, ?_⟩
  refine List.forall_mem_cons.mpr ⟨zk_PT_feed, ?_⟩
  refine List.forall_mem_cons.mpr ⟨zk_PT_end, ?_⟩
  refine List.forall_mem_cons.mpr ⟨zk_PT_text, ?_⟩
  refine List.forall_mem_cons.mpr ⟨zk_PT_fault, ?_⟩
  refine List.forall_mem_cons.mpr ⟨zk_PT_rule, ?_⟩
  refine List.forall_mem_cons.mpr ⟨zk_PT_promise, ?_⟩
  refine List.forall_mem_cons.mpr ⟨zk_PT_fulfils, ?_⟩
  refine List.forall_mem_cons.mpr ⟨zk_PT_fulfilled, ?_⟩
  refine List.forall_mem_cons.mpr ⟨zk_PT_matches, ?_⟩
  refine List.forall_mem_cons.mpr ⟨zk_PT_might, ?_⟩
  refine List.forall_mem_cons.mpr ⟨zk_PT_tick, ?_⟩
  refine List.forall_mem_cons.mpr ⟨zk_PT_bits, ?_⟩
  refine List.forall_mem_cons.mpr ⟨zk_PT_put, ?_⟩
  refine List.forall_mem_cons.mpr ⟨zk_PT_keeps, ?_⟩
  refine List.forall_mem_cons.mpr ⟨zk_PT_draw, ?_⟩
  refine List.forall_mem_cons.mpr ⟨zk_PT_verdict, ?_⟩
  refine List.forall_mem_cons.mpr ⟨zk_PT_decided, ?_⟩
  refine List.forall_mem_cons.mpr ⟨zk_PT_duties, ?_⟩
  refine List.forall_mem_cons.mpr ⟨zk_PT_duty, ?_⟩
  refine List.forall_mem_cons.mpr ⟨zk_PT_tries, ?_⟩
  refine List.forall_mem_cons.mpr ⟨zk_PT_first, ?_⟩
  refine List.forall_mem_cons.mpr ⟨zk_PT_keep, ?_⟩
  refine List.forall_mem_cons.mpr ⟨zk_PT_back, ?_⟩
  refine List.forall_mem_cons.mpr ⟨zk_PT_sheet, ?_⟩
  refine List.forall_mem_cons.mpr ⟨zk_PT_lay, ?_⟩
  refine List.forall_mem_cons.mpr ⟨zk_PT_run, ?_⟩
  refine List.forall_mem_cons.mpr ⟨zk_PT_torn, ?_⟩
  refine List.forall_mem_cons.mpr ⟨zk_PT_count, ?_⟩
  refine List.forall_mem_cons.mpr ⟨zk_PT_isPromise, ?_⟩
  refine List.forall_mem_cons.mpr ⟨zk_PT_isTick, ?_⟩
  refine List.forall_mem_cons.mpr ⟨zk_PT_isTry, ?_⟩
  refine List.forall_mem_cons.mpr ⟨zk_PT_isCondition, ?_⟩
  refine List.forall_mem_cons.mpr ⟨zk_PT_isBits, ?_⟩
  refine List.forall_mem_cons.mpr ⟨zk_PT_isSide, ?_⟩
  refine List.forall_mem_cons.mpr ⟨zk_PT_isVerdict, ?_⟩
  refine List.forall_mem_cons.mpr ⟨zk_PT_isImage, ?_⟩
  refine List.forall_mem_cons.mpr ⟨zk_PT_isSheet, ?_⟩
  refine List.forall_mem_cons.mpr ⟨zk_PT_isLane, ?_⟩
  refine List.forall_mem_cons.mpr ⟨zk_PT_nextSeed, ?_⟩
  refine List.forall_mem_cons.mpr ⟨zk_PT_got, ?_⟩
  refine List.forall_mem_cons.mpr ⟨zk_PT_howManyImages, ?_⟩
  refine List.forall_mem_cons.mpr ⟨zk_PT_watchOf, ?_⟩
  refine List.forall_mem_cons.mpr ⟨zk_PT_watchAnew, ?_⟩
  refine List.forall_mem_cons.mpr ⟨zk_PT_isFulfilled, ?_⟩
  refine List.forall_mem_cons.mpr ⟨zk_PT_howManyFulfil, ?_⟩
  refine List.forall_mem_cons.mpr ⟨zk_Mo_init, ?_⟩
  refine List.forall_mem_cons.mpr ⟨zk_Mo_in, ?_⟩
  refine List.forall_mem_cons.mpr ⟨zk_Mo_flag, ?_⟩
  refine List.forall_mem_cons.mpr ⟨zk_Mo_least, ?_⟩
  refine List.forall_mem_cons.mpr ⟨zk_Mo_greatest, ?_⟩
  refine List.forall_mem_cons.mpr ⟨zk_Mo_feed, ?_⟩
  refine List.forall_mem_cons.mpr ⟨zk_Mo_end, ?_⟩
  refine List.forall_mem_cons.mpr ⟨zk_Mo_requires, ?_⟩
  refine List.forall_mem_cons.mpr ⟨zk_Mo_byteAt, ?_⟩
  refine List.forall_mem_cons.mpr ⟨zk_Mo_isSignByte, ?_⟩
  refine List.forall_mem_cons.mpr ⟨zk_Mo_reads, ?_⟩
  refine List.forall_mem_cons.mpr ⟨zk_Mo_isSign, ?_⟩
  refine List.forall_mem_cons.mpr ⟨zk_Mo_readNumber, ?_⟩
  refine List.forall_mem_cons.mpr ⟨zk_Mo_nests, ?_⟩
  refine List.forall_mem_cons.mpr ⟨zk_Mo_wires, ?_⟩
  refine List.forall_mem_cons.mpr ⟨zk_Mo_opensDepth, ?_⟩
  refine List.forall_mem_cons.mpr ⟨zk_Mo_joinsAnds, ?_⟩
  refine List.forall_mem_cons.mpr ⟨zk_Mo_joinsOrs, ?_⟩
  refine List.forall_mem_cons.mpr ⟨zk_Mo_readOperand, ?_⟩
  refine List.forall_mem_cons.mpr ⟨zk_Mo_readCondition, ?_⟩
  refine List.forall_mem_cons.mpr ⟨zk_Mo_placesNow, ?_⟩
  refine List.forall_mem_cons.mpr ⟨zk_Mo_takes, ?_⟩
  refine List.forall_mem_cons.mpr ⟨zk_Mo_sum, ?_⟩
  refine List.forall_mem_cons.mpr ⟨zk_Mo_follows, ?_⟩
  refine List.forall_mem_cons.mpr ⟨zk_Mo_chains, ?_⟩
  refine List.forall_mem_cons.mpr ⟨zk_Mo_chooses, ?_⟩
  refine List.forall_mem_cons.mpr ⟨zk_Mo_onePlace, ?_⟩
  refine List.forall_mem_cons.mpr ⟨zk_Mo_repeats, ?_⟩
  refine List.forall_mem_cons.mpr ⟨zk_Mo_opensSequence, ?_⟩
  refine List.forall_mem_cons.mpr ⟨zk_Mo_readBegin, ?_⟩
  refine List.forall_mem_cons.mpr ⟨zk_Mo_readTimes, ?_⟩
  refine List.forall_mem_cons.mpr ⟨zk_Mo_readEnds, ?_⟩
  refine List.forall_mem_cons.mpr ⟨zk_Mo_readSequence, ?_⟩
  refine List.forall_mem_cons.mpr ⟨zk_Mo_isFulfillable, ?_⟩
  refine List.forall_mem_cons.mpr ⟨zk_Mo_ends, ?_⟩
  refine List.forall_mem_cons.mpr ⟨zk_Mo_isBegin, ?_⟩
  refine List.forall_mem_cons.mpr ⟨zk_Mo_readPromise, ?_⟩
  refine List.forall_mem_cons.mpr ⟨zk_Mo_text, ?_⟩
  refine List.forall_mem_cons.mpr ⟨zk_Mo_fault, ?_⟩
  refine List.forall_mem_cons.mpr ⟨zk_Mo_isPromise, ?_⟩
  refine List.forall_mem_cons.mpr ⟨zk_Mo_isSide, ?_⟩
  refine List.forall_mem_cons.mpr ⟨zk_Mo_areBits, ?_⟩
  refine List.forall_mem_cons.mpr ⟨zk_Mo_fulfilsOne, ?_⟩
  refine List.forall_mem_cons.mpr ⟨zk_Mo_fulfilsOff, ?_⟩
  refine List.forall_mem_cons.mpr ⟨zk_Mo_findsFulfilling, ?_⟩
  refine List.forall_mem_cons.mpr ⟨zk_Mo_nextOf, ?_⟩
  refine List.forall_mem_cons.mpr ⟨zk_Mo_firstOf, ?_⟩
  refine List.forall_mem_cons.mpr ⟨zk_Mo_isEnd, ?_⟩
  refine List.forall_mem_cons.mpr ⟨zk_Mo_canEnd, ?_⟩
  refine List.forall_mem_cons.mpr ⟨zk_Mo_isConditionAsked, ?_⟩
  refine List.forall_mem_cons.mpr ⟨zk_Mo_fulfils, ?_⟩
  refine List.forall_mem_cons.mpr ⟨zk_Mo_fulfilled, ?_⟩
  refine List.forall_mem_cons.mpr ⟨zk_Mo_matches, ?_⟩
  refine List.forall_mem_cons.mpr ⟨zk_Mo_might, ?_⟩
  refine List.forall_mem_cons.mpr ⟨zk_Mo_promise, ?_⟩
  refine List.forall_mem_cons.mpr ⟨zk_Mo_goesOn, ?_⟩
  refine List.forall_mem_cons.mpr ⟨zk_Mo_dies, ?_⟩
  refine List.forall_mem_cons.mpr ⟨zk_Mo_begins, ?_⟩
  refine List.forall_mem_cons.mpr ⟨zk_Mo_isAny, ?_⟩
  refine List.forall_mem_cons.mpr ⟨zk_Mo_goesThrough, ?_⟩
  refine List.forall_mem_cons.mpr ⟨zk_Mo_verdictBy, ?_⟩
  refine List.forall_mem_cons.mpr ⟨zk_Mo_isTick, ?_⟩
  refine List.forall_mem_cons.mpr ⟨zk_Mo_isTry, ?_⟩
  refine List.forall_mem_cons.mpr ⟨zk_Mo_dutiesFrom, ?_⟩
  refine List.forall_mem_cons.mpr ⟨zk_Mo_verdict, ?_⟩
  refine List.forall_mem_cons.mpr ⟨zk_Mo_decided, ?_⟩
  refine List.forall_mem_cons.mpr ⟨zk_Mo_duties, ?_⟩
  refine List.forall_mem_cons.mpr ⟨zk_Mo_duty, ?_⟩
  refine List.forall_mem_cons.mpr ⟨zk_Mo_triesOf, ?_⟩
  refine List.forall_mem_cons.mpr ⟨zk_Mo_tries, ?_⟩
  refine List.forall_mem_cons.mpr ⟨zk_Mo_first, ?_⟩
  refine List.forall_mem_cons.mpr ⟨zk_Mo_allDuties, ?_⟩
  refine List.forall_mem_cons.mpr ⟨zk_Mo_allTries, ?_⟩
  refine List.forall_mem_cons.mpr ⟨zk_Mo_rule, ?_⟩
  refine List.forall_mem_cons.mpr ⟨zk_Mo_failedBy, ?_⟩
  refine List.forall_mem_cons.mpr ⟨zk_Mo_tick, ?_⟩
  refine List.forall_mem_cons.mpr ⟨zk_Mo_bits, ?_⟩
  refine List.forall_mem_cons.mpr ⟨zk_Mo_put, ?_⟩
  refine List.forall_mem_cons.mpr ⟨zk_Mo_keeps, ?_⟩
  refine List.forall_mem_cons.mpr ⟨zk_Mo_gets, ?_⟩
  refine List.forall_mem_cons.mpr ⟨zk_Mo_draw, ?_⟩
  refine List.forall_mem_cons.mpr ⟨zk_Mo_keep, ?_⟩
  refine List.forall_mem_cons.mpr ⟨zk_Mo_back, ?_⟩
  refine List.forall_mem_cons.mpr ⟨zk_Mo_isSheet, ?_⟩
  refine List.forall_mem_cons.mpr ⟨zk_Mo_sheet, ?_⟩
  refine List.forall_mem_cons.mpr ⟨zk_Mo_lay, ?_⟩
  refine List.forall_mem_cons.mpr ⟨zk_Mo_run, ?_⟩
  refine List.forall_mem_cons.mpr ⟨zk_Mo_torn, ?_⟩
  refine List.forall_mem_cons.mpr ⟨zk_Mo_count, ?_⟩
  refine List.forall_mem_cons.mpr ⟨zk_JL_bitCount, ?_⟩
  exact fun _ h => absurd h List.not_mem_nil
set_option maxRecDepth 20000 in
theorem zLl_T : zLl.map (fun q => q.1) ++ [zm_La_law] = zTl := rfl
set_option maxRecDepth 20000 in
theorem zLl_N : zLl.map (fun q => q.2.1) = zNl := rfl
set_option maxRecDepth 20000 in
theorem zLl_i : zLl.all (fun q => !q.2.2.1 || decide (q.2.1.1.name = "<init>")) = true := by decide +kernel
set_option maxRecDepth 20000 in
theorem zLl_a : zLl.all (fun q => !(decide (q.2.1.1.name = "<init>")) || decide (zat q.1.2.2.1 0 = some (.aload_n 0, 1, []))) = true := by decide +kernel
theorem zLl_len : zLl.length = 210 := by decide +kernel
theorem zLl_at {y : Nat} (h : y < 210) : ∃ q ∈ zLl, zT y = q.1 ∧ zNm y = q.2.1 := by
  have hl : y < zLl.length := by rw [zLl_len]; exact h
  refine ⟨zLl[y], List.getElem_mem hl, ?_, ?_⟩
  · unfold zT
    rw [← zLl_T, List.getD_eq_getElem?_getD, List.getElem?_append_left (by rw [List.length_map]; exact hl), List.getElem?_map, List.getElem?_eq_getElem hl]
    rfl
  · unfold zNm
    rw [← zLl_N, List.getD_eq_getElem?_getD, List.getElem?_map, List.getElem?_eq_getElem hl]
    rfl
theorem zat_mem : ∀ {C : List zC} {pc : Nat} {q : Instr × Nat × List Nat}, zat C pc = some q → (pc, q) ∈ C
  | [], _, _, h => by cases h
  | e :: C, pc, q, h => by
    unfold zat at h
    split at h
    · rename_i hb
      have he : e.1 = pc := Nat.eq_of_beq_eq_true hb
      cases h
      rw [← he]
      exact List.mem_cons_self
    · exact List.mem_cons_of_mem _ (zat_mem h)
theorem zzip_mem {α β : Type} : ∀ {a : List α} {b : List β} {x : α}, a.length = b.length → x ∈ a → ∃ y, (x, y) ∈ a.zip b
  | [], _, _, _, h => absurd h List.not_mem_nil
  | _ :: _, [], _, h, _ => by simp at h
  | a :: as, b :: bs, x, h, hx => by
    rcases List.mem_cons.mp hx with rfl | hx
    · exact ⟨b, by simp⟩
    · obtain ⟨y, hy⟩ := zzip_mem (a := as) (b := bs) (by simpa using h) hx
      exact ⟨y, by simp [hy]⟩
theorem zck_of {C : List zC} {zw : List (List Nat)} {f : zC → List Nat → Bool} (h : C.length = zw.length ∧ (C.zip zw).all (fun e => f e.1 e.2) = true) {pc : Nat} {q : Instr × Nat × List Nat} (hq : zat C pc = some q) : ∃ w, f (pc, q) w = true := by
  obtain ⟨w, hw⟩ := zzip_mem h.1 (zat_mem hq)
  exact ⟨w, List.all_eq_true.mp h.2 _ hw⟩
section ZRUN
variable {p : Program} {l : Launch} {e : Env} {R : Room} {s : State} {m : MethodId} {args : Array Value} {below : List Frame} {meth : Method} {c : Code} {Q : State → Prop}
variable {cc : ByteArray} {nL : Nat} {D : va_G} {t0 b0 base : Nat} {own : String} {M' : zM} {d : Nat} {E : zE0} {rv : Option Value}
theorem zsim_run (cx : zCx D t0 base p s m c own cc nL) (hM : zMet l d E) (hEok : zEok E) (hEs : zEs E) (hfr : d + 1 ≤ R.frames) (hlo : 64 * (d + 1) ≤ R.locals) {CF SF : Nat} (hCF : CF ≤ R.cells) (hSF : SF ≤ R.slots) {ini : Bool} (hini : ini = true → meth.name = "<init>") {y : Nat} (hck : ∀ pc q, zat (zT y).2.2.1 pc = some q → ∃ w, zck own ini cc (pc, q) w = true)
    (hR : zEnd p l e R s m args below meth c Q D t0 b0 base CF SF M' cc (zT y).2.1 rv) : ∀ (n pc : Nat) (lv : zLs) (st : List Value) (M : zM) (ls : Array Slot) (H : Heap) (locs : List Loc) (cells slots : Nat), zrun zT E y n pc lv st M = some (rv, M') → zLoc (zad t0 b0 base) ls nL lv → zRep D t0 b0 base s H M → va_S (fun q => base ≤ q) s.heap H locs → zRm CF SF cells slots M M' → W p l e R s m args below meth c H locs cells slots Q (F0 m pc ls (st.map (zv (zad t0 b0 base)))) := by
  intro n
  induction n with
  | zero => intro pc lv st M ls H locs cells slots h; cases h
  | succ n ih =>
    intro pc lv st M ls H locs cells slots h hloc hrep hS hrm
    unfold zrun at h
    split at h
    · cases h
    · rename_i q hq
      obtain ⟨w, hw⟩ := hck pc q hq
      refine zsim_step (K := fun pc' l' st' M1 => zrun zT E y n pc' (zfg (zT y).2.2.2 pc' l') st' M1) cx hM hEok hEs hfr hlo hCF hSF hini (i := q.1) (len := q.2.1) (r := q.2.2) hw (fun pc l st M1 h => zrun_le hEok _ _ _ _ _ _ _ h) ?_ hR hloc hrep hS hrm h
      intro pc' l' st' M1 h' ls' H' locs' cells' slots' hloc' hrep' hS' hrm'
      exact ih _ _ _ _ _ _ _ _ _ h' hloc'.fg hrep' hS' hrm'
end ZRUN
theorem zEs_all : ∀ d, zEs (zE zT d)
  | 0 => fun _ _ _ _ _ _ h => by cases h
  | d + 1 => by
    intro y as M res hy hn h
    obtain ⟨q, hq, hT, hN⟩ := zLl_at hy
    have ha := List.all_eq_true.mp zLl_a q hq
    rw [← hT, ← hN] at ha
    have ha : zat (zT y).2.2.1 0 = some (.aload_n 0, 1, []) := by
      rcases Bool.or_eq_true_iff.mp ha with z | z
      · exfalso
        rw [decide_eq_true hn] at z
        cases z
      · exact of_decide_eq_true z
    obtain ⟨n, hn⟩ := zF_ex (zok_inv h).2
    cases n with
    | zero => cases hn
    | succ n =>
      unfold zrun at hn
      rw [ha] at hn
      obtain ⟨x, hx, -⟩ := zld_r hn
      have hx2 := zpad_get _ _ _ _ hx
      cases as with
      | nil => simp [zent] at hx2
      | cons v vs =>
        have hv : v = .ref x := by
          unfold zent at hx2
          split at hx2
          · simpa using hx2
          · simpa using hx2
        exact ⟨x, vs, by rw [hv]⟩
theorem zrtc_1 {ret : Option FieldType} (h : zrtc 1 ret = true) : ret = some .int := by
  cases ret with
  | none => cases h
  | some t => cases t <;> first | rfl | cases h
theorem zrtc_2 {ret : Option FieldType} (h : zrtc 2 ret = true) : ret = some .boolean := by
  cases ret with
  | none => cases h
  | some t => cases t <;> first | rfl | cases h
theorem zrtc_3 {ret : Option FieldType} (h : zrtc 3 ret = true) : ret = some .long := by
  cases ret with
  | none => cases h
  | some t => cases t <;> first | rfl | cases h
theorem zrtc_4 {ret : Option FieldType} (h : zrtc 4 ret = true) : ∃ C, ret = some (.object C) := by
  cases ret with
  | none => cases h
  | some t => cases t <;> first | exact ⟨_, rfl⟩ | cases h
theorem zrtc_0 {ret : Option FieldType} (h : zrtc 0 ret = true) : ret = none := by
  cases ret with
  | none => rfl
  | some t => cases t <;> cases h
set_option maxHeartbeats 4000000 in
theorem zmet_all (l : Launch) : ∀ d, zMet l d (zE zT d)
  | 0 => fun _ _ _ _ _ _ h => by cases h
  | d + 1 => by
    intro y as M rv M' hy hE D t0 b0 base
    obtain ⟨w, hw⟩ := zmk_at hy
    obtain ⟨hplain, -, -, hmx, -, hrt⟩ := zmk_inv hw
    obtain ⟨q, hq, hT, hN⟩ := zLl_at hy
    have hok := zLl_ok q hq
    have hii := List.all_eq_true.mp zLl_i q hq
    obtain ⟨hble, hF⟩ := zok_inv hE
    obtain ⟨n, hn⟩ := zF_ex hF
    have hle := zE_ok zT (d + 1) _ _ _ _ _ hE
    refine Met.ofW (cc := (zNm y).2.1) (maxL := (zNm y).2.2.1) (ret := (zNm y).2.2.2) hplain rfl ?_
    intro p e s m args below meth c s₁ B hml hv
    obtain ⟨rfl, hrep, hK, hTb, hZ⟩ := hv
    have hlocks := B.notSynchronized
    have hnm : meth.name = (zNm y).1.name := (name_of_methodNamed B.named B.method).1
    have cx : zCx D t0 base p s m c (zNm y).1.cls (zNm y).2.1 (zNm y).2.2.1 := ⟨B.exec, B.bytes, hml, findClass_of_methodNamed B.named, hTb, hK, hZ, hrep.base⟩
    have hloc := zLoc.entry (ad := zad t0 b0 base) (as := as) (n := (zNm y).2.2.1) (by rw [← hmx]; exact Nat.ble_eq.mp hble)
    rw [lg_entry_eq]
    rw [hmx] at hn
    refine zsim_run (R := zRoom (d + 1) M M') (ini := q.2.2.1) (own := (zNm y).1.cls) (cc := (zNm y).2.1) cx (zmet_all l d) (zE_ok zT d) (zEs_all d) (Nat.le_refl (d + 1)) (Nat.le_refl (64 * (d + 1))) (CF := zN M' - zN M) (SF := zsz M' - zsz M) (Nat.le_refl _) (Nat.le_refl _) ?_ ?_ ?_ n 0 _ [] M _ s.heap [] 0 0 hn hloc hrep va_S.rf ⟨hle, by omega, by omega⟩
    · intro hi
      rw [hi] at hii
      rw [hnm, hN]
      exact of_decide_eq_true (by simpa using hii)
    · intro pc q2 hq2
      rw [hT] at hq2
      rw [hN]
      exact zck_of (f := fun e w => zck q.2.1.1.cls q.2.2.1 q.2.1.2.1 e w) hok hq2
    · intro i pc' ls' H' locs' cells' slots' hdg hri hrep' hS' hc hs
      refine W.widen hc hs ?_
      have hq : ∀ t : State, t.heap = H' → s.WarmedH t.vm → zQc D t0 b0 base rv M' ((as.map (zv (zad t0 b0 base))).toArray) s (.returned (rv.map (zv (zad t0 b0 base)))) t := by
        intro t ht hW
        refine ⟨rfl, by rw [ht]; exact hrep'.moved hW.alike, by rw [ht]; exact hS'.1, fun q hq => ?_⟩
        rw [ht]
        exact hS'.2.1 q (Nat.lt_of_lt_of_le hq hrep.base) (Nat.not_le.mpr hq)
      have hf : ∀ q ∈ locs', base ≤ q.base := hS'.2.2
      rcases hri with ⟨rfl, x, rfl, hx⟩ | ⟨rfl, h3, x, rfl⟩ | ⟨rfl, h4, a, rfl⟩ | ⟨rfl, h0, rfl⟩
      · rcases hx with h1 | ⟨h2, hx⟩
        · have hr : (zNm y).2.2.2 = some .int := zrtc_1 (by rw [h1] at hrt; exact hrt)
          exact W.iret (v := x) B.exec B.bytes (by rw [B.returns]; exact hr) hq hf hdg hlocks
        · have hr : (zNm y).2.2.2 = some .boolean := zrtc_2 (by rw [h2] at hrt; exact hrt)
          exact W.zret (v := x) (ty := .boolean) B.exec B.bytes (by rw [B.returns]; exact hr) (by rcases hx with rfl | rfl <;> rfl) hq hf hdg hlocks
      · have hr : (zNm y).2.2.2 = some .long := zrtc_3 (by rw [h3] at hrt; exact hrt)
        exact W.lret (v := x) B.exec B.bytes (by rw [B.returns]; exact hr) hq hf hdg hlocks
      · have hr : ∃ C, (zNm y).2.2.2 = some (.object C) := zrtc_4 (by rw [h4] at hrt; exact hrt)
        obtain ⟨C, hr⟩ := hr
        exact W.aret (v := .ref (zad t0 b0 base a)) (rt := .object C) B.exec B.bytes (by rw [B.returns]; exact hr) (Or.inl ⟨C, rfl⟩) (Or.inr ⟨_, rfl⟩) hq hf hdg hlocks
      · have hr : (zNm y).2.2.2 = none := zrtc_0 (by rw [h0] at hrt; exact hrt)
        exact W.vret B.exec B.bytes (by rw [B.returns]; exact hr) hq hf hdg hlocks
end
section
-- ===== end of PART A; then your names; then what follows =====
/-! THE CLAIM OUT OF ONE WALK OF THE LAW'S BODY. Your part is whole_start (and what it stands on); all else here is the same for every law, but numbers. -/
def R_law : String := "PromiseTriesLaw"
def lw_P (b : Addr) (xs : List Int32) (args : Array Value) (s : State) : Prop := args = #[.ref b] ∧ s.IntsAt b xs ∧ xs.length ≤ 2560 ∧ (Jvm.Cond.and given_1 narrow_1).before args s = true
def lw_Q (_ : Array Value) (s : State) (o : Outcome) (t : State) : Prop := o = .returned (some (.int 1)) ∧ Framed s o t [] 600000 7302250
def lw_Z (below : List Frame) (a : Array Value) (s : State) : State → Prop := fun t => ∃ o, t.status = .running ∧ Ended t below o ∧ lw_Q a s o t
/-- the law's own end, with 1 on the stack, nothing written that was there before, its room as the claim has it -/
theorem lw_ret {p : Program} {l : Launch} {e : Env} {s : State} {m : MethodId} {below : List Frame} {meth : Method} {c : Code} {b : Nat} (hx : p.tables.exec = Jvm.exec) (hb : c.code = code) (hr : meth.sig.returnType = ret) (hlocks : meth.locks = false) {pc : Nat} {H : Heap} {ls : Array Slot} (hdg : decode code pc = .ok (.ireturn, 1)) : W p l e room_1 s m #[Value.ref b] below meth c H [] 600000 7302250 (lw_Z below #[Value.ref b] s) (F0 m pc ls [.int 1]) := by
  intro T hT X
  obtain ⟨fs, hret, hrun, hended, hW, hframe⟩ := X.leave (v := some (.int 1)) (hlocks := hlocks) (fun h => by rw [hr] at h; cases h)
  have hmeth' : T.vm.method? m = some meth := X.method'
  refine ⟨T.setFrames fs, ?_, .returned (some (.int 1)), hrun, hended, rfl, ⟨_, rfl⟩, hW, hframe⟩
  jvm_step X.here [X.here.top, hx, hb, hdg, hmeth', hr, ret, narrow_b1]
  (try refine ⟨rfl, ?_⟩); (try refine ⟨rfl, ?_⟩)
  first | (intro acts; rw [hret _ acts rfl rfl rfl]) | rw [hret _ _ rfl rfl rfl]
  exact Steps.refl _
/-- what holds at the law's entry: the machine, the code, the tables' words (any of lw_tbl by 'hts w (by decide +kernel)'), the script of L ints xs at the cell b, what the Statement gives of the start (any of its parts by flat_of_before) -/
def lw_At (p : Program) (s : State) (m : MethodId) (meth : Method) (c : Code) (b L : Nat) (xs : Nat → Int32) : Prop :=
  p.tables.exec = Jvm.exec ∧ c.code = code ∧ meth.sig.returnType = ret ∧ c.maxLocals = 4 ∧ s.vm.findClass R_law = some m.cls ∧ (∀ w ∈ lw_tbl, w.before #[Value.ref b] s = true) ∧ va_X b L xs s s.heap ∧ b < s.heap.size ∧ meth.locks = false ∧ (Jvm.Cond.and given_1 narrow_1).before #[Value.ref b] s = true

/-- the script in the cell 1, the wires' patterns in the cell 0 -/
def zpat (j : Nat) : Int64 := ([-6148914691236517206, -3689348814741910324, -1085102592571150096, -71777214294589696, -281470681808896, -4294967296] : List Int64).getD j 0
def zM0 (L : Nat) (xs : Nat → Int32) : zM := (2, fun a => if a = 0 then (25, 6) else if a = 1 then (24, L) else (0, 0), fun a j => if a = 1 then xs j else 0, fun a j => if a = 0 then zpat j else 0, fun _ _ => none)
theorem zK0_ge {L : Nat} {xs : Nat → Int32} {a : Nat} (h : 2 ≤ a) : zK (zM0 L xs) a = (0, 0) := by
  have h0 : ¬ a = 0 := by omega
  have h1 : ¬ a = 1 := by omega
  simp [zK, zM0, h0, h1]
/-- what is left to show, without the machine -/
def zPure : Prop := ∀ (L : Nat) (xs : Nat → Int32), L ≤ 2560 → ∃ M', zV 101 210 [.ref 1] (zM0 L xs) = some (some (.int 1), M') ∧ zN M' ≤ 600000 ∧ zsz M' ≤ 7302250
theorem zTb_of {s : State} {a0 : Array Value} (hts : ∀ w ∈ lw_tbl, w.before a0 s = true) : zTb s := by
  intro w hw hg a
  rcases Bool.or_eq_true_iff.mp hg with g | g
  · exact word_at (State.WarmedH.refl s) (good_of_word g) (hts w hw)
  · unfold znest at g
    split at g
    · exact va_Nw.use rfl (va_Nw.of rfl (hts _ hw))
    · exact va_Nw.use rfl (va_Nw.of rfl (hts _ hw))
    · exact va_AO.use (va_AO.of (hts _ hw))
    · cases g
theorem zinst {ci : Nat} {r : vw_C} (h : vwCl[ci]? = some r) : ∃ n, Cond.instantiable r.1 n ∈ lw_tbl := by
  match ci, h with
  | 0, h => cases h; exact ⟨7, zword_mem (p := 1082) (by decide +kernel)⟩
  | 1, h => cases h; exact ⟨5, zword_mem (p := 1197) (by decide +kernel)⟩
  | 2, h => cases h; exact ⟨3, zword_mem (p := 1024) (by decide +kernel)⟩
  | 3, h => cases h; exact ⟨11, zword_mem (p := 1088) (by decide +kernel)⟩
  | 4, h => cases h; exact ⟨3, zword_mem (p := 2030) (by decide +kernel)⟩
  | 5, h => cases h; exact ⟨8, zword_mem (p := 1030) (by decide +kernel)⟩
  | 6, h => cases h; exact ⟨2, zword_mem (p := 1175) (by decide +kernel)⟩
  | 7, h => cases h; exact ⟨2, zword_mem (p := 1068) (by decide +kernel)⟩
  | 8, h => cases h; exact ⟨9, zword_mem (p := 1233) (by decide +kernel)⟩
  | 9, h => cases h; exact ⟨12, zword_mem (p := 1016) (by decide +kernel)⟩
  | 10, h => cases h; exact ⟨52, zword_mem (p := 4065) (by decide +kernel)⟩
  | n + 11, h => simp [vwCl] at h
theorem zknown {s : State} (hT : zTb s) : ∃ D : va_G, va_K D vwCl [] s := by
  have h : ∀ ci : Nat, ∃ q : ClassId × (Nat → Nat), ∀ r : vw_C, vwCl[ci]? = some r → u_Kn s r.1 r.2.1 r.2.2 q.1 q.2 := by
    intro ci
    cases hc : vwCl[ci]? with
    | none => exact ⟨(0, fun _ => 0), fun r h => by cases h⟩
    | some r =>
      obtain ⟨n, hn⟩ := zinst hc
      obtain ⟨c, iS, hk⟩ := u_known (C := r.1) (T := r.2.1) (N := r.2.2) (n := n) (zlays hT hc #[]) (fun _ h => h) (hT _ hn rfl #[])
      exact ⟨(c, iS), fun r2 h => by cases h; exact hk⟩
  exact ⟨(fun ci => (Classical.choose (h ci)).1, fun ci => (Classical.choose (h ci)).2), fun ci r hr => Classical.choose_spec (h ci) r hr, fun k q h => by simp at h⟩
theorem zar_none {D : va_G} {ad : Nat → Nat} {s : State} {H : Heap} {q n : Nat} {fI : Nat → Int32} {fL : Nat → Int64} {fR : Nat → Option Nat} : zcel D ad s H q 0 n fI fL fR :=
  ⟨fun ci r a => by omega, fun a => by omega, fun a => by omega, fun a => by omega, fun a => by omega, fun a => by omega, fun a => by omega, fun ci r a => by omega⟩
set_option maxHeartbeats 4000000 in
set_option maxRecDepth 100000 in
theorem zwhole (hpure : zPure) {p : Program} {e : Env} {s : State} {m : MethodId} {below : List Frame} {meth : Method} {c : Code} (l : Launch) {b L : Nat} {xs : Nat → Int32} (hL : L ≤ 2560) (C0 : lw_At p s m meth c b L xs) : W p l e room_1 s m #[Value.ref b] below meth c s.heap [] 0 0 (lw_Z below #[Value.ref b] s) (entryFrame m ([Value.ref b] : List Value).toArray 4) := by
  obtain ⟨hx, hb, hr, hml, hown, hts, hX, hbl, hlocks, hgv⟩ := id C0
  have hT := zTb_of hts
  obtain ⟨D, hK⟩ := zknown hT
  have hs := flat_of_before _ hgv
  have hA : ∀ a : Nat, a < s.heap.size → ¬ (fun q : Nat => s.heap.size ≤ q) a := fun a h => Nat.not_le.mpr h
  have harr : (Cond.arrayOf (.static "PromiseTries$TruthStack" "PATTERNS" "[J") .long).before #[Value.ref b] s = true := hs _ (by decide +kernel)
  have hlen : (Cond.eq (.length (.static "PromiseTries$TruthStack" "PATTERNS" "[J")) (.int 6)).before #[Value.ref b] s = true := hs _ (by decide +kernel)
  have hel : ∀ j : Nat, j < 6 → (Term.elem (.static "PromiseTries$TruthStack" "PATTERNS" "[J") (.int (Int32.ofNat j))).eval #[Value.ref b] s none [] s = some (.long (zpat j)) := by
    intro j hj
    match j, hj with
    | 0, _ => exact va_eqtl (hs _ (by decide +kernel))
    | 1, _ => exact va_eqtl (hs _ (by decide +kernel))
    | 2, _ => exact va_eqtl (hs _ (by decide +kernel))
    | 3, _ => exact va_eqtl (hs _ (by decide +kernel))
    | 4, _ => exact va_eqtl (hs _ (by decide +kernel))
    | 5, _ => exact va_eqtl (hs _ (by decide +kernel))
  obtain ⟨t0, ht0, cell, c1, c2, c3, c4, c5, c6, c7⟩ := va_Tof (N := 6) (f := fun j => .long (zpat j)) (by decide) harr (va_eqt hlen) hel hA
  have hZ := va_Zof (hts _ (zword_mem (p := 2177) (w := .laysStatic "PromiseTries$TruthStack" "PATTERNS" "[J") (by decide +kernel))) (hT _ (zword_mem (p := 1004) (w := .initialized "PromiseTries$TruthStack") (by decide +kernel)) rfl #[Value.ref b]) ht0 hA
  have ht0l : t0 < s.heap.size := (Array.getElem?_eq_some_iff.mp c1).1
  obtain ⟨scr, x1, x2, x3, x4, x5⟩ := hX
  have hrep : zRep D t0 b s.heap.size s s.heap (zM0 L xs) := by
    refine ⟨rfl, Nat.le_refl 2, fun a ha => ?_, fun a ha => ?_, fun a ha => ?_, ht0l, hbl, fun a => ?_, fun a => ?_⟩
    · exact zK0_ge ha
    · match a, ha with
      | 0, _ => exact Or.inr rfl
      | 1, _ => exact Or.inl rfl
    · rw [zK0_ge ha]
      exact ⟨by decide, by decide⟩
    · match a with
      | 0 =>
        show zcel D _ s s.heap t0 25 6 _ _ _
        refine ⟨fun ci r q hc => ?_, fun q => by omega, fun q => by omega, fun q => by omega, fun q => by omega, fun q => by omega, fun _ => ⟨cell, c1, c2, c3, c4, c5, c6⟩, fun ci r q => by omega⟩
        exfalso
        have hlt : ci < 11 := (List.getElem?_eq_some_iff.mp hc).1
        omega
      | 1 =>
        show zcel D _ s s.heap b 24 L _ _ _
        refine ⟨fun ci r q hc => ?_, fun q => by omega, fun q => by omega, fun q => by omega, fun q => by omega, fun _ => ⟨scr, x1, x2, x3, by rw [x4]; exact Nat.le_refl L, by rw [x4] <;> rfl, x5⟩, fun q => by omega, fun ci r q => by omega⟩
        exfalso
        have hlt : ci < 11 := (List.getElem?_eq_some_iff.mp hc).1
        omega
      | a + 2 =>
        rw [zK0_ge (by omega)]
        exact zar_none
    · match a with
      | 0 => exact Or.inr (Or.inl (show 25 < 26 by decide))
      | 1 => exact Or.inr (Or.inl (show 24 < 26 by decide))
      | a + 2 =>
        rw [zK0_ge (by omega)]
        exact Or.inl rfl
  obtain ⟨M', hE, hN, hZs⟩ := hpure L xs hL
  obtain ⟨-, hF⟩ := zok_inv (show zok (Nat.ble (zent [Value.ref 1]).length (zT 210).1) (zF zT (zE zT 100) 210 0 (zloc (zT 210).1 [.ref 1]) [] (zM0 L xs)) = some (some (.int 1), M') from hE)
  obtain ⟨n, hn⟩ := zF_ex hF
  have hle := zE_ok zT 101 _ _ _ _ _ hE
  have cx : zCx D t0 s.heap.size p s m c RL code 4 := ⟨hx, hb, hml, hown, hT, hK, hZ, Nat.le_refl _⟩
  have hloc := zLoc.entry (ad := zad t0 b s.heap.size) (as := [.ref 1]) (n := 4) (by decide)
  rw [lg_entry_eq]
  have hTy : zT 210 = zm_La_law := rfl
  refine zsim_run (R := room_1) (ini := false) (own := RL) (cc := code) cx (zmet_all l 100) (zE_ok zT 100) (zEs_all 100) (Nat.le_of_ble_eq_true rfl) (Nat.le_of_ble_eq_true rfl) (CF := 600000) (SF := 7302250) (Nat.le_of_ble_eq_true rfl) (Nat.le_of_ble_eq_true rfl) (fun h => by cases h) ?_ ?_ n 0 _ [] _ _ s.heap [] 0 0 hn hloc hrep va_S.rf ⟨hle, by omega, by omega⟩
  · intro pc q hq
    rw [hTy] at hq
    exact zck_of (f := fun e w => zck RL false cL_law e w) zk_La_law hq
  · intro i pc' ls' H' locs' cells' slots' hdg hri hrep' hS' hc hs
    rcases hri with ⟨rfl, x, hx1, -⟩ | ⟨rfl, h3, x, hx1⟩ | ⟨rfl, h4, a, hx1⟩ | ⟨rfl, h0, hx1⟩
    · refine va_forget (fun q hq => hS'.2.2 q hq) ?_
      refine W.widen hc hs ?_
      exact lw_ret hx hb hr hlocks hdg
    · cases hx1
    · cases hx1
    · cases hx1
end
section
theorem zpure_holds : zPure := by
  sorry
-- ===== YOUR PART BEGINS =====
theorem whole_start {p : Program} {e : Env} {s : State} {m : MethodId} {below : List Frame} {meth : Method} {c : Code} (l : Launch) (hflags : l.flags = flags0) {b L : Nat} {xs : Nat → Int32} (hL : L ≤ 2560) (C0 : lw_At p s m meth c b L xs) : W p l e room_1 s m #[Value.ref b] below meth c s.heap [] 0 0 (lw_Z below #[Value.ref b] s) (entryFrame m ([Value.ref b] : List Value).toArray 4) := zwhole zpure_holds l hL C0
-- ===== YOUR PART ENDS =====
set_option maxHeartbeats 4000000 in
theorem lw_walk (l : Launch) (hflags : l.flags = flags0) (b : Addr) (xs : List Int32) : MetFree l x (headSpec (Jvm.Cond.code x code maxLocals ret :: tables_1) room_1) (lw_P b xs) (fun _ _ _ _ _ => True) lw_Q := by
  refine MetFree.of_bodyS (code := code) (maxLocals := maxLocals) (ret := ret) (by decide) ?_ ?_
  · intro args s m h hn
    obtain ⟨meth, c, h1, h2, h3, h4, h5, h6, -, -⟩ := Cond.code_spec hn (atoms_spec (ws := Jvm.Cond.code x code maxLocals ret :: tables_1) h _ List.mem_cons_self)
    exact ⟨meth, c, h1, h2, h3, h4, h5, h6⟩
  · intro p e s m args below meth c s₁ B hml0 hP _
    obtain ⟨rfl, hx, hbd, hgv⟩ := hP
    obtain ⟨scr, harrAt, hlist, hof, hsmall⟩ := hx
    obtain ⟨hcb, hkn, -, -⟩ := State.arrayAt?_spec harrAt
    have hown : s.vm.findClass R_law = some m.cls := findClass_of_methodNamed B.named
    have hts0 : ∀ c ∈ (Jvm.Cond.code x code maxLocals ret :: tables_1), c.before #[Value.ref b] s = true := atoms_spec (ws := Jvm.Cond.code x code maxLocals ret :: tables_1) B.pre
    have hts : ∀ w ∈ lw_tbl, w.before #[Value.ref b] s = true := k2_hts_sels lw_privs (fun w hw => hts0 w (List.mem_cons_of_mem _ hw)) lw_privs_ok
    have hml : c.maxLocals = 4 := B.maxLocals_eq (hts0 _ List.mem_cons_self)
    have X₀ : Stand p l e room_1 s m #[Value.ref b] below meth c s₁ [] 0 0 := Stand.of_body B
    have hh0 : s₁.heap = s.heap := by rw [B.state]; rfl
    have hsz : scr.slots.size = xs.length := by rw [← Array.length_toList, hlist, List.length_map]
    have hval : ∀ j : Nat, j < xs.length → scr.slots[j]? = some (.int (xs.getD j 0)) := fun j hj => by
      rw [← Array.getElem?_toList, hlist]
      simp [hj]
    have hbl : b < s.heap.size := (Array.getElem?_eq_some_iff.mp hcb).1
    have hX : va_X b xs.length (fun j => xs.getD j 0) s s.heap := ⟨scr, hcb, hof, hkn, hsz, hval⟩
    have K : W p l e room_1 s m #[Value.ref b] below meth c s₁.heap [] 0 0 (lw_Z below #[Value.ref b] s) (entryFrame m ([Value.ref b] : List Value).toArray 4) := by
      rw [hh0]
      exact whole_start l hflags hbd ⟨B.exec, B.bytes, B.returns, hml, hown, hts, hX, hbl, B.notSynchronized, hgv⟩
    obtain ⟨t, a1, o, b1, b2, b3⟩ := K s₁ rfl X₀
    exact ⟨t, o, a1, b1, b2, b3⟩
theorem lw_pre_spec {args : Array Value} {s : State} (h : (Jvm.Cond.and given_1 narrow_1).before args s = true) (hr : rest_1_c.before args s = true) : ∃ (b : Addr) (xs : List Int32), lw_P b xs args s := by
  have hs := flat_of_before _ h
  have hq := flat_of_before _ hr
  have hc : (Cond.count 1).before args s = true := hs _ (by decide +kernel)
  have harr : (Cond.arrayOf (.arg 0) .int).before args s = true := hs _ (by decide +kernel)
  have hle : (Cond.le (.length (.arg 0)) (.int 2560)).before args s = true := hs _ (by decide +kernel)
  have hlen : (Cond.isInt (.length (.arg 0))).before args s = true := hq _ (by decide +kernel)
  have hall : (Cond.all (.arg 0) (.isInt (.elem (.arg 0) (.index 0)))).before args s = true := hq _ (by decide +kernel)
  obtain ⟨b, xs, hb, hx⟩ := State.ints_of_pre rfl harr hlen hall
  have hsm : xs.length < 2 ^ 31 := hx.choose_spec.2.2.2
  have hev : (Term.length (.arg 0)).eval args s none [] s = some (.int xs.length.toInt32) := hx.length_eval hb
  have hv := Cond.le_ints hev (show (Term.int 2560).eval args s none [] s = some (.int 2560) from rfl)
  have hd : xs.length.toInt32 ≤ 2560 := by
    simpa [Cond.before, Cond.holds, hv] using hle
  have hN : xs.length ≤ 2560 := (Int32.ofNat_le_ofNat hsm (by decide)).mp (show Int32.ofNat xs.length ≤ Int32.ofNat 2560 from hd)
  exact ⟨b, xs, Cond.one_arg hc (show args[0]? = some (.ref b) from hb), hx, hN, h⟩
theorem lw_comes (l : Launch) (hflags : l.flags = flags0) : Comes l x (Jvm.Cond.code x code maxLocals ret :: tables_1) room_1 (fun tb e args s => Calls_1 tb e args s ∧ rest_1 tb e args s ∧ Pre_1 tb e args s)
    (fun _ _ args s o t => lw_Q args s o t) := by
  intro p e ha hc hk s m args below hf hfit hheap happ hpre
  obtain ⟨b, xs, hP⟩ := lw_pre_spec hpre.2.2 hpre.2.1
  obtain ⟨k, o, h1, h2, h3, hQ⟩ := lw_walk l hflags b xs p e ha hc hk s m args below hf ((Spec.applies_iff_loose hf).mp happ).1 hP trivial
  exact ⟨k, o, h1, h2, h3, hQ⟩
theorem lw_frame {s t : State} {o : Outcome} {args : Array Value} (h : Framed s o t [] 600000 7302250) :
    Framed s o t (fieldLocs frame_1_writes args s ++ arrayLocs frame_1_arrays args s ++ staticLocs frame_1_statics s) 600000 7302250 := h
theorem lw_limb (L : Cond) (hL : ∀ (args : Array Value) (s t : State), L.after args s (.returned (some (.int 1))) t = true) :
    ArmFor flags0 classFile x code maxLocals ret World_1 tables_1 room_1 Calls_1 rest_1 Pre_1
      (fun tb e a s o t => postC L tb e a s o t ∧ Framed s o t (fieldLocs frame_1_writes a s ++ arrayLocs frame_1_arrays a s ++ staticLocs frame_1_statics s) 600000 7302250) := by
  intro l hflags _ _ p e ha hc hk s m args below hf hfit hheap happ hpre
  obtain ⟨k, o, h1, h2, h3, rfl, hF⟩ := lw_comes l hflags p e ha hc hk s m args below hf hfit hheap happ hpre
  exact ⟨k, _, h1, h2, h3, hL args s _, lw_frame hF⟩
theorem i_vc : Claimed_1_1 ∧ Claimed_1_2 := ⟨lw_limb limb_1_1 (fun args s t => by simp [limb_1_1, Cond.after, Cond.holds, Cond.value]), lw_limb limb_1_2 (fun args s t => Cond.after_iff.mpr (by
  first | (rw [show limb_1_2 = Cond.eq .result (.int 1) from rfl, Cond.eq_ints (x := 1) (y := 1) rfl rfl]; simp; done) | (simp [limb_1_2, Cond.value, Term.eval]; done)))⟩
end
