section
-- ===== PART A: goes FIRST, ahead of the names: the tables' words, and 'selects' of the private methods out of them =====
/-- a private method of a class that the tables say can be made, by its rows of tables_1 -/
def lw_okq (q : MethodName × Nat) : Prop := (q.1.cls ≠ "java/lang/invoke/MethodHandle" ∧ q.1.cls ≠ "java/lang/invoke/VarHandle") ∧ Cond.instantiable q.1.cls q.2 ∈ tables_1 ∧ Cond.privateMethod q.1 ∈ tables_1 ∧ Cond.instanceMethod q.1 ∈ tables_1
theorem lw_p0 : lw_okq (⟨"WeighingPlates", "settle", "(I)Z"⟩, 12) := ⟨⟨by decide +kernel, by decide +kernel⟩, List.mem_of_getElem? (i := 23) (by decide +kernel), List.mem_of_getElem? (i := 369) (by decide +kernel), List.mem_of_getElem? (i := 370) (by decide +kernel)⟩
theorem lw_p1 : lw_okq (⟨"WeighingPlates$Reader", "next", "()V"⟩, 12) := ⟨⟨by decide +kernel, by decide +kernel⟩, List.mem_of_getElem? (i := 47) (by decide +kernel), List.mem_of_getElem? (i := 384) (by decide +kernel), List.mem_of_getElem? (i := 385) (by decide +kernel)⟩
theorem lw_p2 : lw_okq (⟨"WeighingPlates$Reader", "runOf", "(CC)I"⟩, 12) := ⟨⟨by decide +kernel, by decide +kernel⟩, List.mem_of_getElem? (i := 47) (by decide +kernel), List.mem_of_getElem? (i := 388) (by decide +kernel), List.mem_of_getElem? (i := 389) (by decide +kernel)⟩
theorem lw_p3 : lw_okq (⟨"WeighingPlates$Reader", "wholeOf", "(I)I"⟩, 12) := ⟨⟨by decide +kernel, by decide +kernel⟩, List.mem_of_getElem? (i := 47) (by decide +kernel), List.mem_of_getElem? (i := 392) (by decide +kernel), List.mem_of_getElem? (i := 393) (by decide +kernel)⟩
theorem lw_p4 : lw_okq (⟨"WeighingPlates$Reader", "takeLine", "()Z"⟩, 12) := ⟨⟨by decide +kernel, by decide +kernel⟩, List.mem_of_getElem? (i := 47) (by decide +kernel), List.mem_of_getElem? (i := 396) (by decide +kernel), List.mem_of_getElem? (i := 397) (by decide +kernel)⟩
theorem lw_p5 : lw_okq (⟨"WeighingPlates$Reader", "isWord", "(Ljava/lang/String;)Z"⟩, 12) := ⟨⟨by decide +kernel, by decide +kernel⟩, List.mem_of_getElem? (i := 47) (by decide +kernel), List.mem_of_getElem? (i := 401) (by decide +kernel), List.mem_of_getElem? (i := 402) (by decide +kernel)⟩
theorem lw_p6 : lw_okq (⟨"WeighingPlates$Reader", "fail", "(I)Z"⟩, 12) := ⟨⟨by decide +kernel, by decide +kernel⟩, List.mem_of_getElem? (i := 47) (by decide +kernel), List.mem_of_getElem? (i := 453) (by decide +kernel), List.mem_of_getElem? (i := 454) (by decide +kernel)⟩
theorem lw_p7 : lw_okq (⟨"WeighingPlates$Reader", "takeBench", "()Z"⟩, 12) := ⟨⟨by decide +kernel, by decide +kernel⟩, List.mem_of_getElem? (i := 47) (by decide +kernel), List.mem_of_getElem? (i := 457) (by decide +kernel), List.mem_of_getElem? (i := 458) (by decide +kernel)⟩
theorem lw_p8 : lw_okq (⟨"WeighingPlates$Reader", "takeWhole", "(II)Z"⟩, 12) := ⟨⟨by decide +kernel, by decide +kernel⟩, List.mem_of_getElem? (i := 47) (by decide +kernel), List.mem_of_getElem? (i := 468) (by decide +kernel), List.mem_of_getElem? (i := 469) (by decide +kernel)⟩
theorem lw_p9 : lw_okq (⟨"WeighingPlates$Reader", "takeWord", "(Ljava/lang/String;)Z"⟩, 12) := ⟨⟨by decide +kernel, by decide +kernel⟩, List.mem_of_getElem? (i := 47) (by decide +kernel), List.mem_of_getElem? (i := 473) (by decide +kernel), List.mem_of_getElem? (i := 474) (by decide +kernel)⟩
theorem lw_p10 : lw_okq (⟨"WeighingPlates$Reader", "takeLight", "()Z"⟩, 12) := ⟨⟨by decide +kernel, by decide +kernel⟩, List.mem_of_getElem? (i := 47) (by decide +kernel), List.mem_of_getElem? (i := 499) (by decide +kernel), List.mem_of_getElem? (i := 500) (by decide +kernel)⟩
theorem lw_p11 : lw_okq (⟨"WeighingPlates$Reader", "takeNew", "(I)Z"⟩, 12) := ⟨⟨by decide +kernel, by decide +kernel⟩, List.mem_of_getElem? (i := 47) (by decide +kernel), List.mem_of_getElem? (i := 503) (by decide +kernel), List.mem_of_getElem? (i := 504) (by decide +kernel)⟩
theorem lw_p12 : lw_okq (⟨"WeighingPlates$Reader", "takeStuck", "()Z"⟩, 12) := ⟨⟨by decide +kernel, by decide +kernel⟩, List.mem_of_getElem? (i := 47) (by decide +kernel), List.mem_of_getElem? (i := 511) (by decide +kernel), List.mem_of_getElem? (i := 512) (by decide +kernel)⟩
theorem lw_p13 : lw_okq (⟨"WeighingPlates$Reader", "takeNoise", "()Z"⟩, 12) := ⟨⟨by decide +kernel, by decide +kernel⟩, List.mem_of_getElem? (i := 47) (by decide +kernel), List.mem_of_getElem? (i := 522) (by decide +kernel), List.mem_of_getElem? (i := 523) (by decide +kernel)⟩
theorem lw_p14 : lw_okq (⟨"WeighingPlates$Reader", "takeLost", "()Z"⟩, 12) := ⟨⟨by decide +kernel, by decide +kernel⟩, List.mem_of_getElem? (i := 47) (by decide +kernel), List.mem_of_getElem? (i := 528) (by decide +kernel), List.mem_of_getElem? (i := 529) (by decide +kernel)⟩
theorem lw_p15 : lw_okq (⟨"WeighingPlates$Reader", "takeMask", "()Z"⟩, 12) := ⟨⟨by decide +kernel, by decide +kernel⟩, List.mem_of_getElem? (i := 47) (by decide +kernel), List.mem_of_getElem? (i := 536) (by decide +kernel), List.mem_of_getElem? (i := 537) (by decide +kernel)⟩
def lw_privs_1 : List (MethodName × Nat) := [(⟨"WeighingPlates", "settle", "(I)Z"⟩, 12), (⟨"WeighingPlates$Reader", "next", "()V"⟩, 12), (⟨"WeighingPlates$Reader", "runOf", "(CC)I"⟩, 12), (⟨"WeighingPlates$Reader", "wholeOf", "(I)I"⟩, 12), (⟨"WeighingPlates$Reader", "takeLine", "()Z"⟩, 12), (⟨"WeighingPlates$Reader", "isWord", "(Ljava/lang/String;)Z"⟩, 12), (⟨"WeighingPlates$Reader", "fail", "(I)Z"⟩, 12), (⟨"WeighingPlates$Reader", "takeBench", "()Z"⟩, 12), (⟨"WeighingPlates$Reader", "takeWhole", "(II)Z"⟩, 12), (⟨"WeighingPlates$Reader", "takeWord", "(Ljava/lang/String;)Z"⟩, 12), (⟨"WeighingPlates$Reader", "takeLight", "()Z"⟩, 12), (⟨"WeighingPlates$Reader", "takeNew", "(I)Z"⟩, 12), (⟨"WeighingPlates$Reader", "takeStuck", "()Z"⟩, 12), (⟨"WeighingPlates$Reader", "takeNoise", "()Z"⟩, 12), (⟨"WeighingPlates$Reader", "takeLost", "()Z"⟩, 12), (⟨"WeighingPlates$Reader", "takeMask", "()Z"⟩, 12)]
theorem lw_r1 : ∀ q ∈ lw_privs_1, lw_okq q := List.forall_mem_cons.mpr ⟨lw_p0, List.forall_mem_cons.mpr ⟨lw_p1, List.forall_mem_cons.mpr ⟨lw_p2, List.forall_mem_cons.mpr ⟨lw_p3, List.forall_mem_cons.mpr ⟨lw_p4, List.forall_mem_cons.mpr ⟨lw_p5, List.forall_mem_cons.mpr ⟨lw_p6, List.forall_mem_cons.mpr ⟨lw_p7, List.forall_mem_cons.mpr ⟨lw_p8, List.forall_mem_cons.mpr ⟨lw_p9, List.forall_mem_cons.mpr ⟨lw_p10, List.forall_mem_cons.mpr ⟨lw_p11, List.forall_mem_cons.mpr ⟨lw_p12, List.forall_mem_cons.mpr ⟨lw_p13, List.forall_mem_cons.mpr ⟨lw_p14, List.forall_mem_cons.mpr ⟨lw_p15, fun _ h => absurd h List.not_mem_nil⟩⟩⟩⟩⟩⟩⟩⟩⟩⟩⟩⟩⟩⟩⟩⟩
theorem lw_p16 : lw_okq (⟨"WeighingPlates$MaskTable", "load", "(LWeighingPlates$Bench;I)V"⟩, 6) := ⟨⟨by decide +kernel, by decide +kernel⟩, List.mem_of_getElem? (i := 235) (by decide +kernel), List.mem_of_getElem? (i := 556) (by decide +kernel), List.mem_of_getElem? (i := 557) (by decide +kernel)⟩
theorem lw_p17 : lw_okq (⟨"WeighingPlates$MaskTable", "firstColour", "(LWeighingPlates$Bench;I)I"⟩, 6) := ⟨⟨by decide +kernel, by decide +kernel⟩, List.mem_of_getElem? (i := 235) (by decide +kernel), List.mem_of_getElem? (i := 560) (by decide +kernel), List.mem_of_getElem? (i := 561) (by decide +kernel)⟩
theorem lw_p18 : lw_okq (⟨"WeighingPlates$MaskTable", "clearPivot", "(II)V"⟩, 6) := ⟨⟨by decide +kernel, by decide +kernel⟩, List.mem_of_getElem? (i := 235) (by decide +kernel), List.mem_of_getElem? (i := 564) (by decide +kernel), List.mem_of_getElem? (i := 565) (by decide +kernel)⟩
theorem lw_p19 : lw_okq (⟨"WeighingPlates$MaskTable", "findTold", "(LWeighingPlates$Bench;)V"⟩, 6) := ⟨⟨by decide +kernel, by decide +kernel⟩, List.mem_of_getElem? (i := 235) (by decide +kernel), List.mem_of_getElem? (i := 568) (by decide +kernel), List.mem_of_getElem? (i := 569) (by decide +kernel)⟩
theorem lw_p20 : lw_okq (⟨"WeighingPlates$MaskTable", "hasOnlyPivot", "(LWeighingPlates$Bench;I)Z"⟩, 6) := ⟨⟨by decide +kernel, by decide +kernel⟩, List.mem_of_getElem? (i := 235) (by decide +kernel), List.mem_of_getElem? (i := 572) (by decide +kernel), List.mem_of_getElem? (i := 573) (by decide +kernel)⟩
theorem lw_p21 : lw_okq (⟨"WeighingPlates", "haveOne", "(I)Z"⟩, 12) := ⟨⟨by decide +kernel, by decide +kernel⟩, List.mem_of_getElem? (i := 23) (by decide +kernel), List.mem_of_getElem? (i := 601) (by decide +kernel), List.mem_of_getElem? (i := 602) (by decide +kernel)⟩
theorem lw_p22 : lw_okq (⟨"WeighingPlates", "haveSet", "(I)Z"⟩, 12) := ⟨⟨by decide +kernel, by decide +kernel⟩, List.mem_of_getElem? (i := 23) (by decide +kernel), List.mem_of_getElem? (i := 615) (by decide +kernel), List.mem_of_getElem? (i := 616) (by decide +kernel)⟩
theorem lw_p23 : lw_okq (⟨"WeighingPlates", "haveBench", "()Z"⟩, 12) := ⟨⟨by decide +kernel, by decide +kernel⟩, List.mem_of_getElem? (i := 23) (by decide +kernel), List.mem_of_getElem? (i := 619) (by decide +kernel), List.mem_of_getElem? (i := 620) (by decide +kernel)⟩
theorem lw_p24 : lw_okq (⟨"WeighingPlates$Sight", "findNets", "(LWeighingPlates$Bench;)V"⟩, 10) := ⟨⟨by decide +kernel, by decide +kernel⟩, List.mem_of_getElem? (i := 172) (by decide +kernel), List.mem_of_getElem? (i := 691) (by decide +kernel), List.mem_of_getElem? (i := 692) (by decide +kernel)⟩
theorem lw_p25 : lw_okq (⟨"WeighingPlates$Sight", "findBacks", "(LWeighingPlates$Bench;)V"⟩, 10) := ⟨⟨by decide +kernel, by decide +kernel⟩, List.mem_of_getElem? (i := 172) (by decide +kernel), List.mem_of_getElem? (i := 698) (by decide +kernel), List.mem_of_getElem? (i := 699) (by decide +kernel)⟩
theorem lw_p26 : lw_okq (⟨"WeighingPlates", "haveBackOf", "(I)Z"⟩, 12) := ⟨⟨by decide +kernel, by decide +kernel⟩, List.mem_of_getElem? (i := 23) (by decide +kernel), List.mem_of_getElem? (i := 722) (by decide +kernel), List.mem_of_getElem? (i := 723) (by decide +kernel)⟩
theorem lw_p27 : lw_okq (⟨"WeighingPlates", "haveBacks", "()Z"⟩, 12) := ⟨⟨by decide +kernel, by decide +kernel⟩, List.mem_of_getElem? (i := 23) (by decide +kernel), List.mem_of_getElem? (i := 726) (by decide +kernel), List.mem_of_getElem? (i := 727) (by decide +kernel)⟩
theorem lw_p28 : lw_okq (⟨"WeighingPlates", "haveSuspects", "()Z"⟩, 12) := ⟨⟨by decide +kernel, by decide +kernel⟩, List.mem_of_getElem? (i := 23) (by decide +kernel), List.mem_of_getElem? (i := 814) (by decide +kernel), List.mem_of_getElem? (i := 815) (by decide +kernel)⟩
theorem lw_p29 : lw_okq (⟨"WeighingPlates$Suspicion", "holds", "(ILWeighingPlates$Bench;LWeighingPlates$Sight;)Z"⟩, 1) := ⟨⟨by decide +kernel, by decide +kernel⟩, List.mem_of_getElem? (i := 224) (by decide +kernel), List.mem_of_getElem? (i := 822) (by decide +kernel), List.mem_of_getElem? (i := 823) (by decide +kernel)⟩
theorem lw_p30 : lw_okq (⟨"WeighingPlates$Suspicion", "supposeFine", "(LWeighingPlates$Bench;LWeighingPlates$Sight;)Z"⟩, 1) := ⟨⟨by decide +kernel, by decide +kernel⟩, List.mem_of_getElem? (i := 224) (by decide +kernel), List.mem_of_getElem? (i := 826) (by decide +kernel), List.mem_of_getElem? (i := 827) (by decide +kernel)⟩
theorem lw_p31 : lw_okq (⟨"WeighingPlates$Suspicion", "put", "(IJJ)Z"⟩, 1) := ⟨⟨by decide +kernel, by decide +kernel⟩, List.mem_of_getElem? (i := 224) (by decide +kernel), List.mem_of_getElem? (i := 831) (by decide +kernel), List.mem_of_getElem? (i := 832) (by decide +kernel)⟩
def lw_privs_2 : List (MethodName × Nat) := [(⟨"WeighingPlates$MaskTable", "load", "(LWeighingPlates$Bench;I)V"⟩, 6), (⟨"WeighingPlates$MaskTable", "firstColour", "(LWeighingPlates$Bench;I)I"⟩, 6), (⟨"WeighingPlates$MaskTable", "clearPivot", "(II)V"⟩, 6), (⟨"WeighingPlates$MaskTable", "findTold", "(LWeighingPlates$Bench;)V"⟩, 6), (⟨"WeighingPlates$MaskTable", "hasOnlyPivot", "(LWeighingPlates$Bench;I)Z"⟩, 6), (⟨"WeighingPlates", "haveOne", "(I)Z"⟩, 12), (⟨"WeighingPlates", "haveSet", "(I)Z"⟩, 12), (⟨"WeighingPlates", "haveBench", "()Z"⟩, 12), (⟨"WeighingPlates$Sight", "findNets", "(LWeighingPlates$Bench;)V"⟩, 10), (⟨"WeighingPlates$Sight", "findBacks", "(LWeighingPlates$Bench;)V"⟩, 10), (⟨"WeighingPlates", "haveBackOf", "(I)Z"⟩, 12), (⟨"WeighingPlates", "haveBacks", "()Z"⟩, 12), (⟨"WeighingPlates", "haveSuspects", "()Z"⟩, 12), (⟨"WeighingPlates$Suspicion", "holds", "(ILWeighingPlates$Bench;LWeighingPlates$Sight;)Z"⟩, 1), (⟨"WeighingPlates$Suspicion", "supposeFine", "(LWeighingPlates$Bench;LWeighingPlates$Sight;)Z"⟩, 1), (⟨"WeighingPlates$Suspicion", "put", "(IJJ)Z"⟩, 1)]
theorem lw_r2 : ∀ q ∈ lw_privs_2, lw_okq q := List.forall_mem_cons.mpr ⟨lw_p16, List.forall_mem_cons.mpr ⟨lw_p17, List.forall_mem_cons.mpr ⟨lw_p18, List.forall_mem_cons.mpr ⟨lw_p19, List.forall_mem_cons.mpr ⟨lw_p20, List.forall_mem_cons.mpr ⟨lw_p21, List.forall_mem_cons.mpr ⟨lw_p22, List.forall_mem_cons.mpr ⟨lw_p23, List.forall_mem_cons.mpr ⟨lw_p24, List.forall_mem_cons.mpr ⟨lw_p25, List.forall_mem_cons.mpr ⟨lw_p26, List.forall_mem_cons.mpr ⟨lw_p27, List.forall_mem_cons.mpr ⟨lw_p28, List.forall_mem_cons.mpr ⟨lw_p29, List.forall_mem_cons.mpr ⟨lw_p30, List.forall_mem_cons.mpr ⟨lw_p31, fun _ h => absurd h List.not_mem_nil⟩⟩⟩⟩⟩⟩⟩⟩⟩⟩⟩⟩⟩⟩⟩⟩
theorem lw_p32 : lw_okq (⟨"WeighingPlates$Suspicion", "sumIsRight", "(LWeighingPlates$Bench;)Z"⟩, 1) := ⟨⟨by decide +kernel, by decide +kernel⟩, List.mem_of_getElem? (i := 224) (by decide +kernel), List.mem_of_getElem? (i := 836) (by decide +kernel), List.mem_of_getElem? (i := 837) (by decide +kernel)⟩
theorem lw_p33 : lw_okq (⟨"WeighingPlates$Suspicion", "logIsRight", "(LWeighingPlates$Bench;LWeighingPlates$Sight;II)Z"⟩, 1) := ⟨⟨by decide +kernel, by decide +kernel⟩, List.mem_of_getElem? (i := 224) (by decide +kernel), List.mem_of_getElem? (i := 841) (by decide +kernel), List.mem_of_getElem? (i := 842) (by decide +kernel)⟩
theorem lw_p34 : lw_okq (⟨"WeighingPlates$Suspicion", "supposeOpen", "(ILWeighingPlates$Bench;LWeighingPlates$Sight;)Z"⟩, 1) := ⟨⟨by decide +kernel, by decide +kernel⟩, List.mem_of_getElem? (i := 224) (by decide +kernel), List.mem_of_getElem? (i := 846) (by decide +kernel), List.mem_of_getElem? (i := 847) (by decide +kernel)⟩
theorem lw_p35 : lw_okq (⟨"WeighingPlates$Suspicion", "supposeShut", "(ILWeighingPlates$Bench;LWeighingPlates$Sight;)Z"⟩, 1) := ⟨⟨by decide +kernel, by decide +kernel⟩, List.mem_of_getElem? (i := 224) (by decide +kernel), List.mem_of_getElem? (i := 851) (by decide +kernel), List.mem_of_getElem? (i := 852) (by decide +kernel)⟩
theorem lw_p36 : lw_okq (⟨"WeighingPlates", "haveTold", "(I)Z"⟩, 12) := ⟨⟨by decide +kernel, by decide +kernel⟩, List.mem_of_getElem? (i := 23) (by decide +kernel), List.mem_of_getElem? (i := 887) (by decide +kernel), List.mem_of_getElem? (i := 888) (by decide +kernel)⟩
theorem lw_p37 : lw_okq (⟨"WeighingPlates$Tour", "findSteps", "(LWeighingPlates$Bench;)V"⟩, 6) := ⟨⟨by decide +kernel, by decide +kernel⟩, List.mem_of_getElem? (i := 266) (by decide +kernel), List.mem_of_getElem? (i := 939) (by decide +kernel), List.mem_of_getElem? (i := 940) (by decide +kernel)⟩
theorem lw_p38 : lw_okq (⟨"WeighingPlates$Tour", "fewestFrom", "(II)I"⟩, 6) := ⟨⟨by decide +kernel, by decide +kernel⟩, List.mem_of_getElem? (i := 266) (by decide +kernel), List.mem_of_getElem? (i := 944) (by decide +kernel), List.mem_of_getElem? (i := 945) (by decide +kernel)⟩
theorem lw_p39 : lw_okq (⟨"WeighingPlates$Tour", "movesBy", "(III)I"⟩, 6) := ⟨⟨by decide +kernel, by decide +kernel⟩, List.mem_of_getElem? (i := 266) (by decide +kernel), List.mem_of_getElem? (i := 948) (by decide +kernel), List.mem_of_getElem? (i := 949) (by decide +kernel)⟩
theorem lw_p40 : lw_okq (⟨"WeighingPlates$Tour", "walk", "()V"⟩, 6) := ⟨⟨by decide +kernel, by decide +kernel⟩, List.mem_of_getElem? (i := 266) (by decide +kernel), List.mem_of_getElem? (i := 955) (by decide +kernel), List.mem_of_getElem? (i := 956) (by decide +kernel)⟩
theorem lw_p41 : lw_okq (⟨"WeighingPlates$Tour", "nextOf", "(II)I"⟩, 6) := ⟨⟨by decide +kernel, by decide +kernel⟩, List.mem_of_getElem? (i := 266) (by decide +kernel), List.mem_of_getElem? (i := 959) (by decide +kernel), List.mem_of_getElem? (i := 960) (by decide +kernel)⟩
theorem lw_p42 : lw_okq (⟨"WeighingPlates$Acts", "dropOldest", "()V"⟩, 4) := ⟨⟨by decide +kernel, by decide +kernel⟩, List.mem_of_getElem? (i := 294) (by decide +kernel), List.mem_of_getElem? (i := 979) (by decide +kernel), List.mem_of_getElem? (i := 980) (by decide +kernel)⟩
theorem lw_p43 : lw_okq (⟨"java/lang/Throwable", "fillInStackTrace", "(I)Ljava/lang/Throwable;"⟩, 6) := ⟨⟨by decide +kernel, by decide +kernel⟩, List.mem_of_getElem? (i := 1055) (by decide +kernel), List.mem_of_getElem? (i := 1053) (by decide +kernel), List.mem_of_getElem? (i := 1054) (by decide +kernel)⟩
theorem lw_p44 : lw_okq (⟨"WeighingPlatesModel", "refused", "(I)I"⟩, 54) := ⟨⟨by decide +kernel, by decide +kernel⟩, List.mem_of_getElem? (i := 1084) (by decide +kernel), List.mem_of_getElem? (i := 1266) (by decide +kernel), List.mem_of_getElem? (i := 1267) (by decide +kernel)⟩
theorem lw_p45 : lw_okq (⟨"WeighingPlatesModel", "readAll", "()V"⟩, 54) := ⟨⟨by decide +kernel, by decide +kernel⟩, List.mem_of_getElem? (i := 1084) (by decide +kernel), List.mem_of_getElem? (i := 1270) (by decide +kernel), List.mem_of_getElem? (i := 1271) (by decide +kernel)⟩
theorem lw_p46 : lw_okq (⟨"WeighingPlatesModel", "next", "()V"⟩, 54) := ⟨⟨by decide +kernel, by decide +kernel⟩, List.mem_of_getElem? (i := 1084) (by decide +kernel), List.mem_of_getElem? (i := 1274) (by decide +kernel), List.mem_of_getElem? (i := 1275) (by decide +kernel)⟩
theorem lw_p47 : lw_okq (⟨"WeighingPlatesModel", "byteAt", "(I)I"⟩, 54) := ⟨⟨by decide +kernel, by decide +kernel⟩, List.mem_of_getElem? (i := 1084) (by decide +kernel), List.mem_of_getElem? (i := 1278) (by decide +kernel), List.mem_of_getElem? (i := 1279) (by decide +kernel)⟩
def lw_privs_3 : List (MethodName × Nat) := [(⟨"WeighingPlates$Suspicion", "sumIsRight", "(LWeighingPlates$Bench;)Z"⟩, 1), (⟨"WeighingPlates$Suspicion", "logIsRight", "(LWeighingPlates$Bench;LWeighingPlates$Sight;II)Z"⟩, 1), (⟨"WeighingPlates$Suspicion", "supposeOpen", "(ILWeighingPlates$Bench;LWeighingPlates$Sight;)Z"⟩, 1), (⟨"WeighingPlates$Suspicion", "supposeShut", "(ILWeighingPlates$Bench;LWeighingPlates$Sight;)Z"⟩, 1), (⟨"WeighingPlates", "haveTold", "(I)Z"⟩, 12), (⟨"WeighingPlates$Tour", "findSteps", "(LWeighingPlates$Bench;)V"⟩, 6), (⟨"WeighingPlates$Tour", "fewestFrom", "(II)I"⟩, 6), (⟨"WeighingPlates$Tour", "movesBy", "(III)I"⟩, 6), (⟨"WeighingPlates$Tour", "walk", "()V"⟩, 6), (⟨"WeighingPlates$Tour", "nextOf", "(II)I"⟩, 6), (⟨"WeighingPlates$Acts", "dropOldest", "()V"⟩, 4), (⟨"java/lang/Throwable", "fillInStackTrace", "(I)Ljava/lang/Throwable;"⟩, 6), (⟨"WeighingPlatesModel", "refused", "(I)I"⟩, 54), (⟨"WeighingPlatesModel", "readAll", "()V"⟩, 54), (⟨"WeighingPlatesModel", "next", "()V"⟩, 54), (⟨"WeighingPlatesModel", "byteAt", "(I)I"⟩, 54)]
theorem lw_r3 : ∀ q ∈ lw_privs_3, lw_okq q := List.forall_mem_cons.mpr ⟨lw_p32, List.forall_mem_cons.mpr ⟨lw_p33, List.forall_mem_cons.mpr ⟨lw_p34, List.forall_mem_cons.mpr ⟨lw_p35, List.forall_mem_cons.mpr ⟨lw_p36, List.forall_mem_cons.mpr ⟨lw_p37, List.forall_mem_cons.mpr ⟨lw_p38, List.forall_mem_cons.mpr ⟨lw_p39, List.forall_mem_cons.mpr ⟨lw_p40, List.forall_mem_cons.mpr ⟨lw_p41, List.forall_mem_cons.mpr ⟨lw_p42, List.forall_mem_cons.mpr ⟨lw_p43, List.forall_mem_cons.mpr ⟨lw_p44, List.forall_mem_cons.mpr ⟨lw_p45, List.forall_mem_cons.mpr ⟨lw_p46, List.forall_mem_cons.mpr ⟨lw_p47, fun _ h => absurd h List.not_mem_nil⟩⟩⟩⟩⟩⟩⟩⟩⟩⟩⟩⟩⟩⟩⟩⟩
theorem lw_p48 : lw_okq (⟨"WeighingPlatesModel", "nextWord", "()V"⟩, 54) := ⟨⟨by decide +kernel, by decide +kernel⟩, List.mem_of_getElem? (i := 1084) (by decide +kernel), List.mem_of_getElem? (i := 1285) (by decide +kernel), List.mem_of_getElem? (i := 1286) (by decide +kernel)⟩
theorem lw_p49 : lw_okq (⟨"WeighingPlatesModel", "nextWhole", "()V"⟩, 54) := ⟨⟨by decide +kernel, by decide +kernel⟩, List.mem_of_getElem? (i := 1084) (by decide +kernel), List.mem_of_getElem? (i := 1289) (by decide +kernel), List.mem_of_getElem? (i := 1290) (by decide +kernel)⟩
theorem lw_p50 : lw_okq (⟨"WeighingPlatesModel", "nextSign", "(I)V"⟩, 54) := ⟨⟨by decide +kernel, by decide +kernel⟩, List.mem_of_getElem? (i := 1084) (by decide +kernel), List.mem_of_getElem? (i := 1293) (by decide +kernel), List.mem_of_getElem? (i := 1294) (by decide +kernel)⟩
theorem lw_p51 : lw_okq (⟨"WeighingPlatesModel", "readLine", "()V"⟩, 54) := ⟨⟨by decide +kernel, by decide +kernel⟩, List.mem_of_getElem? (i := 1084) (by decide +kernel), List.mem_of_getElem? (i := 1297) (by decide +kernel), List.mem_of_getElem? (i := 1298) (by decide +kernel)⟩
theorem lw_p52 : lw_okq (⟨"WeighingPlatesModel", "isWord", "(Ljava/lang/String;)Z"⟩, 54) := ⟨⟨by decide +kernel, by decide +kernel⟩, List.mem_of_getElem? (i := 1084) (by decide +kernel), List.mem_of_getElem? (i := 1302) (by decide +kernel), List.mem_of_getElem? (i := 1303) (by decide +kernel)⟩
theorem lw_p53 : lw_okq (⟨"WeighingPlatesModel", "readBench", "()V"⟩, 54) := ⟨⟨by decide +kernel, by decide +kernel⟩, List.mem_of_getElem? (i := 1084) (by decide +kernel), List.mem_of_getElem? (i := 1308) (by decide +kernel), List.mem_of_getElem? (i := 1309) (by decide +kernel)⟩
theorem lw_p54 : lw_okq (⟨"WeighingPlatesModel", "flaw", "(I)V"⟩, 54) := ⟨⟨by decide +kernel, by decide +kernel⟩, List.mem_of_getElem? (i := 1084) (by decide +kernel), List.mem_of_getElem? (i := 1312) (by decide +kernel), List.mem_of_getElem? (i := 1313) (by decide +kernel)⟩
theorem lw_p55 : lw_okq (⟨"WeighingPlatesModel", "readWhole", "(II)I"⟩, 54) := ⟨⟨by decide +kernel, by decide +kernel⟩, List.mem_of_getElem? (i := 1084) (by decide +kernel), List.mem_of_getElem? (i := 1318) (by decide +kernel), List.mem_of_getElem? (i := 1319) (by decide +kernel)⟩
theorem lw_p56 : lw_okq (⟨"WeighingPlatesModel", "wholeAt", "(II)I"⟩, 54) := ⟨⟨by decide +kernel, by decide +kernel⟩, List.mem_of_getElem? (i := 1084) (by decide +kernel), List.mem_of_getElem? (i := 1322) (by decide +kernel), List.mem_of_getElem? (i := 1323) (by decide +kernel)⟩
theorem lw_p57 : lw_okq (⟨"WeighingPlatesModel", "readOrder", "()I"⟩, 54) := ⟨⟨by decide +kernel, by decide +kernel⟩, List.mem_of_getElem? (i := 1084) (by decide +kernel), List.mem_of_getElem? (i := 1326) (by decide +kernel), List.mem_of_getElem? (i := 1327) (by decide +kernel)⟩
theorem lw_p58 : lw_okq (⟨"WeighingPlatesModel", "needs", "(Ljava/lang/String;)V"⟩, 54) := ⟨⟨by decide +kernel, by decide +kernel⟩, List.mem_of_getElem? (i := 1084) (by decide +kernel), List.mem_of_getElem? (i := 1331) (by decide +kernel), List.mem_of_getElem? (i := 1332) (by decide +kernel)⟩
theorem lw_p59 : lw_okq (⟨"WeighingPlatesModel", "readLight", "()V"⟩, 54) := ⟨⟨by decide +kernel, by decide +kernel⟩, List.mem_of_getElem? (i := 1084) (by decide +kernel), List.mem_of_getElem? (i := 1338) (by decide +kernel), List.mem_of_getElem? (i := 1339) (by decide +kernel)⟩
theorem lw_p60 : lw_okq (⟨"WeighingPlatesModel", "begins", "(Z)V"⟩, 54) := ⟨⟨by decide +kernel, by decide +kernel⟩, List.mem_of_getElem? (i := 1084) (by decide +kernel), List.mem_of_getElem? (i := 1342) (by decide +kernel), List.mem_of_getElem? (i := 1343) (by decide +kernel)⟩
theorem lw_p61 : lw_okq (⟨"WeighingPlatesModel", "readNew", "(I)I"⟩, 54) := ⟨⟨by decide +kernel, by decide +kernel⟩, List.mem_of_getElem? (i := 1084) (by decide +kernel), List.mem_of_getElem? (i := 1346) (by decide +kernel), List.mem_of_getElem? (i := 1347) (by decide +kernel)⟩
theorem lw_p62 : lw_okq (⟨"WeighingPlatesModel", "readStuckOne", "()V"⟩, 54) := ⟨⟨by decide +kernel, by decide +kernel⟩, List.mem_of_getElem? (i := 1084) (by decide +kernel), List.mem_of_getElem? (i := 1354) (by decide +kernel), List.mem_of_getElem? (i := 1355) (by decide +kernel)⟩
theorem lw_p63 : lw_okq (⟨"WeighingPlatesModel", "readNoiseOf", "()V"⟩, 54) := ⟨⟨by decide +kernel, by decide +kernel⟩, List.mem_of_getElem? (i := 1084) (by decide +kernel), List.mem_of_getElem? (i := 1361) (by decide +kernel), List.mem_of_getElem? (i := 1362) (by decide +kernel)⟩
def lw_privs_4 : List (MethodName × Nat) := [(⟨"WeighingPlatesModel", "nextWord", "()V"⟩, 54), (⟨"WeighingPlatesModel", "nextWhole", "()V"⟩, 54), (⟨"WeighingPlatesModel", "nextSign", "(I)V"⟩, 54), (⟨"WeighingPlatesModel", "readLine", "()V"⟩, 54), (⟨"WeighingPlatesModel", "isWord", "(Ljava/lang/String;)Z"⟩, 54), (⟨"WeighingPlatesModel", "readBench", "()V"⟩, 54), (⟨"WeighingPlatesModel", "flaw", "(I)V"⟩, 54), (⟨"WeighingPlatesModel", "readWhole", "(II)I"⟩, 54), (⟨"WeighingPlatesModel", "wholeAt", "(II)I"⟩, 54), (⟨"WeighingPlatesModel", "readOrder", "()I"⟩, 54), (⟨"WeighingPlatesModel", "needs", "(Ljava/lang/String;)V"⟩, 54), (⟨"WeighingPlatesModel", "readLight", "()V"⟩, 54), (⟨"WeighingPlatesModel", "begins", "(Z)V"⟩, 54), (⟨"WeighingPlatesModel", "readNew", "(I)I"⟩, 54), (⟨"WeighingPlatesModel", "readStuckOne", "()V"⟩, 54), (⟨"WeighingPlatesModel", "readNoiseOf", "()V"⟩, 54)]
theorem lw_r4 : ∀ q ∈ lw_privs_4, lw_okq q := List.forall_mem_cons.mpr ⟨lw_p48, List.forall_mem_cons.mpr ⟨lw_p49, List.forall_mem_cons.mpr ⟨lw_p50, List.forall_mem_cons.mpr ⟨lw_p51, List.forall_mem_cons.mpr ⟨lw_p52, List.forall_mem_cons.mpr ⟨lw_p53, List.forall_mem_cons.mpr ⟨lw_p54, List.forall_mem_cons.mpr ⟨lw_p55, List.forall_mem_cons.mpr ⟨lw_p56, List.forall_mem_cons.mpr ⟨lw_p57, List.forall_mem_cons.mpr ⟨lw_p58, List.forall_mem_cons.mpr ⟨lw_p59, List.forall_mem_cons.mpr ⟨lw_p60, List.forall_mem_cons.mpr ⟨lw_p61, List.forall_mem_cons.mpr ⟨lw_p62, List.forall_mem_cons.mpr ⟨lw_p63, fun _ h => absurd h List.not_mem_nil⟩⟩⟩⟩⟩⟩⟩⟩⟩⟩⟩⟩⟩⟩⟩⟩
theorem lw_p64 : lw_okq (⟨"WeighingPlatesModel", "readLost", "()V"⟩, 54) := ⟨⟨by decide +kernel, by decide +kernel⟩, List.mem_of_getElem? (i := 1084) (by decide +kernel), List.mem_of_getElem? (i := 1368) (by decide +kernel), List.mem_of_getElem? (i := 1369) (by decide +kernel)⟩
theorem lw_p65 : lw_okq (⟨"WeighingPlatesModel", "readMaskOf", "()V"⟩, 54) := ⟨⟨by decide +kernel, by decide +kernel⟩, List.mem_of_getElem? (i := 1084) (by decide +kernel), List.mem_of_getElem? (i := 1373) (by decide +kernel), List.mem_of_getElem? (i := 1374) (by decide +kernel)⟩
theorem lw_p66 : lw_okq (⟨"WeighingPlatesModel", "takesOver", "()V"⟩, 54) := ⟨⟨by decide +kernel, by decide +kernel⟩, List.mem_of_getElem? (i := 1084) (by decide +kernel), List.mem_of_getElem? (i := 1377) (by decide +kernel), List.mem_of_getElem? (i := 1378) (by decide +kernel)⟩
theorem lw_p67 : lw_okq (⟨"WeighingPlatesModel", "laysDoubled", "()V"⟩, 54) := ⟨⟨by decide +kernel, by decide +kernel⟩, List.mem_of_getElem? (i := 1084) (by decide +kernel), List.mem_of_getElem? (i := 1381) (by decide +kernel), List.mem_of_getElem? (i := 1382) (by decide +kernel)⟩
theorem lw_p68 : lw_okq (⟨"WeighingPlatesModel", "laysSquares", "()V"⟩, 54) := ⟨⟨by decide +kernel, by decide +kernel⟩, List.mem_of_getElem? (i := 1084) (by decide +kernel), List.mem_of_getElem? (i := 1388) (by decide +kernel), List.mem_of_getElem? (i := 1389) (by decide +kernel)⟩
theorem lw_p69 : lw_okq (⟨"WeighingPlatesModel", "ends", "()V"⟩, 54) := ⟨⟨by decide +kernel, by decide +kernel⟩, List.mem_of_getElem? (i := 1084) (by decide +kernel), List.mem_of_getElem? (i := 1392) (by decide +kernel), List.mem_of_getElem? (i := 1393) (by decide +kernel)⟩
theorem lw_p70 : lw_okq (⟨"WeighingPlatesModel", "good", "(I)I"⟩, 54) := ⟨⟨by decide +kernel, by decide +kernel⟩, List.mem_of_getElem? (i := 1084) (by decide +kernel), List.mem_of_getElem? (i := 1396) (by decide +kernel), List.mem_of_getElem? (i := 1397) (by decide +kernel)⟩
theorem lw_p71 : lw_okq (⟨"WeighingPlatesModel", "monitor", "()I"⟩, 54) := ⟨⟨by decide +kernel, by decide +kernel⟩, List.mem_of_getElem? (i := 1084) (by decide +kernel), List.mem_of_getElem? (i := 1412) (by decide +kernel), List.mem_of_getElem? (i := 1413) (by decide +kernel)⟩
theorem lw_p72 : lw_okq (⟨"WeighingPlatesModel", "isOne", "(I)Z"⟩, 54) := ⟨⟨by decide +kernel, by decide +kernel⟩, List.mem_of_getElem? (i := 1084) (by decide +kernel), List.mem_of_getElem? (i := 1423) (by decide +kernel), List.mem_of_getElem? (i := 1424) (by decide +kernel)⟩
theorem lw_p73 : lw_okq (⟨"WeighingPlatesModel", "isSet", "(I)Z"⟩, 54) := ⟨⟨by decide +kernel, by decide +kernel⟩, List.mem_of_getElem? (i := 1084) (by decide +kernel), List.mem_of_getElem? (i := 1435) (by decide +kernel), List.mem_of_getElem? (i := 1436) (by decide +kernel)⟩
theorem lw_p74 : lw_okq (⟨"WeighingPlatesModel", "looks", "(I)I"⟩, 54) := ⟨⟨by decide +kernel, by decide +kernel⟩, List.mem_of_getElem? (i := 1084) (by decide +kernel), List.mem_of_getElem? (i := 1468) (by decide +kernel), List.mem_of_getElem? (i := 1469) (by decide +kernel)⟩
theorem lw_p75 : lw_okq (⟨"WeighingPlatesModel", "through", "(I)I"⟩, 54) := ⟨⟨by decide +kernel, by decide +kernel⟩, List.mem_of_getElem? (i := 1084) (by decide +kernel), List.mem_of_getElem? (i := 1472) (by decide +kernel), List.mem_of_getElem? (i := 1473) (by decide +kernel)⟩
theorem lw_p76 : lw_okq (⟨"WeighingPlatesModel", "refusedLow", "(I)I"⟩, 54) := ⟨⟨by decide +kernel, by decide +kernel⟩, List.mem_of_getElem? (i := 1084) (by decide +kernel), List.mem_of_getElem? (i := 1492) (by decide +kernel), List.mem_of_getElem? (i := 1493) (by decide +kernel)⟩
theorem lw_p77 : lw_okq (⟨"WeighingPlatesModel", "losses", "()I"⟩, 54) := ⟨⟨by decide +kernel, by decide +kernel⟩, List.mem_of_getElem? (i := 1084) (by decide +kernel), List.mem_of_getElem? (i := 1500) (by decide +kernel), List.mem_of_getElem? (i := 1501) (by decide +kernel)⟩
theorem lw_p78 : lw_okq (⟨"WeighingPlatesModel", "netOf", "(I)I"⟩, 54) := ⟨⟨by decide +kernel, by decide +kernel⟩, List.mem_of_getElem? (i := 1084) (by decide +kernel), List.mem_of_getElem? (i := 1504) (by decide +kernel), List.mem_of_getElem? (i := 1505) (by decide +kernel)⟩
theorem lw_p79 : lw_okq (⟨"WeighingPlatesModel", "netSum", "()I"⟩, 54) := ⟨⟨by decide +kernel, by decide +kernel⟩, List.mem_of_getElem? (i := 1084) (by decide +kernel), List.mem_of_getElem? (i := 1508) (by decide +kernel), List.mem_of_getElem? (i := 1509) (by decide +kernel)⟩
def lw_privs_5 : List (MethodName × Nat) := [(⟨"WeighingPlatesModel", "readLost", "()V"⟩, 54), (⟨"WeighingPlatesModel", "readMaskOf", "()V"⟩, 54), (⟨"WeighingPlatesModel", "takesOver", "()V"⟩, 54), (⟨"WeighingPlatesModel", "laysDoubled", "()V"⟩, 54), (⟨"WeighingPlatesModel", "laysSquares", "()V"⟩, 54), (⟨"WeighingPlatesModel", "ends", "()V"⟩, 54), (⟨"WeighingPlatesModel", "good", "(I)I"⟩, 54), (⟨"WeighingPlatesModel", "monitor", "()I"⟩, 54), (⟨"WeighingPlatesModel", "isOne", "(I)Z"⟩, 54), (⟨"WeighingPlatesModel", "isSet", "(I)Z"⟩, 54), (⟨"WeighingPlatesModel", "looks", "(I)I"⟩, 54), (⟨"WeighingPlatesModel", "through", "(I)I"⟩, 54), (⟨"WeighingPlatesModel", "refusedLow", "(I)I"⟩, 54), (⟨"WeighingPlatesModel", "losses", "()I"⟩, 54), (⟨"WeighingPlatesModel", "netOf", "(I)I"⟩, 54), (⟨"WeighingPlatesModel", "netSum", "()I"⟩, 54)]
theorem lw_r5 : ∀ q ∈ lw_privs_5, lw_okq q := List.forall_mem_cons.mpr ⟨lw_p64, List.forall_mem_cons.mpr ⟨lw_p65, List.forall_mem_cons.mpr ⟨lw_p66, List.forall_mem_cons.mpr ⟨lw_p67, List.forall_mem_cons.mpr ⟨lw_p68, List.forall_mem_cons.mpr ⟨lw_p69, List.forall_mem_cons.mpr ⟨lw_p70, List.forall_mem_cons.mpr ⟨lw_p71, List.forall_mem_cons.mpr ⟨lw_p72, List.forall_mem_cons.mpr ⟨lw_p73, List.forall_mem_cons.mpr ⟨lw_p74, List.forall_mem_cons.mpr ⟨lw_p75, List.forall_mem_cons.mpr ⟨lw_p76, List.forall_mem_cons.mpr ⟨lw_p77, List.forall_mem_cons.mpr ⟨lw_p78, List.forall_mem_cons.mpr ⟨lw_p79, fun _ h => absurd h List.not_mem_nil⟩⟩⟩⟩⟩⟩⟩⟩⟩⟩⟩⟩⟩⟩⟩⟩
theorem lw_p80 : lw_okq (⟨"WeighingPlatesModel", "refuses", "(Z)I"⟩, 54) := ⟨⟨by decide +kernel, by decide +kernel⟩, List.mem_of_getElem? (i := 1084) (by decide +kernel), List.mem_of_getElem? (i := 1516) (by decide +kernel), List.mem_of_getElem? (i := 1517) (by decide +kernel)⟩
theorem lw_p81 : lw_okq (⟨"WeighingPlatesModel", "refusedLong", "(I)J"⟩, 54) := ⟨⟨by decide +kernel, by decide +kernel⟩, List.mem_of_getElem? (i := 1084) (by decide +kernel), List.mem_of_getElem? (i := 1520) (by decide +kernel), List.mem_of_getElem? (i := 1521) (by decide +kernel)⟩
theorem lw_p82 : lw_okq (⟨"WeighingPlatesModel", "partsOf", "(I)J"⟩, 54) := ⟨⟨by decide +kernel, by decide +kernel⟩, List.mem_of_getElem? (i := 1084) (by decide +kernel), List.mem_of_getElem? (i := 1525) (by decide +kernel), List.mem_of_getElem? (i := 1526) (by decide +kernel)⟩
theorem lw_p83 : lw_okq (⟨"WeighingPlatesModel", "netAll", "()I"⟩, 54) := ⟨⟨by decide +kernel, by decide +kernel⟩, List.mem_of_getElem? (i := 1084) (by decide +kernel), List.mem_of_getElem? (i := 1531) (by decide +kernel), List.mem_of_getElem? (i := 1532) (by decide +kernel)⟩
theorem lw_p84 : lw_okq (⟨"WeighingPlatesModel", "sets", "(JJ)V"⟩, 54) := ⟨⟨by decide +kernel, by decide +kernel⟩, List.mem_of_getElem? (i := 1084) (by decide +kernel), List.mem_of_getElem? (i := 1535) (by decide +kernel), List.mem_of_getElem? (i := 1536) (by decide +kernel)⟩
theorem lw_p85 : lw_okq (⟨"WeighingPlatesModel", "part", "(Z)J"⟩, 54) := ⟨⟨by decide +kernel, by decide +kernel⟩, List.mem_of_getElem? (i := 1084) (by decide +kernel), List.mem_of_getElem? (i := 1542) (by decide +kernel), List.mem_of_getElem? (i := 1543) (by decide +kernel)⟩
theorem lw_p86 : lw_okq (⟨"WeighingPlatesModel", "errorParts", "(I)J"⟩, 54) := ⟨⟨by decide +kernel, by decide +kernel⟩, List.mem_of_getElem? (i := 1084) (by decide +kernel), List.mem_of_getElem? (i := 1554) (by decide +kernel), List.mem_of_getElem? (i := 1555) (by decide +kernel)⟩
theorem lw_p87 : lw_okq (⟨"WeighingPlatesModel", "aloneOf", "(I)I"⟩, 54) := ⟨⟨by decide +kernel, by decide +kernel⟩, List.mem_of_getElem? (i := 1084) (by decide +kernel), List.mem_of_getElem? (i := 1589) (by decide +kernel), List.mem_of_getElem? (i := 1590) (by decide +kernel)⟩
theorem lw_p88 : lw_okq (⟨"WeighingPlatesModel", "offAlone", "(I)J"⟩, 54) := ⟨⟨by decide +kernel, by decide +kernel⟩, List.mem_of_getElem? (i := 1084) (by decide +kernel), List.mem_of_getElem? (i := 1597) (by decide +kernel), List.mem_of_getElem? (i := 1598) (by decide +kernel)⟩
theorem lw_p89 : lw_okq (⟨"WeighingPlatesModel", "refusesSuspects", "(Z)I"⟩, 54) := ⟨⟨by decide +kernel, by decide +kernel⟩, List.mem_of_getElem? (i := 1084) (by decide +kernel), List.mem_of_getElem? (i := 1609) (by decide +kernel), List.mem_of_getElem? (i := 1610) (by decide +kernel)⟩
theorem lw_p90 : lw_okq (⟨"WeighingPlatesModel", "isSuspect", "(I)Z"⟩, 54) := ⟨⟨by decide +kernel, by decide +kernel⟩, List.mem_of_getElem? (i := 1084) (by decide +kernel), List.mem_of_getElem? (i := 1613) (by decide +kernel), List.mem_of_getElem? (i := 1614) (by decide +kernel)⟩
theorem lw_p91 : lw_okq (⟨"WeighingPlatesModel", "supposesFine", "()Z"⟩, 54) := ⟨⟨by decide +kernel, by decide +kernel⟩, List.mem_of_getElem? (i := 1084) (by decide +kernel), List.mem_of_getElem? (i := 1617) (by decide +kernel), List.mem_of_getElem? (i := 1618) (by decide +kernel)⟩
theorem lw_p92 : lw_okq (⟨"WeighingPlatesModel", "supposes", "(IJ)Z"⟩, 54) := ⟨⟨by decide +kernel, by decide +kernel⟩, List.mem_of_getElem? (i := 1084) (by decide +kernel), List.mem_of_getElem? (i := 1621) (by decide +kernel), List.mem_of_getElem? (i := 1622) (by decide +kernel)⟩
theorem lw_p93 : lw_okq (⟨"WeighingPlatesModel", "areLights", "()Z"⟩, 54) := ⟨⟨by decide +kernel, by decide +kernel⟩, List.mem_of_getElem? (i := 1084) (by decide +kernel), List.mem_of_getElem? (i := 1625) (by decide +kernel), List.mem_of_getElem? (i := 1626) (by decide +kernel)⟩
theorem lw_p94 : lw_okq (⟨"WeighingPlatesModel", "areSeen", "(II)Z"⟩, 54) := ⟨⟨by decide +kernel, by decide +kernel⟩, List.mem_of_getElem? (i := 1084) (by decide +kernel), List.mem_of_getElem? (i := 1630) (by decide +kernel), List.mem_of_getElem? (i := 1631) (by decide +kernel)⟩
theorem lw_p95 : lw_okq (⟨"WeighingPlatesModel", "supposedRead", "(III)J"⟩, 54) := ⟨⟨by decide +kernel, by decide +kernel⟩, List.mem_of_getElem? (i := 1084) (by decide +kernel), List.mem_of_getElem? (i := 1634) (by decide +kernel), List.mem_of_getElem? (i := 1635) (by decide +kernel)⟩
def lw_privs_6 : List (MethodName × Nat) := [(⟨"WeighingPlatesModel", "refuses", "(Z)I"⟩, 54), (⟨"WeighingPlatesModel", "refusedLong", "(I)J"⟩, 54), (⟨"WeighingPlatesModel", "partsOf", "(I)J"⟩, 54), (⟨"WeighingPlatesModel", "netAll", "()I"⟩, 54), (⟨"WeighingPlatesModel", "sets", "(JJ)V"⟩, 54), (⟨"WeighingPlatesModel", "part", "(Z)J"⟩, 54), (⟨"WeighingPlatesModel", "errorParts", "(I)J"⟩, 54), (⟨"WeighingPlatesModel", "aloneOf", "(I)I"⟩, 54), (⟨"WeighingPlatesModel", "offAlone", "(I)J"⟩, 54), (⟨"WeighingPlatesModel", "refusesSuspects", "(Z)I"⟩, 54), (⟨"WeighingPlatesModel", "isSuspect", "(I)Z"⟩, 54), (⟨"WeighingPlatesModel", "supposesFine", "()Z"⟩, 54), (⟨"WeighingPlatesModel", "supposes", "(IJ)Z"⟩, 54), (⟨"WeighingPlatesModel", "areLights", "()Z"⟩, 54), (⟨"WeighingPlatesModel", "areSeen", "(II)Z"⟩, 54), (⟨"WeighingPlatesModel", "supposedRead", "(III)J"⟩, 54)]
theorem lw_r6 : ∀ q ∈ lw_privs_6, lw_okq q := List.forall_mem_cons.mpr ⟨lw_p80, List.forall_mem_cons.mpr ⟨lw_p81, List.forall_mem_cons.mpr ⟨lw_p82, List.forall_mem_cons.mpr ⟨lw_p83, List.forall_mem_cons.mpr ⟨lw_p84, List.forall_mem_cons.mpr ⟨lw_p85, List.forall_mem_cons.mpr ⟨lw_p86, List.forall_mem_cons.mpr ⟨lw_p87, List.forall_mem_cons.mpr ⟨lw_p88, List.forall_mem_cons.mpr ⟨lw_p89, List.forall_mem_cons.mpr ⟨lw_p90, List.forall_mem_cons.mpr ⟨lw_p91, List.forall_mem_cons.mpr ⟨lw_p92, List.forall_mem_cons.mpr ⟨lw_p93, List.forall_mem_cons.mpr ⟨lw_p94, List.forall_mem_cons.mpr ⟨lw_p95, fun _ h => absurd h List.not_mem_nil⟩⟩⟩⟩⟩⟩⟩⟩⟩⟩⟩⟩⟩⟩⟩⟩
theorem lw_p96 : lw_okq (⟨"WeighingPlatesModel", "supposesOpen", "(I)Z"⟩, 54) := ⟨⟨by decide +kernel, by decide +kernel⟩, List.mem_of_getElem? (i := 1084) (by decide +kernel), List.mem_of_getElem? (i := 1638) (by decide +kernel), List.mem_of_getElem? (i := 1639) (by decide +kernel)⟩
theorem lw_p97 : lw_okq (⟨"WeighingPlatesModel", "supposesShut", "(I)Z"⟩, 54) := ⟨⟨by decide +kernel, by decide +kernel⟩, List.mem_of_getElem? (i := 1084) (by decide +kernel), List.mem_of_getElem? (i := 1642) (by decide +kernel), List.mem_of_getElem? (i := 1643) (by decide +kernel)⟩
theorem lw_p98 : lw_okq (⟨"WeighingPlatesModel", "suspectNumber", "(I)I"⟩, 54) := ⟨⟨by decide +kernel, by decide +kernel⟩, List.mem_of_getElem? (i := 1084) (by decide +kernel), List.mem_of_getElem? (i := 1650) (by decide +kernel), List.mem_of_getElem? (i := 1651) (by decide +kernel)⟩
theorem lw_p99 : lw_okq (⟨"WeighingPlatesModel", "laysRows", "()V"⟩, 54) := ⟨⟨by decide +kernel, by decide +kernel⟩, List.mem_of_getElem? (i := 1084) (by decide +kernel), List.mem_of_getElem? (i := 1666) (by decide +kernel), List.mem_of_getElem? (i := 1667) (by decide +kernel)⟩
theorem lw_p100 : lw_okq (⟨"WeighingPlatesModel", "puts", "(IIJJ)V"⟩, 54) := ⟨⟨by decide +kernel, by decide +kernel⟩, List.mem_of_getElem? (i := 1084) (by decide +kernel), List.mem_of_getElem? (i := 1670) (by decide +kernel), List.mem_of_getElem? (i := 1671) (by decide +kernel)⟩
theorem lw_p101 : lw_okq (⟨"WeighingPlatesModel", "clears", "(III)V"⟩, 54) := ⟨⟨by decide +kernel, by decide +kernel⟩, List.mem_of_getElem? (i := 1084) (by decide +kernel), List.mem_of_getElem? (i := 1674) (by decide +kernel), List.mem_of_getElem? (i := 1675) (by decide +kernel)⟩
theorem lw_p102 : lw_okq (⟨"WeighingPlatesModel", "laysRow", "(I)V"⟩, 54) := ⟨⟨by decide +kernel, by decide +kernel⟩, List.mem_of_getElem? (i := 1084) (by decide +kernel), List.mem_of_getElem? (i := 1678) (by decide +kernel), List.mem_of_getElem? (i := 1679) (by decide +kernel)⟩
theorem lw_p103 : lw_okq (⟨"WeighingPlatesModel", "rowOf", "(I)I"⟩, 54) := ⟨⟨by decide +kernel, by decide +kernel⟩, List.mem_of_getElem? (i := 1084) (by decide +kernel), List.mem_of_getElem? (i := 1687) (by decide +kernel), List.mem_of_getElem? (i := 1688) (by decide +kernel)⟩
theorem lw_p104 : lw_okq (⟨"WeighingPlatesModel", "squaresOf", "(I)V"⟩, 54) := ⟨⟨by decide +kernel, by decide +kernel⟩, List.mem_of_getElem? (i := 1084) (by decide +kernel), List.mem_of_getElem? (i := 1703) (by decide +kernel), List.mem_of_getElem? (i := 1704) (by decide +kernel)⟩
theorem lw_p105 : lw_okq (⟨"WeighingPlatesModel", "laysTours", "()V"⟩, 54) := ⟨⟨by decide +kernel, by decide +kernel⟩, List.mem_of_getElem? (i := 1084) (by decide +kernel), List.mem_of_getElem? (i := 1719) (by decide +kernel), List.mem_of_getElem? (i := 1720) (by decide +kernel)⟩
theorem lw_p106 : lw_okq (⟨"WeighingPlatesModel", "goes", "(II)I"⟩, 54) := ⟨⟨by decide +kernel, by decide +kernel⟩, List.mem_of_getElem? (i := 1084) (by decide +kernel), List.mem_of_getElem? (i := 1723) (by decide +kernel), List.mem_of_getElem? (i := 1724) (by decide +kernel)⟩
theorem lw_p107 : lw_okq (⟨"WeighingPlatesModel", "movesTo", "(II)I"⟩, 54) := ⟨⟨by decide +kernel, by decide +kernel⟩, List.mem_of_getElem? (i := 1084) (by decide +kernel), List.mem_of_getElem? (i := 1728) (by decide +kernel), List.mem_of_getElem? (i := 1729) (by decide +kernel)⟩
theorem lw_p108 : lw_okq (⟨"WeighingPlatesModel", "changed", "(II)I"⟩, 54) := ⟨⟨by decide +kernel, by decide +kernel⟩, List.mem_of_getElem? (i := 1084) (by decide +kernel), List.mem_of_getElem? (i := 1744) (by decide +kernel), List.mem_of_getElem? (i := 1745) (by decide +kernel)⟩
theorem lw_p109 : lw_okq (⟨"WeighingPlatesModel", "remembers", "()V"⟩, 54) := ⟨⟨by decide +kernel, by decide +kernel⟩, List.mem_of_getElem? (i := 1084) (by decide +kernel), List.mem_of_getElem? (i := 1748) (by decide +kernel), List.mem_of_getElem? (i := 1749) (by decide +kernel)⟩
def lw_privs_7 : List (MethodName × Nat) := [(⟨"WeighingPlatesModel", "supposesOpen", "(I)Z"⟩, 54), (⟨"WeighingPlatesModel", "supposesShut", "(I)Z"⟩, 54), (⟨"WeighingPlatesModel", "suspectNumber", "(I)I"⟩, 54), (⟨"WeighingPlatesModel", "laysRows", "()V"⟩, 54), (⟨"WeighingPlatesModel", "puts", "(IIJJ)V"⟩, 54), (⟨"WeighingPlatesModel", "clears", "(III)V"⟩, 54), (⟨"WeighingPlatesModel", "laysRow", "(I)V"⟩, 54), (⟨"WeighingPlatesModel", "rowOf", "(I)I"⟩, 54), (⟨"WeighingPlatesModel", "squaresOf", "(I)V"⟩, 54), (⟨"WeighingPlatesModel", "laysTours", "()V"⟩, 54), (⟨"WeighingPlatesModel", "goes", "(II)I"⟩, 54), (⟨"WeighingPlatesModel", "movesTo", "(II)I"⟩, 54), (⟨"WeighingPlatesModel", "changed", "(II)I"⟩, 54), (⟨"WeighingPlatesModel", "remembers", "()V"⟩, 54)]
theorem lw_r7 : ∀ q ∈ lw_privs_7, lw_okq q := List.forall_mem_cons.mpr ⟨lw_p96, List.forall_mem_cons.mpr ⟨lw_p97, List.forall_mem_cons.mpr ⟨lw_p98, List.forall_mem_cons.mpr ⟨lw_p99, List.forall_mem_cons.mpr ⟨lw_p100, List.forall_mem_cons.mpr ⟨lw_p101, List.forall_mem_cons.mpr ⟨lw_p102, List.forall_mem_cons.mpr ⟨lw_p103, List.forall_mem_cons.mpr ⟨lw_p104, List.forall_mem_cons.mpr ⟨lw_p105, List.forall_mem_cons.mpr ⟨lw_p106, List.forall_mem_cons.mpr ⟨lw_p107, List.forall_mem_cons.mpr ⟨lw_p108, List.forall_mem_cons.mpr ⟨lw_p109, fun _ h => absurd h List.not_mem_nil⟩⟩⟩⟩⟩⟩⟩⟩⟩⟩⟩⟩⟩⟩
def lw_privs : List (MethodName × Nat) := lw_privs_1 ++ (lw_privs_2 ++ (lw_privs_3 ++ (lw_privs_4 ++ (lw_privs_5 ++ (lw_privs_6 ++ (lw_privs_7))))))
def lw_tbl : List Cond := k2_sels lw_privs ++ tables_1
theorem lw_privs_ok : ∀ q ∈ lw_privs, lw_okq q := by
  show ∀ q ∈ lw_privs_1 ++ (lw_privs_2 ++ (lw_privs_3 ++ (lw_privs_4 ++ (lw_privs_5 ++ (lw_privs_6 ++ (lw_privs_7)))))), lw_okq q
  exact List.forall_mem_append.mpr ⟨lw_r1, List.forall_mem_append.mpr ⟨lw_r2, List.forall_mem_append.mpr ⟨lw_r3, List.forall_mem_append.mpr ⟨lw_r4, List.forall_mem_append.mpr ⟨lw_r5, List.forall_mem_append.mpr ⟨lw_r6, lw_r7⟩⟩⟩⟩⟩⟩
end
section
/-! rows of code: pc, instruction, the next pc, three numbers (target; class and slot; callee and kind; word), a constant, whether a jump back comes here -/
abbrev Row : Type := Nat × Instr × Nat × Nat × Nat × Nat × Int × Bool
abbrev r0 (pc : Nat) (i : Instr) (nx : Nat) : Row := (pc, i, nx, 0, 0, 0, 0, false)
abbrev rX (pc : Nat) (i : Instr) (nx x1 x2 x3 : Nat) : Row := (pc, i, nx, x1, x2, x3, 0, false)
abbrev rV (pc : Nat) (i : Instr) (nx x1 x2 x3 : Nat) (v : Int) : Row := (pc, i, nx, x1, x2, x3, v, false)
abbrev rH (pc : Nat) (i : Instr) (nx x1 x2 x3 : Nat) (v : Int) : Row := (pc, i, nx, x1, x2, x3, v, true)
/-- a method: name, bytes, locals, what it returns, rows, frames, parameters, kind (0 virtual, 1 static, 2 constructor, 8 the law), number of its class, places of its words -/
abbrev MT : Type := MethodName × ByteArray × Nat × Option FieldType × List Row × Nat × Nat × Nat × Nat × Nat × Nat × Nat × Nat
-- classes with objects: name, fields in the order of the slots (declaring, name, descriptor, final), how many
def fT0 : u_T := fun k => match k with
  | 0 => ("WeighingPlates", "tape", "LWeighingPlates$Tape;", true)
  | 1 => ("WeighingPlates", "reader", "LWeighingPlates$Reader;", true)
  | 2 => ("WeighingPlates", "sight", "LWeighingPlates$Sight;", true)
  | 3 => ("WeighingPlates", "suspicion", "LWeighingPlates$Suspicion;", true)
  | 4 => ("WeighingPlates", "table", "LWeighingPlates$MaskTable;", true)
  | 5 => ("WeighingPlates", "shortest", "LWeighingPlates$Tour;", true)
  | 6 => ("WeighingPlates", "acts", "LWeighingPlates$Acts;", true)
  | 7 => ("WeighingPlates", "now", "LWeighingPlates$Bench;", false)
  | 8 => ("WeighingPlates", "ready", "Z", false)
  | 9 => ("WeighingPlates", "why", "I", false)
  | 10 => ("WeighingPlates", "latestFault", "I", false)
  | _ => ("WeighingPlates", "faultPlace", "I", false)
def fT1 : u_T := fun k => match k with
  | 0 => ("WeighingPlates$Tape", "bytes", "[I", true)
  | _ => ("WeighingPlates$Tape", "length", "I", false)
def fT2 : u_T := fun k => match k with
  | 0 => ("WeighingPlates$Reader", "foundFault", "I", false)
  | 1 => ("WeighingPlates$Reader", "foundPlace", "I", false)
  | 2 => ("WeighingPlates$Reader", "draft", "LWeighingPlates$Bench;", false)
  | 3 => ("WeighingPlates$Reader", "bytes", "[I", false)
  | 4 => ("WeighingPlates$Reader", "end", "I", false)
  | 5 => ("WeighingPlates$Reader", "sort", "I", false)
  | 6 => ("WeighingPlates$Reader", "from", "I", false)
  | 7 => ("WeighingPlates$Reader", "behind", "I", false)
  | 8 => ("WeighingPlates$Reader", "amount", "I", false)
  | 9 => ("WeighingPlates$Reader", "taken", "I", false)
  | 10 => ("WeighingPlates$Reader", "litBits", "I", false)
  | _ => ("WeighingPlates$Reader", "noisyBits", "I", false)
def fT3 : u_T := fun k => match k with
  | 0 => ("WeighingPlates$Bench", "colours", "I", false)
  | 1 => ("WeighingPlates$Bench", "kind", "I", false)
  | 2 => ("WeighingPlates$Bench", "dark", "I", false)
  | 3 => ("WeighingPlates$Bench", "top", "I", false)
  | 4 => ("WeighingPlates$Bench", "masks", "I", false)
  | 5 => ("WeighingPlates$Bench", "openBits", "I", false)
  | 6 => ("WeighingPlates$Bench", "shutBits", "I", false)
  | 7 => ("WeighingPlates$Bench", "lostBits", "I", false)
  | 8 => ("WeighingPlates$Bench", "plateBits", "[I", true)
  | 9 => ("WeighingPlates$Bench", "lights", "[I", true)
  | 10 => ("WeighingPlates$Bench", "noises", "[I", true)
  | _ => ("WeighingPlates$Bench", "maskBits", "[I", true)
def fT4 : u_T := fun k => match k with
  | 0 => ("WeighingPlates$Sight", "beams", "I", false)
  | 1 => ("WeighingPlates$Sight", "blinded", "I", false)
  | 2 => ("WeighingPlates$Sight", "logSize", "I", false)
  | 3 => ("WeighingPlates$Sight", "scanned", "Z", false)
  | 4 => ("WeighingPlates$Sight", "netSum", "J", false)
  | 5 => ("WeighingPlates$Sight", "logSets", "[I", true)
  | 6 => ("WeighingPlates$Sight", "logReads", "[I", true)
  | 7 => ("WeighingPlates$Sight", "readings", "[I", true)
  | 8 => ("WeighingPlates$Sight", "nets", "[I", true)
  | _ => ("WeighingPlates$Sight", "backs", "[J", true)
def fT5 : u_T := fun k => match k with
  | _ => ("WeighingPlates$Suspicion", "lights", "[I", true)
def fT6 : u_T := fun k => match k with
  | 0 => ("WeighingPlates$MaskTable", "independent", "I", false)
  | 1 => ("WeighingPlates$MaskTable", "toldBits", "I", false)
  | 2 => ("WeighingPlates$MaskTable", "scale", "J", false)
  | 3 => ("WeighingPlates$MaskTable", "tellers", "[I", true)
  | 4 => ("WeighingPlates$MaskTable", "rows", "[[J", true)
  | _ => ("WeighingPlates$MaskTable", "pivots", "[I", true)
def fT7 : u_T := fun k => match k with
  | 0 => ("WeighingPlates$Tour", "known", "Z", false)
  | 1 => ("WeighingPlates$Tour", "moves", "I", false)
  | 2 => ("WeighingPlates$Tour", "order", "[I", true)
  | 3 => ("WeighingPlates$Tour", "steps", "[I", true)
  | 4 => ("WeighingPlates$Tour", "rest", "[I", false)
  | _ => ("WeighingPlates$Tour", "count", "I", false)
def fT8 : u_T := fun k => match k with
  | 0 => ("WeighingPlates$Acts", "kept", "I", false)
  | 1 => ("WeighingPlates$Acts", "sorts", "[I", true)
  | 2 => ("WeighingPlates$Acts", "numbers", "[I", true)
  | _ => ("WeighingPlates$Acts", "befores", "[I", true)
def fT9 : u_T := fun k => match k with
  | 0 => ("WeighingPlatesModel", "thrown", "I", false)
  | 1 => ("WeighingPlatesModel", "trouble", "I", false)
  | 2 => ("WeighingPlatesModel", "wrongAt", "I", false)
  | 3 => ("WeighingPlatesModel", "up", "J", false)
  | 4 => ("WeighingPlatesModel", "lo", "J", false)
  | 5 => ("WeighingPlatesModel", "n", "I", false)
  | 6 => ("WeighingPlatesModel", "kind", "I", false)
  | 7 => ("WeighingPlatesModel", "dark", "I", false)
  | 8 => ("WeighingPlatesModel", "top", "I", false)
  | 9 => ("WeighingPlatesModel", "masks", "I", false)
  | 10 => ("WeighingPlatesModel", "plate", "[I", true)
  | 11 => ("WeighingPlatesModel", "noise", "[I", true)
  | 12 => ("WeighingPlatesModel", "mask", "[I", true)
  | 13 => ("WeighingPlatesModel", "readN", "I", false)
  | 14 => ("WeighingPlatesModel", "readKind", "I", false)
  | 15 => ("WeighingPlatesModel", "readDark", "I", false)
  | 16 => ("WeighingPlatesModel", "readTop", "I", false)
  | 17 => ("WeighingPlatesModel", "readMasks", "I", false)
  | 18 => ("WeighingPlatesModel", "readStuck", "I", false)
  | 19 => ("WeighingPlatesModel", "readNoisy", "I", false)
  | 20 => ("WeighingPlatesModel", "readGone", "I", false)
  | 21 => ("WeighingPlatesModel", "isLit", "I", false)
  | 22 => ("WeighingPlatesModel", "isStuck", "I", false)
  | 23 => ("WeighingPlatesModel", "isNoisy", "I", false)
  | 24 => ("WeighingPlatesModel", "readNoise", "[I", true)
  | 25 => ("WeighingPlatesModel", "readMask", "[I", true)
  | 26 => ("WeighingPlatesModel", "isThere", "Z", false)
  | 27 => ("WeighingPlatesModel", "x", "[I", true)
  | 28 => ("WeighingPlatesModel", "read", "[I", true)
  | 29 => ("WeighingPlatesModel", "past", "[I", true)
  | 30 => ("WeighingPlatesModel", "acts", "I", false)
  | 31 => ("WeighingPlatesModel", "tape", "[B", true)
  | 32 => ("WeighingPlatesModel", "taped", "I", false)
  | 33 => ("WeighingPlatesModel", "size", "I", false)
  | 34 => ("WeighingPlatesModel", "spot", "I", false)
  | 35 => ("WeighingPlatesModel", "token", "I", false)
  | 36 => ("WeighingPlatesModel", "at", "I", false)
  | 37 => ("WeighingPlatesModel", "number", "I", false)
  | 38 => ("WeighingPlatesModel", "fault", "I", false)
  | 39 => ("WeighingPlatesModel", "word", "J", false)
  | 40 => ("WeighingPlatesModel", "logSet", "[I", true)
  | 41 => ("WeighingPlatesModel", "logRead", "[I", true)
  | 42 => ("WeighingPlatesModel", "reading", "[I", true)
  | 43 => ("WeighingPlatesModel", "logged", "I", false)
  | 44 => ("WeighingPlatesModel", "beams", "I", false)
  | 45 => ("WeighingPlatesModel", "blinded", "I", false)
  | 46 => ("WeighingPlatesModel", "isScanned", "Z", false)
  | 47 => ("WeighingPlatesModel", "supposed", "[J", true)
  | 48 => ("WeighingPlatesModel", "ups", "[J", true)
  | 49 => ("WeighingPlatesModel", "los", "[J", true)
  | 50 => ("WeighingPlatesModel", "pivot", "[I", true)
  | 51 => ("WeighingPlatesModel", "rows", "I", false)
  | 52 => ("WeighingPlatesModel", "doAgree", "Z", false)
  | _ => ("WeighingPlatesModel", "togo", "[I", true)
abbrev clT : List vw_C := [("WeighingPlates", fT0, 12), ("WeighingPlates$Tape", fT1, 2), ("WeighingPlates$Reader", fT2, 12), ("WeighingPlates$Bench", fT3, 12), ("WeighingPlates$Sight", fT4, 10), ("WeighingPlates$Suspicion", fT5, 1), ("WeighingPlates$MaskTable", fT6, 6), ("WeighingPlates$Tour", fT7, 6), ("WeighingPlates$Acts", fT8, 4), ("WeighingPlatesModel", fT9, 54)]
-- kinds of fields: 0 int, 1 long, 2 reference, 3 boolean
def fkT : List (List Nat) := [[2, 2, 2, 2, 2, 2, 2, 2, 3, 0, 0, 0], [2, 0], [0, 0, 2, 2, 0, 0, 0, 0, 0, 0, 0, 0], [0, 0, 0, 0, 0, 0, 0, 0, 2, 2, 2, 2], [0, 0, 0, 3, 1, 2, 2, 2, 2, 2], [2], [0, 0, 1, 2, 2, 2], [3, 0, 2, 2, 2, 0], [0, 2, 2, 2], [0, 0, 0, 1, 1, 0, 0, 0, 0, 0, 2, 2, 2, 0, 0, 0, 0, 0, 0, 0, 0, 0, 0, 0, 2, 2, 3, 2, 2, 2, 0, 2, 0, 0, 0, 0, 0, 0, 0, 1, 2, 2, 2, 0, 0, 0, 3, 2, 2, 2, 2, 0, 3, 2]]
-- methods: numbers
abbrev m_ac_init : Nat := 0
abbrev m_ac_clear : Nat := 1
abbrev m_ac_note : Nat := 2
abbrev m_ac_dropOldest : Nat := 3
abbrev m_ac_takeBack : Nat := 4
abbrev m_bn_init : Nat := 5
abbrev m_bn_clear : Nat := 6
abbrev m_bn_makeDoubled : Nat := 7
abbrev m_bn_makeSquares : Nat := 8
abbrev m_bn_has : Nat := 9
abbrev m_bn_hasMask : Nat := 10
abbrev m_bn_isSet : Nat := 11
abbrev m_bn_isLost : Nat := 12
abbrev m_bn_lostCount : Nat := 13
abbrev m_bn_order : Nat := 14
abbrev m_bn_orderSquared : Nat := 15
abbrev m_bn_half : Nat := 16
abbrev m_bn_monitor : Nat := 17
abbrev m_bn_shutterOf : Nat := 18
abbrev m_bn_setShutter : Nat := 19
abbrev m_bn_readOf : Nat := 20
abbrev m_bn_aloneOf : Nat := 21
abbrev m_mt_init : Nat := 22
abbrev m_mt_build : Nat := 23
abbrev m_mt_tells : Nat := 24
abbrev m_mt_times : Nat := 25
abbrev m_mt_squares : Nat := 26
abbrev m_mt_sumOfLooks : Nat := 27
abbrev m_mt_allAgree : Nat := 28
abbrev m_mt_load : Nat := 29
abbrev m_mt_firstColour : Nat := 30
abbrev m_mt_clearPivot : Nat := 31
abbrev m_mt_findTold : Nat := 32
abbrev m_mt_hasOnlyPivot : Nat := 33
abbrev m_ra_part : Nat := 34
abbrev m_ra_isWhole : Nat := 35
abbrev m_ra_commonDivisor : Nat := 36
abbrev m_rd_init : Nat := 37
abbrev m_rd_readAll : Nat := 38
abbrev m_rd_fail : Nat := 39
abbrev m_rd_next : Nat := 40
abbrev m_rd_runOf : Nat := 41
abbrev m_rd_wholeOf : Nat := 42
abbrev m_rd_isWord : Nat := 43
abbrev m_rd_takeWord : Nat := 44
abbrev m_rd_takeWhole : Nat := 45
abbrev m_rd_takeNew : Nat := 46
abbrev m_rd_takeLine : Nat := 47
abbrev m_rd_takeBench : Nat := 48
abbrev m_rd_isPrimeOfBench : Nat := 49
abbrev m_rd_takeLight : Nat := 50
abbrev m_rd_takeStuck : Nat := 51
abbrev m_rd_takeNoise : Nat := 52
abbrev m_rd_takeLost : Nat := 53
abbrev m_rd_takeMask : Nat := 54
abbrev m_sg_init : Nat := 55
abbrev m_sg_startAnew : Nat := 56
abbrev m_sg_forget : Nat := 57
abbrev m_sg_lookAt : Nat := 58
abbrev m_sg_keep : Nat := 59
abbrev m_sg_scanAll : Nat := 60
abbrev m_sg_findNets : Nat := 61
abbrev m_sg_findBacks : Nat := 62
abbrev m_sg_errorOf : Nat := 63
abbrev m_su_init : Nat := 64
abbrev m_su_count : Nat := 65
abbrev m_su_numberOf : Nat := 66
abbrev m_su_holds : Nat := 67
abbrev m_su_supposeFine : Nat := 68
abbrev m_su_supposeOpen : Nat := 69
abbrev m_su_supposeShut : Nat := 70
abbrev m_su_put : Nat := 71
abbrev m_su_sumIsRight : Nat := 72
abbrev m_su_logIsRight : Nat := 73
abbrev m_tp_init : Nat := 74
abbrev m_tp_hasRoom : Nat := 75
abbrev m_tp_put : Nat := 76
abbrev m_tr_init : Nat := 77
abbrev m_tr_find : Nat := 78
abbrev m_tr_findSteps : Nat := 79
abbrev m_tr_fewestFrom : Nat := 80
abbrev m_tr_movesBy : Nat := 81
abbrev m_tr_walk : Nat := 82
abbrev m_tr_nextOf : Nat := 83
abbrev m_w_init : Nat := 84
abbrev m_w_feed : Nat := 85
abbrev m_w_bench : Nat := 86
abbrev m_w_fault : Nat := 87
abbrev m_w_where : Nat := 88
abbrev m_w_about : Nat := 89
abbrev m_w_plate : Nat := 90
abbrev m_w_common : Nat := 91
abbrev m_w_which : Nat := 92
abbrev m_w_apart : Nat := 93
abbrev m_w_odd : Nat := 94
abbrev m_w_light : Nat := 95
abbrev m_w_shutter : Nat := 96
abbrev m_w_noise : Nat := 97
abbrev m_w_lost : Nat := 98
abbrev m_w_look : Nat := 99
abbrev m_w_logged : Nat := 100
abbrev m_w_scan : Nat := 101
abbrev m_w_blinds : Nat := 102
abbrev m_w_reading : Nat := 103
abbrev m_w_net : Nat := 104
abbrev m_w_back : Nat := 105
abbrev m_w_odds : Nat := 106
abbrev m_w_more : Nat := 107
abbrev m_w_error : Nat := 108
abbrev m_w_errors : Nat := 109
abbrev m_w_worst : Nat := 110
abbrev m_w_share : Nat := 111
abbrev m_w_grains : Nat := 112
abbrev m_w_better : Nat := 113
abbrev m_w_alone : Nat := 114
abbrev m_w_alones : Nat := 115
abbrev m_w_closer : Nat := 116
abbrev m_w_suspects : Nat := 117
abbrev m_w_suspect : Nat := 118
abbrev m_w_supposed : Nat := 119
abbrev m_w_mask : Nat := 120
abbrev m_w_rank : Nat := 121
abbrev m_w_told : Nat := 122
abbrev m_w_solved : Nat := 123
abbrev m_w_factor : Nat := 124
abbrev m_w_shareBy : Nat := 125
abbrev m_w_fewer : Nat := 126
abbrev m_w_agree : Nat := 127
abbrev m_w_tour : Nat := 128
abbrev m_w_tourAt : Nat := 129
abbrev m_w_sign : Nat := 130
abbrev m_w_shine : Nat := 131
abbrev m_w_stick : Nat := 132
abbrev m_w_lose : Nat := 133
abbrev m_w_undo : Nat := 134
abbrev m_w_stuck : Nat := 135
abbrev m_w_size : Nat := 136
abbrev m_w_trouble : Nat := 137
abbrev m_w_settle : Nat := 138
abbrev m_w_haveBench : Nat := 139
abbrev m_w_haveOne : Nat := 140
abbrev m_w_haveSet : Nat := 141
abbrev m_w_haveBacks : Nat := 142
abbrev m_w_haveBackOf : Nat := 143
abbrev m_w_haveSuspects : Nat := 144
abbrev m_w_haveTold : Nat := 145
abbrev m_r_init : Nat := 146
abbrev m_r_thrown : Nat := 147
abbrev m_r_refused : Nat := 148
abbrev m_r_refusedLong : Nat := 149
abbrev m_r_good : Nat := 150
abbrev m_r_in : Nat := 151
abbrev m_r_has : Nat := 152
abbrev m_r_many : Nat := 153
abbrev m_r_divisor : Nat := 154
abbrev m_r_sets : Nat := 155
abbrev m_r_part : Nat := 156
abbrev m_r_byteAt : Nat := 157
abbrev m_r_next : Nat := 158
abbrev m_r_nextWord : Nat := 159
abbrev m_r_nextWhole : Nat := 160
abbrev m_r_nextSign : Nat := 161
abbrev m_r_flaw : Nat := 162
abbrev m_r_isWord : Nat := 163
abbrev m_r_needs : Nat := 164
abbrev m_r_wholeAt : Nat := 165
abbrev m_r_readWhole : Nat := 166
abbrev m_r_readNew : Nat := 167
abbrev m_r_readAll : Nat := 168
abbrev m_r_readLine : Nat := 169
abbrev m_r_begins : Nat := 170
abbrev m_r_readBench : Nat := 171
abbrev m_r_readOrder : Nat := 172
abbrev m_r_readLight : Nat := 173
abbrev m_r_readStuckOne : Nat := 174
abbrev m_r_readNoiseOf : Nat := 175
abbrev m_r_readLost : Nat := 176
abbrev m_r_readMaskOf : Nat := 177
abbrev m_r_feed : Nat := 178
abbrev m_r_bench : Nat := 179
abbrev m_r_takesOver : Nat := 180
abbrev m_r_laysDoubled : Nat := 181
abbrev m_r_laysSquares : Nat := 182
abbrev m_r_fault : Nat := 183
abbrev m_r_where : Nat := 184
abbrev m_r_monitor : Nat := 185
abbrev m_r_about : Nat := 186
abbrev m_r_isOne : Nat := 187
abbrev m_r_isSet : Nat := 188
abbrev m_r_plate : Nat := 189
abbrev m_r_common : Nat := 190
abbrev m_r_which : Nat := 191
abbrev m_r_apart : Nat := 192
abbrev m_r_odd : Nat := 193
abbrev m_r_light : Nat := 194
abbrev m_r_shutter : Nat := 195
abbrev m_r_noise : Nat := 196
abbrev m_r_lost : Nat := 197
abbrev m_r_ends : Nat := 198
abbrev m_r_through : Nat := 199
abbrev m_r_looks : Nat := 200
abbrev m_r_look : Nat := 201
abbrev m_r_logged : Nat := 202
abbrev m_r_scan : Nat := 203
abbrev m_r_blinds : Nat := 204
abbrev m_r_refusedLow : Nat := 205
abbrev m_r_reading : Nat := 206
abbrev m_r_losses : Nat := 207
abbrev m_r_netSum : Nat := 208
abbrev m_r_netOf : Nat := 209
abbrev m_r_net : Nat := 210
abbrev m_r_refuses : Nat := 211
abbrev m_r_netAll : Nat := 212
abbrev m_r_partsOf : Nat := 213
abbrev m_r_errorParts : Nat := 214
abbrev m_r_back : Nat := 215
abbrev m_r_odds : Nat := 216
abbrev m_r_more : Nat := 217
abbrev m_r_error : Nat := 218
abbrev m_r_errors : Nat := 219
abbrev m_r_plain : Nat := 220
abbrev m_r_worst : Nat := 221
abbrev m_r_share : Nat := 222
abbrev m_r_grains : Nat := 223
abbrev m_r_better : Nat := 224
abbrev m_r_aloneOf : Nat := 225
abbrev m_r_offAlone : Nat := 226
abbrev m_r_alone : Nat := 227
abbrev m_r_alones : Nat := 228
abbrev m_r_closer : Nat := 229
abbrev m_r_isSuspect : Nat := 230
abbrev m_r_supposes : Nat := 231
abbrev m_r_supposesFine : Nat := 232
abbrev m_r_supposesOpen : Nat := 233
abbrev m_r_supposesShut : Nat := 234
abbrev m_r_areLights : Nat := 235
abbrev m_r_areSeen : Nat := 236
abbrev m_r_supposedRead : Nat := 237
abbrev m_r_refusesSuspects : Nat := 238
abbrev m_r_suspectNumber : Nat := 239
abbrev m_r_suspects : Nat := 240
abbrev m_r_suspect : Nat := 241
abbrev m_r_supposed : Nat := 242
abbrev m_r_puts : Nat := 243
abbrev m_r_clears : Nat := 244
abbrev m_r_laysRows : Nat := 245
abbrev m_r_laysRow : Nat := 246
abbrev m_r_rowOf : Nat := 247
abbrev m_r_mask : Nat := 248
abbrev m_r_rank : Nat := 249
abbrev m_r_told : Nat := 250
abbrev m_r_solved : Nat := 251
abbrev m_r_factor : Nat := 252
abbrev m_r_squaresOf : Nat := 253
abbrev m_r_shareBy : Nat := 254
abbrev m_r_fewer : Nat := 255
abbrev m_r_agree : Nat := 256
abbrev m_r_movesTo : Nat := 257
abbrev m_r_goes : Nat := 258
abbrev m_r_laysTours : Nat := 259
abbrev m_r_tour : Nat := 260
abbrev m_r_tourAt : Nat := 261
abbrev m_r_sign : Nat := 262
abbrev m_r_signAt : Nat := 263
abbrev m_r_remembers : Nat := 264
abbrev m_r_changed : Nat := 265
abbrev m_r_shine : Nat := 266
abbrev m_r_stick : Nat := 267
abbrev m_r_lose : Nat := 268
abbrev m_r_undo : Nat := 269
abbrev m_r_stuck : Nat := 270
abbrev m_r_size : Nat := 271
abbrev m_r_trouble : Nat := 272
abbrev m_ji_bitCount : Nat := 273
abbrev m_js_length : Nat := 274
abbrev m_js_charAt : Nat := 275
abbrev m_js_coder : Nat := 276
abbrev m_js_isLatin1 : Nat := 277
abbrev m_js_checkIndex : Nat := 278
abbrev m_jl_charAt : Nat := 279
abbrev m_jp_checkIndex : Nat := 280
abbrev m_l_law : Nat := 281
-- private constructors of nest mates: own, pool index, method
def nestT : List (String × Nat × MethodName) := [("WeighingPlates", 9, ⟨"WeighingPlates$Tape", "<init>", "()V"⟩), ("WeighingPlates", 18, ⟨"WeighingPlates$Reader", "<init>", "()V"⟩), ("WeighingPlates", 25, ⟨"WeighingPlates$Sight", "<init>", "()V"⟩), ("WeighingPlates", 32, ⟨"WeighingPlates$Suspicion", "<init>", "()V"⟩), ("WeighingPlates", 39, ⟨"WeighingPlates$MaskTable", "<init>", "()V"⟩), ("WeighingPlates", 46, ⟨"WeighingPlates$Tour", "<init>", "()V"⟩), ("WeighingPlates", 53, ⟨"WeighingPlates$Acts", "<init>", "()V"⟩), ("WeighingPlates", 60, ⟨"WeighingPlates$Bench", "<init>", "()V"⟩), ("WeighingPlates$Reader", 20, ⟨"WeighingPlates$Bench", "<init>", "()V"⟩)]
abbrev nStr : Nat := 15
def strB : List (List Int32) := [[110, 111, 32, 115, 117, 99, 104, 32, 99, 111, 108, 111, 117, 114, 32, 105, 115, 32, 115, 116, 117, 99, 107], [98, 101, 110, 99, 104], [108, 105, 103, 104, 116], [115, 116, 117, 99, 107], [110, 111, 105, 115, 101], [108, 111, 115, 116], [109, 97, 115, 107], [100, 111, 117, 98, 108, 101, 100], [115, 113, 117, 97, 114, 101, 115], [100, 97, 114, 107], [116, 111, 112], [111, 112, 101, 110], [115, 104, 117, 116], [112, 108, 117, 115], [108, 101, 115, 115]]
def strN : List Nat := [23, 5, 5, 5, 5, 4, 4, 7, 7, 4, 3, 4, 4, 4, 4]
-- the places where a text is loaded: its own, pool index, text, number of the text
def ldT : List (String × Nat × String × Nat) := [("WeighingPlates", 354, "no such colour is stuck", 0), ("WeighingPlates$Reader", 105, "bench", 1), ("WeighingPlates$Reader", 110, "light", 2), ("WeighingPlates$Reader", 112, "stuck", 3), ("WeighingPlates$Reader", 114, "noise", 4), ("WeighingPlates$Reader", 116, "lost", 5), ("WeighingPlates$Reader", 118, "mask", 6), ("WeighingPlates$Reader", 135, "doubled", 7), ("WeighingPlates$Reader", 137, "squares", 8), ("WeighingPlates$Reader", 142, "dark", 9), ("WeighingPlates$Reader", 149, "top", 10), ("WeighingPlates$Reader", 181, "open", 11), ("WeighingPlates$Reader", 183, "shut", 12), ("WeighingPlates$Reader", 189, "plus", 13), ("WeighingPlates$Reader", 191, "less", 14), ("WeighingPlatesModel", 189, "bench", 1), ("WeighingPlatesModel", 194, "light", 2), ("WeighingPlatesModel", 199, "stuck", 3), ("WeighingPlatesModel", 204, "noise", 4), ("WeighingPlatesModel", 208, "lost", 5), ("WeighingPlatesModel", 213, "mask", 6), ("WeighingPlatesModel", 217, "doubled", 7), ("WeighingPlatesModel", 219, "squares", 8), ("WeighingPlatesModel", 227, "dark", 9), ("WeighingPlatesModel", 233, "top", 10), ("WeighingPlatesModel", 252, "open", 11), ("WeighingPlatesModel", 254, "shut", 12), ("WeighingPlatesModel", 256, "plus", 13), ("WeighingPlatesModel", 258, "less", 14)]
def T_ac_init : List Row := [r0 0 (.aload_n 0) 1, rX 1 (.invokespecial 3) 4 0 4 408, r0 4 (.aload_n 0) 5, r0 5 (.iconst 0) 6, rX 6 (.putfield 9) 9 8 0 409, r0 9 (.aload_n 0) 10, rX 10 (.bipush 10) 12 10 0 0, r0 12 (.newarray .int) 14,
  rX 14 (.putfield 15) 17 8 1 411, r0 17 (.aload_n 0) 18, rX 18 (.bipush 10) 20 10 0 0, r0 20 (.newarray .int) 22, rX 22 (.putfield 19) 25 8 2 412, r0 25 (.aload_n 0) 26, rX 26 (.bipush 10) 28 10 0 0, r0 28 (.newarray .int) 30,
  rX 30 (.putfield 22) 33 8 3 413, r0 33 (.return_) 34]
def T_ac_clear : List Row := [r0 0 (.aload_n 0) 1, r0 1 (.iconst 0) 2, rX 2 (.putfield 9) 5 8 0 409, r0 5 (.return_) 6]
def T_ac_note : List Row := [r0 0 (.aload_n 0) 1, rX 1 (.getfield 9) 4 8 0 409, rX 4 (.bipush 10) 6 10 0 0, rX 6 (.if_icmp .lt 7) 9 13 0 0, r0 9 (.aload_n 0) 10, rX 10 (.invokevirtual 25) 13 3 0 1088, r0 13 (.aload_n 0) 14, rX 14 (.getfield 15) 17 8 1 411,
  r0 17 (.aload_n 0) 18, rX 18 (.getfield 9) 21 8 0 409, r0 21 (.iload_n 1) 22, r0 22 (.iastore) 23, r0 23 (.aload_n 0) 24, rX 24 (.getfield 19) 27 8 2 412, r0 27 (.aload_n 0) 28, rX 28 (.getfield 9) 31 8 0 409,
  r0 31 (.iload_n 2) 32, r0 32 (.iastore) 33, r0 33 (.aload_n 0) 34, rX 34 (.getfield 22) 37 8 3 413, r0 37 (.aload_n 0) 38, rX 38 (.getfield 9) 41 8 0 409, r0 41 (.iload_n 3) 42, r0 42 (.iastore) 43,
  r0 43 (.aload_n 0) 44, r0 44 (.dup) 45, rX 45 (.getfield 9) 48 8 0 409, rX 48 (.iconst 1) 49 1 0 0, r0 49 (.iadd) 50, rX 50 (.putfield 9) 53 8 0 409, r0 53 (.return_) 54]
def T_ac_dropOldest : List Row := [rX 0 (.iconst 1) 1 1 0 0, r0 1 (.istore_n 1) 2, rH 2 (.iload_n 1) 3 0 0 0 0, rX 3 (.bipush 10) 5 10 0 0, rX 5 (.if_icmp .ge 51) 8 56 0 0, r0 8 (.aload_n 0) 9, rX 9 (.getfield 15) 12 8 1 411, r0 12 (.iload_n 1) 13,
  rX 13 (.iconst 1) 14 1 0 0, r0 14 (.isub) 15, r0 15 (.aload_n 0) 16, rX 16 (.getfield 15) 19 8 1 411, r0 19 (.iload_n 1) 20, r0 20 (.iaload) 21, r0 21 (.iastore) 22, r0 22 (.aload_n 0) 23,
  rX 23 (.getfield 19) 26 8 2 412, r0 26 (.iload_n 1) 27, rX 27 (.iconst 1) 28 1 0 0, r0 28 (.isub) 29, r0 29 (.aload_n 0) 30, rX 30 (.getfield 19) 33 8 2 412, r0 33 (.iload_n 1) 34, r0 34 (.iaload) 35,
  r0 35 (.iastore) 36, r0 36 (.aload_n 0) 37, rX 37 (.getfield 22) 40 8 3 413, r0 40 (.iload_n 1) 41, rX 41 (.iconst 1) 42 1 0 0, r0 42 (.isub) 43, r0 43 (.aload_n 0) 44, rX 44 (.getfield 22) 47 8 3 413,
  r0 47 (.iload_n 1) 48, r0 48 (.iaload) 49, r0 49 (.iastore) 50, rX 50 (.iinc 1 1) 53 1 0 0, rX 53 (.goto (-51)) 56 2 0 0, r0 56 (.aload_n 0) 57, rX 57 (.bipush 9) 59 9 0 0, rX 59 (.putfield 9) 62 8 0 409,
  r0 62 (.return_) 63]
def T_ac_takeBack : List Row := [r0 0 (.aload_n 0) 1, rX 1 (.getfield 9) 4 8 0 409, rX 4 (.ifCond .gt 4) 7 8 0 0, r0 7 (.return_) 8, r0 8 (.aload_n 0) 9, r0 9 (.dup) 10, rX 10 (.getfield 9) 13 8 0 409, rX 13 (.iconst 1) 14 1 0 0,
  r0 14 (.isub) 15, rX 15 (.putfield 9) 18 8 0 409, r0 18 (.aload_n 0) 19, rX 19 (.getfield 19) 22 8 2 412, r0 22 (.aload_n 0) 23, rX 23 (.getfield 9) 26 8 0 409, r0 26 (.iaload) 27, r0 27 (.istore_n 2) 28,
  r0 28 (.aload_n 0) 29, rX 29 (.getfield 15) 32 8 1 411, r0 32 (.aload_n 0) 33, rX 33 (.getfield 9) 36 8 0 409, r0 36 (.iaload) 37, rX 37 (.ifCond .ne 29) 40 66 0 0, r0 40 (.aload_n 1) 41, r0 41 (.iload_n 2) 42,
  rX 42 (.invokevirtual 28) 45 9 0 1110, rX 45 (.ifCond .eq 21) 48 66 0 0, r0 48 (.aload_n 1) 49, rX 49 (.getfield 34) 52 3 9 203, r0 52 (.iload_n 2) 53, r0 53 (.aload_n 0) 54, rX 54 (.getfield 22) 57 8 3 413, r0 57 (.aload_n 0) 58,
  rX 58 (.getfield 9) 61 8 0 409, r0 61 (.iaload) 62, r0 62 (.iastore) 63, rX 63 (.goto 47) 66 110 0 0, r0 66 (.aload_n 0) 67, rX 67 (.getfield 15) 70 8 1 411, r0 70 (.aload_n 0) 71, rX 71 (.getfield 9) 74 8 0 409,
  r0 74 (.iaload) 75, rX 75 (.iconst 1) 76 1 0 0, rX 76 (.if_icmp .ne 20) 79 96 0 0, r0 79 (.aload_n 1) 80, r0 80 (.iload_n 2) 81, r0 81 (.aload_n 0) 82, rX 82 (.getfield 22) 85 8 3 413, r0 85 (.aload_n 0) 86,
  rX 86 (.getfield 9) 89 8 0 409, r0 89 (.iaload) 90, rX 90 (.invokevirtual 37) 93 19 0 1111, rX 93 (.goto 17) 96 110 0 0, r0 96 (.aload_n 1) 97, r0 97 (.dup) 98, rX 98 (.getfield 41) 101 3 7 196, rX 101 (.iconst 1) 102 1 0 0,
  r0 102 (.iload_n 2) 103, r0 103 (.ishl) 104, rX 104 (.iconst (-1)) 105 1 1 0, r0 105 (.ixor) 106, r0 106 (.iand) 107, rX 107 (.putfield 41) 110 3 7 196, r0 110 (.return_) 111]
def T_bn_init : List Row := [r0 0 (.aload_n 0) 1, rX 1 (.invokespecial 3) 4 0 4 167, r0 4 (.aload_n 0) 5, r0 5 (.iconst 0) 6, rX 6 (.putfield 9) 9 3 0 168, r0 9 (.aload_n 0) 10, r0 10 (.iconst 0) 11, rX 11 (.putfield 15) 14 3 1 174,
  r0 14 (.aload_n 0) 15, r0 15 (.iconst 0) 16, rX 16 (.putfield 18) 19 3 2 176, r0 19 (.aload_n 0) 20, r0 20 (.iconst 0) 21, rX 21 (.putfield 21) 24 3 3 182, r0 24 (.aload_n 0) 25, r0 25 (.iconst 0) 26,
  rX 26 (.putfield 24) 29 3 4 186, r0 29 (.aload_n 0) 30, r0 30 (.iconst 0) 31, rX 31 (.putfield 27) 34 3 5 191, r0 34 (.aload_n 0) 35, r0 35 (.iconst 0) 36, rX 36 (.putfield 30) 39 3 6 193, r0 39 (.aload_n 0) 40,
  r0 40 (.iconst 0) 41, rX 41 (.putfield 33) 44 3 7 195, r0 44 (.aload_n 0) 45, rX 45 (.bipush 31) 47 31 0 0, r0 47 (.newarray .int) 49, rX 49 (.putfield 36) 52 3 8 199, r0 52 (.aload_n 0) 53, rX 53 (.bipush 31) 55 31 0 0,
  r0 55 (.newarray .int) 57, rX 57 (.putfield 40) 60 3 9 202, r0 60 (.aload_n 0) 61, rX 61 (.bipush 31) 63 31 0 0, r0 63 (.newarray .int) 65, rX 65 (.putfield 43) 68 3 10 207, r0 68 (.aload_n 0) 69, rX 69 (.bipush 12) 71 12 0 0,
  r0 71 (.newarray .int) 73, rX 73 (.putfield 46) 76 3 11 211, r0 76 (.return_) 77]
def T_bn_clear : List Row := [r0 0 (.aload_n 0) 1, r0 1 (.iconst 0) 2, rX 2 (.putfield 9) 5 3 0 168, r0 5 (.aload_n 0) 6, r0 6 (.iconst 0) 7, rX 7 (.putfield 15) 10 3 1 174, r0 10 (.aload_n 0) 11, r0 11 (.iconst 0) 12,
  rX 12 (.putfield 18) 15 3 2 176, r0 15 (.aload_n 0) 16, r0 16 (.iconst 0) 17, rX 17 (.putfield 21) 20 3 3 182, r0 20 (.aload_n 0) 21, r0 21 (.iconst 0) 22, rX 22 (.putfield 24) 25 3 4 186, r0 25 (.aload_n 0) 26,
  r0 26 (.iconst 0) 27, rX 27 (.putfield 27) 30 3 5 191, r0 30 (.aload_n 0) 31, r0 31 (.iconst 0) 32, rX 32 (.putfield 30) 35 3 6 193, r0 35 (.aload_n 0) 36, r0 36 (.iconst 0) 37, rX 37 (.putfield 33) 40 3 7 195,
  r0 40 (.iconst 0) 41, r0 41 (.istore_n 1) 42, rH 42 (.iload_n 1) 43 0 0 0 0, rX 43 (.bipush 31) 45 31 0 0, rX 45 (.if_icmp .ge 30) 48 75 0 0, r0 48 (.aload_n 0) 49, rX 49 (.getfield 36) 52 3 8 199, r0 52 (.iload_n 1) 53,
  r0 53 (.iconst 0) 54, r0 54 (.iastore) 55, r0 55 (.aload_n 0) 56, rX 56 (.getfield 40) 59 3 9 202, r0 59 (.iload_n 1) 60, r0 60 (.iconst 0) 61, r0 61 (.iastore) 62, r0 62 (.aload_n 0) 63,
  rX 63 (.getfield 43) 66 3 10 207, r0 66 (.iload_n 1) 67, r0 67 (.iconst 0) 68, r0 68 (.iastore) 69, rX 69 (.iinc 1 1) 72 1 0 0, rX 72 (.goto (-30)) 75 42 0 0, r0 75 (.return_) 76]
def T_bn_makeDoubled : List Row := [r0 0 (.aload_n 0) 1, r0 1 (.iconst 0) 2, rX 2 (.putfield 15) 5 3 1 174, r0 5 (.aload_n 0) 6, rX 6 (.iconst 1) 7 1 0 0, r0 7 (.iload_n 1) 8, r0 8 (.ishl) 9, rX 9 (.iconst 1) 10 1 0 0,
  r0 10 (.isub) 11, rX 11 (.bipush 31) 13 31 0 0, rX 13 (.invokestatic 49) 16 0 6 592, rX 16 (.putfield 9) 19 3 0 168, r0 19 (.iconst 0) 20, r0 20 (.istore_n 2) 21, rH 21 (.iload_n 2) 22 0 0 0 0, r0 22 (.aload_n 0) 23,
  rX 23 (.getfield 9) 26 3 0 168, rX 26 (.if_icmp .ge 55) 29 81 0 0, r0 29 (.iconst 0) 30, r0 30 (.istore_n 3) 31, r0 31 (.iconst 0) 32, r0 32 (.istore 4) 34, rH 34 (.iload 4) 36 0 0 0 0, r0 36 (.aload_n 0) 37,
  rX 37 (.getfield 9) 40 3 0 168, rX 40 (.if_icmp .ge 28) 43 68 0 0, r0 43 (.iload_n 3) 44, r0 44 (.iload_n 2) 45, rX 45 (.iconst 1) 46 1 0 0, r0 46 (.iadd) 47, r0 47 (.iload 4) 49, rX 49 (.iconst 1) 50 1 0 0,
  r0 50 (.iadd) 51, r0 51 (.iand) 52, rX 52 (.invokestatic 55) 55 273 1 593, rX 55 (.iconst 1) 56 1 0 0, r0 56 (.iand) 57, r0 57 (.iload 4) 59, r0 59 (.ishl) 60, r0 60 (.ior) 61,
  r0 61 (.istore_n 3) 62, rX 62 (.iinc 4 1) 65 1 0 0, rX 65 (.goto (-31)) 68 34 0 0, r0 68 (.aload_n 0) 69, rX 69 (.getfield 36) 72 3 8 199, r0 72 (.iload_n 2) 73, r0 73 (.iload_n 3) 74, r0 74 (.iastore) 75,
  rX 75 (.iinc 2 1) 78 1 0 0, rX 78 (.goto (-57)) 81 21 0 0, r0 81 (.return_) 82]
def T_bn_makeSquares : List Row := [r0 0 (.aload_n 0) 1, rX 1 (.iconst 1) 2 1 0 0, rX 2 (.putfield 15) 5 3 1 174, r0 5 (.aload_n 0) 6, r0 6 (.iload_n 1) 7, rX 7 (.bipush 31) 9 31 0 0, rX 9 (.invokestatic 49) 12 0 6 592, rX 12 (.putfield 9) 15 3 0 168,
  rX 15 (.iconst 1) 16 1 0 0, r0 16 (.istore_n 2) 17, rX 17 (.iconst 1) 18 1 0 0, r0 18 (.istore_n 3) 19, rH 19 (.iload_n 3) 20 0 0 0 0, r0 20 (.aload_n 0) 21, rX 21 (.getfield 9) 24 3 0 168, rX 24 (.if_icmp .ge 22) 27 46 0 0,
  r0 27 (.iload_n 2) 28, rX 28 (.iconst 1) 29 1 0 0, r0 29 (.iload_n 3) 30, r0 30 (.iload_n 3) 31, r0 31 (.imul) 32, r0 32 (.aload_n 0) 33, rX 33 (.getfield 9) 36 3 0 168, r0 36 (.irem) 37,
  r0 37 (.ishl) 38, r0 38 (.ior) 39, r0 39 (.istore_n 2) 40, rX 40 (.iinc 3 1) 43 1 0 0, rX 43 (.goto (-24)) 46 19 0 0, r0 46 (.iconst 0) 47, r0 47 (.istore_n 3) 48, rH 48 (.iload_n 3) 49 0 0 0 0,
  r0 49 (.aload_n 0) 50, rX 50 (.getfield 9) 53 3 0 168, rX 53 (.if_icmp .ge 59) 56 112 0 0, r0 56 (.iconst 0) 57, r0 57 (.istore 4) 59, r0 59 (.iconst 0) 60, r0 60 (.istore 5) 62, rH 62 (.iload 5) 64 0 0 0 0,
  r0 64 (.aload_n 0) 65, rX 65 (.getfield 9) 68 3 0 168, rX 68 (.if_icmp .ge 30) 71 98 0 0, r0 71 (.iload 4) 73, r0 73 (.iload_n 2) 74, r0 74 (.iload_n 3) 75, r0 75 (.iload 5) 77, r0 77 (.iadd) 78,
  r0 78 (.aload_n 0) 79, rX 79 (.getfield 9) 82 3 0 168, r0 82 (.irem) 83, r0 83 (.ishr) 84, rX 84 (.iconst 1) 85 1 0 0, r0 85 (.iand) 86, r0 86 (.iload 5) 88, r0 88 (.ishl) 89,
  r0 89 (.ior) 90, r0 90 (.istore 4) 92, rX 92 (.iinc 5 1) 95 1 0 0, rX 95 (.goto (-33)) 98 62 0 0, r0 98 (.aload_n 0) 99, rX 99 (.getfield 36) 102 3 8 199, r0 102 (.iload_n 3) 103, r0 103 (.iload 4) 105,
  r0 105 (.iastore) 106, rX 106 (.iinc 3 1) 109 1 0 0, rX 109 (.goto (-61)) 112 48 0 0, r0 112 (.return_) 113]
def T_bn_has : List Row := [r0 0 (.iload_n 1) 1, rX 1 (.ifCond .lt 15) 4 16 0 0, r0 4 (.iload_n 1) 5, r0 5 (.aload_n 0) 6, rX 6 (.getfield 9) 9 3 0 168, rX 9 (.if_icmp .ge 7) 12 16 0 0, rX 12 (.iconst 1) 13 1 0 0, rX 13 (.goto 4) 16 17 0 0,
  r0 16 (.iconst 0) 17, r0 17 (.ireturn) 18]
def T_bn_hasMask : List Row := [r0 0 (.iload_n 1) 1, rX 1 (.ifCond .lt 15) 4 16 0 0, r0 4 (.iload_n 1) 5, r0 5 (.aload_n 0) 6, rX 6 (.getfield 24) 9 3 4 186, rX 9 (.if_icmp .ge 7) 12 16 0 0, rX 12 (.iconst 1) 13 1 0 0, rX 13 (.goto 4) 16 17 0 0,
  r0 16 (.iconst 0) 17, r0 17 (.ireturn) 18]
def T_bn_isSet : List Row := [r0 0 (.iload_n 1) 1, rX 1 (.ifCond .lt 16) 4 17 0 0, r0 4 (.iload_n 1) 5, r0 5 (.aload_n 0) 6, rX 6 (.getfield 9) 9 3 0 168, r0 9 (.iushr) 10, rX 10 (.ifCond .ne 7) 13 17 0 0, rX 13 (.iconst 1) 14 1 0 0,
  rX 14 (.goto 4) 17 18 0 0, r0 17 (.iconst 0) 18, r0 18 (.ireturn) 19]
def T_bn_isLost : List Row := [r0 0 (.aload_n 0) 1, rX 1 (.getfield 33) 4 3 7 195, r0 4 (.iload_n 1) 5, r0 5 (.ishr) 6, rX 6 (.iconst 1) 7 1 0 0, r0 7 (.iand) 8, rX 8 (.iconst 1) 9 1 0 0, rX 9 (.if_icmp .ne 7) 12 16 0 0,
  rX 12 (.iconst 1) 13 1 0 0, rX 13 (.goto 4) 16 17 0 0, r0 16 (.iconst 0) 17, r0 17 (.ireturn) 18]
def T_bn_lostCount : List Row := [r0 0 (.aload_n 0) 1, rX 1 (.getfield 33) 4 3 7 195, rX 4 (.invokestatic 55) 7 273 1 593, r0 7 (.ireturn) 8]
def T_bn_order : List Row := [r0 0 (.aload_n 0) 1, rX 1 (.getfield 9) 4 3 0 168, rX 4 (.iconst 1) 5 1 0 0, r0 5 (.iadd) 6, r0 6 (.i2l) 7, r0 7 (.lreturn) 8]
def T_bn_orderSquared : List Row := [r0 0 (.aload_n 0) 1, rX 1 (.invokevirtual 61) 4 14 0 882, r0 4 (.aload_n 0) 5, rX 5 (.invokevirtual 61) 8 14 0 882, r0 8 (.lmul) 9, r0 9 (.lreturn) 10]
def T_bn_half : List Row := [r0 0 (.aload_n 0) 1, rX 1 (.getfield 9) 4 3 0 168, rX 4 (.iconst 1) 5 1 0 0, r0 5 (.iadd) 6, rX 6 (.iconst 2) 7 2 0 0, r0 7 (.idiv) 8, r0 8 (.ireturn) 9]
def T_bn_monitor : List Row := [r0 0 (.iconst 0) 1, r0 1 (.istore_n 1) 2, r0 2 (.iconst 0) 3, r0 3 (.istore_n 2) 4, rH 4 (.iload_n 2) 5 0 0 0 0, r0 5 (.aload_n 0) 6, rX 6 (.getfield 9) 9 3 0 168, rX 9 (.if_icmp .ge 18) 12 27 0 0,
  r0 12 (.iload_n 1) 13, r0 13 (.aload_n 0) 14, rX 14 (.getfield 40) 17 3 9 202, r0 17 (.iload_n 2) 18, r0 18 (.iaload) 19, r0 19 (.iadd) 20, r0 20 (.istore_n 1) 21, rX 21 (.iinc 2 1) 24 1 0 0,
  rX 24 (.goto (-20)) 27 4 0 0, r0 27 (.iload_n 1) 28, r0 28 (.ireturn) 29]
def T_bn_shutterOf : List Row := [r0 0 (.aload_n 0) 1, rX 1 (.getfield 27) 4 3 5 191, r0 4 (.iload_n 1) 5, r0 5 (.ishr) 6, rX 6 (.iconst 1) 7 1 0 0, r0 7 (.iand) 8, rX 8 (.iconst 1) 9 1 0 0, rX 9 (.if_icmp .ne 5) 12 14 0 0,
  rX 12 (.iconst 1) 13 1 0 0, r0 13 (.ireturn) 14, r0 14 (.aload_n 0) 15, rX 15 (.getfield 30) 18 3 6 193, r0 18 (.iload_n 1) 19, r0 19 (.ishr) 20, rX 20 (.iconst 1) 21 1 0 0, r0 21 (.iand) 22,
  rX 22 (.iconst 1) 23 1 0 0, rX 23 (.if_icmp .ne 7) 26 30 0 0, rX 26 (.iconst 2) 27 2 0 0, rX 27 (.goto 4) 30 31 0 0, r0 30 (.iconst 0) 31, r0 31 (.ireturn) 32]
def T_bn_setShutter : List Row := [r0 0 (.aload_n 0) 1, r0 1 (.dup) 2, rX 2 (.getfield 27) 5 3 5 191, rX 5 (.iconst 1) 6 1 0 0, r0 6 (.iload_n 1) 7, r0 7 (.ishl) 8, rX 8 (.iconst (-1)) 9 1 1 0, r0 9 (.ixor) 10,
  r0 10 (.iand) 11, rX 11 (.putfield 27) 14 3 5 191, r0 14 (.aload_n 0) 15, r0 15 (.dup) 16, rX 16 (.getfield 30) 19 3 6 193, rX 19 (.iconst 1) 20 1 0 0, r0 20 (.iload_n 1) 21, r0 21 (.ishl) 22,
  rX 22 (.iconst (-1)) 23 1 1 0, r0 23 (.ixor) 24, r0 24 (.iand) 25, rX 25 (.putfield 30) 28 3 6 193, r0 28 (.iload_n 2) 29, rX 29 (.iconst 1) 30 1 0 0, rX 30 (.if_icmp .ne 15) 33 45 0 0, r0 33 (.aload_n 0) 34,
  r0 34 (.dup) 35, rX 35 (.getfield 27) 38 3 5 191, rX 38 (.iconst 1) 39 1 0 0, r0 39 (.iload_n 1) 40, r0 40 (.ishl) 41, r0 41 (.ior) 42, rX 42 (.putfield 27) 45 3 5 191, r0 45 (.iload_n 2) 46,
  rX 46 (.iconst 2) 47 2 0 0, rX 47 (.if_icmp .ne 15) 50 62 0 0, r0 50 (.aload_n 0) 51, r0 51 (.dup) 52, rX 52 (.getfield 30) 55 3 6 193, rX 55 (.iconst 1) 56 1 0 0, r0 56 (.iload_n 1) 57, r0 57 (.ishl) 58,
  r0 58 (.ior) 59, rX 59 (.putfield 30) 62 3 6 193, r0 62 (.return_) 63]
def T_bn_readOf : List Row := [r0 0 (.iload_n 1) 1, r0 1 (.aload_n 0) 2, rX 2 (.getfield 30) 5 3 6 193, rX 5 (.iconst (-1)) 6 1 1 0, r0 6 (.ixor) 7, r0 7 (.iand) 8, r0 8 (.aload_n 0) 9, rX 9 (.getfield 27) 12 3 5 191,
  r0 12 (.ior) 13, r0 13 (.istore_n 2) 14, r0 14 (.aload_n 0) 15, rX 15 (.getfield 18) 18 3 2 176, r0 18 (.istore_n 3) 19, r0 19 (.iconst 0) 20, r0 20 (.istore 4) 22, rH 22 (.iload 4) 24 0 0 0 0,
  r0 24 (.aload_n 0) 25, rX 25 (.getfield 9) 28 3 0 168, rX 28 (.if_icmp .ge 29) 31 57 0 0, r0 31 (.iload_n 2) 32, r0 32 (.iload 4) 34, r0 34 (.ishr) 35, rX 35 (.iconst 1) 36 1 0 0, r0 36 (.iand) 37,
  rX 37 (.iconst 1) 38 1 0 0, rX 38 (.if_icmp .ne 13) 41 51 0 0, r0 41 (.iload_n 3) 42, r0 42 (.aload_n 0) 43, rX 43 (.getfield 40) 46 3 9 202, r0 46 (.iload 4) 48, r0 48 (.iaload) 49, r0 49 (.iadd) 50,
  r0 50 (.istore_n 3) 51, rX 51 (.iinc 4 1) 54 1 0 0, rX 54 (.goto (-32)) 57 22 0 0, r0 57 (.iload_n 3) 58, r0 58 (.ireturn) 59]
def T_bn_aloneOf : List Row := [r0 0 (.aload_n 0) 1, rX 1 (.iconst 1) 2 1 0 0, r0 2 (.iload_n 1) 3, r0 3 (.ishl) 4, rX 4 (.invokevirtual 65) 7 20 0 910, r0 7 (.aload_n 0) 8, rX 8 (.getfield 43) 11 3 10 207, r0 11 (.iload_n 1) 12,
  r0 12 (.iaload) 13, r0 13 (.iadd) 14, r0 14 (.aload_n 0) 15, rX 15 (.getfield 18) 18 3 2 176, r0 18 (.isub) 19, r0 19 (.ireturn) 20]
def T_mt_init : List Row := [r0 0 (.aload_n 0) 1, rX 1 (.invokespecial 3) 4 0 4 349, r0 4 (.aload_n 0) 5, r0 5 (.iconst 0) 6, rX 6 (.putfield 9) 9 6 0 352, r0 9 (.aload_n 0) 10, r0 10 (.iconst 0) 11, rX 11 (.putfield 15) 14 6 1 354,
  r0 14 (.aload_n 0) 15, rX 15 (.lconst 1) 16 1 0 0, rX 16 (.putfield 18) 19 6 2 356, r0 19 (.aload_n 0) 20, rX 20 (.bipush 31) 22 31 0 0, r0 22 (.newarray .int) 24, rX 24 (.putfield 22) 27 6 3 358, r0 27 (.aload_n 0) 28,
  rX 28 (.bipush 12) 30 12 0 0, rX 30 (.bipush 43) 32 43 0 0, rX 32 (.multianewarray 26 2) 36 80 0 350, rX 36 (.putfield 28) 39 6 4 360, r0 39 (.aload_n 0) 40, rX 40 (.bipush 12) 42 12 0 0, r0 42 (.newarray .int) 44, rX 44 (.putfield 31) 47 6 5 361,
  r0 47 (.return_) 48]
def T_mt_build : List Row := [r0 0 (.aload_n 0) 1, rX 1 (.lconst 1) 2 1 0 0, rX 2 (.putfield 18) 5 6 2 356, r0 5 (.aload_n 0) 6, r0 6 (.iconst 0) 7, rX 7 (.putfield 9) 10 6 0 352, r0 10 (.iconst 0) 11, r0 11 (.istore_n 2) 12,
  rH 12 (.iload_n 2) 13 0 0 0 0, r0 13 (.aload_n 1) 14, rX 14 (.getfield 34) 17 3 4 187, rX 17 (.if_icmp .ge 57) 20 74 0 0, r0 20 (.aload_n 0) 21, r0 21 (.aload_n 1) 22, r0 22 (.iload_n 2) 23, rX 23 (.invokevirtual 39) 26 29 0 665,
  r0 26 (.aload_n 0) 27, rX 27 (.getfield 31) 30 6 5 361, r0 30 (.iload_n 2) 31, r0 31 (.aload_n 0) 32, r0 32 (.aload_n 1) 33, r0 33 (.iload_n 2) 34, rX 34 (.invokevirtual 43) 37 30 0 669, r0 37 (.iastore) 38,
  r0 38 (.aload_n 0) 39, rX 39 (.getfield 31) 42 6 5 361, r0 42 (.iload_n 2) 43, r0 43 (.iaload) 44, rX 44 (.ifCond .lt 24) 47 68 0 0, r0 47 (.aload_n 0) 48, r0 48 (.iload_n 2) 49, r0 49 (.aload_n 0) 50,
  rX 50 (.getfield 31) 53 6 5 361, r0 53 (.iload_n 2) 54, r0 54 (.iaload) 55, rX 55 (.invokevirtual 47) 58 31 0 673, r0 58 (.aload_n 0) 59, r0 59 (.dup) 60, rX 60 (.getfield 9) 63 6 0 352, rX 63 (.iconst 1) 64 1 0 0,
  r0 64 (.iadd) 65, rX 65 (.putfield 9) 68 6 0 352, rX 68 (.iinc 2 1) 71 1 0 0, rX 71 (.goto (-59)) 74 12 0 0, r0 74 (.aload_n 0) 75, r0 75 (.aload_n 1) 76, rX 76 (.invokevirtual 51) 79 32 0 677, r0 79 (.return_) 80]
def T_mt_tells : List Row := [r0 0 (.iload_n 1) 1, rX 1 (.ifCond .lt 25) 4 26 0 0, r0 4 (.iload_n 1) 5, rX 5 (.bipush 31) 7 31 0 0, rX 7 (.if_icmp .ge 19) 10 26 0 0, r0 10 (.aload_n 0) 11, rX 11 (.getfield 15) 14 6 1 354, r0 14 (.iload_n 1) 15,
  r0 15 (.ishr) 16, rX 16 (.iconst 1) 17 1 0 0, r0 17 (.iand) 18, rX 18 (.iconst 1) 19 1 0 0, rX 19 (.if_icmp .ne 7) 22 26 0 0, rX 22 (.iconst 1) 23 1 0 0, rX 23 (.goto 4) 26 27 0 0, r0 26 (.iconst 0) 27,
  r0 27 (.ireturn) 28]
def T_mt_times : List Row := [r0 0 (.iload_n 1) 1, rX 1 (.ifCond .lt 19) 4 20 0 0, r0 4 (.iload_n 1) 5, rX 5 (.bipush 12) 7 12 0 0, rX 7 (.if_icmp .ge 13) 10 20 0 0, r0 10 (.iload_n 2) 11, rX 11 (.ifCond .lt 9) 14 20 0 0, r0 14 (.iload_n 2) 15,
  rX 15 (.bipush 12) 17 12 0 0, rX 17 (.if_icmp .lt 5) 20 22 0 0, r0 20 (.lconst 0) 21, r0 21 (.lreturn) 22, r0 22 (.aload_n 0) 23, rX 23 (.getfield 28) 26 6 4 360, r0 26 (.iload_n 1) 27, r0 27 (.aaload) 28,
  rX 28 (.bipush 31) 30 31 0 0, r0 30 (.iload_n 2) 31, r0 31 (.iadd) 32, r0 32 (.laload) 33, r0 33 (.lreturn) 34]
def T_mt_squares : List Row := [r0 0 (.lconst 0) 1, r0 1 (.lstore_n 3) 2, r0 2 (.iconst 0) 3, r0 3 (.istore 5) 5, rH 5 (.iload 5) 7 0 0 0 0, r0 7 (.aload_n 1) 8, rX 8 (.getfield 34) 11 3 4 187, rX 11 (.if_icmp .ge 27) 14 38 0 0,
  r0 14 (.lload_n 3) 15, r0 15 (.aload_n 0) 16, r0 16 (.iload_n 2) 17, r0 17 (.iload 5) 19, rX 19 (.invokevirtual 55) 22 25 0 1008, r0 22 (.aload_n 0) 23, r0 23 (.iload_n 2) 24, r0 24 (.iload 5) 26,
  rX 26 (.invokevirtual 55) 29 25 0 1008, r0 29 (.lmul) 30, r0 30 (.ladd) 31, r0 31 (.lstore_n 3) 32, rX 32 (.iinc 5 1) 35 1 0 0, rX 35 (.goto (-30)) 38 5 0 0, r0 38 (.lload_n 3) 39, r0 39 (.lreturn) 40]
def T_mt_sumOfLooks : List Row := [r0 0 (.lconst 0) 1, r0 1 (.lstore_n 3) 2, r0 2 (.iconst 0) 3, r0 3 (.istore 5) 5, rH 5 (.iload 5) 7 0 0 0 0, r0 7 (.aload_n 1) 8, rX 8 (.getfield 34) 11 3 4 187, rX 11 (.if_icmp .ge 37) 14 48 0 0,
  r0 14 (.lload_n 3) 15, r0 15 (.aload_n 0) 16, r0 16 (.iload_n 2) 17, r0 17 (.iload 5) 19, rX 19 (.invokevirtual 55) 22 25 0 1008, r0 22 (.aload_n 1) 23, r0 23 (.aload_n 1) 24, rX 24 (.getfield 59) 27 3 11 213,
  r0 27 (.iload 5) 29, r0 29 (.iaload) 30, rX 30 (.invokevirtual 62) 33 20 0 1012, r0 33 (.aload_n 1) 34, rX 34 (.getfield 66) 37 3 2 177, r0 37 (.isub) 38, r0 38 (.i2l) 39, r0 39 (.lmul) 40,
  r0 40 (.ladd) 41, r0 41 (.lstore_n 3) 42, rX 42 (.iinc 5 1) 45 1 0 0, rX 45 (.goto (-40)) 48 5 0 0, r0 48 (.lload_n 3) 49, r0 49 (.lreturn) 50]
def T_mt_allAgree : List Row := [r0 0 (.iconst 0) 1, r0 1 (.istore_n 2) 2, rH 2 (.iload_n 2) 3 0 0 0 0, r0 3 (.aload_n 1) 4, rX 4 (.getfield 34) 7 3 4 187, rX 7 (.if_icmp .ge 31) 10 38 0 0, r0 10 (.aload_n 0) 11, rX 11 (.getfield 31) 14 6 5 361,
  r0 14 (.iload_n 2) 15, r0 15 (.iaload) 16, rX 16 (.ifCond .ge 16) 19 32 0 0, r0 19 (.aload_n 0) 20, r0 20 (.aload_n 1) 21, r0 21 (.iload_n 2) 22, rX 22 (.invokevirtual 69) 25 27 0 1038, r0 25 (.lconst 0) 26,
  r0 26 (.lcmp) 27, rX 27 (.ifCond .eq 5) 30 32 0 0, r0 30 (.iconst 0) 31, r0 31 (.ireturn) 32, rX 32 (.iinc 2 1) 35 1 0 0, rX 35 (.goto (-33)) 38 2 0 0, rX 38 (.iconst 1) 39 1 0 0, r0 39 (.ireturn) 40]
def T_mt_load : List Row := [r0 0 (.aload_n 0) 1, rX 1 (.getfield 28) 4 6 4 360, r0 4 (.iload_n 2) 5, r0 5 (.aaload) 6, r0 6 (.astore_n 3) 7, r0 7 (.aload_n 1) 8, rX 8 (.getfield 59) 11 3 11 213, r0 11 (.iload_n 2) 12,
  r0 12 (.iaload) 13, r0 13 (.istore 4) 15, r0 15 (.iconst 0) 16, r0 16 (.istore 5) 18, rH 18 (.iload 5) 20 0 0 0 0, r0 20 (.aload_n 3) 21, r0 21 (.arraylength) 22, rX 22 (.if_icmp .ge 68) 25 90 0 0,
  r0 25 (.iload 5) 27, rX 27 (.bipush 31) 29 31 0 0, rX 29 (.if_icmp .ge 22) 32 51 0 0, r0 32 (.iload 4) 34, r0 34 (.iload 5) 36, r0 36 (.ishr) 37, rX 37 (.iconst 1) 38 1 0 0, r0 38 (.iand) 39,
  rX 39 (.iconst 1) 40 1 0 0, rX 40 (.if_icmp .ne 7) 43 47 0 0, rX 43 (.iconst 1) 44 1 0 0, rX 44 (.goto 21) 47 65 0 0, r0 47 (.iconst 0) 48, rX 48 (.goto 17) 51 65 0 0, r0 51 (.iload 5) 53, rX 53 (.bipush 31) 55 31 0 0,
  r0 55 (.iload_n 2) 56, r0 56 (.iadd) 57, rX 57 (.if_icmp .ne 7) 60 64 0 0, rX 60 (.iconst 1) 61 1 0 0, rX 61 (.goto 4) 64 65 0 0, r0 64 (.iconst 0) 65, r0 65 (.istore 6) 67, r0 67 (.aload_n 3) 68,
  r0 68 (.iload 5) 70, r0 70 (.iload 6) 72, rX 72 (.ifCond .eq 10) 75 82 0 0, r0 75 (.aload_n 0) 76, rX 76 (.getfield 18) 79 6 2 356, rX 79 (.goto 4) 82 83 0 0, r0 82 (.lconst 0) 83, r0 83 (.lastore) 84,
  rX 84 (.iinc 5 1) 87 1 0 0, rX 87 (.goto (-69)) 90 18 0 0, r0 90 (.iconst 0) 91, r0 91 (.istore 5) 93, rH 93 (.iload 5) 95 0 0 0 0, r0 95 (.iload_n 2) 96, rX 96 (.if_icmp .ge 68) 99 164 0 0, r0 99 (.aload_n 0) 100,
  rX 100 (.getfield 31) 103 6 5 361, r0 103 (.iload 5) 105, r0 105 (.iaload) 106, rX 106 (.ifCond .lt 52) 109 158 0 0, r0 109 (.iload 4) 111, r0 111 (.aload_n 0) 112, rX 112 (.getfield 31) 115 6 5 361, r0 115 (.iload 5) 117,
  r0 117 (.iaload) 118, r0 118 (.ishr) 119, rX 119 (.iconst 1) 120 1 0 0, r0 120 (.iand) 121, rX 121 (.iconst 1) 122 1 0 0, rX 122 (.if_icmp .ne 36) 125 158 0 0, r0 125 (.iconst 0) 126, r0 126 (.istore 6) 128,
  rH 128 (.iload 6) 130 0 0 0 0, r0 130 (.aload_n 3) 131, r0 131 (.arraylength) 132, rX 132 (.if_icmp .ge 26) 135 158 0 0, r0 135 (.aload_n 3) 136, r0 136 (.iload 6) 138, r0 138 (.dup2) 139, r0 139 (.laload) 140,
  r0 140 (.aload_n 0) 141, rX 141 (.getfield 28) 144 6 4 360, r0 144 (.iload 5) 146, r0 146 (.aaload) 147, r0 147 (.iload 6) 149, r0 149 (.laload) 150, r0 150 (.lsub) 151, r0 151 (.lastore) 152,
  rX 152 (.iinc 6 1) 155 1 0 0, rX 155 (.goto (-27)) 158 128 0 0, rX 158 (.iinc 5 1) 161 1 0 0, rX 161 (.goto (-68)) 164 93 0 0, r0 164 (.return_) 165]
def T_mt_firstColour : List Row := [r0 0 (.iconst 0) 1, r0 1 (.istore_n 3) 2, rH 2 (.iload_n 3) 3 0 0 0 0, r0 3 (.aload_n 1) 4, rX 4 (.getfield 73) 7 3 0 172, rX 7 (.if_icmp .ge 24) 10 31 0 0, r0 10 (.aload_n 0) 11, rX 11 (.getfield 28) 14 6 4 360,
  r0 14 (.iload_n 2) 15, r0 15 (.aaload) 16, r0 16 (.iload_n 3) 17, r0 17 (.laload) 18, r0 18 (.lconst 0) 19, r0 19 (.lcmp) 20, rX 20 (.ifCond .eq 5) 23 25 0 0, r0 23 (.iload_n 3) 24,
  r0 24 (.ireturn) 25, rX 25 (.iinc 3 1) 28 1 0 0, rX 28 (.goto (-26)) 31 2 0 0, rX 31 (.iconst (-1)) 32 1 1 0, r0 32 (.ireturn) 33]
def T_mt_clearPivot : List Row := [r0 0 (.aload_n 0) 1, rX 1 (.getfield 28) 4 6 4 360, r0 4 (.iload_n 1) 5, r0 5 (.aaload) 6, r0 6 (.astore_n 3) 7, r0 7 (.aload_n 3) 8, r0 8 (.iload_n 2) 9, r0 9 (.laload) 10,
  r0 10 (.lconst 0) 11, r0 11 (.lcmp) 12, rX 12 (.ifCond .ge 28) 15 40 0 0, r0 15 (.iconst 0) 16, r0 16 (.istore 4) 18, rH 18 (.iload 4) 20 0 0 0 0, r0 20 (.aload_n 3) 21, r0 21 (.arraylength) 22,
  rX 22 (.if_icmp .ge 18) 25 40 0 0, r0 25 (.aload_n 3) 26, r0 26 (.iload 4) 28, r0 28 (.aload_n 3) 29, r0 29 (.iload 4) 31, r0 31 (.laload) 32, r0 32 (.lneg) 33, r0 33 (.lastore) 34,
  rX 34 (.iinc 4 1) 37 1 0 0, rX 37 (.goto (-19)) 40 18 0 0, r0 40 (.aload_n 3) 41, r0 41 (.iload_n 2) 42, r0 42 (.laload) 43, r0 43 (.lstore 4) 45, r0 45 (.iconst 0) 46, r0 46 (.istore 6) 48,
  rH 48 (.iload 6) 50 0 0 0 0, r0 50 (.iload_n 1) 51, rX 51 (.if_icmp .ge 85) 54 136 0 0, r0 54 (.aload_n 0) 55, rX 55 (.getfield 18) 58 6 2 356, r0 58 (.lconst 0) 59, r0 59 (.lcmp) 60, rX 60 (.ifCond .le 76) 63 136 0 0,
  r0 63 (.aload_n 0) 64, rX 64 (.getfield 31) 67 6 5 361, r0 67 (.iload 6) 69, r0 69 (.iaload) 70, rX 70 (.ifCond .lt 60) 73 130 0 0, r0 73 (.aload_n 0) 74, rX 74 (.getfield 28) 77 6 4 360, r0 77 (.iload 6) 79,
  r0 79 (.aaload) 80, r0 80 (.astore 7) 82, r0 82 (.aload 7) 84, r0 84 (.iload_n 2) 85, r0 85 (.laload) 86, r0 86 (.lstore 8) 88, r0 88 (.iconst 0) 89, r0 89 (.istore 10) 91,
  rH 91 (.iload 10) 93 0 0 0 0, r0 93 (.aload_n 3) 94, r0 94 (.arraylength) 95, rX 95 (.if_icmp .ge 35) 98 130 0 0, r0 98 (.aload 7) 100, r0 100 (.iload 10) 102, r0 102 (.lload 4) 104, r0 104 (.aload 7) 106,
  r0 106 (.iload 10) 108, r0 108 (.laload) 109, r0 109 (.lmul) 110, r0 110 (.lload 8) 112, r0 112 (.aload_n 3) 113, r0 113 (.iload 10) 115, r0 115 (.laload) 116, r0 116 (.lmul) 117,
  r0 117 (.lsub) 118, r0 118 (.aload_n 0) 119, rX 119 (.getfield 18) 122 6 2 356, r0 122 (.ldiv) 123, r0 123 (.lastore) 124, rX 124 (.iinc 10 1) 127 1 0 0, rX 127 (.goto (-36)) 130 91 0 0, rX 130 (.iinc 6 1) 133 1 0 0,
  rX 133 (.goto (-85)) 136 48 0 0, r0 136 (.aload_n 0) 137, r0 137 (.lload 4) 139, rX 139 (.putfield 18) 142 6 2 356, r0 142 (.return_) 143]
def T_mt_findTold : List Row := [r0 0 (.aload_n 0) 1, r0 1 (.iconst 0) 2, rX 2 (.putfield 15) 5 6 1 354, r0 5 (.iconst 0) 6, r0 6 (.istore_n 2) 7, rH 7 (.iload_n 2) 8 0 0 0 0, r0 8 (.aload_n 1) 9, rX 9 (.getfield 34) 12 3 4 187,
  rX 12 (.if_icmp .ge 56) 15 68 0 0, r0 15 (.aload_n 0) 16, rX 16 (.getfield 31) 19 6 5 361, r0 19 (.iload_n 2) 20, r0 20 (.iaload) 21, rX 21 (.ifCond .lt 41) 24 62 0 0, r0 24 (.aload_n 0) 25, r0 25 (.aload_n 1) 26,
  r0 26 (.iload_n 2) 27, rX 27 (.invokevirtual 76) 30 33 0 681, rX 30 (.ifCond .eq 32) 33 62 0 0, r0 33 (.aload_n 0) 34, r0 34 (.dup) 35, rX 35 (.getfield 15) 38 6 1 354, rX 38 (.iconst 1) 39 1 0 0, r0 39 (.aload_n 0) 40,
  rX 40 (.getfield 31) 43 6 5 361, r0 43 (.iload_n 2) 44, r0 44 (.iaload) 45, r0 45 (.ishl) 46, r0 46 (.ior) 47, rX 47 (.putfield 15) 50 6 1 354, r0 50 (.aload_n 0) 51, rX 51 (.getfield 22) 54 6 3 358,
  r0 54 (.aload_n 0) 55, rX 55 (.getfield 31) 58 6 5 361, r0 58 (.iload_n 2) 59, r0 59 (.iaload) 60, r0 60 (.iload_n 2) 61, r0 61 (.iastore) 62, rX 62 (.iinc 2 1) 65 1 0 0, rX 65 (.goto (-58)) 68 7 0 0,
  r0 68 (.return_) 69]
def T_mt_hasOnlyPivot : List Row := [r0 0 (.iconst 0) 1, r0 1 (.istore_n 3) 2, rH 2 (.iload_n 3) 3 0 0 0 0, r0 3 (.aload_n 1) 4, rX 4 (.getfield 73) 7 3 0 172, rX 7 (.if_icmp .ge 34) 10 41 0 0, r0 10 (.iload_n 3) 11, r0 11 (.aload_n 0) 12,
  rX 12 (.getfield 31) 15 6 5 361, r0 15 (.iload_n 2) 16, r0 16 (.iaload) 17, rX 17 (.if_icmp .eq 18) 20 35 0 0, r0 20 (.aload_n 0) 21, rX 21 (.getfield 28) 24 6 4 360, r0 24 (.iload_n 2) 25, r0 25 (.aaload) 26,
  r0 26 (.iload_n 3) 27, r0 27 (.laload) 28, r0 28 (.lconst 0) 29, r0 29 (.lcmp) 30, rX 30 (.ifCond .eq 5) 33 35 0 0, r0 33 (.iconst 0) 34, r0 34 (.ireturn) 35, rX 35 (.iinc 3 1) 38 1 0 0,
  rX 38 (.goto (-36)) 41 2 0 0, rX 41 (.iconst 1) 42 1 0 0, r0 42 (.ireturn) 43]
def T_ra_part : List Row := [r0 0 (.lload_n 0) 1, rX 1 (.invokestatic 7) 4 0 7 847, r0 4 (.lload_n 2) 5, rX 5 (.invokestatic 13) 8 36 1 850, r0 8 (.lstore 5) 10, r0 10 (.lload 5) 12, r0 12 (.lconst 0) 13, r0 13 (.lcmp) 14,
  rX 14 (.ifCond .gt 5) 17 19 0 0, r0 17 (.lconst 0) 18, r0 18 (.lreturn) 19, r0 19 (.iload 4) 21, rX 21 (.ifCond .eq 10) 24 31 0 0, r0 24 (.lload_n 2) 25, r0 25 (.lload 5) 27, r0 27 (.ldiv) 28,
  rX 28 (.goto 7) 31 35 0 0, r0 31 (.lload_n 0) 32, r0 32 (.lload 5) 34, r0 34 (.ldiv) 35, r0 35 (.lreturn) 36]
def T_ra_isWhole : List Row := [r0 0 (.lload_n 2) 1, r0 1 (.lconst 0) 2, r0 2 (.lcmp) 3, rX 3 (.ifCond .le 15) 6 18 0 0, r0 6 (.lload_n 0) 7, r0 7 (.lload_n 2) 8, r0 8 (.lrem) 9, r0 9 (.lconst 0) 10,
  r0 10 (.lcmp) 11, rX 11 (.ifCond .ne 7) 14 18 0 0, rX 14 (.iconst 1) 15 1 0 0, rX 15 (.goto 4) 18 19 0 0, r0 18 (.iconst 0) 19, r0 19 (.ireturn) 20]
def T_ra_commonDivisor : List Row := [r0 0 (.lload_n 0) 1, r0 1 (.lstore 4) 3, r0 3 (.lload_n 2) 4, r0 4 (.lstore 6) 6, r0 6 (.iconst 0) 7, r0 7 (.istore 8) 9, rH 9 (.iload 8) 11 0 0 0 0, rX 11 (.bipush 100) 13 100 0 0,
  rX 13 (.if_icmp .ge 31) 16 44 0 0, r0 16 (.lload 6) 18, r0 18 (.lconst 0) 19, r0 19 (.lcmp) 20, rX 20 (.ifCond .eq 24) 23 44 0 0, r0 23 (.lload 4) 25, r0 25 (.lload 6) 27, r0 27 (.lrem) 28,
  r0 28 (.lstore 9) 30, r0 30 (.lload 6) 32, r0 32 (.lstore 4) 34, r0 34 (.lload 9) 36, r0 36 (.lstore 6) 38, rX 38 (.iinc 8 1) 41 1 0 0, rX 41 (.goto (-32)) 44 9 0 0, r0 44 (.lload 4) 46,
  r0 46 (.lreturn) 47]
def T_rd_init : List Row := [r0 0 (.aload_n 0) 1, rX 1 (.invokespecial 3) 4 0 4 161, r0 4 (.aload_n 0) 5, r0 5 (.iconst 0) 6, rX 6 (.putfield 9) 9 2 0 241, r0 9 (.aload_n 0) 10, r0 10 (.iconst 0) 11, rX 11 (.putfield 15) 14 2 1 243,
  r0 14 (.aload_n 0) 15, rX 15 (.new 18) 18 3 0 162, r0 18 (.dup) 19, rX 19 (.invokespecial 20) 22 5 3 8, rX 22 (.putfield 21) 25 2 2 245, r0 25 (.aload_n 0) 26, r0 26 (.iconst 0) 27, r0 27 (.newarray .int) 29,
  rX 29 (.putfield 25) 32 2 3 247, r0 32 (.aload_n 0) 33, r0 33 (.iconst 0) 34, rX 34 (.putfield 29) 37 2 4 248, r0 37 (.aload_n 0) 38, r0 38 (.iconst 0) 39, rX 39 (.putfield 32) 42 2 5 249, r0 42 (.aload_n 0) 43,
  r0 43 (.iconst 0) 44, rX 44 (.putfield 35) 47 2 6 250, r0 47 (.aload_n 0) 48, r0 48 (.iconst 0) 49, rX 49 (.putfield 38) 52 2 7 251, r0 52 (.aload_n 0) 53, r0 53 (.iconst 0) 54, rX 54 (.putfield 41) 57 2 8 252,
  r0 57 (.aload_n 0) 58, r0 58 (.iconst 0) 59, rX 59 (.putfield 44) 62 2 9 253, r0 62 (.aload_n 0) 63, r0 63 (.iconst 0) 64, rX 64 (.putfield 47) 67 2 10 254, r0 67 (.aload_n 0) 68, r0 68 (.iconst 0) 69,
  rX 69 (.putfield 50) 72 2 11 255, r0 72 (.return_) 73]
def T_rd_readAll : List Row := [r0 0 (.aload_n 0) 1, rX 1 (.getfield 21) 4 2 2 245, rX 4 (.invokevirtual 53) 7 6 0 486, r0 7 (.aload_n 0) 8, r0 8 (.aload_n 1) 9, rX 9 (.putfield 25) 12 2 3 247, r0 12 (.aload_n 0) 13, r0 13 (.iload_n 2) 14,
  r0 14 (.aload_n 1) 15, r0 15 (.arraylength) 16, rX 16 (.invokestatic 56) 19 0 6 490, rX 19 (.putfield 29) 22 2 4 248, r0 22 (.aload_n 0) 23, r0 23 (.iconst 0) 24, rX 24 (.putfield 38) 27 2 7 251, r0 27 (.aload_n 0) 28,
  r0 28 (.iconst 0) 29, rX 29 (.putfield 47) 32 2 10 254, r0 32 (.aload_n 0) 33, r0 33 (.iconst 0) 34, rX 34 (.putfield 50) 37 2 11 255, r0 37 (.aload_n 0) 38, r0 38 (.iconst 0) 39, rX 39 (.putfield 9) 42 2 0 241,
  r0 42 (.aload_n 0) 43, r0 43 (.iconst 0) 44, rX 44 (.putfield 15) 47 2 1 243, r0 47 (.aload_n 0) 48, rX 48 (.invokevirtual 62) 51 40 0 493, r0 51 (.iconst 0) 52, r0 52 (.istore_n 3) 53, rH 53 (.iload_n 3) 54 0 0 0 0,
  rX 54 (.sipush 800) 57 800 0 0, rX 57 (.if_icmp .gt 45) 60 102 0 0, r0 60 (.aload_n 0) 61, rX 61 (.invokevirtual 65) 64 47 0 505, rX 64 (.ifCond .ne 5) 67 69 0 0, r0 67 (.iconst 0) 68, r0 68 (.ireturn) 69, r0 69 (.aload_n 0) 70,
  rX 70 (.getfield 32) 73 2 5 249, rX 73 (.ifCond .ne 5) 76 78 0 0, rX 76 (.iconst 1) 77 1 0 0, r0 77 (.ireturn) 78, r0 78 (.aload_n 0) 79, rX 79 (.getfield 32) 82 2 5 249, rX 82 (.iconst 3) 83 3 0 0, rX 83 (.if_icmp .eq 9) 86 92 0 0,
  r0 86 (.aload_n 0) 87, rX 87 (.iconst 1) 88 1 0 0, rX 88 (.invokevirtual 69) 91 39 0 562, r0 91 (.ireturn) 92, r0 92 (.aload_n 0) 93, rX 93 (.invokevirtual 62) 96 40 0 493, rX 96 (.iinc 3 1) 99 1 0 0, rX 99 (.goto (-46)) 102 53 0 0,
  r0 102 (.aload_n 0) 103, rX 103 (.iconst 1) 104 1 0 0, rX 104 (.invokevirtual 69) 107 39 0 562, r0 107 (.ireturn) 108]
def T_rd_fail : List Row := [r0 0 (.aload_n 0) 1, r0 1 (.iload_n 1) 2, rX 2 (.putfield 9) 5 2 0 241, r0 5 (.aload_n 0) 6, r0 6 (.aload_n 0) 7, rX 7 (.getfield 35) 10 2 6 250, rX 10 (.putfield 15) 13 2 1 243, r0 13 (.iconst 0) 14,
  r0 14 (.ireturn) 15]
def T_rd_next : List Row := [r0 0 (.aload_n 0) 1, r0 1 (.aload_n 0) 2, rX 2 (.getfield 38) 5 2 7 251, rX 5 (.putfield 35) 8 2 6 250, rH 8 (.aload_n 0) 9 0 0 0 0, rX 9 (.getfield 35) 12 2 6 250, r0 12 (.aload_n 0) 13, rX 13 (.getfield 29) 16 2 4 248,
  rX 16 (.if_icmp .ge 30) 19 46 0 0, r0 19 (.aload_n 0) 20, rX 20 (.getfield 25) 23 2 3 247, r0 23 (.aload_n 0) 24, rX 24 (.getfield 35) 27 2 6 250, r0 27 (.iaload) 28, rX 28 (.bipush 32) 30 32 0 0, rX 30 (.if_icmp .ne 16) 33 46 0 0,
  r0 33 (.aload_n 0) 34, r0 34 (.dup) 35, rX 35 (.getfield 35) 38 2 6 250, rX 38 (.iconst 1) 39 1 0 0, r0 39 (.iadd) 40, rX 40 (.putfield 35) 43 2 6 250, rX 43 (.goto (-35)) 46 8 0 0, r0 46 (.aload_n 0) 47,
  rX 47 (.bipush 97) 49 97 0 0, rX 49 (.bipush 122) 51 122 0 0, rX 51 (.invokevirtual 73) 54 41 0 497, r0 54 (.istore_n 1) 55, r0 55 (.aload_n 0) 56, rX 56 (.bipush 48) 58 48 0 0, rX 58 (.bipush 57) 60 57 0 0, rX 60 (.invokevirtual 73) 63 41 0 497,
  r0 63 (.istore_n 2) 64, r0 64 (.aload_n 0) 65, rX 65 (.getfield 35) 68 2 6 250, r0 68 (.aload_n 0) 69, rX 69 (.getfield 29) 72 2 4 248, rX 72 (.if_icmp .lt 19) 75 91 0 0, r0 75 (.aload_n 0) 76, r0 76 (.iconst 0) 77,
  rX 77 (.putfield 32) 80 2 5 249, r0 80 (.aload_n 0) 81, r0 81 (.aload_n 0) 82, rX 82 (.getfield 29) 85 2 4 248, rX 85 (.putfield 38) 88 2 7 251, rX 88 (.goto 112) 91 200 0 0, r0 91 (.iload_n 1) 92, rX 92 (.ifCond .le 31) 95 123 0 0,
  r0 95 (.aload_n 0) 96, r0 96 (.iload_n 1) 97, rX 97 (.bipush 7) 99 7 0 0, rX 99 (.if_icmp .gt 7) 102 106 0 0, rX 102 (.iconst 1) 103 1 0 0, rX 103 (.goto 4) 106 107 0 0, rX 106 (.iconst 4) 107 4 0 0, rX 107 (.putfield 32) 110 2 5 249,
  r0 110 (.aload_n 0) 111, r0 111 (.aload_n 0) 112, rX 112 (.getfield 35) 115 2 6 250, r0 115 (.iload_n 1) 116, r0 116 (.iadd) 117, rX 117 (.putfield 38) 120 2 7 251, rX 120 (.goto 80) 123 200 0 0, r0 123 (.iload_n 2) 124,
  rX 124 (.ifCond .le 43) 127 167 0 0, r0 127 (.aload_n 0) 128, r0 128 (.iload_n 2) 129, rX 129 (.bipush 6) 131 6 0 0, rX 131 (.if_icmp .gt 7) 134 138 0 0, rX 134 (.iconst 2) 135 2 0 0, rX 135 (.goto 4) 138 139 0 0, rX 138 (.iconst 4) 139 4 0 0,
  rX 139 (.putfield 32) 142 2 5 249, r0 142 (.aload_n 0) 143, r0 143 (.aload_n 0) 144, rX 144 (.getfield 35) 147 2 6 250, r0 147 (.iload_n 2) 148, r0 148 (.iadd) 149, rX 149 (.putfield 38) 152 2 7 251, r0 152 (.aload_n 0) 153,
  r0 153 (.aload_n 0) 154, r0 154 (.aload_n 0) 155, rX 155 (.getfield 38) 158 2 7 251, rX 158 (.invokevirtual 77) 161 42 0 501, rX 161 (.putfield 41) 164 2 8 252, rX 164 (.goto 36) 167 200 0 0, r0 167 (.aload_n 0) 168, r0 168 (.aload_n 0) 169,
  rX 169 (.getfield 25) 172 2 3 247, r0 172 (.aload_n 0) 173, rX 173 (.getfield 35) 176 2 6 250, r0 176 (.iaload) 177, rX 177 (.bipush 59) 179 59 0 0, rX 179 (.if_icmp .ne 7) 182 186 0 0, rX 182 (.iconst 3) 183 3 0 0, rX 183 (.goto 4) 186 187 0 0,
  rX 186 (.iconst 4) 187 4 0 0, rX 187 (.putfield 32) 190 2 5 249, r0 190 (.aload_n 0) 191, r0 191 (.aload_n 0) 192, rX 192 (.getfield 35) 195 2 6 250, rX 195 (.iconst 1) 196 1 0 0, r0 196 (.iadd) 197, rX 197 (.putfield 38) 200 2 7 251,
  r0 200 (.return_) 201]
def T_rd_runOf : List Row := [r0 0 (.aload_n 0) 1, rX 1 (.getfield 35) 4 2 6 250, r0 4 (.istore_n 3) 5, rH 5 (.iload_n 3) 6 0 0 0 0, r0 6 (.aload_n 0) 7, rX 7 (.getfield 29) 10 2 4 248, rX 10 (.if_icmp .ge 29) 13 39 0 0, r0 13 (.aload_n 0) 14,
  rX 14 (.getfield 25) 17 2 3 247, r0 17 (.iload_n 3) 18, r0 18 (.iaload) 19, r0 19 (.iload_n 1) 20, rX 20 (.if_icmp .lt 19) 23 39 0 0, r0 23 (.aload_n 0) 24, rX 24 (.getfield 25) 27 2 3 247, r0 27 (.iload_n 3) 28,
  r0 28 (.iaload) 29, r0 29 (.iload_n 2) 30, rX 30 (.if_icmp .gt 9) 33 39 0 0, rX 33 (.iinc 3 1) 36 1 0 0, rX 36 (.goto (-31)) 39 5 0 0, r0 39 (.iload_n 3) 40, r0 40 (.aload_n 0) 41, rX 41 (.getfield 35) 44 2 6 250,
  r0 44 (.isub) 45, r0 45 (.ireturn) 46]
def T_rd_wholeOf : List Row := [r0 0 (.iconst 0) 1, r0 1 (.istore_n 2) 2, r0 2 (.aload_n 0) 3, rX 3 (.getfield 35) 6 2 6 250, r0 6 (.istore_n 3) 7, rH 7 (.iload_n 3) 8 0 0 0 0, r0 8 (.iload_n 1) 9, rX 9 (.if_icmp .ge 32) 12 41 0 0,
  r0 12 (.iload_n 3) 13, r0 13 (.aload_n 0) 14, rX 14 (.getfield 29) 17 2 4 248, rX 17 (.if_icmp .ge 24) 20 41 0 0, r0 20 (.iload_n 2) 21, rX 21 (.bipush 10) 23 10 0 0, r0 23 (.imul) 24, r0 24 (.aload_n 0) 25,
  rX 25 (.getfield 25) 28 2 3 247, r0 28 (.iload_n 3) 29, r0 29 (.iaload) 30, r0 30 (.iadd) 31, rX 31 (.bipush 48) 33 48 0 0, r0 33 (.isub) 34, r0 34 (.istore_n 2) 35, rX 35 (.iinc 3 1) 38 1 0 0,
  rX 38 (.goto (-31)) 41 7 0 0, r0 41 (.iload_n 2) 42, r0 42 (.ireturn) 43]
def T_rd_isWord : List Row := [r0 0 (.aload_n 0) 1, rX 1 (.getfield 32) 4 2 5 249, rX 4 (.iconst 1) 5 1 0 0, rX 5 (.if_icmp .ne 19) 8 24 0 0, r0 8 (.aload_n 0) 9, rX 9 (.getfield 38) 12 2 7 251, r0 12 (.aload_n 0) 13, rX 13 (.getfield 35) 16 2 6 250,
  r0 16 (.isub) 17, r0 17 (.aload_n 1) 18, rX 18 (.invokevirtual 81) 21 274 0 514, rX 21 (.if_icmp .eq 5) 24 26 0 0, r0 24 (.iconst 0) 25, r0 25 (.ireturn) 26, r0 26 (.iconst 0) 27, r0 27 (.istore_n 2) 28,
  rH 28 (.iload_n 2) 29 0 0 0 0, r0 29 (.aload_n 1) 30, rX 30 (.invokevirtual 81) 33 274 0 514, rX 33 (.if_icmp .ge 43) 36 76 0 0, r0 36 (.aload_n 0) 37, rX 37 (.getfield 35) 40 2 6 250, r0 40 (.iload_n 2) 41, r0 41 (.iadd) 42,
  r0 42 (.aload_n 0) 43, rX 43 (.getfield 29) 46 2 4 248, rX 46 (.if_icmp .ge 30) 49 76 0 0, r0 49 (.aload_n 0) 50, rX 50 (.getfield 25) 53 2 3 247, r0 53 (.aload_n 0) 54, rX 54 (.getfield 35) 57 2 6 250, r0 57 (.iload_n 2) 58,
  r0 58 (.iadd) 59, r0 59 (.iaload) 60, r0 60 (.aload_n 1) 61, r0 61 (.iload_n 2) 62, rX 62 (.invokevirtual 87) 65 275 0 524, rX 65 (.if_icmp .eq 5) 68 70 0 0, r0 68 (.iconst 0) 69, r0 69 (.ireturn) 70,
  rX 70 (.iinc 2 1) 73 1 0 0, rX 73 (.goto (-45)) 76 28 0 0, rX 76 (.iconst 1) 77 1 0 0, r0 77 (.ireturn) 78]
def T_rd_takeWord : List Row := [r0 0 (.aload_n 0) 1, r0 1 (.aload_n 1) 2, rX 2 (.invokevirtual 91) 5 43 0 510, rX 5 (.ifCond .ne 9) 8 14 0 0, r0 8 (.aload_n 0) 9, rX 9 (.iconst 1) 10 1 0 0, rX 10 (.invokevirtual 69) 13 39 0 562, r0 13 (.ireturn) 14,
  r0 14 (.aload_n 0) 15, rX 15 (.invokevirtual 62) 18 40 0 493, rX 18 (.iconst 1) 19 1 0 0, r0 19 (.ireturn) 20]
def T_rd_takeWhole : List Row := [r0 0 (.aload_n 0) 1, rX 1 (.getfield 32) 4 2 5 249, rX 4 (.iconst 2) 5 2 0 0, rX 5 (.if_icmp .eq 9) 8 14 0 0, r0 8 (.aload_n 0) 9, rX 9 (.iconst 1) 10 1 0 0, rX 10 (.invokevirtual 69) 13 39 0 562, r0 13 (.ireturn) 14,
  r0 14 (.aload_n 0) 15, rX 15 (.getfield 41) 18 2 8 252, r0 18 (.iload_n 1) 19, rX 19 (.if_icmp .lt 11) 22 30 0 0, r0 22 (.aload_n 0) 23, rX 23 (.getfield 41) 26 2 8 252, r0 26 (.iload_n 2) 27, rX 27 (.if_icmp .le 9) 30 36 0 0,
  r0 30 (.aload_n 0) 31, rX 31 (.iconst 2) 32 2 0 0, rX 32 (.invokevirtual 69) 35 39 0 562, r0 35 (.ireturn) 36, r0 36 (.aload_n 0) 37, r0 37 (.aload_n 0) 38, rX 38 (.getfield 41) 41 2 8 252, rX 41 (.putfield 44) 44 2 9 253,
  r0 44 (.aload_n 0) 45, rX 45 (.invokevirtual 62) 48 40 0 493, rX 48 (.iconst 1) 49 1 0 0, r0 49 (.ireturn) 50]
def T_rd_takeNew : List Row := [r0 0 (.aload_n 0) 1, rX 1 (.getfield 32) 4 2 5 249, rX 4 (.iconst 2) 5 2 0 0, rX 5 (.if_icmp .ne 35) 8 40 0 0, r0 8 (.aload_n 0) 9, rX 9 (.getfield 21) 12 2 2 245, r0 12 (.aload_n 0) 13, rX 13 (.getfield 41) 16 2 8 252,
  rX 16 (.invokevirtual 95) 19 9 0 616, rX 19 (.ifCond .eq 21) 22 40 0 0, r0 22 (.iload_n 1) 23, r0 23 (.aload_n 0) 24, rX 24 (.getfield 41) 27 2 8 252, r0 27 (.ishr) 28, rX 28 (.iconst 1) 29 1 0 0, r0 29 (.iand) 30,
  rX 30 (.iconst 1) 31 1 0 0, rX 31 (.if_icmp .ne 9) 34 40 0 0, r0 34 (.aload_n 0) 35, rX 35 (.iconst 3) 36 3 0 0, rX 36 (.invokevirtual 69) 39 39 0 562, r0 39 (.ireturn) 40, r0 40 (.aload_n 0) 41, r0 41 (.iconst 0) 42,
  r0 42 (.aload_n 0) 43, rX 43 (.getfield 21) 46 2 2 245, rX 46 (.getfield 98) 49 3 0 173, rX 49 (.iconst 1) 50 1 0 0, r0 50 (.isub) 51, rX 51 (.invokevirtual 101) 54 45 0 577, r0 54 (.ireturn) 55]
def T_rd_takeLine : List Row := [r0 0 (.aload_n 0) 1, rV 1 (.ldc 105) 3 1 1 509 1, rX 3 (.invokevirtual 91) 6 43 0 510, rX 6 (.ifCond .eq 26) 9 32 0 0, r0 9 (.aload_n 0) 10, rX 10 (.getfield 21) 13 2 2 245, rX 13 (.getfield 98) 16 3 0 173, rX 16 (.ifCond .le 11) 19 27 0 0,
  r0 19 (.aload_n 0) 20, rX 20 (.iconst 3) 21 3 0 0, rX 21 (.invokevirtual 69) 24 39 0 562, rX 24 (.goto 7) 27 31 0 0, r0 27 (.aload_n 0) 28, rX 28 (.invokevirtual 107) 31 48 0 566, r0 31 (.ireturn) 32, r0 32 (.aload_n 0) 33,
  rV 33 (.ldc 110) 35 2 2 603 1, rX 35 (.invokevirtual 91) 38 43 0 510, rX 38 (.ifCond .ne 39) 41 77 0 0, r0 41 (.aload_n 0) 42, rV 42 (.ldc 112) 44 3 3 604 1, rX 44 (.invokevirtual 91) 47 43 0 510, rX 47 (.ifCond .ne 30) 50 77 0 0, r0 50 (.aload_n 0) 51,
  rV 51 (.ldc 114) 53 4 4 605 1, rX 53 (.invokevirtual 91) 56 43 0 510, rX 56 (.ifCond .ne 21) 59 77 0 0, r0 59 (.aload_n 0) 60, rV 60 (.ldc 116) 62 5 5 606 1, rX 62 (.invokevirtual 91) 65 43 0 510, rX 65 (.ifCond .ne 12) 68 77 0 0, r0 68 (.aload_n 0) 69,
  rV 69 (.ldc 118) 71 6 6 607 1, rX 71 (.invokevirtual 91) 74 43 0 510, rX 74 (.ifCond .eq 7) 77 81 0 0, rX 77 (.iconst 1) 78 1 0 0, rX 78 (.goto 4) 81 82 0 0, r0 81 (.iconst 0) 82, r0 82 (.istore_n 1) 83, r0 83 (.iload_n 1) 84,
  rX 84 (.ifCond .ne 9) 87 93 0 0, r0 87 (.aload_n 0) 88, rX 88 (.iconst 1) 89 1 0 0, rX 89 (.invokevirtual 69) 92 39 0 562, r0 92 (.ireturn) 93, r0 93 (.aload_n 0) 94, rX 94 (.getfield 21) 97 2 2 245, rX 97 (.getfield 98) 100 3 0 173,
  rX 100 (.ifCond .ne 9) 103 109 0 0, r0 103 (.aload_n 0) 104, rX 104 (.iconst 5) 105 5 0 0, rX 105 (.invokevirtual 69) 108 39 0 562, r0 108 (.ireturn) 109, r0 109 (.aload_n 0) 110, rV 110 (.ldc 110) 112 2 2 603 1, rX 112 (.invokevirtual 91) 115 43 0 510,
  rX 115 (.ifCond .eq 8) 118 123 0 0, r0 118 (.aload_n 0) 119, rX 119 (.invokevirtual 120) 122 50 0 608, r0 122 (.ireturn) 123, r0 123 (.aload_n 0) 124, rV 124 (.ldc 112) 126 3 3 604 1, rX 126 (.invokevirtual 91) 129 43 0 510, rX 129 (.ifCond .eq 8) 132 137 0 0,
  r0 132 (.aload_n 0) 133, rX 133 (.invokevirtual 123) 136 51 0 620, r0 136 (.ireturn) 137, r0 137 (.aload_n 0) 138, rV 138 (.ldc 114) 140 4 4 605 1, rX 140 (.invokevirtual 91) 143 43 0 510, rX 143 (.ifCond .eq 8) 146 151 0 0, r0 146 (.aload_n 0) 147,
  rX 147 (.invokevirtual 126) 150 52 0 631, r0 150 (.ireturn) 151, r0 151 (.aload_n 0) 152, rV 152 (.ldc 116) 154 5 5 606 1, rX 154 (.invokevirtual 91) 157 43 0 510, rX 157 (.ifCond .eq 10) 160 167 0 0, r0 160 (.aload_n 0) 161, rX 161 (.invokevirtual 129) 164 53 0 637,
  rX 164 (.goto 7) 167 171 0 0, r0 167 (.aload_n 0) 168, rX 168 (.invokevirtual 132) 171 54 0 645, r0 171 (.ireturn) 172]
def T_rd_takeBench : List Row := [r0 0 (.aload_n 0) 1, rX 1 (.invokevirtual 62) 4 40 0 493, r0 4 (.aload_n 0) 5, rV 5 (.ldc 135) 7 7 7 570 1, rX 7 (.invokevirtual 91) 10 43 0 510, r0 10 (.istore_n 1) 11, r0 11 (.iload_n 1) 12, rX 12 (.ifCond .ne 18) 15 30 0 0,
  r0 15 (.aload_n 0) 16, rV 16 (.ldc 137) 18 8 8 571 1, rX 18 (.invokevirtual 91) 21 43 0 510, rX 21 (.ifCond .ne 9) 24 30 0 0, r0 24 (.aload_n 0) 25, rX 25 (.iconst 1) 26 1 0 0, rX 26 (.invokevirtual 69) 29 39 0 562, r0 29 (.ireturn) 30,
  r0 30 (.aload_n 0) 31, rX 31 (.invokevirtual 62) 34 40 0 493, r0 34 (.iload_n 1) 35, rX 35 (.ifCond .ne 27) 38 62 0 0, r0 38 (.aload_n 0) 39, rX 39 (.getfield 32) 42 2 5 249, rX 42 (.iconst 2) 43 2 0 0, rX 43 (.if_icmp .ne 19) 46 62 0 0,
  r0 46 (.aload_n 0) 47, rX 47 (.getfield 41) 50 2 8 252, rX 50 (.invokestatic 139) 53 49 1 572, rX 53 (.ifCond .ne 9) 56 62 0 0, r0 56 (.aload_n 0) 57, rX 57 (.iconst 2) 58 2 0 0, rX 58 (.invokevirtual 69) 61 39 0 562, r0 61 (.ireturn) 62,
  r0 62 (.iload_n 1) 63, rX 63 (.ifCond .eq 15) 66 78 0 0, r0 66 (.aload_n 0) 67, rX 67 (.iconst 2) 68 2 0 0, rX 68 (.iconst 5) 69 5 0 0, rX 69 (.invokevirtual 101) 72 45 0 577, rX 72 (.ifCond .eq 16) 75 88 0 0, rX 75 (.goto 15) 78 90 0 0,
  r0 78 (.aload_n 0) 79, rX 79 (.iconst 3) 80 3 0 0, rX 80 (.bipush 31) 82 31 0 0, rX 82 (.invokevirtual 101) 85 45 0 577, rX 85 (.ifCond .ne 5) 88 90 0 0, r0 88 (.iconst 0) 89, r0 89 (.ireturn) 90, r0 90 (.aload_n 0) 91,
  rX 91 (.getfield 44) 94 2 9 253, r0 94 (.istore_n 2) 95, r0 95 (.aload_n 0) 96, rV 96 (.ldc 142) 98 9 9 581 1, rX 98 (.invokevirtual 144) 101 44 0 582, rX 101 (.ifCond .eq 14) 104 115 0 0, r0 104 (.aload_n 0) 105, r0 105 (.iconst 0) 106,
  rX 106 (.sipush 999) 109 999 0 0, rX 109 (.invokevirtual 101) 112 45 0 577, rX 112 (.ifCond .ne 5) 115 117 0 0, r0 115 (.iconst 0) 116, r0 116 (.ireturn) 117, r0 117 (.aload_n 0) 118, rX 118 (.getfield 21) 121 2 2 245, r0 121 (.aload_n 0) 122,
  rX 122 (.getfield 44) 125 2 9 253, rX 125 (.putfield 147) 128 3 2 181, r0 128 (.aload_n 0) 129, rV 129 (.ldc 149) 131 10 10 586 1, rX 131 (.invokevirtual 144) 134 44 0 582, rX 134 (.ifCond .eq 13) 137 147 0 0, r0 137 (.aload_n 0) 138, rX 138 (.iconst 1) 139 1 0 0,
  rX 139 (.ldc 151) 141 999999 0 587, rX 141 (.invokevirtual 101) 144 45 0 577, rX 144 (.ifCond .ne 5) 147 149 0 0, r0 147 (.iconst 0) 148, r0 148 (.ireturn) 149, r0 149 (.aload_n 0) 150, rX 150 (.getfield 21) 153 2 2 245, r0 153 (.aload_n 0) 154,
  rX 154 (.getfield 44) 157 2 9 253, rX 157 (.putfield 152) 160 3 3 185, r0 160 (.iload_n 1) 161, rX 161 (.ifCond .eq 14) 164 175 0 0, r0 164 (.aload_n 0) 165, rX 165 (.getfield 21) 168 2 2 245, r0 168 (.iload_n 2) 169, rX 169 (.invokevirtual 154) 172 7 0 588,
  rX 172 (.goto 11) 175 183 0 0, r0 175 (.aload_n 0) 176, rX 176 (.getfield 21) 179 2 2 245, r0 179 (.iload_n 2) 180, rX 180 (.invokevirtual 158) 183 8 0 599, rX 183 (.iconst 1) 184 1 0 0, r0 184 (.ireturn) 185]
def T_rd_isPrimeOfBench : List Row := [rX 0 (.getstatic 161) 3 1 0 575, r0 3 (.astore_n 1) 4, r0 4 (.aload_n 1) 5, r0 5 (.arraylength) 6, r0 6 (.istore_n 2) 7, r0 7 (.iconst 0) 8, r0 8 (.istore_n 3) 9, rH 9 (.iload_n 3) 10 0 0 0 0,
  r0 10 (.iload_n 2) 11, rX 11 (.if_icmp .ge 22) 14 33 0 0, r0 14 (.aload_n 1) 15, r0 15 (.iload_n 3) 16, r0 16 (.iaload) 17, r0 17 (.istore 4) 19, r0 19 (.iload 4) 21, r0 21 (.iload_n 0) 22,
  rX 22 (.if_icmp .ne 5) 25 27 0 0, rX 25 (.iconst 1) 26 1 0 0, r0 26 (.ireturn) 27, rX 27 (.iinc 3 1) 30 1 0 0, rX 30 (.goto (-21)) 33 9 0 0, r0 33 (.iconst 0) 34, r0 34 (.ireturn) 35]
def T_rd_takeLight : List Row := [r0 0 (.aload_n 0) 1, rX 1 (.invokevirtual 62) 4 40 0 493, r0 4 (.aload_n 0) 5, r0 5 (.aload_n 0) 6, rX 6 (.getfield 47) 9 2 10 254, rX 9 (.invokevirtual 164) 12 46 0 612, rX 12 (.ifCond .ne 5) 15 17 0 0, r0 15 (.iconst 0) 16,
  r0 16 (.ireturn) 17, r0 17 (.aload_n 0) 18, rX 18 (.getfield 44) 21 2 9 253, r0 21 (.istore_n 1) 22, r0 22 (.aload_n 0) 23, r0 23 (.dup) 24, rX 24 (.getfield 47) 27 2 10 254, rX 27 (.iconst 1) 28 1 0 0,
  r0 28 (.iload_n 1) 29, r0 29 (.ishl) 30, r0 30 (.ior) 31, rX 31 (.putfield 47) 34 2 10 254, r0 34 (.aload_n 0) 35, r0 35 (.iconst 0) 36, rX 36 (.sipush 9999) 39 9999 0 0, rX 39 (.invokevirtual 101) 42 45 0 577,
  rX 42 (.ifCond .ne 5) 45 47 0 0, r0 45 (.iconst 0) 46, r0 46 (.ireturn) 47, r0 47 (.aload_n 0) 48, rX 48 (.getfield 21) 51 2 2 245, rX 51 (.getfield 167) 54 3 9 206, r0 54 (.iload_n 1) 55, r0 55 (.aload_n 0) 56,
  rX 56 (.getfield 44) 59 2 9 253, r0 59 (.iastore) 60, rX 60 (.iconst 1) 61 1 0 0, r0 61 (.ireturn) 62]
def T_rd_takeStuck : List Row := [r0 0 (.aload_n 0) 1, rX 1 (.getfield 21) 4 2 2 245, rX 4 (.getfield 170) 7 3 5 192, r0 7 (.aload_n 0) 8, rX 8 (.getfield 21) 11 2 2 245, rX 11 (.getfield 173) 14 3 6 194, r0 14 (.ior) 15, r0 15 (.istore_n 1) 16,
  r0 16 (.iload_n 1) 17, rX 17 (.invokestatic 176) 20 273 1 624, rX 20 (.iconst 3) 21 3 0 0, rX 21 (.if_icmp .lt 9) 24 30 0 0, r0 24 (.aload_n 0) 25, rX 25 (.iconst 4) 26 4 0 0, rX 26 (.invokevirtual 69) 29 39 0 562, r0 29 (.ireturn) 30,
  r0 30 (.aload_n 0) 31, rX 31 (.invokevirtual 62) 34 40 0 493, r0 34 (.aload_n 0) 35, r0 35 (.iload_n 1) 36, rX 36 (.invokevirtual 164) 39 46 0 612, rX 39 (.ifCond .ne 5) 42 44 0 0, r0 42 (.iconst 0) 43, r0 43 (.ireturn) 44,
  r0 44 (.aload_n 0) 45, rV 45 (.ldc 181) 47 11 11 625 1, rX 47 (.invokevirtual 91) 50 43 0 510, r0 50 (.istore_n 2) 51, r0 51 (.iload_n 2) 52, rX 52 (.ifCond .ne 18) 55 70 0 0, r0 55 (.aload_n 0) 56, rV 56 (.ldc 183) 58 12 12 626 1,
  rX 58 (.invokevirtual 91) 61 43 0 510, rX 61 (.ifCond .ne 9) 64 70 0 0, r0 64 (.aload_n 0) 65, rX 65 (.iconst 1) 66 1 0 0, rX 66 (.invokevirtual 69) 69 39 0 562, r0 69 (.ireturn) 70, r0 70 (.aload_n 0) 71, rX 71 (.getfield 21) 74 2 2 245,
  r0 74 (.aload_n 0) 75, rX 75 (.getfield 44) 78 2 9 253, r0 78 (.iload_n 2) 79, rX 79 (.ifCond .eq 7) 82 86 0 0, rX 82 (.iconst 1) 83 1 0 0, rX 83 (.goto 4) 86 87 0 0, rX 86 (.iconst 2) 87 2 0 0, rX 87 (.invokevirtual 185) 90 19 0 627,
  r0 90 (.aload_n 0) 91, rX 91 (.invokevirtual 62) 94 40 0 493, rX 94 (.iconst 1) 95 1 0 0, r0 95 (.ireturn) 96]
def T_rd_takeNoise : List Row := [r0 0 (.aload_n 0) 1, rX 1 (.getfield 50) 4 2 11 255, rX 4 (.invokestatic 176) 7 273 1 624, rX 7 (.bipush 8) 9 8 0 0, rX 9 (.if_icmp .lt 9) 12 18 0 0, r0 12 (.aload_n 0) 13, rX 13 (.iconst 4) 14 4 0 0, rX 14 (.invokevirtual 69) 17 39 0 562,
  r0 17 (.ireturn) 18, r0 18 (.aload_n 0) 19, rX 19 (.invokevirtual 62) 22 40 0 493, r0 22 (.aload_n 0) 23, r0 23 (.aload_n 0) 24, rX 24 (.getfield 50) 27 2 11 255, rX 27 (.invokevirtual 164) 30 46 0 612, rX 30 (.ifCond .ne 5) 33 35 0 0,
  r0 33 (.iconst 0) 34, r0 34 (.ireturn) 35, r0 35 (.aload_n 0) 36, rX 36 (.getfield 44) 39 2 9 253, r0 39 (.istore_n 1) 40, r0 40 (.aload_n 0) 41, r0 41 (.dup) 42, rX 42 (.getfield 50) 45 2 11 255,
  rX 45 (.iconst 1) 46 1 0 0, r0 46 (.iload_n 1) 47, r0 47 (.ishl) 48, r0 48 (.ior) 49, rX 49 (.putfield 50) 52 2 11 255, r0 52 (.aload_n 0) 53, rV 53 (.ldc 189) 55 13 13 635 1, rX 55 (.invokevirtual 91) 58 43 0 510,
  r0 58 (.istore_n 2) 59, r0 59 (.iload_n 2) 60, rX 60 (.ifCond .ne 18) 63 78 0 0, r0 63 (.aload_n 0) 64, rV 64 (.ldc 191) 66 14 14 636 1, rX 66 (.invokevirtual 91) 69 43 0 510, rX 69 (.ifCond .ne 9) 72 78 0 0, r0 72 (.aload_n 0) 73,
  rX 73 (.iconst 1) 74 1 0 0, rX 74 (.invokevirtual 69) 77 39 0 562, r0 77 (.ireturn) 78, r0 78 (.aload_n 0) 79, rX 79 (.invokevirtual 62) 82 40 0 493, r0 82 (.aload_n 0) 83, rX 83 (.iconst 1) 84 1 0 0, rX 84 (.bipush 99) 86 99 0 0,
  rX 86 (.invokevirtual 101) 89 45 0 577, rX 89 (.ifCond .ne 5) 92 94 0 0, r0 92 (.iconst 0) 93, r0 93 (.ireturn) 94, r0 94 (.aload_n 0) 95, rX 95 (.getfield 21) 98 2 2 245, rX 98 (.getfield 193) 101 3 10 210, r0 101 (.iload_n 1) 102,
  r0 102 (.iload_n 2) 103, rX 103 (.ifCond .eq 10) 106 113 0 0, r0 106 (.aload_n 0) 107, rX 107 (.getfield 44) 110 2 9 253, rX 110 (.goto 8) 113 118 0 0, r0 113 (.aload_n 0) 114, rX 114 (.getfield 44) 117 2 9 253, r0 117 (.ineg) 118,
  r0 118 (.iastore) 119, rX 119 (.iconst 1) 120 1 0 0, r0 120 (.ireturn) 121]
def T_rd_takeLost : List Row := [r0 0 (.aload_n 0) 1, rX 1 (.getfield 21) 4 2 2 245, rX 4 (.invokevirtual 196) 7 13 0 641, rX 7 (.iconst 3) 8 3 0 0, rX 8 (.if_icmp .lt 9) 11 17 0 0, r0 11 (.aload_n 0) 12, rX 12 (.iconst 4) 13 4 0 0, rX 13 (.invokevirtual 69) 16 39 0 562,
  r0 16 (.ireturn) 17, r0 17 (.aload_n 0) 18, rX 18 (.invokevirtual 62) 21 40 0 493, r0 21 (.aload_n 0) 22, r0 22 (.aload_n 0) 23, rX 23 (.getfield 21) 26 2 2 245, rX 26 (.getfield 199) 29 3 7 197, rX 29 (.invokevirtual 164) 32 46 0 612,
  rX 32 (.ifCond .ne 5) 35 37 0 0, r0 35 (.iconst 0) 36, r0 36 (.ireturn) 37, r0 37 (.aload_n 0) 38, rX 38 (.getfield 21) 41 2 2 245, r0 41 (.dup) 42, rX 42 (.getfield 199) 45 3 7 197, rX 45 (.iconst 1) 46 1 0 0,
  r0 46 (.aload_n 0) 47, rX 47 (.getfield 44) 50 2 9 253, r0 50 (.ishl) 51, r0 51 (.ior) 52, rX 52 (.putfield 199) 55 3 7 197, rX 55 (.iconst 1) 56 1 0 0, r0 56 (.ireturn) 57]
def T_rd_takeMask : List Row := [r0 0 (.aload_n 0) 1, rX 1 (.getfield 21) 4 2 2 245, rX 4 (.getfield 202) 7 3 4 189, rX 7 (.bipush 12) 9 12 0 0, rX 9 (.if_icmp .lt 9) 12 18 0 0, r0 12 (.aload_n 0) 13, rX 13 (.iconst 4) 14 4 0 0, rX 14 (.invokevirtual 69) 17 39 0 562,
  r0 17 (.ireturn) 18, r0 18 (.aload_n 0) 19, rX 19 (.invokevirtual 62) 22 40 0 493, r0 22 (.iconst 0) 23, r0 23 (.istore_n 1) 24, r0 24 (.iconst 0) 25, r0 25 (.istore_n 2) 26, rH 26 (.iload_n 2) 27 0 0 0 0,
  rX 27 (.bipush 31) 29 31 0 0, rX 29 (.if_icmp .gt 40) 32 69 0 0, r0 32 (.iload_n 1) 33, rX 33 (.ifCond .eq 11) 36 44 0 0, r0 36 (.aload_n 0) 37, rX 37 (.getfield 32) 40 2 5 249, rX 40 (.iconst 2) 41 2 0 0, rX 41 (.if_icmp .ne 28) 44 69 0 0,
  r0 44 (.aload_n 0) 45, r0 45 (.iload_n 1) 46, rX 46 (.invokevirtual 164) 49 46 0 612, rX 49 (.ifCond .ne 5) 52 54 0 0, r0 52 (.iconst 0) 53, r0 53 (.ireturn) 54, r0 54 (.iload_n 1) 55, rX 55 (.iconst 1) 56 1 0 0,
  r0 56 (.aload_n 0) 57, rX 57 (.getfield 44) 60 2 9 253, r0 60 (.ishl) 61, r0 61 (.ior) 62, r0 62 (.istore_n 1) 63, rX 63 (.iinc 2 1) 66 1 0 0, rX 66 (.goto (-40)) 69 26 0 0, r0 69 (.aload_n 0) 70,
  rX 70 (.getfield 21) 73 2 2 245, rX 73 (.getfield 205) 76 3 11 214, r0 76 (.aload_n 0) 77, rX 77 (.getfield 21) 80 2 2 245, rX 80 (.getfield 202) 83 3 4 189, r0 83 (.iload_n 1) 84, r0 84 (.iastore) 85, r0 85 (.aload_n 0) 86,
  rX 86 (.getfield 21) 89 2 2 245, r0 89 (.dup) 90, rX 90 (.getfield 202) 93 3 4 189, rX 93 (.iconst 1) 94 1 0 0, r0 94 (.iadd) 95, rX 95 (.putfield 202) 98 3 4 189, rX 98 (.iconst 1) 99 1 0 0, r0 99 (.ireturn) 100]
def T_sg_init : List Row := [r0 0 (.aload_n 0) 1, rX 1 (.invokespecial 3) 4 0 4 286, r0 4 (.aload_n 0) 5, r0 5 (.iconst 0) 6, rX 6 (.putfield 9) 9 4 0 287, r0 9 (.aload_n 0) 10, r0 10 (.iconst 0) 11, rX 11 (.putfield 15) 14 4 1 289,
  r0 14 (.aload_n 0) 15, r0 15 (.iconst 0) 16, rX 16 (.putfield 18) 19 4 2 291, r0 19 (.aload_n 0) 20, r0 20 (.iconst 0) 21, rX 21 (.putfield 21) 24 4 3 294, r0 24 (.aload_n 0) 25, r0 25 (.lconst 0) 26,
  rX 26 (.putfield 25) 29 4 4 296, r0 29 (.aload_n 0) 30, rX 30 (.bipush 20) 32 20 0 0, r0 32 (.newarray .int) 34, rX 34 (.putfield 29) 37 4 5 298, r0 37 (.aload_n 0) 38, rX 38 (.bipush 20) 40 20 0 0, r0 40 (.newarray .int) 42,
  rX 42 (.putfield 33) 45 4 6 301, r0 45 (.aload_n 0) 46, rX 46 (.bipush 31) 48 31 0 0, r0 48 (.newarray .int) 50, rX 50 (.putfield 36) 53 4 7 304, r0 53 (.aload_n 0) 54, rX 54 (.bipush 31) 56 31 0 0, r0 56 (.newarray .int) 58,
  rX 58 (.putfield 39) 61 4 8 306, r0 61 (.aload_n 0) 62, rX 62 (.bipush 31) 64 31 0 0, r0 64 (.newarray .long) 66, rX 66 (.putfield 42) 69 4 9 308, r0 69 (.return_) 70]
def T_sg_startAnew : List Row := [r0 0 (.aload_n 0) 1, r0 1 (.iconst 0) 2, rX 2 (.putfield 9) 5 4 0 287, r0 5 (.aload_n 0) 6, r0 6 (.iconst 0) 7, rX 7 (.putfield 15) 10 4 1 289, r0 10 (.aload_n 0) 11, rX 11 (.invokevirtual 46) 14 57 0 653,
  r0 14 (.return_) 15]
def T_sg_forget : List Row := [r0 0 (.aload_n 0) 1, r0 1 (.iconst 0) 2, rX 2 (.putfield 18) 5 4 2 291, r0 5 (.aload_n 0) 6, r0 6 (.iconst 0) 7, rX 7 (.putfield 21) 10 4 3 294, r0 10 (.return_) 11]
def T_sg_lookAt : List Row := [r0 0 (.aload_n 0) 1, r0 1 (.dup) 2, rX 2 (.getfield 9) 5 4 0 287, rX 5 (.iconst 1) 6 1 0 0, r0 6 (.iadd) 7, rX 7 (.putfield 9) 10 4 0 287, r0 10 (.aload_n 1) 11, r0 11 (.iload_n 2) 12,
  rX 12 (.invokevirtual 49) 15 20 0 778, r0 15 (.istore_n 3) 16, r0 16 (.iload_n 3) 17, r0 17 (.aload_n 1) 18, rX 18 (.getfield 55) 21 3 3 183, rX 21 (.if_icmp .le 15) 24 36 0 0, r0 24 (.aload_n 0) 25, r0 25 (.dup) 26,
  rX 26 (.getfield 15) 29 4 1 289, rX 29 (.iconst 1) 30 1 0 0, r0 30 (.iadd) 31, rX 31 (.putfield 15) 34 4 1 289, rX 34 (.iconst (-1)) 35 1 1 0, r0 35 (.ireturn) 36, r0 36 (.iload_n 3) 37, r0 37 (.ireturn) 38]
def T_sg_keep : List Row := [r0 0 (.aload_n 0) 1, rX 1 (.getfield 18) 4 4 2 291, rX 4 (.bipush 20) 6 20 0 0, rX 6 (.if_icmp .ge 13) 9 19 0 0, r0 9 (.aload_n 0) 10, r0 10 (.dup) 11, rX 11 (.getfield 18) 14 4 2 291, rX 14 (.iconst 1) 15 1 0 0,
  r0 15 (.iadd) 16, rX 16 (.putfield 18) 19 4 2 291, r0 19 (.aload_n 0) 20, rX 20 (.getfield 18) 23 4 2 291, rX 23 (.iconst 1) 24 1 0 0, r0 24 (.isub) 25, r0 25 (.istore_n 3) 26, rH 26 (.iload_n 3) 27 0 0 0 0,
  rX 27 (.ifCond .le 37) 30 64 0 0, r0 30 (.aload_n 0) 31, rX 31 (.getfield 29) 34 4 5 298, r0 34 (.iload_n 3) 35, r0 35 (.aload_n 0) 36, rX 36 (.getfield 29) 39 4 5 298, r0 39 (.iload_n 3) 40, rX 40 (.iconst 1) 41 1 0 0,
  r0 41 (.isub) 42, r0 42 (.iaload) 43, r0 43 (.iastore) 44, r0 44 (.aload_n 0) 45, rX 45 (.getfield 33) 48 4 6 301, r0 48 (.iload_n 3) 49, r0 49 (.aload_n 0) 50, rX 50 (.getfield 33) 53 4 6 301,
  r0 53 (.iload_n 3) 54, rX 54 (.iconst 1) 55 1 0 0, r0 55 (.isub) 56, r0 56 (.iaload) 57, r0 57 (.iastore) 58, rX 58 (.iinc 3 (-1)) 61 1 1 0, rX 61 (.goto (-35)) 64 26 0 0, r0 64 (.aload_n 0) 65,
  rX 65 (.getfield 29) 68 4 5 298, r0 68 (.iconst 0) 69, r0 69 (.iload_n 1) 70, r0 70 (.iastore) 71, r0 71 (.aload_n 0) 72, rX 72 (.getfield 33) 75 4 6 301, r0 75 (.iconst 0) 76, r0 76 (.iload_n 2) 77,
  r0 77 (.iastore) 78, r0 78 (.return_) 79]
def T_sg_scanAll : List Row := [r0 0 (.aload_n 0) 1, r0 1 (.iconst 0) 2, rX 2 (.putfield 21) 5 4 3 294, r0 5 (.iconst 0) 6, r0 6 (.istore_n 2) 7, r0 7 (.iconst 0) 8, r0 8 (.istore_n 3) 9, rH 9 (.iload_n 3) 10 0 0 0 0,
  r0 10 (.aload_n 1) 11, rX 11 (.getfield 58) 14 3 0 171, rX 14 (.if_icmp .ge 55) 17 69 0 0, r0 17 (.aload_n 1) 18, r0 18 (.iload_n 3) 19, rX 19 (.invokevirtual 61) 22 12 0 798, rX 22 (.ifCond .ne 41) 25 63 0 0, r0 25 (.aload_n 0) 26,
  r0 26 (.aload_n 1) 27, r0 27 (.aload_n 1) 28, rX 28 (.getfield 65) 31 3 8 200, r0 31 (.iload_n 3) 32, r0 32 (.iaload) 33, rX 33 (.invokevirtual 68) 36 58 0 799, r0 36 (.istore 4) 38, r0 38 (.iload 4) 40,
  rX 40 (.ifCond .ge 5) 43 45 0 0, rX 43 (.iconst (-1)) 44 1 1 0, r0 44 (.ireturn) 45, r0 45 (.aload_n 0) 46, rX 46 (.getfield 36) 49 4 7 304, r0 49 (.iload_n 3) 50, r0 50 (.iload 4) 52, r0 52 (.aload_n 1) 53,
  rX 53 (.getfield 72) 56 3 10 208, r0 56 (.iload_n 3) 57, r0 57 (.iaload) 58, r0 58 (.iadd) 59, r0 59 (.iastore) 60, rX 60 (.iinc 2 1) 63 1 0 0, rX 63 (.iinc 3 1) 66 1 0 0, rX 66 (.goto (-57)) 69 9 0 0,
  r0 69 (.aload_n 0) 70, rX 70 (.iconst 1) 71 1 0 0, rX 71 (.putfield 21) 74 4 3 294, r0 74 (.aload_n 0) 75, r0 75 (.aload_n 1) 76, rX 76 (.invokevirtual 75) 79 61 0 800, r0 79 (.aload_n 0) 80, r0 80 (.aload_n 1) 81,
  rX 81 (.invokevirtual 79) 84 62 0 807, r0 84 (.iload_n 2) 85, r0 85 (.ireturn) 86]
def T_sg_findNets : List Row := [r0 0 (.iconst 0) 1, r0 1 (.istore_n 2) 2, r0 2 (.iconst 0) 3, r0 3 (.istore_n 3) 4, rH 4 (.iload_n 3) 5 0 0 0 0, r0 5 (.aload_n 1) 6, rX 6 (.getfield 58) 9 3 0 171, rX 9 (.if_icmp .ge 47) 12 56 0 0,
  r0 12 (.aload_n 0) 13, rX 13 (.getfield 39) 16 4 8 306, r0 16 (.iload_n 3) 17, r0 17 (.aload_n 1) 18, r0 18 (.iload_n 3) 19, rX 19 (.invokevirtual 61) 22 12 0 798, rX 22 (.ifCond .eq 7) 25 29 0 0, r0 25 (.iconst 0) 26,
  rX 26 (.goto 14) 29 40 0 0, r0 29 (.aload_n 0) 30, rX 30 (.getfield 36) 33 4 7 304, r0 33 (.iload_n 3) 34, r0 34 (.iaload) 35, r0 35 (.aload_n 1) 36, rX 36 (.getfield 82) 39 3 2 179, r0 39 (.isub) 40,
  r0 40 (.iastore) 41, r0 41 (.iload_n 2) 42, r0 42 (.aload_n 0) 43, rX 43 (.getfield 39) 46 4 8 306, r0 46 (.iload_n 3) 47, r0 47 (.iaload) 48, r0 48 (.iadd) 49, r0 49 (.istore_n 2) 50,
  rX 50 (.iinc 3 1) 53 1 0 0, rX 53 (.goto (-49)) 56 4 0 0, r0 56 (.aload_n 0) 57, r0 57 (.iload_n 2) 58, r0 58 (.i2l) 59, rX 59 (.putfield 25) 62 4 4 296, r0 62 (.aload_n 1) 63, rX 63 (.invokevirtual 85) 66 13 0 804,
  rX 66 (.iconst 1) 67 1 0 0, rX 67 (.if_icmp .eq 4) 70 71 0 0, r0 70 (.return_) 71, r0 71 (.aload_n 1) 72, rX 72 (.invokevirtual 89) 75 16 0 805, r0 75 (.aload_n 1) 76, rX 76 (.invokevirtual 92) 79 17 0 806, r0 79 (.imul) 80,
  r0 80 (.istore_n 3) 81, r0 81 (.iconst 0) 82, r0 82 (.istore 4) 84, rH 84 (.iload 4) 86 0 0 0 0, r0 86 (.aload_n 1) 87, rX 87 (.getfield 58) 90 3 0 171, rX 90 (.if_icmp .ge 28) 93 118 0 0, r0 93 (.aload_n 1) 94,
  r0 94 (.iload 4) 96, rX 96 (.invokevirtual 61) 99 12 0 798, rX 99 (.ifCond .eq 13) 102 112 0 0, r0 102 (.aload_n 0) 103, rX 103 (.getfield 39) 106 4 8 306, r0 106 (.iload 4) 108, r0 108 (.iload_n 3) 109, r0 109 (.iload_n 2) 110,
  r0 110 (.isub) 111, r0 111 (.iastore) 112, rX 112 (.iinc 4 1) 115 1 0 0, rX 115 (.goto (-31)) 118 84 0 0, r0 118 (.aload_n 0) 119, r0 119 (.iload_n 3) 120, r0 120 (.i2l) 121, rX 121 (.putfield 25) 124 4 4 296,
  r0 124 (.return_) 125]
def T_sg_findBacks : List Row := [r0 0 (.iconst 0) 1, r0 1 (.istore_n 2) 2, rH 2 (.iload_n 2) 3 0 0 0 0, r0 3 (.aload_n 1) 4, rX 4 (.getfield 58) 7 3 0 171, rX 7 (.if_icmp .ge 75) 10 82 0 0, r0 10 (.lconst 0) 11, r0 11 (.lstore_n 3) 12,
  r0 12 (.iconst 0) 13, r0 13 (.istore 5) 15, rH 15 (.iload 5) 17 0 0 0 0, r0 17 (.aload_n 1) 18, rX 18 (.getfield 58) 21 3 0 171, rX 21 (.if_icmp .ge 35) 24 56 0 0, r0 24 (.aload_n 1) 25, rX 25 (.getfield 65) 28 3 8 200,
  r0 28 (.iload 5) 30, r0 30 (.iaload) 31, r0 31 (.iload_n 2) 32, r0 32 (.ishr) 33, rX 33 (.iconst 1) 34 1 0 0, r0 34 (.iand) 35, rX 35 (.iconst 1) 36 1 0 0, rX 36 (.if_icmp .ne 14) 39 50 0 0,
  r0 39 (.lload_n 3) 40, r0 40 (.aload_n 0) 41, rX 41 (.getfield 39) 44 4 8 306, r0 44 (.iload 5) 46, r0 46 (.iaload) 47, r0 47 (.i2l) 48, r0 48 (.ladd) 49, r0 49 (.lstore_n 3) 50,
  rX 50 (.iinc 5 1) 53 1 0 0, rX 53 (.goto (-38)) 56 15 0 0, r0 56 (.aload_n 0) 57, rX 57 (.getfield 42) 60 4 9 308, r0 60 (.iload_n 2) 61, rX 61 (.ldc2_w 95) 64 4 0 811, r0 64 (.lload_n 3) 65, r0 65 (.lmul) 66,
  rX 66 (.ldc2_w 97) 69 2 0 812, r0 69 (.aload_n 0) 70, rX 70 (.getfield 25) 73 4 4 296, r0 73 (.lmul) 74, r0 74 (.lsub) 75, r0 75 (.lastore) 76, rX 76 (.iinc 2 1) 79 1 0 0, rX 79 (.goto (-77)) 82 2 0 0,
  r0 82 (.return_) 83]
def T_sg_errorOf : List Row := [r0 0 (.aload_n 1) 1, r0 1 (.iload_n 2) 2, rX 2 (.invokevirtual 99) 5 9 0 872, rX 5 (.ifCond .ne 5) 8 10 0 0, r0 8 (.lconst 0) 9, r0 9 (.lreturn) 10, r0 10 (.aload_n 0) 11, rX 11 (.getfield 42) 14 4 9 308,
  r0 14 (.iload_n 2) 15, r0 15 (.laload) 16, r0 16 (.aload_n 1) 17, rX 17 (.getfield 102) 20 3 9 204, r0 20 (.iload_n 2) 21, r0 21 (.iaload) 22, r0 22 (.i2l) 23, r0 23 (.aload_n 1) 24,
  rX 24 (.invokevirtual 105) 27 14 0 873, r0 27 (.lmul) 28, r0 28 (.lsub) 29, r0 29 (.lreturn) 30]
def T_su_init : List Row := [r0 0 (.aload_n 0) 1, rX 1 (.invokespecial 3) 4 0 4 338, r0 4 (.aload_n 0) 5, rX 5 (.bipush 31) 7 31 0 0, r0 7 (.newarray .int) 9, rX 9 (.putfield 9) 12 5 0 339, r0 12 (.return_) 13]
def T_su_count : List Row := [r0 0 (.iconst 0) 1, r0 1 (.istore_n 3) 2, r0 2 (.iconst 0) 3, r0 3 (.istore 4) 5, rH 5 (.iload 4) 7 0 0 0 0, rX 7 (.iconst 2) 8 2 0 0, r0 8 (.aload_n 1) 9, rX 9 (.getfield 15) 12 3 0 169,
  r0 12 (.imul) 13, rX 13 (.if_icmp .gt 23) 16 36 0 0, r0 16 (.aload_n 0) 17, r0 17 (.iload 4) 19, r0 19 (.aload_n 1) 20, r0 20 (.aload_n 2) 21, rX 21 (.invokevirtual 21) 24 67 0 931, rX 24 (.ifCond .eq 6) 27 30 0 0,
  rX 27 (.iinc 3 1) 30 1 0 0, rX 30 (.iinc 4 1) 33 1 0 0, rX 33 (.goto (-28)) 36 5 0 0, r0 36 (.iload_n 3) 37, r0 37 (.ireturn) 38]
def T_su_numberOf : List Row := [r0 0 (.iconst 0) 1, r0 1 (.istore 4) 3, r0 3 (.iconst 0) 4, r0 4 (.istore 5) 6, rH 6 (.iload 5) 8 0 0 0 0, rX 8 (.iconst 2) 9 2 0 0, r0 9 (.aload_n 2) 10, rX 10 (.getfield 15) 13 3 0 169,
  r0 13 (.imul) 14, rX 14 (.if_icmp .gt 32) 17 46 0 0, r0 17 (.aload_n 0) 18, r0 18 (.iload 5) 20, r0 20 (.aload_n 2) 21, r0 21 (.aload_n 3) 22, rX 22 (.invokevirtual 21) 25 67 0 931, rX 25 (.ifCond .eq 15) 28 40 0 0,
  r0 28 (.iload 4) 30, r0 30 (.iload_n 1) 31, rX 31 (.if_icmp .ne 6) 34 37 0 0, r0 34 (.iload 5) 36, r0 36 (.ireturn) 37, rX 37 (.iinc 4 1) 40 1 0 0, rX 40 (.iinc 5 1) 43 1 0 0, rX 43 (.goto (-37)) 46 6 0 0,
  rX 46 (.iconst (-1)) 47 1 1 0, r0 47 (.ireturn) 48]
def T_su_holds : List Row := [r0 0 (.iload_n 1) 1, rX 1 (.ifCond .ne 37) 4 38 0 0, r0 4 (.aload_n 0) 5, r0 5 (.aload_n 2) 6, r0 6 (.aload_n 3) 7, rX 7 (.invokevirtual 25) 10 68 0 935, rX 10 (.ifCond .eq 26) 13 36 0 0, r0 13 (.aload_n 0) 14,
  r0 14 (.aload_n 2) 15, rX 15 (.invokevirtual 29) 18 72 0 945, rX 18 (.ifCond .eq 18) 21 36 0 0, r0 21 (.aload_n 0) 22, r0 22 (.aload_n 2) 23, r0 23 (.aload_n 3) 24, r0 24 (.iconst 0) 25, r0 25 (.iconst 0) 26,
  rX 26 (.invokevirtual 33) 29 73 0 950, rX 29 (.ifCond .eq 7) 32 36 0 0, rX 32 (.iconst 1) 33 1 0 0, rX 33 (.goto 4) 36 37 0 0, r0 36 (.iconst 0) 37, r0 37 (.ireturn) 38, r0 38 (.iload_n 1) 39, rX 39 (.iconst 1) 40 1 0 0,
  r0 40 (.isub) 41, rX 41 (.iconst 2) 42 2 0 0, r0 42 (.idiv) 43, r0 43 (.istore 4) 45, r0 45 (.aload_n 2) 46, r0 46 (.iload 4) 48, rX 48 (.invokevirtual 37) 51 9 0 954, rX 51 (.ifCond .ne 5) 54 56 0 0,
  r0 54 (.iconst 0) 55, r0 55 (.ireturn) 56, r0 56 (.iload_n 1) 57, rX 57 (.iconst 1) 58 1 0 0, r0 58 (.iand) 59, rX 59 (.iconst 1) 60 1 0 0, rX 60 (.if_icmp .ne 42) 63 102 0 0, r0 63 (.aload_n 0) 64,
  r0 64 (.iload 4) 66, r0 66 (.aload_n 2) 67, r0 67 (.aload_n 3) 68, rX 68 (.invokevirtual 41) 71 69 0 955, rX 71 (.ifCond .eq 29) 74 100 0 0, r0 74 (.aload_n 0) 75, r0 75 (.aload_n 2) 76, rX 76 (.invokevirtual 29) 79 72 0 945,
  rX 79 (.ifCond .eq 21) 82 100 0 0, r0 82 (.aload_n 0) 83, r0 83 (.aload_n 2) 84, r0 84 (.aload_n 3) 85, rX 85 (.iconst 1) 86 1 0 0, r0 86 (.iload 4) 88, r0 88 (.ishl) 89, r0 89 (.iconst 0) 90,
  rX 90 (.invokevirtual 33) 93 73 0 950, rX 93 (.ifCond .eq 7) 96 100 0 0, rX 96 (.iconst 1) 97 1 0 0, rX 97 (.goto 4) 100 101 0 0, r0 100 (.iconst 0) 101, r0 101 (.ireturn) 102, r0 102 (.aload_n 0) 103, r0 103 (.iload 4) 105,
  r0 105 (.aload_n 2) 106, r0 106 (.aload_n 3) 107, rX 107 (.invokevirtual 44) 110 70 0 960, rX 110 (.ifCond .eq 29) 113 139 0 0, r0 113 (.aload_n 0) 114, r0 114 (.aload_n 2) 115, rX 115 (.invokevirtual 29) 118 72 0 945, rX 118 (.ifCond .eq 21) 121 139 0 0,
  r0 121 (.aload_n 0) 122, r0 122 (.aload_n 2) 123, r0 123 (.aload_n 3) 124, r0 124 (.iconst 0) 125, rX 125 (.iconst 1) 126 1 0 0, r0 126 (.iload 4) 128, r0 128 (.ishl) 129, rX 129 (.invokevirtual 33) 132 73 0 950,
  rX 132 (.ifCond .eq 7) 135 139 0 0, rX 135 (.iconst 1) 136 1 0 0, rX 136 (.goto 4) 139 140 0 0, r0 139 (.iconst 0) 140, r0 140 (.ireturn) 141]
def T_su_supposeFine : List Row := [r0 0 (.iconst 0) 1, r0 1 (.istore_n 3) 2, rH 2 (.iload_n 3) 3 0 0 0 0, r0 3 (.aload_n 1) 4, rX 4 (.getfield 15) 7 3 0 169, rX 7 (.if_icmp .ge 29) 10 36 0 0, r0 10 (.aload_n 0) 11, r0 11 (.iload_n 3) 12,
  r0 12 (.aload_n 2) 13, rX 13 (.getfield 47) 16 4 9 309, r0 16 (.iload_n 3) 17, r0 17 (.laload) 18, r0 18 (.aload_n 1) 19, rX 19 (.invokevirtual 53) 22 14 0 939, rX 22 (.invokevirtual 57) 25 71 0 940, rX 25 (.ifCond .ne 5) 28 30 0 0,
  r0 28 (.iconst 0) 29, r0 29 (.ireturn) 30, rX 30 (.iinc 3 1) 33 1 0 0, rX 33 (.goto (-31)) 36 2 0 0, rX 36 (.iconst 1) 37 1 0 0, r0 37 (.ireturn) 38]
def T_su_supposeOpen : List Row := [r0 0 (.aload_n 3) 1, rX 1 (.getfield 47) 4 4 9 309, r0 4 (.iload_n 1) 5, r0 5 (.laload) 6, r0 6 (.lstore 4) 8, r0 8 (.iconst 0) 9, r0 9 (.istore 6) 11, rH 11 (.iload 6) 13 0 0 0 0,
  r0 13 (.aload_n 2) 14, rX 14 (.getfield 15) 17 3 0 169, rX 17 (.if_icmp .ge 58) 20 75 0 0, r0 20 (.iload 6) 22, r0 22 (.iload_n 1) 23, rX 23 (.if_icmp .ne 17) 26 40 0 0, r0 26 (.aload_n 0) 27, r0 27 (.iload 6) 29,
  r0 29 (.lload 4) 31, rX 31 (.ldc2_w 61) 34 2 0 959, rX 34 (.invokevirtual 57) 37 71 0 940, rX 37 (.goto 23) 40 60 0 0, r0 40 (.aload_n 0) 41, r0 41 (.iload 6) 43, r0 43 (.aload_n 3) 44, rX 44 (.getfield 47) 47 4 9 309,
  r0 47 (.iload 6) 49, r0 49 (.laload) 50, r0 50 (.lload 4) 52, r0 52 (.lsub) 53, r0 53 (.aload_n 2) 54, rX 54 (.invokevirtual 53) 57 14 0 939, rX 57 (.invokevirtual 57) 60 71 0 940, r0 60 (.istore 7) 62,
  r0 62 (.iload 7) 64, rX 64 (.ifCond .ne 5) 67 69 0 0, r0 67 (.iconst 0) 68, r0 68 (.ireturn) 69, rX 69 (.iinc 6 1) 72 1 0 0, rX 72 (.goto (-61)) 75 11 0 0, rX 75 (.iconst 1) 76 1 0 0, r0 76 (.ireturn) 77]
def T_su_supposeShut : List Row := [r0 0 (.aload_n 3) 1, rX 1 (.getfield 47) 4 4 9 309, r0 4 (.iload_n 1) 5, r0 5 (.laload) 6, r0 6 (.lconst 0) 7, r0 7 (.lcmp) 8, rX 8 (.ifCond .eq 5) 11 13 0 0, r0 11 (.iconst 0) 12,
  r0 12 (.ireturn) 13, r0 13 (.aload_n 2) 14, rX 14 (.invokevirtual 63) 17 17 0 949, r0 17 (.i2l) 18, r0 18 (.lstore 4) 20, r0 20 (.iconst 0) 21, r0 21 (.istore 6) 23, rH 23 (.iload 6) 25 0 0 0 0,
  r0 25 (.aload_n 2) 26, rX 26 (.getfield 15) 29 3 0 169, rX 29 (.if_icmp .ge 50) 32 79 0 0, r0 32 (.iload 6) 34, r0 34 (.iload_n 1) 35, rX 35 (.if_icmp .eq 38) 38 73 0 0, r0 38 (.aload_n 0) 39, r0 39 (.iload 6) 41,
  r0 41 (.aload_n 3) 42, rX 42 (.getfield 47) 45 4 9 309, r0 45 (.iload 6) 47, r0 47 (.laload) 48, r0 48 (.aload_n 2) 49, rX 49 (.invokevirtual 53) 52 14 0 939, rX 52 (.invokevirtual 57) 55 71 0 940, rX 55 (.ifCond .ne 5) 58 60 0 0,
  r0 58 (.iconst 0) 59, r0 59 (.ireturn) 60, r0 60 (.lload 4) 62, r0 62 (.aload_n 0) 63, rX 63 (.getfield 9) 66 5 0 339, r0 66 (.iload 6) 68, r0 68 (.iaload) 69, r0 69 (.i2l) 70,
  r0 70 (.lsub) 71, r0 71 (.lstore 4) 73, rX 73 (.iinc 6 1) 76 1 0 0, rX 76 (.goto (-53)) 79 23 0 0, r0 79 (.aload_n 0) 80, r0 80 (.iload_n 1) 81, r0 81 (.lload 4) 83, rX 83 (.lconst 1) 84 1 0 0,
  rX 84 (.invokevirtual 57) 87 71 0 940, r0 87 (.ireturn) 88]
def T_su_put : List Row := [r0 0 (.iload_n 1) 1, rX 1 (.ifCond .lt 25) 4 26 0 0, r0 4 (.iload_n 1) 5, rX 5 (.bipush 31) 7 31 0 0, rX 7 (.if_icmp .ge 19) 10 26 0 0, r0 10 (.lload 4) 12, r0 12 (.lconst 0) 13, r0 13 (.lcmp) 14,
  rX 14 (.ifCond .le 12) 17 26 0 0, r0 17 (.lload_n 2) 18, r0 18 (.lload 4) 20, r0 20 (.lrem) 21, r0 21 (.lconst 0) 22, r0 22 (.lcmp) 23, rX 23 (.ifCond .eq 5) 26 28 0 0, r0 26 (.iconst 0) 27,
  r0 27 (.ireturn) 28, r0 28 (.lload_n 2) 29, r0 29 (.lload 4) 31, r0 31 (.ldiv) 32, r0 32 (.lstore 6) 34, r0 34 (.lload 6) 36, r0 36 (.lconst 0) 37, r0 37 (.lcmp) 38,
  rX 38 (.ifCond .lt 12) 41 50 0 0, r0 41 (.lload 6) 43, rX 43 (.ldc2_w 67) 46 9999 0 944, r0 46 (.lcmp) 47, rX 47 (.ifCond .le 5) 50 52 0 0, r0 50 (.iconst 0) 51, r0 51 (.ireturn) 52, r0 52 (.aload_n 0) 53,
  rX 53 (.getfield 9) 56 5 0 339, r0 56 (.iload_n 1) 57, r0 57 (.lload 6) 59, r0 59 (.l2i) 60, r0 60 (.iastore) 61, rX 61 (.iconst 1) 62 1 0 0, r0 62 (.ireturn) 63]
def T_su_sumIsRight : List Row := [r0 0 (.iconst 0) 1, r0 1 (.istore_n 2) 2, r0 2 (.iconst 0) 3, r0 3 (.istore_n 3) 4, rH 4 (.iload_n 3) 5 0 0 0 0, r0 5 (.aload_n 1) 6, rX 6 (.getfield 15) 9 3 0 169, rX 9 (.if_icmp .ge 18) 12 27 0 0,
  r0 12 (.iload_n 2) 13, r0 13 (.aload_n 0) 14, rX 14 (.getfield 9) 17 5 0 339, r0 17 (.iload_n 3) 18, r0 18 (.iaload) 19, r0 19 (.iadd) 20, r0 20 (.istore_n 2) 21, rX 21 (.iinc 3 1) 24 1 0 0,
  rX 24 (.goto (-20)) 27 4 0 0, r0 27 (.iload_n 2) 28, r0 28 (.aload_n 1) 29, rX 29 (.invokevirtual 63) 32 17 0 949, rX 32 (.if_icmp .ne 7) 35 39 0 0, rX 35 (.iconst 1) 36 1 0 0, rX 36 (.goto 4) 39 40 0 0, r0 39 (.iconst 0) 40,
  r0 40 (.ireturn) 41]
def T_su_logIsRight : List Row := [r0 0 (.iconst 0) 1, r0 1 (.istore 5) 3, rH 3 (.iload 5) 5 0 0 0 0, r0 5 (.aload_n 2) 6, rX 6 (.getfield 69) 9 4 2 292, rX 9 (.if_icmp .ge 86) 12 95 0 0, r0 12 (.aload_n 2) 13, rX 13 (.getfield 72) 16 4 5 299,
  r0 16 (.iload 5) 18, r0 18 (.iaload) 19, r0 19 (.iload 4) 21, rX 21 (.iconst (-1)) 22 1 1 0, r0 22 (.ixor) 23, r0 23 (.iand) 24, r0 24 (.iload_n 3) 25, r0 25 (.ior) 26,
  r0 26 (.istore 6) 28, r0 28 (.aload_n 1) 29, rX 29 (.getfield 75) 32 3 2 180, r0 32 (.istore 7) 34, r0 34 (.iconst 0) 35, r0 35 (.istore 8) 37, rH 37 (.iload 8) 39 0 0 0 0, r0 39 (.aload_n 1) 40,
  rX 40 (.getfield 15) 43 3 0 169, rX 43 (.if_icmp .ge 32) 46 75 0 0, r0 46 (.iload 6) 48, r0 48 (.iload 8) 50, r0 50 (.ishr) 51, rX 51 (.iconst 1) 52 1 0 0, r0 52 (.iand) 53, rX 53 (.iconst 1) 54 1 0 0,
  rX 54 (.if_icmp .ne 15) 57 69 0 0, r0 57 (.iload 7) 59, r0 59 (.aload_n 0) 60, rX 60 (.getfield 9) 63 5 0 339, r0 63 (.iload 8) 65, r0 65 (.iaload) 66, r0 66 (.iadd) 67, r0 67 (.istore 7) 69,
  rX 69 (.iinc 8 1) 72 1 0 0, rX 72 (.goto (-35)) 75 37 0 0, r0 75 (.iload 7) 77, r0 77 (.aload_n 2) 78, rX 78 (.getfield 78) 81 4 6 302, r0 81 (.iload 5) 83, r0 83 (.iaload) 84, rX 84 (.if_icmp .eq 5) 87 89 0 0,
  r0 87 (.iconst 0) 88, r0 88 (.ireturn) 89, rX 89 (.iinc 5 1) 92 1 0 0, rX 92 (.goto (-89)) 95 3 0 0, rX 95 (.iconst 1) 96 1 0 0, r0 96 (.ireturn) 97]
def T_tp_init : List Row := [r0 0 (.aload_n 0) 1, rX 1 (.invokespecial 3) 4 0 4 145, r0 4 (.aload_n 0) 5, rX 5 (.sipush 800) 8 800 0 0, r0 8 (.newarray .int) 10, rX 10 (.putfield 9) 13 1 0 146, r0 13 (.aload_n 0) 14, r0 14 (.iconst 0) 15,
  rX 15 (.putfield 15) 18 1 1 148, r0 18 (.return_) 19]
def T_tp_hasRoom : List Row := [r0 0 (.aload_n 0) 1, rX 1 (.getfield 15) 4 1 1 148, rX 4 (.bipush 20) 6 20 0 0, r0 6 (.iadd) 7, rX 7 (.sipush 800) 10 800 0 0, rX 10 (.if_icmp .gt 7) 13 17 0 0, rX 13 (.iconst 1) 14 1 0 0, rX 14 (.goto 4) 17 18 0 0,
  r0 17 (.iconst 0) 18, r0 18 (.ireturn) 19]
def T_tp_put : List Row := [rX 0 (.bipush 24) 2 24 0 0, r0 2 (.istore_n 2) 3, rH 3 (.iload_n 2) 4 0 0 0 0, rX 4 (.ifCond .lt 45) 7 49 0 0, r0 7 (.aload_n 0) 8, rX 8 (.getfield 15) 11 1 1 148, rX 11 (.sipush 800) 14 800 0 0, rX 14 (.if_icmp .ge 35) 17 49 0 0,
  r0 17 (.aload_n 0) 18, rX 18 (.getfield 9) 21 1 0 146, r0 21 (.aload_n 0) 22, rX 22 (.getfield 15) 25 1 1 148, r0 25 (.iload_n 1) 26, r0 26 (.iload_n 2) 27, r0 27 (.iushr) 28, rX 28 (.sipush 255) 31 255 0 0,
  r0 31 (.iand) 32, r0 32 (.iastore) 33, r0 33 (.aload_n 0) 34, r0 34 (.dup) 35, rX 35 (.getfield 15) 38 1 1 148, rX 38 (.iconst 1) 39 1 0 0, r0 39 (.iadd) 40, rX 40 (.putfield 15) 43 1 1 148,
  rX 43 (.iinc 2 (-8)) 46 8 1 0, rX 46 (.goto (-43)) 49 3 0 0, r0 49 (.return_) 50]
def T_tr_init : List Row := [r0 0 (.aload_n 0) 1, rX 1 (.invokespecial 3) 4 0 4 380, r0 4 (.aload_n 0) 5, r0 5 (.iconst 0) 6, rX 6 (.putfield 9) 9 7 0 381, r0 9 (.aload_n 0) 10, r0 10 (.iconst 0) 11, rX 11 (.putfield 15) 14 7 1 383,
  r0 14 (.aload_n 0) 15, rX 15 (.bipush 12) 17 12 0 0, r0 17 (.newarray .int) 19, rX 19 (.putfield 19) 22 7 2 385, r0 22 (.aload_n 0) 23, rX 23 (.sipush 156) 26 156 0 0, r0 26 (.newarray .int) 28, rX 28 (.putfield 23) 31 7 3 387,
  r0 31 (.aload_n 0) 32, r0 32 (.iconst 0) 33, r0 33 (.newarray .int) 35, rX 35 (.putfield 26) 38 7 4 388, r0 38 (.aload_n 0) 39, r0 39 (.iconst 0) 40, rX 40 (.putfield 29) 43 7 5 389, r0 43 (.return_) 44]
def T_tr_find : List Row := [r0 0 (.aload_n 0) 1, rX 1 (.getfield 9) 4 7 0 381, rX 4 (.ifCond .eq 4) 7 8 0 0, r0 7 (.return_) 8, r0 8 (.aload_n 0) 9, rX 9 (.iconst 1) 10 1 0 0, rX 10 (.putfield 9) 13 7 0 381, r0 13 (.aload_n 0) 14,
  r0 14 (.aload_n 1) 15, rX 15 (.getfield 32) 18 3 4 188, rX 18 (.bipush 12) 20 12 0 0, rX 20 (.invokestatic 37) 23 0 6 1047, rX 23 (.putfield 29) 26 7 5 389, r0 26 (.aload_n 0) 27, r0 27 (.aload_n 1) 28, rX 28 (.invokevirtual 43) 31 79 0 1048,
  r0 31 (.aload_n 0) 32, rX 32 (.getfield 26) 35 7 4 388, r0 35 (.arraylength) 36, r0 36 (.aload_n 0) 37, rX 37 (.getfield 29) 40 7 5 389, r0 40 (.aload_n 0) 41, rX 41 (.getfield 29) 44 7 5 389, r0 44 (.ishl) 45,
  rX 45 (.if_icmp .ge 18) 48 63 0 0, r0 48 (.aload_n 0) 49, r0 49 (.aload_n 0) 50, rX 50 (.getfield 29) 53 7 5 389, r0 53 (.aload_n 0) 54, rX 54 (.getfield 29) 57 7 5 389, r0 57 (.ishl) 58, r0 58 (.newarray .int) 60,
  rX 60 (.putfield 26) 63 7 4 388, rX 63 (.iconst 1) 64 1 0 0, r0 64 (.aload_n 0) 65, rX 65 (.getfield 29) 68 7 5 389, r0 68 (.ishl) 69, rX 69 (.iconst 1) 70 1 0 0, r0 70 (.isub) 71, r0 71 (.istore_n 2) 72,
  rH 72 (.iload_n 2) 73 0 0 0 0, rX 73 (.ifCond .le 53) 76 126 0 0, r0 76 (.iconst 0) 77, r0 77 (.istore_n 3) 78, rH 78 (.iload_n 3) 79 0 0 0 0, r0 79 (.aload_n 0) 80, rX 80 (.getfield 29) 83 7 5 389, rX 83 (.if_icmp .ge 37) 86 120 0 0,
  r0 86 (.iload_n 2) 87, r0 87 (.iload_n 3) 88, r0 88 (.ishr) 89, rX 89 (.iconst 1) 90 1 0 0, r0 90 (.iand) 91, rX 91 (.iconst 1) 92 1 0 0, rX 92 (.if_icmp .ne 22) 95 114 0 0, r0 95 (.aload_n 0) 96,
  rX 96 (.getfield 26) 99 7 4 388, r0 99 (.iload_n 2) 100, r0 100 (.aload_n 0) 101, rX 101 (.getfield 29) 104 7 5 389, r0 104 (.imul) 105, r0 105 (.iload_n 3) 106, r0 106 (.iadd) 107, r0 107 (.aload_n 0) 108,
  r0 108 (.iload_n 2) 109, r0 109 (.iload_n 3) 110, rX 110 (.invokevirtual 47) 113 80 0 1053, r0 113 (.iastore) 114, rX 114 (.iinc 3 1) 117 1 0 0, rX 117 (.goto (-39)) 120 78 0 0, rX 120 (.iinc 2 (-1)) 123 1 1 0, rX 123 (.goto (-51)) 126 72 0 0,
  r0 126 (.aload_n 0) 127, r0 127 (.aload_n 0) 128, r0 128 (.iconst 0) 129, rX 129 (.bipush 12) 131 12 0 0, rX 131 (.invokevirtual 47) 134 80 0 1053, rX 134 (.putfield 15) 137 7 1 383, r0 137 (.aload_n 0) 138, rX 138 (.invokevirtual 50) 141 82 0 1064,
  r0 141 (.return_) 142]
def T_tr_findSteps : List Row := [r0 0 (.iconst 0) 1, r0 1 (.istore_n 2) 2, rH 2 (.iload_n 2) 3 0 0 0 0, rX 3 (.bipush 12) 5 12 0 0, rX 5 (.if_icmp .gt 70) 8 75 0 0, r0 8 (.iload_n 2) 9, r0 9 (.aload_n 0) 10, rX 10 (.getfield 29) 13 7 5 389,
  rX 13 (.if_icmp .ge 12) 16 25 0 0, r0 16 (.aload_n 1) 17, rX 17 (.getfield 53) 20 3 11 212, r0 20 (.iload_n 2) 21, r0 21 (.iaload) 22, rX 22 (.goto 4) 25 26 0 0, r0 25 (.iconst 0) 26, r0 26 (.istore_n 3) 27,
  r0 27 (.iconst 0) 28, r0 28 (.istore 4) 30, rH 30 (.iload 4) 32 0 0 0 0, r0 32 (.aload_n 0) 33, rX 33 (.getfield 29) 36 7 5 389, rX 36 (.if_icmp .ge 33) 39 69 0 0, r0 39 (.aload_n 0) 40, rX 40 (.getfield 23) 43 7 3 387,
  r0 43 (.iload_n 2) 44, rX 44 (.bipush 12) 46 12 0 0, r0 46 (.imul) 47, r0 47 (.iload 4) 49, r0 49 (.iadd) 50, r0 50 (.iload_n 3) 51, r0 51 (.aload_n 1) 52, rX 52 (.getfield 53) 55 3 11 212,
  r0 55 (.iload 4) 57, r0 57 (.iaload) 58, r0 58 (.ixor) 59, rX 59 (.invokestatic 56) 62 273 1 1052, r0 62 (.iastore) 63, rX 63 (.iinc 4 1) 66 1 0 0, rX 66 (.goto (-36)) 69 30 0 0, rX 69 (.iinc 2 1) 72 1 0 0,
  rX 72 (.goto (-70)) 75 2 0 0, r0 75 (.return_) 76]
def T_tr_fewestFrom : List Row := [rX 0 (.iconst (-1)) 1 1 1 0, r0 1 (.istore_n 3) 2, r0 2 (.iconst 0) 3, r0 3 (.istore 4) 5, rH 5 (.iload 4) 7 0 0 0 0, r0 7 (.aload_n 0) 8, rX 8 (.getfield 29) 11 7 5 389, rX 11 (.if_icmp .ge 41) 14 52 0 0,
  r0 14 (.iload_n 1) 15, r0 15 (.iload 4) 17, r0 17 (.ishr) 18, rX 18 (.iconst 1) 19 1 0 0, r0 19 (.iand) 20, rX 20 (.ifCond .ne 26) 23 46 0 0, r0 23 (.aload_n 0) 24, r0 24 (.iload_n 1) 25,
  r0 25 (.iload_n 2) 26, r0 26 (.iload 4) 28, rX 28 (.invokevirtual 62) 31 81 0 1057, r0 31 (.istore 5) 33, r0 33 (.iload_n 3) 34, rX 34 (.ifCond .lt 9) 37 43 0 0, r0 37 (.iload 5) 39, r0 39 (.iload_n 3) 40,
  rX 40 (.if_icmp .ge 6) 43 46 0 0, r0 43 (.iload 5) 45, r0 45 (.istore_n 3) 46, rX 46 (.iinc 4 1) 49 1 0 0, rX 49 (.goto (-44)) 52 5 0 0, r0 52 (.iload_n 3) 53, r0 53 (.iconst 0) 54, rX 54 (.invokestatic 66) 57 0 5 1061,
  r0 57 (.ireturn) 58]
def T_tr_movesBy : List Row := [r0 0 (.aload_n 0) 1, rX 1 (.getfield 23) 4 7 3 387, r0 4 (.iload_n 2) 5, rX 5 (.bipush 12) 7 12 0 0, r0 7 (.imul) 8, r0 8 (.iload_n 3) 9, r0 9 (.iadd) 10, r0 10 (.iaload) 11,
  r0 11 (.aload_n 0) 12, rX 12 (.getfield 26) 15 7 4 388, r0 15 (.iload_n 1) 16, rX 16 (.iconst 1) 17 1 0 0, r0 17 (.iload_n 3) 18, r0 18 (.ishl) 19, r0 19 (.ior) 20, r0 20 (.aload_n 0) 21,
  rX 21 (.getfield 29) 24 7 5 389, r0 24 (.imul) 25, r0 25 (.iload_n 3) 26, r0 26 (.iadd) 27, r0 27 (.iaload) 28, r0 28 (.iadd) 29, r0 29 (.ireturn) 30]
def T_tr_walk : List Row := [r0 0 (.iconst 0) 1, r0 1 (.istore_n 1) 2, rX 2 (.bipush 12) 4 12 0 0, r0 4 (.istore_n 2) 5, r0 5 (.iconst 0) 6, r0 6 (.istore_n 3) 7, rH 7 (.iload_n 3) 8 0 0 0 0, r0 8 (.aload_n 0) 9,
  rX 9 (.getfield 29) 12 7 5 389, rX 12 (.if_icmp .ge 35) 15 47 0 0, r0 15 (.aload_n 0) 16, r0 16 (.iload_n 1) 17, r0 17 (.iload_n 2) 18, rX 18 (.invokevirtual 69) 21 83 0 1068, r0 21 (.istore 4) 23, r0 23 (.aload_n 0) 24,
  rX 24 (.getfield 19) 27 7 2 385, r0 27 (.iload_n 3) 28, r0 28 (.iload 4) 30, r0 30 (.iastore) 31, r0 31 (.iload_n 1) 32, rX 32 (.iconst 1) 33 1 0 0, r0 33 (.iload 4) 35, r0 35 (.ishl) 36,
  r0 36 (.ior) 37, r0 37 (.istore_n 1) 38, r0 38 (.iload 4) 40, r0 40 (.istore_n 2) 41, rX 41 (.iinc 3 1) 44 1 0 0, rX 44 (.goto (-37)) 47 7 0 0, r0 47 (.return_) 48]
def T_tr_nextOf : List Row := [r0 0 (.aload_n 0) 1, r0 1 (.iload_n 1) 2, r0 2 (.iload_n 2) 3, rX 3 (.invokevirtual 47) 6 80 0 1053, r0 6 (.istore_n 3) 7, r0 7 (.iconst 0) 8, r0 8 (.istore 4) 10, rH 10 (.iload 4) 12 0 0 0 0,
  r0 12 (.aload_n 0) 13, rX 13 (.getfield 29) 16 7 5 389, rX 16 (.if_icmp .ge 33) 19 49 0 0, r0 19 (.iload_n 1) 20, r0 20 (.iload 4) 22, r0 22 (.ishr) 23, rX 23 (.iconst 1) 24 1 0 0, r0 24 (.iand) 25,
  rX 25 (.ifCond .ne 18) 28 43 0 0, r0 28 (.aload_n 0) 29, r0 29 (.iload_n 1) 30, r0 30 (.iload_n 2) 31, r0 31 (.iload 4) 33, rX 33 (.invokevirtual 62) 36 81 0 1057, r0 36 (.iload_n 3) 37, rX 37 (.if_icmp .ne 6) 40 43 0 0,
  r0 40 (.iload 4) 42, r0 42 (.ireturn) 43, rX 43 (.iinc 4 1) 46 1 0 0, rX 46 (.goto (-36)) 49 10 0 0, r0 49 (.iconst 0) 50, r0 50 (.ireturn) 51]
def T_w_init : List Row := [r0 0 (.aload_n 0) 1, rX 1 (.invokespecial 1) 4 0 4 137, r0 4 (.aload_n 0) 5, rX 5 (.new 7) 8 1 0 140, r0 8 (.dup) 9, rX 9 (.invokespecial 9) 12 74 3 0, rX 12 (.putfield 10) 15 0 0 425, r0 15 (.aload_n 0) 16,
  rX 16 (.new 16) 19 2 0 156, r0 19 (.dup) 20, rX 20 (.invokespecial 18) 23 37 3 1, rX 23 (.putfield 19) 26 0 1 426, r0 26 (.aload_n 0) 27, rX 27 (.new 23) 30 4 0 281, r0 30 (.dup) 31, rX 31 (.invokespecial 25) 34 55 3 2,
  rX 34 (.putfield 26) 37 0 2 427, r0 37 (.aload_n 0) 38, rX 38 (.new 30) 41 5 0 333, r0 41 (.dup) 42, rX 42 (.invokespecial 32) 45 64 3 3, rX 45 (.putfield 33) 48 0 3 428, r0 48 (.aload_n 0) 49, rX 49 (.new 37) 52 6 0 344,
  r0 52 (.dup) 53, rX 53 (.invokespecial 39) 56 22 3 4, rX 56 (.putfield 40) 59 0 4 429, r0 59 (.aload_n 0) 60, rX 60 (.new 44) 63 7 0 375, r0 63 (.dup) 64, rX 64 (.invokespecial 46) 67 77 3 5, rX 67 (.putfield 47) 70 0 5 430,
  r0 70 (.aload_n 0) 71, rX 71 (.new 51) 74 8 0 403, r0 74 (.dup) 75, rX 75 (.invokespecial 53) 78 0 3 6, rX 78 (.putfield 54) 81 0 6 431, r0 81 (.aload_n 0) 82, rX 82 (.new 58) 85 3 0 423, r0 85 (.dup) 86,
  rX 86 (.invokespecial 60) 89 5 3 7, rX 89 (.putfield 61) 92 0 7 432, r0 92 (.aload_n 0) 93, r0 93 (.iconst 0) 94, rX 94 (.putfield 65) 97 0 8 433, r0 97 (.aload_n 0) 98, r0 98 (.iconst 0) 99, rX 99 (.putfield 69) 102 0 9 434,
  r0 102 (.aload_n 0) 103, r0 103 (.iconst 0) 104, rX 104 (.putfield 73) 107 0 10 435, r0 107 (.aload_n 0) 108, r0 108 (.iconst 0) 109, rX 109 (.putfield 76) 112 0 11 436, r0 112 (.return_) 113]
def T_w_feed : List Row := [r0 0 (.aload_n 0) 1, rX 1 (.getfield 10) 4 0 0 425, rX 4 (.invokevirtual 79) 7 75 0 466, rX 7 (.ifCond .ne 5) 10 12 0 0, rX 10 (.iconst (-1)) 11 1 1 0, r0 11 (.ireturn) 12, r0 12 (.aload_n 0) 13, rX 13 (.getfield 10) 16 0 0 425,
  r0 16 (.iload_n 1) 17, rX 17 (.invokevirtual 83) 20 76 0 470, r0 20 (.aload_n 0) 21, rX 21 (.getfield 10) 24 0 0 425, r0 24 (.iload_n 2) 25, rX 25 (.invokevirtual 83) 28 76 0 470, r0 28 (.aload_n 0) 29, rX 29 (.getfield 10) 32 0 0 425,
  r0 32 (.iload_n 3) 33, rX 33 (.invokevirtual 83) 36 76 0 470, r0 36 (.aload_n 0) 37, rX 37 (.getfield 10) 40 0 0 425, r0 40 (.iload 4) 42, rX 42 (.invokevirtual 83) 45 76 0 470, r0 45 (.aload_n 0) 46, rX 46 (.getfield 10) 49 0 0 425,
  r0 49 (.iload 5) 51, rX 51 (.invokevirtual 83) 54 76 0 470, r0 54 (.aload_n 0) 55, rX 55 (.getfield 10) 58 0 0 425, rX 58 (.getfield 87) 61 1 1 149, r0 61 (.ireturn) 62]
def T_w_bench : List Row := [r0 0 (.iload_n 1) 1, rX 1 (.ifCond .lt 14) 4 15 0 0, r0 4 (.iload_n 1) 5, r0 5 (.aload_n 0) 6, rX 6 (.getfield 10) 9 0 0 425, rX 9 (.getfield 87) 12 1 1 149, rX 12 (.if_icmp .le 11) 15 23 0 0, r0 15 (.aload_n 0) 16,
  rX 16 (.iconst 2) 17 2 0 0, rX 17 (.invokevirtual 90) 20 138 0 478, r0 20 (.pop) 21, rX 21 (.iconst (-1)) 22 1 1 0, r0 22 (.ireturn) 23, r0 23 (.aload_n 0) 24, rX 24 (.getfield 19) 27 0 1 426, r0 27 (.aload_n 0) 28,
  rX 28 (.getfield 10) 31 0 0 425, rX 31 (.getfield 94) 34 1 0 147, r0 34 (.iload_n 1) 35, rX 35 (.invokevirtual 98) 38 38 0 482, r0 38 (.istore_n 2) 39, r0 39 (.aload_n 0) 40, rX 40 (.getfield 10) 43 0 0 425, r0 43 (.iconst 0) 44,
  rX 44 (.putfield 87) 47 1 1 149, r0 47 (.aload_n 0) 48, r0 48 (.aload_n 0) 49, rX 49 (.getfield 19) 52 0 1 426, rX 52 (.getfield 102) 55 2 0 242, rX 55 (.putfield 73) 58 0 10 435, r0 58 (.aload_n 0) 59, r0 59 (.aload_n 0) 60,
  rX 60 (.getfield 19) 63 0 1 426, rX 63 (.getfield 105) 66 2 1 244, rX 66 (.putfield 76) 69 0 11 436, r0 69 (.aload_n 0) 70, r0 70 (.iload_n 2) 71, rX 71 (.ifCond .eq 7) 74 78 0 0, r0 74 (.iconst 0) 75, rX 75 (.goto 4) 78 79 0 0,
  rX 78 (.iconst 4) 79 4 0 0, rX 79 (.invokevirtual 90) 82 138 0 478, rX 82 (.ifCond .ne 5) 85 87 0 0, rX 85 (.iconst (-1)) 86 1 1 0, r0 86 (.ireturn) 87, r0 87 (.aload_n 0) 88, rX 88 (.getfield 61) 91 0 7 432, r0 91 (.astore_n 3) 92,
  r0 92 (.aload_n 0) 93, r0 93 (.aload_n 0) 94, rX 94 (.getfield 19) 97 0 1 426, rX 97 (.getfield 108) 100 2 2 246, rX 100 (.putfield 61) 103 0 7 432, r0 103 (.aload_n 0) 104, rX 104 (.getfield 19) 107 0 1 426, r0 107 (.aload_n 3) 108,
  rX 108 (.putfield 108) 111 2 2 246, r0 111 (.aload_n 0) 112, rX 112 (.iconst 1) 113 1 0 0, rX 113 (.putfield 65) 116 0 8 433, r0 116 (.aload_n 0) 117, rX 117 (.getfield 26) 120 0 2 427, rX 120 (.invokevirtual 111) 123 56 0 649, r0 123 (.aload_n 0) 124,
  rX 124 (.getfield 54) 127 0 6 431, rX 127 (.invokevirtual 114) 130 1 0 657, r0 130 (.aload_n 0) 131, rX 131 (.getfield 40) 134 0 4 429, r0 134 (.aload_n 0) 135, rX 135 (.getfield 61) 138 0 7 432, rX 138 (.invokevirtual 117) 141 23 0 661, r0 141 (.aload_n 0) 142,
  rX 142 (.getfield 47) 145 0 5 430, r0 145 (.iconst 0) 146, rX 146 (.putfield 121) 149 7 0 382, r0 149 (.aload_n 0) 150, rX 150 (.getfield 61) 153 0 7 432, rX 153 (.getfield 124) 156 3 0 170, r0 156 (.ireturn) 157]
def T_w_fault : List Row := [r0 0 (.aload_n 0) 1, rX 1 (.getfield 73) 4 0 10 435, r0 4 (.ireturn) 5]
def T_w_where : List Row := [r0 0 (.aload_n 0) 1, rX 1 (.getfield 69) 4 0 9 434, rX 4 (.iconst 4) 5 4 0 0, rX 5 (.if_icmp .ne 10) 8 15 0 0, r0 8 (.aload_n 0) 9, rX 9 (.getfield 76) 12 0 11 436, rX 12 (.goto 4) 15 16 0 0, rX 15 (.iconst (-1)) 16 1 1 0,
  r0 16 (.ireturn) 17]
def T_w_about : List Row := [r0 0 (.aload_n 0) 1, r0 1 (.aload_n 0) 2, rX 2 (.getfield 65) 5 0 8 433, rX 5 (.ifCond .eq 17) 8 22 0 0, r0 8 (.iload_n 1) 9, rX 9 (.ifCond .lt 13) 12 22 0 0, r0 12 (.iload_n 1) 13, rX 13 (.bipush 8) 15 8 0 0,
  rX 15 (.if_icmp .gt 7) 18 22 0 0, r0 18 (.iconst 0) 19, rX 19 (.goto 4) 22 23 0 0, rX 22 (.iconst 1) 23 1 0 0, rX 23 (.invokevirtual 90) 26 138 0 478, rX 26 (.ifCond .ne 5) 29 31 0 0, rX 29 (.iconst (-1)) 30 1 1 0, r0 30 (.ireturn) 31,
  r0 31 (.iload_n 1) 32, r0 32 (.tableswitch 106 0 7 #[48, 56, 64, 72, 80, 88, 96, 104]) 80, r0 80 (.aload_n 0) 81, rX 81 (.getfield 61) 84 0 7 432, rX 84 (.getfield 124) 87 3 0 170, r0 87 (.ireturn) 88, r0 88 (.aload_n 0) 89, rX 89 (.getfield 61) 92 0 7 432,
  rX 92 (.getfield 127) 95 3 1 175, r0 95 (.ireturn) 96, r0 96 (.aload_n 0) 97, rX 97 (.getfield 61) 100 0 7 432, rX 100 (.getfield 130) 103 3 2 178, r0 103 (.ireturn) 104, r0 104 (.aload_n 0) 105, rX 105 (.getfield 61) 108 0 7 432,
  rX 108 (.getfield 133) 111 3 3 184, r0 111 (.ireturn) 112, r0 112 (.aload_n 0) 113, rX 113 (.getfield 61) 116 0 7 432, rX 116 (.invokevirtual 136) 119 17 0 698, r0 119 (.ireturn) 120, r0 120 (.aload_n 0) 121, rX 121 (.getfield 61) 124 0 7 432,
  rX 124 (.invokevirtual 140) 127 16 0 702, r0 127 (.ireturn) 128, r0 128 (.aload_n 0) 129, rX 129 (.getfield 26) 132 0 2 427, rX 132 (.getfield 143) 135 4 0 288, r0 135 (.ireturn) 136, r0 136 (.iconst 0) 137, r0 137 (.ireturn) 138,
  r0 138 (.aload_n 0) 139, rX 139 (.getfield 26) 142 0 2 427, rX 142 (.getfield 146) 145 4 1 290, r0 145 (.ireturn) 146]
def T_w_plate : List Row := [r0 0 (.aload_n 0) 1, r0 1 (.iload_n 1) 2, rX 2 (.invokevirtual 149) 5 140 0 710, rX 5 (.ifCond .eq 15) 8 20 0 0, r0 8 (.aload_n 0) 9, rX 9 (.getfield 61) 12 0 7 432, rX 12 (.getfield 152) 15 3 8 201, r0 15 (.iload_n 1) 16,
  r0 16 (.iaload) 17, rX 17 (.goto 4) 20 21 0 0, rX 20 (.iconst (-1)) 21 1 1 0, r0 21 (.ireturn) 22]
def T_w_common : List Row := [r0 0 (.aload_n 0) 1, r0 1 (.aload_n 0) 2, rX 2 (.getfield 65) 5 0 8 433, rX 5 (.ifCond .eq 29) 8 34 0 0, r0 8 (.aload_n 0) 9, rX 9 (.getfield 61) 12 0 7 432, r0 12 (.iload_n 1) 13, rX 13 (.invokevirtual 155) 16 9 0 714,
  rX 16 (.ifCond .eq 18) 19 34 0 0, r0 19 (.aload_n 0) 20, rX 20 (.getfield 61) 23 0 7 432, r0 23 (.iload_n 2) 24, rX 24 (.invokevirtual 155) 27 9 0 714, rX 27 (.ifCond .eq 7) 30 34 0 0, r0 30 (.iconst 0) 31, rX 31 (.goto 4) 34 35 0 0,
  rX 34 (.iconst 1) 35 1 0 0, rX 35 (.invokevirtual 90) 38 138 0 478, rX 38 (.ifCond .ne 5) 41 43 0 0, rX 41 (.iconst (-1)) 42 1 1 0, r0 42 (.ireturn) 43, r0 43 (.aload_n 0) 44, rX 44 (.getfield 61) 47 0 7 432, rX 47 (.getfield 152) 50 3 8 201,
  r0 50 (.iload_n 1) 51, r0 51 (.iaload) 52, r0 52 (.aload_n 0) 53, rX 53 (.getfield 61) 56 0 7 432, rX 56 (.getfield 152) 59 3 8 201, r0 59 (.iload_n 2) 60, r0 60 (.iaload) 61, r0 61 (.iand) 62,
  rX 62 (.invokestatic 158) 65 273 1 719, r0 65 (.ireturn) 66]
def T_w_which : List Row := [r0 0 (.aload_n 0) 1, r0 1 (.iload_n 1) 2, rX 2 (.invokevirtual 164) 5 141 0 724, rX 5 (.ifCond .ne 5) 8 10 0 0, rX 8 (.iconst (-1)) 9 1 1 0, r0 9 (.ireturn) 10, r0 10 (.iconst 0) 11, r0 11 (.istore_n 2) 12,
  rH 12 (.iload_n 2) 13 0 0 0 0, r0 13 (.aload_n 0) 14, rX 14 (.getfield 61) 17 0 7 432, rX 17 (.getfield 124) 20 3 0 170, rX 20 (.if_icmp .ge 24) 23 44 0 0, r0 23 (.aload_n 0) 24, rX 24 (.getfield 61) 27 0 7 432, rX 27 (.getfield 152) 30 3 8 201,
  r0 30 (.iload_n 2) 31, r0 31 (.iaload) 32, r0 32 (.iload_n 1) 33, rX 33 (.if_icmp .ne 5) 36 38 0 0, r0 36 (.iload_n 2) 37, r0 37 (.ireturn) 38, rX 38 (.iinc 2 1) 41 1 0 0, rX 41 (.goto (-29)) 44 12 0 0,
  rX 44 (.bipush (-2)) 46 2 1 0, r0 46 (.ireturn) 47]
def T_w_apart : List Row := [r0 0 (.aload_n 0) 1, r0 1 (.iload_n 1) 2, rX 2 (.invokevirtual 149) 5 140 0 710, rX 5 (.ifCond .ne 5) 8 10 0 0, rX 8 (.iconst (-1)) 9 1 1 0, r0 9 (.ireturn) 10, r0 10 (.aload_n 0) 11, rX 11 (.getfield 61) 14 0 7 432,
  rX 14 (.getfield 124) 17 3 0 170, r0 17 (.istore_n 2) 18, r0 18 (.iconst 0) 19, r0 19 (.istore_n 3) 20, rH 20 (.iload_n 3) 21 0 0 0 0, r0 21 (.aload_n 0) 22, rX 22 (.getfield 61) 25 0 7 432, rX 25 (.getfield 124) 28 3 0 170,
  rX 28 (.if_icmp .ge 41) 31 69 0 0, r0 31 (.iload_n 3) 32, r0 32 (.iload_n 1) 33, rX 33 (.if_icmp .eq 30) 36 63 0 0, r0 36 (.iload_n 2) 37, r0 37 (.aload_n 0) 38, rX 38 (.getfield 61) 41 0 7 432, rX 41 (.getfield 152) 44 3 8 201,
  r0 44 (.iload_n 1) 45, r0 45 (.iaload) 46, r0 46 (.aload_n 0) 47, rX 47 (.getfield 61) 50 0 7 432, rX 50 (.getfield 152) 53 3 8 201, r0 53 (.iload_n 3) 54, r0 54 (.iaload) 55, r0 55 (.ixor) 56,
  rX 56 (.invokestatic 158) 59 273 1 719, rX 59 (.invokestatic 167) 62 0 6 740, r0 62 (.istore_n 2) 63, rX 63 (.iinc 3 1) 66 1 0 0, rX 66 (.goto (-46)) 69 20 0 0, r0 69 (.iload_n 2) 70, r0 70 (.ireturn) 71]
def T_w_odd : List Row := [r0 0 (.aload_n 0) 1, r0 1 (.iload_n 1) 2, rX 2 (.invokevirtual 164) 5 141 0 724, rX 5 (.ifCond .ne 5) 8 10 0 0, rX 8 (.iconst (-1)) 9 1 1 0, r0 9 (.ireturn) 10, r0 10 (.iconst 0) 11, r0 11 (.istore_n 2) 12,
  r0 12 (.iconst 0) 13, r0 13 (.istore_n 3) 14, rH 14 (.iload_n 3) 15 0 0 0 0, r0 15 (.aload_n 0) 16, rX 16 (.getfield 61) 19 0 7 432, rX 19 (.getfield 124) 22 3 0 170, rX 22 (.if_icmp .ge 30) 25 52 0 0, r0 25 (.iload_n 1) 26,
  r0 26 (.iload_n 3) 27, r0 27 (.ishr) 28, rX 28 (.iconst 1) 29 1 0 0, r0 29 (.iand) 30, rX 30 (.iconst 1) 31 1 0 0, rX 31 (.if_icmp .ne 15) 34 46 0 0, r0 34 (.iload_n 2) 35, r0 35 (.aload_n 0) 36,
  rX 36 (.getfield 61) 39 0 7 432, rX 39 (.getfield 152) 42 3 8 201, r0 42 (.iload_n 3) 43, r0 43 (.iaload) 44, r0 44 (.ixor) 45, r0 45 (.istore_n 2) 46, rX 46 (.iinc 3 1) 49 1 0 0, rX 49 (.goto (-35)) 52 14 0 0,
  r0 52 (.iload_n 2) 53, r0 53 (.ireturn) 54]
def T_w_light : List Row := [r0 0 (.aload_n 0) 1, r0 1 (.iload_n 1) 2, rX 2 (.invokevirtual 149) 5 140 0 710, rX 5 (.ifCond .eq 15) 8 20 0 0, r0 8 (.aload_n 0) 9, rX 9 (.getfield 61) 12 0 7 432, rX 12 (.getfield 173) 15 3 9 205, r0 15 (.iload_n 1) 16,
  r0 16 (.iaload) 17, rX 17 (.goto 4) 20 21 0 0, rX 20 (.iconst (-1)) 21 1 1 0, r0 21 (.ireturn) 22]
def T_w_shutter : List Row := [r0 0 (.aload_n 0) 1, r0 1 (.iload_n 1) 2, rX 2 (.invokevirtual 149) 5 140 0 710, rX 5 (.ifCond .eq 14) 8 19 0 0, r0 8 (.aload_n 0) 9, rX 9 (.getfield 61) 12 0 7 432, r0 12 (.iload_n 1) 13, rX 13 (.invokevirtual 176) 16 18 0 753,
  rX 16 (.goto 4) 19 20 0 0, rX 19 (.iconst (-1)) 20 1 1 0, r0 20 (.ireturn) 21]
def T_w_noise : List Row := [r0 0 (.aload_n 0) 1, r0 1 (.iload_n 1) 2, rX 2 (.invokevirtual 149) 5 140 0 710, rX 5 (.ifCond .eq 15) 8 20 0 0, r0 8 (.aload_n 0) 9, rX 9 (.getfield 61) 12 0 7 432, rX 12 (.getfield 179) 15 3 10 209, r0 15 (.iload_n 1) 16,
  r0 16 (.iaload) 17, rX 17 (.goto 5) 20 22 0 0, rX 20 (.ldc 182) 22 2147483648 1 761, r0 22 (.ireturn) 23]
def T_w_lost : List Row := [r0 0 (.aload_n 0) 1, r0 1 (.iload_n 1) 2, rX 2 (.invokevirtual 149) 5 140 0 710, rX 5 (.ifCond .ne 5) 8 10 0 0, rX 8 (.iconst (-1)) 9 1 1 0, r0 9 (.ireturn) 10, r0 10 (.aload_n 0) 11, rX 11 (.getfield 61) 14 0 7 432,
  r0 14 (.iload_n 1) 15, rX 15 (.invokevirtual 183) 18 12 0 766, rX 18 (.ifCond .eq 7) 21 25 0 0, rX 21 (.iconst 1) 22 1 0 0, rX 22 (.goto 4) 25 26 0 0, r0 25 (.iconst 0) 26, r0 26 (.ireturn) 27]
def T_w_look : List Row := [r0 0 (.aload_n 0) 1, r0 1 (.iload_n 1) 2, rX 2 (.invokevirtual 164) 5 141 0 724, rX 5 (.ifCond .ne 5) 8 10 0 0, rX 8 (.iconst (-1)) 9 1 1 0, r0 9 (.ireturn) 10, r0 10 (.aload_n 0) 11, rX 11 (.getfield 26) 14 0 2 427,
  r0 14 (.aload_n 0) 15, rX 15 (.getfield 61) 18 0 7 432, r0 18 (.iload_n 1) 19, rX 19 (.invokevirtual 186) 22 58 0 774, r0 22 (.istore_n 2) 23, r0 23 (.aload_n 0) 24, r0 24 (.iload_n 2) 25, rX 25 (.ifCond .lt 7) 28 32 0 0,
  r0 28 (.iconst 0) 29, rX 29 (.goto 4) 32 33 0 0, rX 32 (.iconst 5) 33 5 0 0, rX 33 (.invokevirtual 90) 36 138 0 478, rX 36 (.ifCond .ne 5) 39 41 0 0, rX 39 (.iconst (-1)) 40 1 1 0, r0 40 (.ireturn) 41, r0 41 (.aload_n 0) 42,
  rX 42 (.getfield 26) 45 0 2 427, r0 45 (.iload_n 1) 46, r0 46 (.iload_n 2) 47, rX 47 (.invokevirtual 190) 50 59 0 782, r0 50 (.iload_n 2) 51, r0 51 (.ireturn) 52]
def T_w_logged : List Row := [r0 0 (.aload_n 0) 1, rX 1 (.getfield 65) 4 0 8 433, rX 4 (.ifCond .eq 31) 7 35 0 0, r0 7 (.iload_n 1) 8, rX 8 (.ifCond .lt 27) 11 35 0 0, r0 11 (.iload_n 1) 12, r0 12 (.aload_n 0) 13, rX 13 (.getfield 26) 16 0 2 427,
  rX 16 (.getfield 194) 19 4 2 293, rX 19 (.if_icmp .ge 16) 22 35 0 0, r0 22 (.iload_n 2) 23, rX 23 (.ifCond .eq 8) 26 31 0 0, r0 26 (.iload_n 2) 27, rX 27 (.iconst 1) 28 1 0 0, rX 28 (.if_icmp .ne 7) 31 35 0 0, rX 31 (.iconst 1) 32 1 0 0,
  rX 32 (.goto 4) 35 36 0 0, r0 35 (.iconst 0) 36, r0 36 (.istore_n 3) 37, r0 37 (.aload_n 0) 38, r0 38 (.iload_n 3) 39, rX 39 (.ifCond .eq 7) 42 46 0 0, r0 42 (.iconst 0) 43, rX 43 (.goto 4) 46 47 0 0,
  rX 46 (.iconst 1) 47 1 0 0, rX 47 (.invokevirtual 90) 50 138 0 478, rX 50 (.ifCond .ne 5) 53 55 0 0, rX 53 (.iconst (-1)) 54 1 1 0, r0 54 (.ireturn) 55, r0 55 (.iload_n 2) 56, rX 56 (.ifCond .ne 15) 59 71 0 0, r0 59 (.aload_n 0) 60,
  rX 60 (.getfield 26) 63 0 2 427, rX 63 (.getfield 197) 66 4 5 300, r0 66 (.iload_n 1) 67, r0 67 (.iaload) 68, rX 68 (.goto 12) 71 80 0 0, r0 71 (.aload_n 0) 72, rX 72 (.getfield 26) 75 0 2 427, rX 75 (.getfield 200) 78 4 6 303,
  r0 78 (.iload_n 1) 79, r0 79 (.iaload) 80, r0 80 (.ireturn) 81]
def T_w_scan : List Row := [r0 0 (.aload_n 0) 1, rX 1 (.invokevirtual 203) 4 139 0 728, rX 4 (.ifCond .ne 5) 7 9 0 0, rX 7 (.iconst (-1)) 8 1 1 0, r0 8 (.ireturn) 9, r0 9 (.aload_n 0) 10, rX 10 (.getfield 26) 13 0 2 427, r0 13 (.aload_n 0) 14,
  rX 14 (.getfield 61) 17 0 7 432, rX 17 (.invokevirtual 206) 20 60 0 794, r0 20 (.istore_n 1) 21, r0 21 (.aload_n 0) 22, r0 22 (.iload_n 1) 23, rX 23 (.ifCond .lt 7) 26 30 0 0, r0 26 (.iconst 0) 27, rX 27 (.goto 4) 30 31 0 0,
  rX 30 (.iconst 5) 31 5 0 0, rX 31 (.invokevirtual 90) 34 138 0 478, rX 34 (.ifCond .eq 7) 37 41 0 0, r0 37 (.iload_n 1) 38, rX 38 (.goto 4) 41 42 0 0, rX 41 (.iconst (-1)) 42 1 1 0, r0 42 (.ireturn) 43]
def T_w_blinds : List Row := [r0 0 (.aload_n 0) 1, rX 1 (.invokevirtual 203) 4 139 0 728, rX 4 (.ifCond .ne 5) 7 9 0 0, rX 7 (.iconst (-1)) 8 1 1 0, r0 8 (.ireturn) 9, r0 9 (.iconst 0) 10, r0 10 (.istore_n 1) 11, r0 11 (.iconst 0) 12,
  r0 12 (.istore_n 2) 13, rH 13 (.iload_n 2) 14 0 0 0 0, r0 14 (.aload_n 0) 15, rX 15 (.getfield 61) 18 0 7 432, rX 18 (.getfield 124) 21 3 0 170, rX 21 (.if_icmp .ge 51) 24 72 0 0, r0 24 (.aload_n 0) 25, rX 25 (.getfield 61) 28 0 7 432,
  r0 28 (.iload_n 2) 29, rX 29 (.invokevirtual 183) 32 12 0 766, rX 32 (.ifCond .ne 34) 35 66 0 0, r0 35 (.aload_n 0) 36, rX 36 (.getfield 61) 39 0 7 432, r0 39 (.aload_n 0) 40, rX 40 (.getfield 61) 43 0 7 432, rX 43 (.getfield 152) 46 3 8 201,
  r0 46 (.iload_n 2) 47, r0 47 (.iaload) 48, rX 48 (.invokevirtual 210) 51 20 0 817, r0 51 (.aload_n 0) 52, rX 52 (.getfield 61) 55 0 7 432, rX 55 (.getfield 133) 58 3 3 184, rX 58 (.if_icmp .le 5) 61 63 0 0, r0 61 (.iload_n 1) 62,
  r0 62 (.ireturn) 63, rX 63 (.iinc 1 1) 66 1 0 0, rX 66 (.iinc 2 1) 69 1 0 0, rX 69 (.goto (-56)) 72 13 0 0, rX 72 (.bipush (-2)) 74 2 1 0, r0 74 (.ireturn) 75]
def T_w_reading : List Row := [r0 0 (.aload_n 0) 1, r0 1 (.iload_n 1) 2, rX 2 (.invokevirtual 149) 5 140 0 710, rX 5 (.ifCond .eq 36) 8 41 0 0, r0 8 (.aload_n 0) 9, r0 9 (.aload_n 0) 10, rX 10 (.getfield 26) 13 0 2 427, rX 13 (.getfield 213) 16 4 3 295,
  rX 16 (.ifCond .eq 18) 19 34 0 0, r0 19 (.aload_n 0) 20, rX 20 (.getfield 61) 23 0 7 432, r0 23 (.iload_n 1) 24, rX 24 (.invokevirtual 183) 27 12 0 766, rX 27 (.ifCond .ne 7) 30 34 0 0, r0 30 (.iconst 0) 31, rX 31 (.goto 4) 34 35 0 0,
  rX 34 (.iconst 5) 35 5 0 0, rX 35 (.invokevirtual 90) 38 138 0 478, rX 38 (.ifCond .ne 6) 41 44 0 0, rX 41 (.ldc 182) 43 2147483648 1 761, r0 43 (.ireturn) 44, r0 44 (.aload_n 0) 45, rX 45 (.getfield 26) 48 0 2 427, rX 48 (.getfield 216) 51 4 7 305,
  r0 51 (.iload_n 1) 52, r0 52 (.iaload) 53, r0 53 (.ireturn) 54]
def T_w_net : List Row := [r0 0 (.aload_n 0) 1, r0 1 (.iload_n 1) 2, rX 2 (.invokevirtual 149) 5 140 0 710, rX 5 (.ifCond .ne 6) 8 11 0 0, rX 8 (.ldc 182) 10 2147483648 1 761, r0 10 (.ireturn) 11, r0 11 (.aload_n 0) 12, rX 12 (.getfield 26) 15 0 2 427,
  rX 15 (.getfield 213) 18 4 3 295, rX 18 (.ifCond .eq 29) 21 47 0 0, r0 21 (.aload_n 0) 22, rX 22 (.getfield 61) 25 0 7 432, r0 25 (.iload_n 1) 26, rX 26 (.invokevirtual 183) 29 12 0 766, rX 29 (.ifCond .eq 14) 32 43 0 0, r0 32 (.aload_n 0) 33,
  rX 33 (.getfield 61) 36 0 7 432, rX 36 (.invokevirtual 219) 39 13 0 826, rX 39 (.iconst 1) 40 1 0 0, rX 40 (.if_icmp .ne 7) 43 47 0 0, rX 43 (.iconst 1) 44 1 0 0, rX 44 (.goto 4) 47 48 0 0, r0 47 (.iconst 0) 48, r0 48 (.istore_n 2) 49,
  r0 49 (.aload_n 0) 50, r0 50 (.iload_n 2) 51, rX 51 (.ifCond .eq 7) 54 58 0 0, r0 54 (.iconst 0) 55, rX 55 (.goto 4) 58 59 0 0, rX 58 (.iconst 5) 59 5 0 0, rX 59 (.invokevirtual 90) 62 138 0 478, rX 62 (.ifCond .eq 15) 65 77 0 0,
  r0 65 (.aload_n 0) 66, rX 66 (.getfield 26) 69 0 2 427, rX 69 (.getfield 222) 72 4 8 307, r0 72 (.iload_n 1) 73, r0 73 (.iaload) 74, rX 74 (.goto 5) 77 79 0 0, rX 77 (.ldc 182) 79 2147483648 1 761, r0 79 (.ireturn) 80]
def T_w_back : List Row := [r0 0 (.aload_n 0) 1, r0 1 (.iload_n 1) 2, rX 2 (.invokevirtual 225) 5 143 0 831, rX 5 (.ifCond .ne 7) 8 12 0 0, rX 8 (.ldc2_w 230) 11 9223372036854775808 1 839, r0 11 (.lreturn) 12, r0 12 (.aload_n 0) 13, rX 13 (.getfield 26) 16 0 2 427,
  rX 16 (.getfield 232) 19 4 9 310, r0 19 (.iload_n 1) 20, r0 20 (.laload) 21, r0 21 (.aload_n 0) 22, rX 22 (.getfield 61) 25 0 7 432, rX 25 (.invokevirtual 236) 28 14 0 840, r0 28 (.iload_n 2) 29, rX 29 (.invokestatic 240) 32 34 1 844,
  r0 32 (.lreturn) 33]
def T_w_odds : List Row := [r0 0 (.aload_n 0) 1, rX 1 (.invokevirtual 246) 4 142 0 835, rX 4 (.ifCond .ne 5) 7 9 0 0, rX 7 (.iconst (-1)) 8 1 1 0, r0 8 (.ireturn) 9, r0 9 (.iconst 0) 10, r0 10 (.istore_n 1) 11, r0 11 (.iconst 0) 12,
  r0 12 (.istore_n 2) 13, rH 13 (.iload_n 2) 14 0 0 0 0, r0 14 (.aload_n 0) 15, rX 15 (.getfield 61) 18 0 7 432, rX 18 (.getfield 124) 21 3 0 170, rX 21 (.if_icmp .ge 51) 24 72 0 0, r0 24 (.aload_n 0) 25, rX 25 (.getfield 26) 28 0 2 427,
  rX 28 (.getfield 232) 31 4 9 310, r0 31 (.iload_n 2) 32, r0 32 (.laload) 33, r0 33 (.lconst 0) 34, r0 34 (.lcmp) 35, rX 35 (.ifCond .lt 25) 38 60 0 0, r0 38 (.aload_n 0) 39, rX 39 (.getfield 26) 42 0 2 427,
  rX 42 (.getfield 232) 45 4 9 310, r0 45 (.iload_n 2) 46, r0 46 (.laload) 47, r0 47 (.aload_n 0) 48, rX 48 (.getfield 61) 51 0 7 432, rX 51 (.invokevirtual 236) 54 14 0 840, rX 54 (.invokestatic 249) 57 35 1 857, rX 57 (.ifCond .ne 9) 60 66 0 0,
  r0 60 (.iload_n 1) 61, rX 61 (.iconst 1) 62 1 0 0, r0 62 (.iload_n 2) 63, r0 63 (.ishl) 64, r0 64 (.ior) 65, r0 65 (.istore_n 1) 66, rX 66 (.iinc 2 1) 69 1 0 0, rX 69 (.goto (-56)) 72 13 0 0,
  r0 72 (.iload_n 1) 73, r0 73 (.ireturn) 74]
def T_w_more : List Row := [r0 0 (.aload_n 0) 1, rX 1 (.invokevirtual 246) 4 142 0 835, rX 4 (.ifCond .ne 7) 7 11 0 0, rX 7 (.ldc2_w 230) 10 9223372036854775808 1 839, r0 10 (.lreturn) 11, r0 11 (.aload_n 0) 12, rX 12 (.getfield 61) 15 0 7 432, rX 15 (.invokevirtual 136) 18 17 0 698,
  r0 18 (.i2l) 19, r0 19 (.lneg) 20, r0 20 (.aload_n 0) 21, rX 21 (.getfield 61) 24 0 7 432, rX 24 (.invokevirtual 236) 27 14 0 840, r0 27 (.lmul) 28, r0 28 (.lstore_n 2) 29, r0 29 (.iconst 0) 30,
  r0 30 (.istore 4) 32, rH 32 (.iload 4) 34 0 0 0 0, r0 34 (.aload_n 0) 35, rX 35 (.getfield 61) 38 0 7 432, rX 38 (.getfield 124) 41 3 0 170, rX 41 (.if_icmp .ge 22) 44 63 0 0, r0 44 (.lload_n 2) 45, r0 45 (.aload_n 0) 46,
  rX 46 (.getfield 26) 49 0 2 427, rX 49 (.getfield 232) 52 4 9 310, r0 52 (.iload 4) 54, r0 54 (.laload) 55, r0 55 (.ladd) 56, r0 56 (.lstore_n 2) 57, rX 57 (.iinc 4 1) 60 1 0 0, rX 60 (.goto (-28)) 63 32 0 0,
  r0 63 (.lload_n 2) 64, r0 64 (.aload_n 0) 65, rX 65 (.getfield 61) 68 0 7 432, rX 68 (.invokevirtual 236) 71 14 0 840, r0 71 (.iload_n 1) 72, rX 72 (.invokestatic 240) 75 34 1 844, r0 75 (.lreturn) 76]
def T_w_error : List Row := [r0 0 (.aload_n 0) 1, r0 1 (.iload_n 1) 2, rX 2 (.invokevirtual 225) 5 143 0 831, rX 5 (.ifCond .ne 7) 8 12 0 0, rX 8 (.ldc2_w 230) 11 9223372036854775808 1 839, r0 11 (.lreturn) 12, r0 12 (.aload_n 0) 13, rX 13 (.getfield 26) 16 0 2 427,
  r0 16 (.aload_n 0) 17, rX 17 (.getfield 61) 20 0 7 432, r0 20 (.iload_n 1) 21, rX 21 (.invokevirtual 253) 24 63 0 868, r0 24 (.aload_n 0) 25, rX 25 (.getfield 61) 28 0 7 432, rX 28 (.invokevirtual 236) 31 14 0 840, r0 31 (.iload_n 2) 32,
  rX 32 (.invokestatic 240) 35 34 1 844, r0 35 (.lreturn) 36]
def T_w_errors : List Row := [r0 0 (.aload_n 0) 1, rX 1 (.invokevirtual 246) 4 142 0 835, rX 4 (.ifCond .ne 7) 7 11 0 0, rX 7 (.ldc2_w 230) 10 9223372036854775808 1 839, r0 10 (.lreturn) 11, r0 11 (.lconst 0) 12, r0 12 (.lstore_n 2) 13, r0 13 (.iconst 0) 14,
  r0 14 (.istore 4) 16, rH 16 (.iload 4) 18 0 0 0 0, r0 18 (.aload_n 0) 19, rX 19 (.getfield 61) 22 0 7 432, rX 22 (.getfield 124) 25 3 0 170, rX 25 (.if_icmp .ge 32) 28 57 0 0, r0 28 (.aload_n 0) 29, rX 29 (.getfield 26) 32 0 2 427,
  r0 32 (.aload_n 0) 33, rX 33 (.getfield 61) 36 0 7 432, r0 36 (.iload 4) 38, rX 38 (.invokevirtual 253) 41 63 0 868, r0 41 (.lstore 5) 43, r0 43 (.lload_n 2) 44, r0 44 (.lload 5) 46, r0 46 (.lload 5) 48,
  r0 48 (.lmul) 49, r0 49 (.ladd) 50, r0 50 (.lstore_n 2) 51, rX 51 (.iinc 4 1) 54 1 0 0, rX 54 (.goto (-38)) 57 16 0 0, r0 57 (.lload_n 2) 58, r0 58 (.aload_n 0) 59, rX 59 (.getfield 61) 62 0 7 432,
  rX 62 (.invokevirtual 257) 65 15 0 878, r0 65 (.iload_n 1) 66, rX 66 (.invokestatic 240) 69 34 1 844, r0 69 (.lreturn) 70]
def T_w_worst : List Row := [r0 0 (.aload_n 0) 1, rX 1 (.invokevirtual 246) 4 142 0 835, rX 4 (.ifCond .ne 5) 7 9 0 0, rX 7 (.iconst (-1)) 8 1 1 0, r0 8 (.ireturn) 9, r0 9 (.iconst 0) 10, r0 10 (.istore_n 1) 11, rX 11 (.ldc2_w 260) 14 1 1 887,
  r0 14 (.lstore_n 2) 15, r0 15 (.iconst 0) 16, r0 16 (.istore 4) 18, rH 18 (.iload 4) 20 0 0 0 0, r0 20 (.aload_n 0) 21, rX 21 (.getfield 61) 24 0 7 432, rX 24 (.getfield 124) 27 3 0 170, rX 27 (.if_icmp .ge 40) 30 67 0 0,
  r0 30 (.aload_n 0) 31, rX 31 (.getfield 26) 34 0 2 427, r0 34 (.aload_n 0) 35, rX 35 (.getfield 61) 38 0 7 432, r0 38 (.iload 4) 40, rX 40 (.invokevirtual 253) 43 63 0 868, rX 43 (.invokestatic 262) 46 0 7 888, r0 46 (.lstore 5) 48,
  r0 48 (.lload 5) 50, r0 50 (.lload_n 2) 51, r0 51 (.lcmp) 52, rX 52 (.ifCond .le 9) 55 61 0 0, r0 55 (.lload 5) 57, r0 57 (.lstore_n 2) 58, r0 58 (.iload 4) 60, r0 60 (.istore_n 1) 61,
  rX 61 (.iinc 4 1) 64 1 0 0, rX 64 (.goto (-46)) 67 18 0 0, r0 67 (.iload_n 1) 68, r0 68 (.ireturn) 69]
def T_w_share : List Row := [r0 0 (.aload_n 0) 1, rX 1 (.invokevirtual 203) 4 139 0 728, rX 4 (.ifCond .ne 7) 7 11 0 0, rX 7 (.ldc2_w 260) 10 1 1 887, r0 10 (.lreturn) 11, rX 11 (.ldc2_w 266) 14 4 0 893, r0 14 (.aload_n 0) 15, rX 15 (.getfield 61) 18 0 7 432,
  rX 18 (.getfield 124) 21 3 0 170, r0 21 (.i2l) 22, r0 22 (.lmul) 23, r0 23 (.aload_n 0) 24, rX 24 (.getfield 61) 27 0 7 432, rX 27 (.invokevirtual 257) 30 15 0 878, r0 30 (.iload_n 1) 31, rX 31 (.invokestatic 240) 34 34 1 844,
  r0 34 (.lreturn) 35]
def T_w_grains : List Row := [r0 0 (.aload_n 0) 1, rX 1 (.invokevirtual 246) 4 142 0 835, rX 4 (.ifCond .ne 7) 7 11 0 0, rX 7 (.ldc2_w 230) 10 9223372036854775808 1 839, r0 10 (.lreturn) 11, rX 11 (.ldc2_w 266) 14 4 0 893, r0 14 (.aload_n 0) 15, rX 15 (.getfield 26) 18 0 2 427,
  rX 18 (.getfield 268) 21 4 4 297, r0 21 (.lmul) 22, r0 22 (.aload_n 0) 23, rX 23 (.getfield 61) 26 0 7 432, rX 26 (.invokevirtual 257) 29 15 0 878, r0 29 (.iload_n 1) 30, rX 30 (.invokestatic 240) 33 34 1 844, r0 33 (.lreturn) 34]
def T_w_better : List Row := [r0 0 (.aload_n 0) 1, rX 1 (.invokevirtual 246) 4 142 0 835, rX 4 (.ifCond .ne 5) 7 9 0 0, rX 7 (.iconst (-1)) 8 1 1 0, r0 8 (.ireturn) 9, r0 9 (.iconst 0) 10, r0 10 (.istore_n 1) 11, r0 11 (.iconst 0) 12,
  r0 12 (.istore_n 2) 13, rH 13 (.iload_n 2) 14 0 0 0 0, r0 14 (.aload_n 0) 15, rX 15 (.getfield 61) 18 0 7 432, rX 18 (.getfield 124) 21 3 0 170, rX 21 (.if_icmp .ge 47) 24 68 0 0, rX 24 (.ldc2_w 266) 27 4 0 893, r0 27 (.aload_n 0) 28,
  rX 28 (.getfield 26) 31 0 2 427, rX 31 (.getfield 268) 34 4 4 297, r0 34 (.lmul) 35, r0 35 (.aload_n 0) 36, rX 36 (.getfield 26) 39 0 2 427, rX 39 (.getfield 232) 42 4 9 310, r0 42 (.iload_n 2) 43, r0 43 (.laload) 44,
  r0 44 (.aload_n 0) 45, rX 45 (.getfield 61) 48 0 7 432, rX 48 (.invokevirtual 236) 51 14 0 840, r0 51 (.lmul) 52, r0 52 (.lcmp) 53, rX 53 (.ifCond .ge 9) 56 62 0 0, r0 56 (.iload_n 1) 57, rX 57 (.iconst 1) 58 1 0 0,
  r0 58 (.iload_n 2) 59, r0 59 (.ishl) 60, r0 60 (.ior) 61, r0 61 (.istore_n 1) 62, rX 62 (.iinc 2 1) 65 1 0 0, rX 65 (.goto (-52)) 68 13 0 0, r0 68 (.iload_n 1) 69, r0 69 (.ireturn) 70]
def T_w_alone : List Row := [r0 0 (.aload_n 0) 1, r0 1 (.iload_n 1) 2, rX 2 (.invokevirtual 149) 5 140 0 710, rX 5 (.ifCond .eq 14) 8 19 0 0, r0 8 (.aload_n 0) 9, rX 9 (.getfield 61) 12 0 7 432, r0 12 (.iload_n 1) 13, rX 13 (.invokevirtual 272) 16 21 0 906,
  rX 16 (.goto 5) 19 21 0 0, rX 19 (.ldc 182) 21 2147483648 1 761, r0 21 (.ireturn) 22]
def T_w_alones : List Row := [r0 0 (.aload_n 0) 1, rX 1 (.invokevirtual 203) 4 139 0 728, rX 4 (.ifCond .ne 7) 7 11 0 0, rX 7 (.ldc2_w 260) 10 1 1 887, r0 10 (.lreturn) 11, r0 11 (.lconst 0) 12, r0 12 (.lstore_n 1) 13, r0 13 (.iconst 0) 14,
  r0 14 (.istore_n 3) 15, rH 15 (.iload_n 3) 16 0 0 0 0, r0 16 (.aload_n 0) 17, rX 17 (.getfield 61) 20 0 7 432, rX 20 (.getfield 124) 23 3 0 170, rX 23 (.if_icmp .ge 38) 26 61 0 0, r0 26 (.aload_n 0) 27, rX 27 (.getfield 61) 30 0 7 432,
  r0 30 (.iload_n 3) 31, rX 31 (.invokevirtual 272) 34 21 0 906, r0 34 (.aload_n 0) 35, rX 35 (.getfield 61) 38 0 7 432, rX 38 (.getfield 173) 41 3 9 205, r0 41 (.iload_n 3) 42, r0 42 (.iaload) 43, r0 43 (.isub) 44,
  r0 44 (.i2l) 45, r0 45 (.lstore 4) 47, r0 47 (.lload_n 1) 48, r0 48 (.lload 4) 50, r0 50 (.lload 4) 52, r0 52 (.lmul) 53, r0 53 (.ladd) 54, r0 54 (.lstore_n 1) 55,
  rX 55 (.iinc 3 1) 58 1 0 0, rX 58 (.goto (-43)) 61 15 0 0, r0 61 (.lload_n 1) 62, r0 62 (.lreturn) 63]
def T_w_closer : List Row := [r0 0 (.aload_n 0) 1, rX 1 (.invokevirtual 246) 4 142 0 835, rX 4 (.ifCond .ne 5) 7 9 0 0, rX 7 (.iconst (-1)) 8 1 1 0, r0 8 (.ireturn) 9, r0 9 (.iconst 0) 10, r0 10 (.istore_n 1) 11, r0 11 (.iconst 0) 12,
  r0 12 (.istore_n 2) 13, rH 13 (.iload_n 2) 14 0 0 0 0, r0 14 (.aload_n 0) 15, rX 15 (.getfield 61) 18 0 7 432, rX 18 (.getfield 124) 21 3 0 170, rX 21 (.if_icmp .ge 67) 24 88 0 0, r0 24 (.aload_n 0) 25, rX 25 (.getfield 61) 28 0 7 432,
  r0 28 (.iload_n 2) 29, rX 29 (.invokevirtual 272) 32 21 0 906, r0 32 (.i2l) 33, r0 33 (.aload_n 0) 34, rX 34 (.getfield 61) 37 0 7 432, rX 37 (.getfield 173) 40 3 9 205, r0 40 (.iload_n 2) 41, r0 41 (.iaload) 42,
  r0 42 (.i2l) 43, r0 43 (.lsub) 44, rX 44 (.invokestatic 262) 47 0 7 888, r0 47 (.lstore_n 3) 48, r0 48 (.aload_n 0) 49, rX 49 (.getfield 26) 52 0 2 427, r0 52 (.aload_n 0) 53, rX 53 (.getfield 61) 56 0 7 432,
  r0 56 (.iload_n 2) 57, rX 57 (.invokevirtual 253) 60 63 0 868, rX 60 (.invokestatic 262) 63 0 7 888, r0 63 (.lload_n 3) 64, r0 64 (.aload_n 0) 65, rX 65 (.getfield 61) 68 0 7 432, rX 68 (.invokevirtual 236) 71 14 0 840, r0 71 (.lmul) 72,
  r0 72 (.lcmp) 73, rX 73 (.ifCond .ge 9) 76 82 0 0, r0 76 (.iload_n 1) 77, rX 77 (.iconst 1) 78 1 0 0, r0 78 (.iload_n 2) 79, r0 79 (.ishl) 80, r0 80 (.ior) 81, r0 81 (.istore_n 1) 82,
  rX 82 (.iinc 2 1) 85 1 0 0, rX 85 (.goto (-72)) 88 13 0 0, r0 88 (.iload_n 1) 89, r0 89 (.ireturn) 90]
def T_w_suspects : List Row := [r0 0 (.aload_n 0) 1, rX 1 (.invokevirtual 275) 4 144 0 923, rX 4 (.ifCond .eq 21) 7 25 0 0, r0 7 (.aload_n 0) 8, rX 8 (.getfield 33) 11 0 3 428, r0 11 (.aload_n 0) 12, rX 12 (.getfield 61) 15 0 7 432, r0 15 (.aload_n 0) 16,
  rX 16 (.getfield 26) 19 0 2 427, rX 19 (.invokevirtual 278) 22 65 0 927, rX 22 (.goto 4) 25 26 0 0, rX 25 (.iconst (-1)) 26 1 1 0, r0 26 (.ireturn) 27]
def T_w_suspect : List Row := [r0 0 (.aload_n 0) 1, rX 1 (.invokevirtual 275) 4 144 0 923, rX 4 (.ifCond .ne 5) 7 9 0 0, rX 7 (.iconst (-1)) 8 1 1 0, r0 8 (.ireturn) 9, r0 9 (.aload_n 0) 10, rX 10 (.getfield 33) 13 0 3 428, r0 13 (.iload_n 1) 14,
  r0 14 (.aload_n 0) 15, rX 15 (.getfield 61) 18 0 7 432, r0 18 (.aload_n 0) 19, rX 19 (.getfield 26) 22 0 2 427, rX 22 (.invokevirtual 282) 25 66 0 968, r0 25 (.istore_n 2) 26, r0 26 (.aload_n 0) 27, r0 27 (.iload_n 2) 28,
  rX 28 (.ifCond .lt 7) 31 35 0 0, r0 31 (.iconst 0) 32, rX 32 (.goto 4) 35 36 0 0, rX 35 (.iconst 1) 36 1 0 0, rX 36 (.invokevirtual 90) 39 138 0 478, rX 39 (.ifCond .eq 7) 42 46 0 0, r0 42 (.iload_n 2) 43, rX 43 (.goto 4) 46 47 0 0,
  rX 46 (.iconst (-1)) 47 1 1 0, r0 47 (.ireturn) 48]
def T_w_supposed : List Row := [r0 0 (.aload_n 0) 1, r0 1 (.iload_n 2) 2, rX 2 (.invokevirtual 149) 5 140 0 710, rX 5 (.ifCond .eq 10) 8 15 0 0, r0 8 (.aload_n 0) 9, rX 9 (.invokevirtual 275) 12 144 0 923, rX 12 (.ifCond .ne 5) 15 17 0 0, rX 15 (.iconst (-1)) 16 1 1 0,
  r0 16 (.ireturn) 17, r0 17 (.aload_n 0) 18, rX 18 (.getfield 33) 21 0 3 428, r0 21 (.iload_n 1) 22, r0 22 (.aload_n 0) 23, rX 23 (.getfield 61) 26 0 7 432, r0 26 (.aload_n 0) 27, rX 27 (.getfield 26) 30 0 2 427,
  rX 30 (.invokevirtual 282) 33 66 0 968, r0 33 (.istore_n 3) 34, r0 34 (.aload_n 0) 35, r0 35 (.iload_n 3) 36, rX 36 (.ifCond .lt 7) 39 43 0 0, r0 39 (.iconst 0) 40, rX 40 (.goto 4) 43 44 0 0, rX 43 (.iconst 1) 44 1 0 0,
  rX 44 (.invokevirtual 90) 47 138 0 478, rX 47 (.ifCond .eq 15) 50 62 0 0, r0 50 (.aload_n 0) 51, rX 51 (.getfield 33) 54 0 3 428, rX 54 (.getfield 286) 57 5 0 340, r0 57 (.iload_n 2) 58, r0 58 (.iaload) 59, rX 59 (.goto 4) 62 63 0 0,
  rX 62 (.iconst (-1)) 63 1 1 0, r0 63 (.ireturn) 64]
def T_w_mask : List Row := [r0 0 (.aload_n 0) 1, r0 1 (.aload_n 0) 2, rX 2 (.getfield 65) 5 0 8 433, rX 5 (.ifCond .eq 18) 8 23 0 0, r0 8 (.aload_n 0) 9, rX 9 (.getfield 61) 12 0 7 432, r0 12 (.iload_n 1) 13, rX 13 (.invokevirtual 287) 16 10 0 980,
  rX 16 (.ifCond .eq 7) 19 23 0 0, r0 19 (.iconst 0) 20, rX 20 (.goto 4) 23 24 0 0, rX 23 (.iconst 1) 24 1 0 0, rX 24 (.invokevirtual 90) 27 138 0 478, rX 27 (.ifCond .eq 15) 30 42 0 0, r0 30 (.aload_n 0) 31, rX 31 (.getfield 61) 34 0 7 432,
  rX 34 (.getfield 290) 37 3 11 215, r0 37 (.iload_n 1) 38, r0 38 (.iaload) 39, rX 39 (.goto 4) 42 43 0 0, rX 42 (.iconst (-1)) 43 1 1 0, r0 43 (.ireturn) 44]
def T_w_rank : List Row := [r0 0 (.aload_n 0) 1, rX 1 (.invokevirtual 203) 4 139 0 728, rX 4 (.ifCond .eq 13) 7 17 0 0, r0 7 (.aload_n 0) 8, rX 8 (.getfield 40) 11 0 4 429, rX 11 (.getfield 293) 14 6 0 353, rX 14 (.goto 4) 17 18 0 0, rX 17 (.iconst (-1)) 18 1 1 0,
  r0 18 (.ireturn) 19]
def T_w_told : List Row := [r0 0 (.aload_n 0) 1, rX 1 (.invokevirtual 203) 4 139 0 728, rX 4 (.ifCond .eq 13) 7 17 0 0, r0 7 (.aload_n 0) 8, rX 8 (.getfield 40) 11 0 4 429, rX 11 (.getfield 296) 14 6 1 355, rX 14 (.goto 4) 17 18 0 0, rX 17 (.iconst (-1)) 18 1 1 0,
  r0 18 (.ireturn) 19]
def T_w_solved : List Row := [r0 0 (.aload_n 0) 1, r0 1 (.iload_n 1) 2, rX 2 (.invokevirtual 299) 5 145 0 996, rX 5 (.ifCond .ne 7) 8 12 0 0, rX 8 (.ldc2_w 230) 11 9223372036854775808 1 839, r0 11 (.lreturn) 12, r0 12 (.aload_n 0) 13, rX 13 (.getfield 40) 16 0 4 429,
  r0 16 (.aload_n 0) 17, rX 17 (.getfield 61) 20 0 7 432, r0 20 (.aload_n 0) 21, rX 21 (.getfield 40) 24 0 4 429, rX 24 (.getfield 302) 27 6 3 359, r0 27 (.iload_n 1) 28, r0 28 (.iaload) 29, rX 29 (.invokevirtual 305) 32 27 0 1004,
  r0 32 (.aload_n 0) 33, rX 33 (.getfield 40) 36 0 4 429, rX 36 (.getfield 308) 39 6 2 357, r0 39 (.iload_n 2) 40, rX 40 (.invokestatic 240) 43 34 1 844, r0 43 (.lreturn) 44]
def T_w_factor : List Row := [r0 0 (.aload_n 0) 1, r0 1 (.aload_n 0) 2, rX 2 (.getfield 65) 5 0 8 433, rX 5 (.ifCond .eq 18) 8 23 0 0, r0 8 (.aload_n 0) 9, rX 9 (.getfield 61) 12 0 7 432, r0 12 (.iload_n 2) 13, rX 13 (.invokevirtual 287) 16 10 0 980,
  rX 16 (.ifCond .eq 7) 19 23 0 0, r0 19 (.iconst 0) 20, rX 20 (.goto 4) 23 24 0 0, rX 23 (.iconst 1) 24 1 0 0, rX 24 (.invokevirtual 90) 27 138 0 478, rX 27 (.ifCond .eq 11) 30 38 0 0, r0 30 (.aload_n 0) 31, r0 31 (.iload_n 1) 32,
  rX 32 (.invokevirtual 299) 35 145 0 996, rX 35 (.ifCond .ne 7) 38 42 0 0, rX 38 (.ldc2_w 230) 41 9223372036854775808 1 839, r0 41 (.lreturn) 42, r0 42 (.aload_n 0) 43, rX 43 (.getfield 40) 46 0 4 429, r0 46 (.aload_n 0) 47, rX 47 (.getfield 40) 50 0 4 429,
  rX 50 (.getfield 302) 53 6 3 359, r0 53 (.iload_n 1) 54, r0 54 (.iaload) 55, r0 55 (.iload_n 2) 56, rX 56 (.invokevirtual 311) 59 25 0 1017, r0 59 (.aload_n 0) 60, rX 60 (.getfield 40) 63 0 4 429, rX 63 (.getfield 308) 66 6 2 357,
  r0 66 (.iload_n 3) 67, rX 67 (.invokestatic 240) 70 34 1 844, r0 70 (.lreturn) 71]
def T_w_shareBy : List Row := [r0 0 (.aload_n 0) 1, r0 1 (.iload_n 1) 2, rX 2 (.invokevirtual 299) 5 145 0 996, rX 5 (.ifCond .ne 7) 8 12 0 0, rX 8 (.ldc2_w 260) 11 1 1 887, r0 11 (.lreturn) 12, r0 12 (.aload_n 0) 13, rX 13 (.getfield 40) 16 0 4 429,
  r0 16 (.aload_n 0) 17, rX 17 (.getfield 61) 20 0 7 432, r0 20 (.aload_n 0) 21, rX 21 (.getfield 40) 24 0 4 429, rX 24 (.getfield 302) 27 6 3 359, r0 27 (.iload_n 1) 28, r0 28 (.iaload) 29, rX 29 (.invokevirtual 315) 32 26 0 1022,
  r0 32 (.aload_n 0) 33, rX 33 (.getfield 40) 36 0 4 429, rX 36 (.getfield 308) 39 6 2 357, r0 39 (.aload_n 0) 40, rX 40 (.getfield 40) 43 0 4 429, rX 43 (.getfield 308) 46 6 2 357, r0 46 (.lmul) 47, r0 47 (.iload_n 2) 48,
  rX 48 (.invokestatic 240) 51 34 1 844, r0 51 (.lreturn) 52]
def T_w_fewer : List Row := [r0 0 (.aload_n 0) 1, rX 1 (.invokevirtual 203) 4 139 0 728, rX 4 (.ifCond .ne 5) 7 9 0 0, rX 7 (.iconst (-1)) 8 1 1 0, r0 8 (.ireturn) 9, rX 9 (.ldc2_w 266) 12 4 0 893, r0 12 (.aload_n 0) 13, rX 13 (.getfield 61) 16 0 7 432,
  rX 16 (.getfield 124) 19 3 0 170, r0 19 (.i2l) 20, r0 20 (.lmul) 21, r0 21 (.aload_n 0) 22, rX 22 (.getfield 40) 25 0 4 429, rX 25 (.getfield 308) 28 6 2 357, r0 28 (.lmul) 29, r0 29 (.aload_n 0) 30,
  rX 30 (.getfield 40) 33 0 4 429, rX 33 (.getfield 308) 36 6 2 357, r0 36 (.lmul) 37, r0 37 (.lstore_n 1) 38, r0 38 (.iconst 0) 39, r0 39 (.istore_n 3) 40, r0 40 (.iconst 0) 41, r0 41 (.istore 4) 43,
  rH 43 (.iload 4) 45 0 0 0 0, r0 45 (.aload_n 0) 46, rX 46 (.getfield 61) 49 0 7 432, rX 49 (.getfield 124) 52 3 0 170, rX 52 (.if_icmp .ge 62) 55 114 0 0, r0 55 (.aload_n 0) 56, rX 56 (.getfield 40) 59 0 4 429, r0 59 (.iload 4) 61,
  rX 61 (.invokevirtual 318) 64 24 0 1000, rX 64 (.ifCond .eq 44) 67 108 0 0, r0 67 (.aload_n 0) 68, rX 68 (.getfield 40) 71 0 4 429, r0 71 (.aload_n 0) 72, rX 72 (.getfield 61) 75 0 7 432, r0 75 (.aload_n 0) 76, rX 76 (.getfield 40) 79 0 4 429,
  rX 79 (.getfield 302) 82 6 3 359, r0 82 (.iload 4) 84, r0 84 (.iaload) 85, rX 85 (.invokevirtual 315) 88 26 0 1022, r0 88 (.aload_n 0) 89, rX 89 (.getfield 61) 92 0 7 432, rX 92 (.invokevirtual 257) 95 15 0 878, r0 95 (.lmul) 96,
  r0 96 (.lload_n 1) 97, r0 97 (.lcmp) 98, rX 98 (.ifCond .ge 10) 101 108 0 0, r0 101 (.iload_n 3) 102, rX 102 (.iconst 1) 103 1 0 0, r0 103 (.iload 4) 105, r0 105 (.ishl) 106, r0 106 (.ior) 107,
  r0 107 (.istore_n 3) 108, rX 108 (.iinc 4 1) 111 1 0 0, rX 111 (.goto (-68)) 114 43 0 0, r0 114 (.iload_n 3) 115, r0 115 (.ireturn) 116]
def T_w_agree : List Row := [r0 0 (.aload_n 0) 1, rX 1 (.invokevirtual 203) 4 139 0 728, rX 4 (.ifCond .ne 5) 7 9 0 0, rX 7 (.iconst (-1)) 8 1 1 0, r0 8 (.ireturn) 9, r0 9 (.aload_n 0) 10, rX 10 (.getfield 40) 13 0 4 429, r0 13 (.aload_n 0) 14,
  rX 14 (.getfield 61) 17 0 7 432, rX 17 (.invokevirtual 321) 20 28 0 1034, rX 20 (.ifCond .eq 7) 23 27 0 0, rX 23 (.iconst 1) 24 1 0 0, rX 24 (.goto 4) 27 28 0 0, r0 27 (.iconst 0) 28, r0 28 (.ireturn) 29]
def T_w_tour : List Row := [r0 0 (.aload_n 0) 1, rX 1 (.invokevirtual 203) 4 139 0 728, rX 4 (.ifCond .ne 5) 7 9 0 0, rX 7 (.iconst (-1)) 8 1 1 0, r0 8 (.ireturn) 9, r0 9 (.aload_n 0) 10, rX 10 (.getfield 47) 13 0 5 430, r0 13 (.aload_n 0) 14,
  rX 14 (.getfield 61) 17 0 7 432, rX 17 (.invokevirtual 325) 20 78 0 1043, r0 20 (.aload_n 0) 21, rX 21 (.getfield 47) 24 0 5 430, rX 24 (.getfield 328) 27 7 1 384, r0 27 (.ireturn) 28]
def T_w_tourAt : List Row := [r0 0 (.aload_n 0) 1, r0 1 (.aload_n 0) 2, rX 2 (.getfield 65) 5 0 8 433, rX 5 (.ifCond .eq 18) 8 23 0 0, r0 8 (.aload_n 0) 9, rX 9 (.getfield 61) 12 0 7 432, r0 12 (.iload_n 1) 13, rX 13 (.invokevirtual 287) 16 10 0 980,
  rX 16 (.ifCond .eq 7) 19 23 0 0, r0 19 (.iconst 0) 20, rX 20 (.goto 4) 23 24 0 0, rX 23 (.iconst 1) 24 1 0 0, rX 24 (.invokevirtual 90) 27 138 0 478, rX 27 (.ifCond .ne 5) 30 32 0 0, rX 30 (.iconst (-1)) 31 1 1 0, r0 31 (.ireturn) 32,
  r0 32 (.aload_n 0) 33, rX 33 (.getfield 47) 36 0 5 430, r0 36 (.aload_n 0) 37, rX 37 (.getfield 61) 40 0 7 432, rX 40 (.invokevirtual 325) 43 78 0 1043, r0 43 (.aload_n 0) 44, rX 44 (.getfield 47) 47 0 5 430, rX 47 (.getfield 331) 50 7 2 386,
  r0 50 (.iload_n 1) 51, r0 51 (.iaload) 52, r0 52 (.ireturn) 53]
def T_w_sign : List Row := [r0 0 (.iload_n 1) 1, rX 1 (.ifCond .lt 35) 4 36 0 0, r0 4 (.iload_n 1) 5, rX 5 (.bipush 9) 7 9 0 0, rX 7 (.if_icmp .gt 29) 10 36 0 0, r0 10 (.iload_n 2) 11, rX 11 (.ifCond .lt 25) 14 36 0 0, r0 14 (.iload_n 2) 15,
  rX 15 (.iconst 1) 16 1 0 0, r0 16 (.iload_n 1) 17, r0 17 (.ishl) 18, rX 18 (.if_icmp .ge 18) 21 36 0 0, r0 21 (.iload_n 3) 22, rX 22 (.ifCond .lt 14) 25 36 0 0, r0 25 (.iload_n 3) 26, rX 26 (.iconst 1) 27 1 0 0,
  r0 27 (.iload_n 1) 28, r0 28 (.ishl) 29, rX 29 (.if_icmp .ge 7) 32 36 0 0, rX 32 (.iconst 1) 33 1 0 0, rX 33 (.goto 4) 36 37 0 0, r0 36 (.iconst 0) 37, r0 37 (.istore 4) 39, r0 39 (.aload_n 0) 40,
  r0 40 (.iload 4) 42, rX 42 (.ifCond .eq 7) 45 49 0 0, r0 45 (.iconst 0) 46, rX 46 (.goto 4) 49 50 0 0, rX 49 (.iconst 2) 50 2 0 0, rX 50 (.invokevirtual 90) 53 138 0 478, rX 53 (.ifCond .ne 5) 56 58 0 0, r0 56 (.iconst 0) 57,
  r0 57 (.ireturn) 58, r0 58 (.iload_n 2) 59, r0 59 (.iload_n 3) 60, r0 60 (.iand) 61, rX 61 (.invokestatic 158) 64 273 1 719, rX 64 (.iconst 1) 65 1 0 0, r0 65 (.iand) 66, rX 66 (.ifCond .ne 7) 69 73 0 0,
  rX 69 (.iconst 1) 70 1 0 0, rX 70 (.goto 4) 73 74 0 0, rX 73 (.iconst (-1)) 74 1 1 0, r0 74 (.ireturn) 75]
def T_w_shine : List Row := [r0 0 (.aload_n 0) 1, r0 1 (.iload_n 1) 2, rX 2 (.invokevirtual 149) 5 140 0 710, rX 5 (.ifCond .eq 26) 8 31 0 0, r0 8 (.aload_n 0) 9, r0 9 (.iload_n 2) 10, rX 10 (.ifCond .lt 14) 13 24 0 0, r0 13 (.iload_n 2) 14,
  rX 14 (.sipush 9999) 17 9999 0 0, rX 17 (.if_icmp .gt 7) 20 24 0 0, r0 20 (.iconst 0) 21, rX 21 (.goto 4) 24 25 0 0, rX 24 (.iconst 2) 25 2 0 0, rX 25 (.invokevirtual 90) 28 138 0 478, rX 28 (.ifCond .ne 5) 31 33 0 0, rX 31 (.iconst (-1)) 32 1 1 0,
  r0 32 (.ireturn) 33, r0 33 (.aload_n 0) 34, rX 34 (.getfield 61) 37 0 7 432, rX 37 (.getfield 173) 40 3 9 205, r0 40 (.iload_n 1) 41, r0 41 (.iaload) 42, r0 42 (.istore_n 3) 43, r0 43 (.aload_n 0) 44,
  rX 44 (.getfield 54) 47 0 6 431, r0 47 (.iconst 0) 48, r0 48 (.iload_n 1) 49, r0 49 (.iload_n 3) 50, rX 50 (.invokevirtual 333) 53 2 0 1084, r0 53 (.aload_n 0) 54, rX 54 (.getfield 61) 57 0 7 432, rX 57 (.getfield 173) 60 3 9 205,
  r0 60 (.iload_n 1) 61, r0 61 (.iload_n 2) 62, r0 62 (.iastore) 63, r0 63 (.aload_n 0) 64, rX 64 (.getfield 26) 67 0 2 427, rX 67 (.invokevirtual 337) 70 57 0 1092, r0 70 (.iload_n 3) 71, r0 71 (.ireturn) 72]
def T_w_stick : List Row := [r0 0 (.aload_n 0) 1, r0 1 (.iload_n 1) 2, rX 2 (.invokevirtual 149) 5 140 0 710, rX 5 (.ifCond .eq 24) 8 29 0 0, r0 8 (.aload_n 0) 9, r0 9 (.iload_n 2) 10, rX 10 (.ifCond .lt 12) 13 22 0 0, r0 13 (.iload_n 2) 14,
  rX 14 (.iconst 2) 15 2 0 0, rX 15 (.if_icmp .gt 7) 18 22 0 0, r0 18 (.iconst 0) 19, rX 19 (.goto 4) 22 23 0 0, rX 22 (.iconst 2) 23 2 0 0, rX 23 (.invokevirtual 90) 26 138 0 478, rX 26 (.ifCond .ne 5) 29 31 0 0, rX 29 (.iconst (-1)) 30 1 1 0,
  r0 30 (.ireturn) 31, r0 31 (.aload_n 0) 32, rX 32 (.getfield 61) 35 0 7 432, r0 35 (.iload_n 1) 36, rX 36 (.invokevirtual 176) 39 18 0 753, r0 39 (.istore_n 3) 40, r0 40 (.aload_n 0) 41, rX 41 (.getfield 54) 44 0 6 431,
  rX 44 (.iconst 1) 45 1 0 0, r0 45 (.iload_n 1) 46, r0 46 (.iload_n 3) 47, rX 47 (.invokevirtual 333) 50 2 0 1084, r0 50 (.aload_n 0) 51, rX 51 (.getfield 61) 54 0 7 432, r0 54 (.iload_n 1) 55, r0 55 (.iload_n 2) 56,
  rX 56 (.invokevirtual 340) 59 19 0 1097, r0 59 (.aload_n 0) 60, rX 60 (.getfield 26) 63 0 2 427, rX 63 (.invokevirtual 337) 66 57 0 1092, r0 66 (.iload_n 3) 67, r0 67 (.ireturn) 68]
def T_w_lose : List Row := [r0 0 (.aload_n 0) 1, r0 1 (.iload_n 1) 2, rX 2 (.invokevirtual 149) 5 140 0 710, rX 5 (.ifCond .eq 26) 8 31 0 0, r0 8 (.aload_n 0) 9, r0 9 (.aload_n 0) 10, rX 10 (.getfield 61) 13 0 7 432, r0 13 (.iload_n 1) 14,
  rX 14 (.invokevirtual 183) 17 12 0 766, rX 17 (.ifCond .eq 7) 20 24 0 0, rX 20 (.iconst 5) 21 5 0 0, rX 21 (.goto 4) 24 25 0 0, r0 24 (.iconst 0) 25, rX 25 (.invokevirtual 90) 28 138 0 478, rX 28 (.ifCond .ne 5) 31 33 0 0, rX 31 (.iconst (-1)) 32 1 1 0,
  r0 32 (.ireturn) 33, r0 33 (.aload_n 0) 34, rX 34 (.getfield 54) 37 0 6 431, rX 37 (.iconst 2) 38 2 0 0, r0 38 (.iload_n 1) 39, r0 39 (.iconst 0) 40, rX 40 (.invokevirtual 333) 43 2 0 1084, r0 43 (.aload_n 0) 44,
  rX 44 (.getfield 61) 47 0 7 432, r0 47 (.dup) 48, rX 48 (.getfield 343) 51 3 7 198, rX 51 (.iconst 1) 52 1 0 0, r0 52 (.iload_n 1) 53, r0 53 (.ishl) 54, r0 54 (.ior) 55, rX 55 (.putfield 343) 58 3 7 198,
  r0 58 (.aload_n 0) 59, rX 59 (.getfield 26) 62 0 2 427, rX 62 (.invokevirtual 337) 65 57 0 1092, r0 65 (.aload_n 0) 66, rX 66 (.getfield 61) 69 0 7 432, rX 69 (.invokevirtual 219) 72 13 0 826, r0 72 (.ireturn) 73]
def T_w_undo : List Row := [r0 0 (.aload_n 0) 1, r0 1 (.aload_n 0) 2, rX 2 (.getfield 65) 5 0 8 433, rX 5 (.ifCond .eq 17) 8 22 0 0, r0 8 (.aload_n 0) 9, rX 9 (.getfield 54) 12 0 6 431, rX 12 (.getfield 346) 15 8 0 410, rX 15 (.ifCond .le 7) 18 22 0 0,
  r0 18 (.iconst 0) 19, rX 19 (.goto 4) 22 23 0 0, rX 22 (.iconst 1) 23 1 0 0, rX 23 (.invokevirtual 90) 26 138 0 478, rX 26 (.ifCond .ne 5) 29 31 0 0, r0 29 (.iconst 0) 30, r0 30 (.ireturn) 31, r0 31 (.aload_n 0) 32,
  rX 32 (.getfield 54) 35 0 6 431, r0 35 (.aload_n 0) 36, rX 36 (.getfield 61) 39 0 7 432, rX 39 (.invokevirtual 349) 42 4 0 1106, r0 42 (.aload_n 0) 43, rX 43 (.getfield 26) 46 0 2 427, rX 46 (.invokevirtual 337) 49 57 0 1092, rX 49 (.iconst 1) 50 1 0 0,
  r0 50 (.ireturn) 51]
def T_w_stuck : List Row := [r0 0 (.iconst 0) 1, r0 1 (.istore_n 2) 2, r0 2 (.aload_n 0) 3, rX 3 (.getfield 65) 6 0 8 433, rX 6 (.ifCond .eq 43) 9 49 0 0, r0 9 (.iconst 0) 10, r0 10 (.istore_n 3) 11, rH 11 (.iload_n 3) 12 0 0 0 0,
  r0 12 (.aload_n 0) 13, rX 13 (.getfield 61) 16 0 7 432, rX 16 (.getfield 124) 19 3 0 170, rX 19 (.if_icmp .ge 30) 22 49 0 0, r0 22 (.aload_n 0) 23, rX 23 (.getfield 61) 26 0 7 432, r0 26 (.iload_n 3) 27, rX 27 (.invokevirtual 176) 30 18 0 753,
  rX 30 (.ifCond .eq 13) 33 43 0 0, r0 33 (.iload_n 2) 34, r0 34 (.iload_n 1) 35, rX 35 (.if_icmp .ne 5) 38 40 0 0, r0 38 (.iload_n 3) 39, r0 39 (.ireturn) 40, rX 40 (.iinc 2 1) 43 1 0 0, rX 43 (.iinc 3 1) 46 1 0 0,
  rX 46 (.goto (-35)) 49 11 0 0, rX 49 (.new 352) 52 99 0 0, r0 52 (.dup) 53, rV 53 (.ldc_w 354) 56 0 0 1167 1, rX 56 (.invokespecial 356) 59 9999 9 0, r0 59 (.athrow) 60]
def T_w_size : List Row := [r0 0 (.iload_n 1) 1, r0 1 (.tableswitch 117 0 5 #[39, 58, 77, 85, 101, 109]) 40, r0 40 (.aload_n 0) 41, rX 41 (.getfield 65) 44 0 8 433, rX 44 (.ifCond .eq 13) 47 57 0 0, r0 47 (.aload_n 0) 48, rX 48 (.getfield 61) 51 0 7 432, rX 51 (.getfield 359) 54 3 4 190,
  rX 54 (.goto 4) 57 58 0 0, r0 57 (.iconst 0) 58, r0 58 (.ireturn) 59, r0 59 (.aload_n 0) 60, rX 60 (.getfield 65) 63 0 8 433, rX 63 (.ifCond .eq 13) 66 76 0 0, r0 66 (.aload_n 0) 67, rX 67 (.getfield 61) 70 0 7 432,
  rX 70 (.invokevirtual 219) 73 13 0 826, rX 73 (.goto 4) 76 77 0 0, r0 76 (.iconst 0) 77, r0 77 (.ireturn) 78, r0 78 (.aload_n 0) 79, rX 79 (.getfield 26) 82 0 2 427, rX 82 (.getfield 194) 85 4 2 293, r0 85 (.ireturn) 86,
  r0 86 (.aload_n 0) 87, rX 87 (.getfield 26) 90 0 2 427, rX 90 (.getfield 213) 93 4 3 295, rX 93 (.ifCond .eq 7) 96 100 0 0, rX 96 (.iconst 1) 97 1 0 0, rX 97 (.goto 4) 100 101 0 0, r0 100 (.iconst 0) 101, r0 101 (.ireturn) 102,
  r0 102 (.aload_n 0) 103, rX 103 (.getfield 54) 106 0 6 431, rX 106 (.getfield 346) 109 8 0 410, r0 109 (.ireturn) 110, r0 110 (.aload_n 0) 111, rX 111 (.getfield 10) 114 0 0 425, rX 114 (.getfield 87) 117 1 1 149, r0 117 (.ireturn) 118,
  rX 118 (.iconst (-1)) 119 1 1 0, r0 119 (.ireturn) 120]
def T_w_trouble : List Row := [r0 0 (.aload_n 0) 1, rX 1 (.getfield 69) 4 0 9 434, r0 4 (.ireturn) 5]
def T_w_settle : List Row := [r0 0 (.aload_n 0) 1, r0 1 (.iload_n 1) 2, rX 2 (.putfield 69) 5 0 9 434, r0 5 (.iload_n 1) 6, rX 6 (.ifCond .ne 7) 9 13 0 0, rX 9 (.iconst 1) 10 1 0 0, rX 10 (.goto 4) 13 14 0 0, r0 13 (.iconst 0) 14,
  r0 14 (.ireturn) 15]
def T_w_haveBench : List Row := [r0 0 (.aload_n 0) 1, r0 1 (.aload_n 0) 2, rX 2 (.getfield 65) 5 0 8 433, rX 5 (.ifCond .eq 7) 8 12 0 0, r0 8 (.iconst 0) 9, rX 9 (.goto 4) 12 13 0 0, rX 12 (.iconst 1) 13 1 0 0, rX 13 (.invokevirtual 90) 16 138 0 478,
  r0 16 (.ireturn) 17]
def T_w_haveOne : List Row := [r0 0 (.aload_n 0) 1, r0 1 (.aload_n 0) 2, rX 2 (.getfield 65) 5 0 8 433, rX 5 (.ifCond .eq 18) 8 23 0 0, r0 8 (.aload_n 0) 9, rX 9 (.getfield 61) 12 0 7 432, r0 12 (.iload_n 1) 13, rX 13 (.invokevirtual 155) 16 9 0 714,
  rX 16 (.ifCond .eq 7) 19 23 0 0, r0 19 (.iconst 0) 20, rX 20 (.goto 4) 23 24 0 0, rX 23 (.iconst 1) 24 1 0 0, rX 24 (.invokevirtual 90) 27 138 0 478, r0 27 (.ireturn) 28]
def T_w_haveSet : List Row := [r0 0 (.aload_n 0) 1, rX 1 (.invokevirtual 203) 4 139 0 728, rX 4 (.ifCond .eq 30) 7 34 0 0, r0 7 (.aload_n 0) 8, r0 8 (.aload_n 0) 9, rX 9 (.getfield 61) 12 0 7 432, r0 12 (.iload_n 1) 13, rX 13 (.invokevirtual 362) 16 11 0 732,
  rX 16 (.ifCond .eq 7) 19 23 0 0, r0 19 (.iconst 0) 20, rX 20 (.goto 4) 23 24 0 0, rX 23 (.iconst 2) 24 2 0 0, rX 24 (.invokevirtual 90) 27 138 0 478, rX 27 (.ifCond .eq 7) 30 34 0 0, rX 30 (.iconst 1) 31 1 0 0, rX 31 (.goto 4) 34 35 0 0,
  r0 34 (.iconst 0) 35, r0 35 (.ireturn) 36]
def T_w_haveBacks : List Row := [r0 0 (.aload_n 0) 1, rX 1 (.invokevirtual 203) 4 139 0 728, rX 4 (.ifCond .eq 40) 7 44 0 0, r0 7 (.aload_n 0) 8, r0 8 (.aload_n 0) 9, rX 9 (.getfield 26) 12 0 2 427, rX 12 (.getfield 213) 15 4 3 295, rX 15 (.ifCond .eq 18) 18 33 0 0,
  r0 18 (.aload_n 0) 19, rX 19 (.getfield 61) 22 0 7 432, rX 22 (.invokevirtual 219) 25 13 0 826, rX 25 (.iconst 2) 26 2 0 0, rX 26 (.if_icmp .ge 7) 29 33 0 0, r0 29 (.iconst 0) 30, rX 30 (.goto 4) 33 34 0 0, rX 33 (.iconst 5) 34 5 0 0,
  rX 34 (.invokevirtual 90) 37 138 0 478, rX 37 (.ifCond .eq 7) 40 44 0 0, rX 40 (.iconst 1) 41 1 0 0, rX 41 (.goto 4) 44 45 0 0, r0 44 (.iconst 0) 45, r0 45 (.ireturn) 46]
def T_w_haveBackOf : List Row := [r0 0 (.aload_n 0) 1, r0 1 (.iload_n 1) 2, rX 2 (.invokevirtual 149) 5 140 0 710, rX 5 (.ifCond .eq 14) 8 19 0 0, r0 8 (.aload_n 0) 9, rX 9 (.invokevirtual 246) 12 142 0 835, rX 12 (.ifCond .eq 7) 15 19 0 0, rX 15 (.iconst 1) 16 1 0 0,
  rX 16 (.goto 4) 19 20 0 0, r0 19 (.iconst 0) 20, r0 20 (.ireturn) 21]
def T_w_haveSuspects : List Row := [r0 0 (.aload_n 0) 1, rX 1 (.invokevirtual 203) 4 139 0 728, rX 4 (.ifCond .eq 39) 7 43 0 0, r0 7 (.aload_n 0) 8, r0 8 (.aload_n 0) 9, rX 9 (.getfield 26) 12 0 2 427, rX 12 (.getfield 213) 15 4 3 295, rX 15 (.ifCond .eq 17) 18 32 0 0,
  r0 18 (.aload_n 0) 19, rX 19 (.getfield 61) 22 0 7 432, rX 22 (.invokevirtual 219) 25 13 0 826, rX 25 (.ifCond .ne 7) 28 32 0 0, r0 28 (.iconst 0) 29, rX 29 (.goto 4) 32 33 0 0, rX 32 (.iconst 5) 33 5 0 0, rX 33 (.invokevirtual 90) 36 138 0 478,
  rX 36 (.ifCond .eq 7) 39 43 0 0, rX 39 (.iconst 1) 40 1 0 0, rX 40 (.goto 4) 43 44 0 0, r0 43 (.iconst 0) 44, r0 44 (.ireturn) 45]
def T_w_haveTold : List Row := [r0 0 (.aload_n 0) 1, r0 1 (.iload_n 1) 2, rX 2 (.invokevirtual 149) 5 140 0 710, rX 5 (.ifCond .eq 30) 8 35 0 0, r0 8 (.aload_n 0) 9, r0 9 (.aload_n 0) 10, rX 10 (.getfield 40) 13 0 4 429, r0 13 (.iload_n 1) 14,
  rX 14 (.invokevirtual 318) 17 24 0 1000, rX 17 (.ifCond .eq 7) 20 24 0 0, r0 20 (.iconst 0) 21, rX 21 (.goto 4) 24 25 0 0, rX 24 (.iconst 5) 25 5 0 0, rX 25 (.invokevirtual 90) 28 138 0 478, rX 28 (.ifCond .eq 7) 31 35 0 0, rX 31 (.iconst 1) 32 1 0 0,
  rX 32 (.goto 4) 35 36 0 0, r0 35 (.iconst 0) 36, r0 36 (.ireturn) 37]
def T_r_init : List Row := [r0 0 (.aload_n 0) 1, rX 1 (.invokespecial 3) 4 0 4 1198, r0 4 (.aload_n 0) 5, rX 5 (.iconst (-1)) 6 1 1 0, rX 6 (.putfield 9) 9 9 2 1202, r0 9 (.aload_n 0) 10, rX 10 (.bipush 31) 12 31 0 0, r0 12 (.newarray .int) 14,
  rX 14 (.putfield 13) 17 9 10 1210, r0 17 (.aload_n 0) 18, rX 18 (.bipush 31) 20 31 0 0, r0 20 (.newarray .int) 22, rX 22 (.putfield 17) 25 9 11 1211, r0 25 (.aload_n 0) 26, rX 26 (.bipush 12) 28 12 0 0, r0 28 (.newarray .int) 30,
  rX 30 (.putfield 20) 33 9 12 1212, r0 33 (.aload_n 0) 34, rX 34 (.bipush 31) 36 31 0 0, r0 36 (.newarray .int) 38, rX 38 (.putfield 23) 41 9 24 1224, r0 41 (.aload_n 0) 42, rX 42 (.bipush 12) 44 12 0 0, r0 44 (.newarray .int) 46,
  rX 46 (.putfield 26) 49 9 25 1225, r0 49 (.aload_n 0) 50, rX 50 (.bipush 63) 52 63 0 0, r0 52 (.newarray .int) 54, rX 54 (.putfield 29) 57 9 27 1227, r0 57 (.aload_n 0) 58, rX 58 (.bipush 63) 60 63 0 0, r0 60 (.newarray .int) 62,
  rX 62 (.putfield 32) 65 9 28 1228, r0 65 (.aload_n 0) 66, rX 66 (.sipush 630) 69 630 0 0, r0 69 (.newarray .int) 71, rX 71 (.putfield 35) 74 9 29 1229, r0 74 (.aload_n 0) 75, rX 75 (.sipush 800) 78 800 0 0, r0 78 (.newarray .byte) 80,
  rX 80 (.putfield 38) 83 9 31 1231, r0 83 (.aload_n 0) 84, rX 84 (.bipush 20) 86 20 0 0, r0 86 (.newarray .int) 88, rX 88 (.putfield 42) 91 9 40 1240, r0 91 (.aload_n 0) 92, rX 92 (.bipush 20) 94 20 0 0, r0 94 (.newarray .int) 96,
  rX 96 (.putfield 45) 99 9 41 1241, r0 99 (.aload_n 0) 100, rX 100 (.bipush 31) 102 31 0 0, r0 102 (.newarray .int) 104, rX 104 (.putfield 48) 107 9 42 1242, r0 107 (.aload_n 0) 108, rX 108 (.bipush 31) 110 31 0 0, r0 110 (.newarray .long) 112,
  rX 112 (.putfield 51) 115 9 47 1247, r0 115 (.aload_n 0) 116, rX 116 (.sipush 528) 119 528 0 0, r0 119 (.newarray .long) 121, rX 121 (.putfield 55) 124 9 48 1248, r0 124 (.aload_n 0) 125, rX 125 (.sipush 528) 128 528 0 0, r0 128 (.newarray .long) 130,
  rX 130 (.putfield 58) 133 9 49 1249, r0 133 (.aload_n 0) 134, rX 134 (.bipush 12) 136 12 0 0, r0 136 (.newarray .int) 138, rX 138 (.putfield 61) 141 9 50 1250, r0 141 (.aload_n 0) 142, rX 142 (.ldc 64) 144 49152 0 1199, r0 144 (.newarray .int) 146,
  rX 146 (.putfield 65) 149 9 53 1253, r0 149 (.return_) 150]
def T_r_thrown : List Row := [r0 0 (.aload_n 0) 1, rX 1 (.getfield 68) 4 9 0 1200, r0 4 (.ireturn) 5]
def T_r_refused : List Row := [r0 0 (.aload_n 0) 1, r0 1 (.iload_n 1) 2, rX 2 (.putfield 71) 5 9 1 1201, r0 5 (.aload_n 0) 6, rX 6 (.iconst (-1)) 7 1 1 0, rX 7 (.putfield 9) 10 9 2 1202, rX 10 (.iconst (-1)) 11 1 1 0, r0 11 (.ireturn) 12]
def T_r_refusedLong : List Row := [r0 0 (.aload_n 0) 1, r0 1 (.iload_n 1) 2, rX 2 (.invokevirtual 74) 5 148 0 1375, r0 5 (.pop) 6, rX 6 (.ldc2_w 80) 9 9223372036854775808 1 1633, r0 9 (.lreturn) 10]
def T_r_good : List Row := [r0 0 (.aload_n 0) 1, r0 1 (.iconst 0) 2, rX 2 (.putfield 71) 5 9 1 1201, r0 5 (.aload_n 0) 6, rX 6 (.iconst (-1)) 7 1 1 0, rX 7 (.putfield 9) 10 9 2 1202, r0 10 (.iload_n 1) 11, r0 11 (.ireturn) 12]
def T_r_in : List Row := [r0 0 (.iload_n 0) 1, r0 1 (.iload_n 1) 2, rX 2 (.if_icmp .lt 12) 5 14 0 0, r0 5 (.iload_n 0) 6, r0 6 (.iload_n 2) 7, rX 7 (.if_icmp .gt 7) 10 14 0 0, rX 10 (.iconst 1) 11 1 0 0, rX 11 (.goto 4) 14 15 0 0,
  r0 14 (.iconst 0) 15, r0 15 (.ireturn) 16]
def T_r_has : List Row := [r0 0 (.iload_n 0) 1, r0 1 (.iload_n 1) 2, r0 2 (.ishr) 3, rX 3 (.iconst 1) 4 1 0 0, r0 4 (.iand) 5, rX 5 (.iconst 1) 6 1 0 0, rX 6 (.if_icmp .ne 7) 9 13 0 0, rX 9 (.iconst 1) 10 1 0 0,
  rX 10 (.goto 4) 13 14 0 0, r0 13 (.iconst 0) 14, r0 14 (.ireturn) 15]
def T_r_many : List Row := [r0 0 (.iconst 0) 1, r0 1 (.istore_n 1) 2, r0 2 (.iload_n 0) 3, r0 3 (.istore_n 2) 4, rH 4 (.iload_n 2) 5 0 0 0 0, rX 5 (.ifCond .eq 15) 8 20 0 0, rX 8 (.iinc 1 1) 11 1 0 0, r0 11 (.iload_n 2) 12,
  r0 12 (.iload_n 2) 13, rX 13 (.iconst 1) 14 1 0 0, r0 14 (.isub) 15, r0 15 (.iand) 16, r0 16 (.istore_n 2) 17, rX 17 (.goto (-13)) 20 4 0 0, r0 20 (.iload_n 1) 21, r0 21 (.ireturn) 22]
def T_r_divisor : List Row := [r0 0 (.lload_n 0) 1, r0 1 (.lconst 0) 2, r0 2 (.lcmp) 3, rX 3 (.ifCond .ge 8) 6 11 0 0, r0 6 (.lload_n 0) 7, r0 7 (.lneg) 8, rX 8 (.goto 4) 11 12 0 0, r0 11 (.lload_n 0) 12,
  r0 12 (.lstore 4) 14, r0 14 (.lload_n 2) 15, r0 15 (.lstore 6) 17, rH 17 (.lload 6) 19 0 0 0 0, r0 19 (.lconst 0) 20, r0 20 (.lcmp) 21, rX 21 (.ifCond .eq 21) 24 42 0 0, r0 24 (.lload 4) 26,
  r0 26 (.lload 6) 28, r0 28 (.lrem) 29, r0 29 (.lstore 8) 31, r0 31 (.lload 6) 33, r0 33 (.lstore 4) 35, r0 35 (.lload 8) 37, r0 37 (.lstore 6) 39, rX 39 (.goto (-22)) 42 17 0 0,
  r0 42 (.lload 4) 44, r0 44 (.lreturn) 45]
def T_r_sets : List Row := [r0 0 (.lload_n 1) 1, r0 1 (.lload_n 3) 2, rX 2 (.invokestatic 82) 5 154 1 1648, r0 5 (.lstore 5) 7, r0 7 (.aload_n 0) 8, r0 8 (.lload_n 1) 9, r0 9 (.lload 5) 11, r0 11 (.ldiv) 12,
  rX 12 (.putfield 86) 15 9 3 1203, r0 15 (.aload_n 0) 16, r0 16 (.lload_n 3) 17, r0 17 (.lload 5) 19, r0 19 (.ldiv) 20, rX 20 (.putfield 90) 23 9 4 1204, r0 23 (.return_) 24]
def T_r_part : List Row := [r0 0 (.aload_n 0) 1, r0 1 (.iconst 0) 2, rX 2 (.invokevirtual 93) 5 150 0 1505, r0 5 (.pop) 6, r0 6 (.iload_n 1) 7, rX 7 (.ifCond .eq 10) 10 17 0 0, r0 10 (.aload_n 0) 11, rX 11 (.getfield 90) 14 9 4 1204,
  rX 14 (.goto 7) 17 21 0 0, r0 17 (.aload_n 0) 18, rX 18 (.getfield 86) 21 9 3 1203, r0 21 (.lreturn) 22]
def T_r_byteAt : List Row := [r0 0 (.iload_n 1) 1, r0 1 (.aload_n 0) 2, rX 2 (.getfield 96) 5 9 33 1233, rX 5 (.if_icmp .ge 16) 8 21 0 0, r0 8 (.aload_n 0) 9, rX 9 (.getfield 38) 12 9 31 1231, r0 12 (.iload_n 1) 13, r0 13 (.baload) 14,
  rX 14 (.sipush 255) 17 255 0 0, r0 17 (.iand) 18, rX 18 (.goto 4) 21 22 0 0, rX 21 (.iconst (-1)) 22 1 1 0, r0 22 (.ireturn) 23]
def T_r_next : List Row := [r0 0 (.aload_n 0) 1, rX 1 (.getfield 99) 4 9 38 1238, rX 4 (.ifCond .le 4) 7 8 0 0, r0 7 (.return_) 8, rH 8 (.aload_n 0) 9 0 0 0 0, r0 9 (.aload_n 0) 10, rX 10 (.getfield 102) 13 9 34 1234, rX 13 (.invokevirtual 105) 16 157 0 1387,
  rX 16 (.bipush 32) 18 32 0 0, rX 18 (.if_icmp .ne 16) 21 34 0 0, r0 21 (.aload_n 0) 22, r0 22 (.dup) 23, rX 23 (.getfield 102) 26 9 34 1234, rX 26 (.iconst 1) 27 1 0 0, r0 27 (.iadd) 28, rX 28 (.putfield 102) 31 9 34 1234,
  rX 31 (.goto (-23)) 34 8 0 0, r0 34 (.aload_n 0) 35, r0 35 (.aload_n 0) 36, rX 36 (.getfield 102) 39 9 34 1234, rX 39 (.putfield 108) 42 9 36 1236, r0 42 (.aload_n 0) 43, r0 43 (.aload_n 0) 44, rX 44 (.getfield 102) 47 9 34 1234,
  rX 47 (.invokevirtual 105) 50 157 0 1387, r0 50 (.istore_n 1) 51, r0 51 (.iload_n 1) 52, rX 52 (.iconst (-1)) 53 1 1 0, rX 53 (.if_icmp .ne 11) 56 64 0 0, r0 56 (.aload_n 0) 57, rX 57 (.iconst 1) 58 1 0 0, rX 58 (.putfield 111) 61 9 35 1235,
  rX 61 (.goto 44) 64 105 0 0, r0 64 (.iload_n 1) 65, rX 65 (.bipush 97) 67 97 0 0, rX 67 (.bipush 122) 69 122 0 0, rX 69 (.invokestatic 114) 72 151 1 1391, rX 72 (.ifCond .eq 10) 75 82 0 0, r0 75 (.aload_n 0) 76, rX 76 (.invokevirtual 118) 79 159 0 1394,
  rX 79 (.goto 26) 82 105 0 0, r0 82 (.iload_n 1) 83, rX 83 (.bipush 48) 85 48 0 0, rX 85 (.bipush 57) 87 57 0 0, rX 87 (.invokestatic 114) 90 151 1 1391, rX 90 (.ifCond .eq 10) 93 100 0 0, r0 93 (.aload_n 0) 94, rX 94 (.invokevirtual 121) 97 160 0 1398,
  rX 97 (.goto 8) 100 105 0 0, r0 100 (.aload_n 0) 101, r0 101 (.iload_n 1) 102, rX 102 (.invokevirtual 124) 105 161 0 1402, r0 105 (.return_) 106]
def T_r_nextWord : List Row := [r0 0 (.aload_n 0) 1, r0 1 (.lconst 0) 2, rX 2 (.putfield 128) 5 9 39 1239, rH 5 (.aload_n 0) 6 0 0 0 0, r0 6 (.aload_n 0) 7, rX 7 (.getfield 102) 10 9 34 1234, rX 10 (.invokevirtual 105) 13 157 0 1387, rX 13 (.bipush 97) 15 97 0 0,
  rX 15 (.bipush 122) 17 122 0 0, rX 17 (.invokestatic 114) 20 151 1 1391, rX 20 (.ifCond .eq 51) 23 71 0 0, r0 23 (.aload_n 0) 24, rX 24 (.getfield 102) 27 9 34 1234, r0 27 (.aload_n 0) 28, rX 28 (.getfield 108) 31 9 36 1236, r0 31 (.isub) 32,
  rX 32 (.bipush 7) 34 7 0 0, rX 34 (.if_icmp .ge 24) 37 58 0 0, r0 37 (.aload_n 0) 38, r0 38 (.aload_n 0) 39, rX 39 (.getfield 128) 42 9 39 1239, rX 42 (.bipush 8) 44 8 0 0, r0 44 (.lshl) 45, r0 45 (.aload_n 0) 46,
  r0 46 (.aload_n 0) 47, rX 47 (.getfield 102) 50 9 34 1234, rX 50 (.invokevirtual 105) 53 157 0 1387, r0 53 (.i2l) 54, r0 54 (.lor) 55, rX 55 (.putfield 128) 58 9 39 1239, r0 58 (.aload_n 0) 59, r0 59 (.dup) 60,
  rX 60 (.getfield 102) 63 9 34 1234, rX 63 (.iconst 1) 64 1 0 0, r0 64 (.iadd) 65, rX 65 (.putfield 102) 68 9 34 1234, rX 68 (.goto (-63)) 71 5 0 0, r0 71 (.aload_n 0) 72, r0 72 (.aload_n 0) 73, rX 73 (.getfield 102) 76 9 34 1234,
  r0 76 (.aload_n 0) 77, rX 77 (.getfield 108) 80 9 36 1236, r0 80 (.isub) 81, rX 81 (.bipush 7) 83 7 0 0, rX 83 (.if_icmp .le 7) 86 90 0 0, r0 86 (.iconst 0) 87, rX 87 (.goto 4) 90 91 0 0, rX 90 (.iconst 2) 91 2 0 0,
  rX 91 (.putfield 111) 94 9 35 1235, r0 94 (.return_) 95]
def T_r_nextWhole : List Row := [r0 0 (.aload_n 0) 1, r0 1 (.iconst 0) 2, rX 2 (.putfield 131) 5 9 37 1237, rH 5 (.aload_n 0) 6 0 0 0 0, r0 6 (.aload_n 0) 7, rX 7 (.getfield 102) 10 9 34 1234, rX 10 (.invokevirtual 105) 13 157 0 1387, rX 13 (.bipush 48) 15 48 0 0,
  rX 15 (.bipush 57) 17 57 0 0, rX 17 (.invokestatic 114) 20 151 1 1391, rX 20 (.ifCond .eq 53) 23 73 0 0, r0 23 (.aload_n 0) 24, rX 24 (.getfield 102) 27 9 34 1234, r0 27 (.aload_n 0) 28, rX 28 (.getfield 108) 31 9 36 1236, r0 31 (.isub) 32,
  rX 32 (.bipush 6) 34 6 0 0, rX 34 (.if_icmp .ge 26) 37 60 0 0, r0 37 (.aload_n 0) 38, rX 38 (.bipush 10) 40 10 0 0, r0 40 (.aload_n 0) 41, rX 41 (.getfield 131) 44 9 37 1237, r0 44 (.imul) 45, r0 45 (.aload_n 0) 46,
  r0 46 (.aload_n 0) 47, rX 47 (.getfield 102) 50 9 34 1234, rX 50 (.invokevirtual 105) 53 157 0 1387, r0 53 (.iadd) 54, rX 54 (.bipush 48) 56 48 0 0, r0 56 (.isub) 57, rX 57 (.putfield 131) 60 9 37 1237, r0 60 (.aload_n 0) 61,
  r0 61 (.dup) 62, rX 62 (.getfield 102) 65 9 34 1234, rX 65 (.iconst 1) 66 1 0 0, r0 66 (.iadd) 67, rX 67 (.putfield 102) 70 9 34 1234, rX 70 (.goto (-65)) 73 5 0 0, r0 73 (.aload_n 0) 74, r0 74 (.aload_n 0) 75,
  rX 75 (.getfield 102) 78 9 34 1234, r0 78 (.aload_n 0) 79, rX 79 (.getfield 108) 82 9 36 1236, r0 82 (.isub) 83, rX 83 (.bipush 6) 85 6 0 0, rX 85 (.if_icmp .le 7) 88 92 0 0, r0 88 (.iconst 0) 89, rX 89 (.goto 4) 92 93 0 0,
  rX 92 (.iconst 3) 93 3 0 0, rX 93 (.putfield 111) 96 9 35 1235, r0 96 (.return_) 97]
def T_r_nextSign : List Row := [r0 0 (.aload_n 0) 1, r0 1 (.iload_n 1) 2, rX 2 (.bipush 59) 4 59 0 0, rX 4 (.if_icmp .ne 7) 7 11 0 0, rX 7 (.iconst 4) 8 4 0 0, rX 8 (.goto 4) 11 12 0 0, r0 11 (.iconst 0) 12, rX 12 (.putfield 111) 15 9 35 1235,
  r0 15 (.iload_n 1) 16, rX 16 (.bipush 59) 18 59 0 0, rX 18 (.if_icmp .ne 13) 21 31 0 0, r0 21 (.aload_n 0) 22, r0 22 (.dup) 23, rX 23 (.getfield 102) 26 9 34 1234, rX 26 (.iconst 1) 27 1 0 0, r0 27 (.iadd) 28,
  rX 28 (.putfield 102) 31 9 34 1234, r0 31 (.return_) 32]
def T_r_flaw : List Row := [r0 0 (.aload_n 0) 1, rX 1 (.getfield 99) 4 9 38 1238, rX 4 (.ifCond .ne 8) 7 12 0 0, r0 7 (.aload_n 0) 8, r0 8 (.iload_n 1) 9, rX 9 (.putfield 99) 12 9 38 1238, r0 12 (.aload_n 0) 13, r0 13 (.iconst 0) 14,
  rX 14 (.putfield 111) 17 9 35 1235, r0 17 (.return_) 18]
def T_r_isWord : List Row := [r0 0 (.lconst 0) 1, r0 1 (.lstore_n 2) 2, r0 2 (.iconst 0) 3, r0 3 (.istore 4) 5, rH 5 (.iload 4) 7 0 0 0 0, r0 7 (.aload_n 1) 8, rX 8 (.invokevirtual 134) 11 274 0 1415, rX 11 (.if_icmp .ge 22) 14 33 0 0,
  r0 14 (.lload_n 2) 15, rX 15 (.bipush 8) 17 8 0 0, r0 17 (.lshl) 18, r0 18 (.aload_n 1) 19, r0 19 (.iload 4) 21, rX 21 (.invokevirtual 140) 24 275 0 1416, r0 24 (.i2l) 25, r0 25 (.lor) 26,
  r0 26 (.lstore_n 2) 27, rX 27 (.iinc 4 1) 30 1 0 0, rX 30 (.goto (-25)) 33 5 0 0, r0 33 (.aload_n 0) 34, rX 34 (.getfield 111) 37 9 35 1235, rX 37 (.iconst 2) 38 2 0 0, rX 38 (.if_icmp .ne 16) 41 54 0 0, r0 41 (.aload_n 0) 42,
  rX 42 (.getfield 128) 45 9 39 1239, r0 45 (.lload_n 2) 46, r0 46 (.lcmp) 47, rX 47 (.ifCond .ne 7) 50 54 0 0, rX 50 (.iconst 1) 51 1 0 0, rX 51 (.goto 4) 54 55 0 0, r0 54 (.iconst 0) 55, r0 55 (.ireturn) 56]
def T_r_needs : List Row := [r0 0 (.aload_n 0) 1, r0 1 (.aload_n 1) 2, rX 2 (.invokevirtual 144) 5 163 0 1411, rX 5 (.ifCond .ne 8) 8 13 0 0, r0 8 (.aload_n 0) 9, rX 9 (.iconst 1) 10 1 0 0, rX 10 (.invokevirtual 148) 13 162 0 1421, r0 13 (.aload_n 0) 14,
  rX 14 (.invokevirtual 151) 17 158 0 1383, r0 17 (.return_) 18]
def T_r_wholeAt : List Row := [r0 0 (.aload_n 0) 1, rX 1 (.getfield 111) 4 9 35 1235, rX 4 (.iconst 3) 5 3 0 0, rX 5 (.if_icmp .eq 11) 8 16 0 0, r0 8 (.aload_n 0) 9, rX 9 (.iconst 1) 10 1 0 0, rX 10 (.invokevirtual 148) 13 162 0 1421, rX 13 (.goto 20) 16 33 0 0,
  r0 16 (.aload_n 0) 17, rX 17 (.getfield 131) 20 9 37 1237, r0 20 (.iload_n 1) 21, r0 21 (.iload_n 2) 22, rX 22 (.invokestatic 114) 25 151 1 1391, rX 25 (.ifCond .ne 8) 28 33 0 0, r0 28 (.aload_n 0) 29, rX 29 (.iconst 2) 30 2 0 0,
  rX 30 (.invokevirtual 148) 33 162 0 1421, r0 33 (.aload_n 0) 34, rX 34 (.getfield 99) 37 9 38 1238, rX 37 (.ifCond .le 7) 40 44 0 0, r0 40 (.iload_n 1) 41, rX 41 (.goto 7) 44 48 0 0, r0 44 (.aload_n 0) 45, rX 45 (.getfield 131) 48 9 37 1237,
  r0 48 (.ireturn) 49]
def T_r_readWhole : List Row := [r0 0 (.aload_n 0) 1, r0 1 (.iload_n 1) 2, r0 2 (.iload_n 2) 3, rX 3 (.invokevirtual 154) 6 165 0 1431, r0 6 (.istore_n 3) 7, r0 7 (.aload_n 0) 8, rX 8 (.invokevirtual 151) 11 158 0 1383, r0 11 (.iload_n 3) 12,
  r0 12 (.ireturn) 13]
def T_r_readNew : List Row := [r0 0 (.aload_n 0) 1, r0 1 (.iconst 0) 2, r0 2 (.aload_n 0) 3, rX 3 (.getfield 158) 6 9 13 1213, rX 6 (.iconst 1) 7 1 0 0, r0 7 (.isub) 8, rX 8 (.invokevirtual 154) 11 165 0 1431, r0 11 (.istore_n 2) 12,
  r0 12 (.aload_n 0) 13, rX 13 (.getfield 99) 16 9 38 1238, rX 16 (.ifCond .ne 16) 19 32 0 0, r0 19 (.iload_n 1) 20, r0 20 (.iload_n 2) 21, rX 21 (.invokestatic 161) 24 152 1 1459, rX 24 (.ifCond .eq 8) 27 32 0 0, r0 27 (.aload_n 0) 28,
  rX 28 (.iconst 3) 29 3 0 0, rX 29 (.invokevirtual 148) 32 162 0 1421, r0 32 (.aload_n 0) 33, rX 33 (.invokevirtual 151) 36 158 0 1383, r0 36 (.aload_n 0) 37, rX 37 (.getfield 99) 40 9 38 1238, rX 40 (.ifCond .le 7) 43 47 0 0, r0 43 (.iconst 0) 44,
  rX 44 (.goto 4) 47 48 0 0, r0 47 (.iload_n 2) 48, r0 48 (.ireturn) 49]
def T_r_readAll : List Row := [r0 0 (.aload_n 0) 1, r0 1 (.iconst 0) 2, rX 2 (.putfield 158) 5 9 13 1213, r0 5 (.aload_n 0) 6, r0 6 (.iconst 0) 7, rX 7 (.putfield 165) 10 9 17 1217, r0 10 (.aload_n 0) 11, r0 11 (.iconst 0) 12,
  rX 12 (.putfield 168) 15 9 18 1218, r0 15 (.aload_n 0) 16, r0 16 (.iconst 0) 17, rX 17 (.putfield 171) 20 9 19 1219, r0 20 (.aload_n 0) 21, r0 21 (.iconst 0) 22, rX 22 (.putfield 174) 25 9 20 1220, r0 25 (.aload_n 0) 26,
  r0 26 (.iconst 0) 27, rX 27 (.putfield 177) 30 9 21 1221, r0 30 (.aload_n 0) 31, r0 31 (.iconst 0) 32, rX 32 (.putfield 180) 35 9 22 1222, r0 35 (.aload_n 0) 36, r0 36 (.iconst 0) 37, rX 37 (.putfield 183) 40 9 23 1223,
  r0 40 (.iconst 0) 41, r0 41 (.istore_n 1) 42, rH 42 (.iload_n 1) 43 0 0 0 0, rX 43 (.bipush 63) 45 63 0 0, rX 45 (.if_icmp .ge 16) 48 61 0 0, r0 48 (.aload_n 0) 49, rX 49 (.getfield 32) 52 9 28 1228, r0 52 (.iload_n 1) 53,
  r0 53 (.iconst 0) 54, r0 54 (.iastore) 55, rX 55 (.iinc 1 1) 58 1 0 0, rX 58 (.goto (-16)) 61 42 0 0, r0 61 (.iconst 0) 62, r0 62 (.istore_n 1) 63, rH 63 (.iload_n 1) 64 0 0 0 0, rX 64 (.bipush 31) 66 31 0 0,
  rX 66 (.if_icmp .ge 16) 69 82 0 0, r0 69 (.aload_n 0) 70, rX 70 (.getfield 23) 73 9 24 1224, r0 73 (.iload_n 1) 74, r0 74 (.iconst 0) 75, r0 75 (.iastore) 76, rX 76 (.iinc 1 1) 79 1 0 0, rX 79 (.goto (-16)) 82 63 0 0,
  r0 82 (.aload_n 0) 83, rX 83 (.invokevirtual 151) 86 158 0 1383, r0 86 (.aload_n 0) 87, rX 87 (.invokevirtual 186) 90 169 0 1406, rH 90 (.aload_n 0) 91 0 0 0 0, rX 91 (.getfield 111) 94 9 35 1235, rX 94 (.iconst 4) 95 4 0 0, rX 95 (.if_icmp .ne 14) 98 109 0 0,
  r0 98 (.aload_n 0) 99, rX 99 (.invokevirtual 151) 102 158 0 1383, r0 102 (.aload_n 0) 103, rX 103 (.invokevirtual 186) 106 169 0 1406, rX 106 (.goto (-16)) 109 90 0 0, r0 109 (.aload_n 0) 110, rX 110 (.getfield 111) 113 9 35 1235, rX 113 (.iconst 1) 114 1 0 0,
  rX 114 (.if_icmp .eq 8) 117 122 0 0, r0 117 (.aload_n 0) 118, rX 118 (.iconst 1) 119 1 0 0, rX 119 (.invokevirtual 148) 122 162 0 1421, r0 122 (.aload_n 0) 123, rX 123 (.getfield 99) 126 9 38 1238, rX 126 (.ifCond .ne 15) 129 141 0 0, r0 129 (.aload_n 0) 130,
  rX 130 (.getfield 158) 133 9 13 1213, rX 133 (.ifCond .ne 8) 136 141 0 0, r0 136 (.aload_n 0) 137, rX 137 (.iconst 5) 138 5 0 0, rX 138 (.invokevirtual 148) 141 162 0 1421, r0 141 (.return_) 142]
def T_r_readLine : List Row := [r0 0 (.aload_n 0) 1, rV 1 (.ldc 189) 3 1 15 1410 1, rX 3 (.invokevirtual 144) 6 163 0 1411, rX 6 (.ifCond .eq 10) 9 16 0 0, r0 9 (.aload_n 0) 10, rX 10 (.invokevirtual 191) 13 171 0 1417, rX 13 (.goto 88) 16 101 0 0, r0 16 (.aload_n 0) 17,
  rV 17 (.ldc 194) 19 2 16 1446 1, rX 19 (.invokevirtual 144) 22 163 0 1411, rX 22 (.ifCond .eq 10) 25 32 0 0, r0 25 (.aload_n 0) 26, rX 26 (.invokevirtual 196) 29 173 0 1447, rX 29 (.goto 72) 32 101 0 0, r0 32 (.aload_n 0) 33, rV 33 (.ldc 199) 35 3 17 1462 1,
  rX 35 (.invokevirtual 144) 38 163 0 1411, rX 38 (.ifCond .eq 10) 41 48 0 0, r0 41 (.aload_n 0) 42, rX 42 (.invokevirtual 201) 45 174 0 1463, rX 45 (.goto 56) 48 101 0 0, r0 48 (.aload_n 0) 49, rV 49 (.ldc 204) 51 4 18 1469 1, rX 51 (.invokevirtual 144) 54 163 0 1411,
  rX 54 (.ifCond .eq 10) 57 64 0 0, r0 57 (.aload_n 0) 58, rX 58 (.invokevirtual 205) 61 175 0 1470, rX 61 (.goto 40) 64 101 0 0, r0 64 (.aload_n 0) 65, rV 65 (.ldc 208) 67 5 19 1476 1, rX 67 (.invokevirtual 144) 70 163 0 1411, rX 70 (.ifCond .eq 10) 73 80 0 0,
  r0 73 (.aload_n 0) 74, rX 74 (.invokevirtual 210) 77 176 0 1477, rX 77 (.goto 24) 80 101 0 0, r0 80 (.aload_n 0) 81, rV 81 (.ldc 213) 83 6 20 1481 1, rX 83 (.invokevirtual 144) 86 163 0 1411, rX 86 (.ifCond .eq 10) 89 96 0 0, r0 89 (.aload_n 0) 90,
  rX 90 (.invokevirtual 214) 93 177 0 1482, rX 93 (.goto 8) 96 101 0 0, r0 96 (.aload_n 0) 97, rX 97 (.iconst 1) 98 1 0 0, rX 98 (.invokevirtual 148) 101 162 0 1421, r0 101 (.return_) 102]
def T_r_begins : List Row := [r0 0 (.iload_n 1) 1, rX 1 (.ifCond .eq 8) 4 9 0 0, r0 4 (.aload_n 0) 5, rX 5 (.iconst 4) 6 4 0 0, rX 6 (.invokevirtual 148) 9 162 0 1421, r0 9 (.aload_n 0) 10, rX 10 (.getfield 158) 13 9 13 1213, rX 13 (.ifCond .ne 8) 16 21 0 0,
  r0 16 (.aload_n 0) 17, rX 17 (.iconst 5) 18 5 0 0, rX 18 (.invokevirtual 148) 21 162 0 1421, r0 21 (.aload_n 0) 22, rX 22 (.invokevirtual 151) 25 158 0 1383, r0 25 (.return_) 26]
def T_r_readBench : List Row := [r0 0 (.aload_n 0) 1, rX 1 (.getfield 158) 4 9 13 1213, rX 4 (.ifCond .le 8) 7 12 0 0, r0 7 (.aload_n 0) 8, rX 8 (.iconst 3) 9 3 0 0, rX 9 (.invokevirtual 148) 12 162 0 1421, r0 12 (.aload_n 0) 13, rX 13 (.invokevirtual 151) 16 158 0 1383,
  r0 16 (.aload_n 0) 17, rV 17 (.ldc 217) 19 7 21 1425 1, rX 19 (.invokevirtual 144) 22 163 0 1411, r0 22 (.istore_n 1) 23, r0 23 (.iload_n 1) 24, rX 24 (.ifCond .ne 17) 27 41 0 0, r0 27 (.aload_n 0) 28, rV 28 (.ldc 219) 30 8 22 1426 1,
  rX 30 (.invokevirtual 144) 33 163 0 1411, rX 33 (.ifCond .ne 8) 36 41 0 0, r0 36 (.aload_n 0) 37, rX 37 (.iconst 1) 38 1 0 0, rX 38 (.invokevirtual 148) 41 162 0 1421, r0 41 (.aload_n 0) 42, rX 42 (.invokevirtual 151) 45 158 0 1383, r0 45 (.iload_n 1) 46,
  rX 46 (.ifCond .eq 12) 49 58 0 0, r0 49 (.aload_n 0) 50, rX 50 (.iconst 2) 51 2 0 0, rX 51 (.iconst 5) 52 5 0 0, rX 52 (.invokevirtual 221) 55 166 0 1427, rX 55 (.goto 7) 58 62 0 0, r0 58 (.aload_n 0) 59, rX 59 (.invokevirtual 224) 62 172 0 1435,
  r0 62 (.istore_n 2) 63, r0 63 (.aload_n 0) 64, rV 64 (.ldc 227) 66 9 23 1439 1, rX 66 (.invokevirtual 229) 69 164 0 1440, r0 69 (.aload_n 0) 70, r0 70 (.iconst 0) 71, rX 71 (.sipush 999) 74 999 0 0, rX 74 (.invokevirtual 221) 77 166 0 1427,
  r0 77 (.istore_n 3) 78, r0 78 (.aload_n 0) 79, rV 79 (.ldc 233) 81 10 24 1444 1, rX 81 (.invokevirtual 229) 84 164 0 1440, r0 84 (.aload_n 0) 85, rX 85 (.iconst 1) 86 1 0 0, rX 86 (.ldc 235) 88 999999 0 1445, rX 88 (.invokevirtual 221) 91 166 0 1427,
  r0 91 (.istore 4) 93, r0 93 (.aload_n 0) 94, rX 94 (.getfield 99) 97 9 38 1238, rX 97 (.ifCond .le 4) 100 101 0 0, r0 100 (.return_) 101, r0 101 (.aload_n 0) 102, r0 102 (.iload_n 1) 103, rX 103 (.ifCond .eq 11) 106 114 0 0,
  rX 106 (.iconst 1) 107 1 0 0, r0 107 (.iload_n 2) 108, r0 108 (.ishl) 109, rX 109 (.iconst 1) 110 1 0 0, r0 110 (.isub) 111, rX 111 (.goto 4) 114 115 0 0, r0 114 (.iload_n 2) 115, rX 115 (.putfield 158) 118 9 13 1213,
  r0 118 (.aload_n 0) 119, r0 119 (.iload_n 1) 120, rX 120 (.ifCond .eq 7) 123 127 0 0, r0 123 (.iconst 0) 124, rX 124 (.goto 4) 127 128 0 0, rX 127 (.iconst 1) 128 1 0 0, rX 128 (.putfield 236) 131 9 14 1214, r0 131 (.aload_n 0) 132,
  r0 132 (.iload_n 3) 133, rX 133 (.putfield 239) 136 9 15 1215, r0 136 (.aload_n 0) 137, r0 137 (.iload 4) 139, rX 139 (.putfield 242) 142 9 16 1216, r0 142 (.return_) 143]
def T_r_readOrder : List Row := [r0 0 (.aload_n 0) 1, rX 1 (.iconst 3) 2 3 0 0, rX 2 (.bipush 31) 4 31 0 0, rX 4 (.invokevirtual 154) 7 165 0 1431, r0 7 (.istore_n 1) 8, r0 8 (.iload_n 1) 9, r0 9 (.lookupswitch 62 #[(3, 59), (7, 59), (11, 59), (19, 59), (23, 59), (31, 59)]) 68, rX 68 (.goto 15) 71 83 0 0,
  r0 71 (.aload_n 0) 72, rX 72 (.getfield 99) 75 9 38 1238, rX 75 (.ifCond .ne 8) 78 83 0 0, r0 78 (.aload_n 0) 79, rX 79 (.iconst 2) 80 2 0 0, rX 80 (.invokevirtual 148) 83 162 0 1421, r0 83 (.aload_n 0) 84, rX 84 (.invokevirtual 151) 87 158 0 1383,
  r0 87 (.iload_n 1) 88, r0 88 (.ireturn) 89]
def T_r_readLight : List Row := [r0 0 (.aload_n 0) 1, r0 1 (.iconst 0) 2, rX 2 (.invokevirtual 245) 5 170 0 1451, r0 5 (.aload_n 0) 6, r0 6 (.aload_n 0) 7, rX 7 (.getfield 177) 10 9 21 1221, rX 10 (.invokevirtual 249) 13 167 0 1455, r0 13 (.istore_n 1) 14,
  r0 14 (.aload_n 0) 15, r0 15 (.iconst 0) 16, rX 16 (.sipush 9999) 19 9999 0 0, rX 19 (.invokevirtual 221) 22 166 0 1427, r0 22 (.istore_n 2) 23, r0 23 (.aload_n 0) 24, rX 24 (.getfield 99) 27 9 38 1238, rX 27 (.ifCond .le 4) 30 31 0 0,
  r0 30 (.return_) 31, r0 31 (.aload_n 0) 32, r0 32 (.dup) 33, rX 33 (.getfield 177) 36 9 21 1221, rX 36 (.iconst 1) 37 1 0 0, r0 37 (.iload_n 1) 38, r0 38 (.ishl) 39, r0 39 (.ior) 40,
  rX 40 (.putfield 177) 43 9 21 1221, r0 43 (.aload_n 0) 44, rX 44 (.getfield 32) 47 9 28 1228, r0 47 (.iload_n 1) 48, r0 48 (.iload_n 2) 49, r0 49 (.iastore) 50, r0 50 (.return_) 51]
def T_r_readStuckOne : List Row := [r0 0 (.aload_n 0) 1, r0 1 (.aload_n 0) 2, rX 2 (.getfield 168) 5 9 18 1218, rX 5 (.iconst 3) 6 3 0 0, rX 6 (.if_icmp .ne 7) 9 13 0 0, rX 9 (.iconst 1) 10 1 0 0, rX 10 (.goto 4) 13 14 0 0, r0 13 (.iconst 0) 14,
  rX 14 (.invokevirtual 245) 17 170 0 1451, r0 17 (.aload_n 0) 18, r0 18 (.aload_n 0) 19, rX 19 (.getfield 180) 22 9 22 1222, rX 22 (.invokevirtual 249) 25 167 0 1455, r0 25 (.istore_n 1) 26, r0 26 (.aload_n 0) 27, rV 27 (.ldc 252) 29 11 25 1467 1,
  rX 29 (.invokevirtual 144) 32 163 0 1411, r0 32 (.istore_n 2) 33, r0 33 (.iload_n 2) 34, rX 34 (.ifCond .ne 17) 37 51 0 0, r0 37 (.aload_n 0) 38, rV 38 (.ldc 254) 40 12 26 1468 1, rX 40 (.invokevirtual 144) 43 163 0 1411, rX 43 (.ifCond .ne 8) 46 51 0 0,
  r0 46 (.aload_n 0) 47, rX 47 (.iconst 1) 48 1 0 0, rX 48 (.invokevirtual 148) 51 162 0 1421, r0 51 (.aload_n 0) 52, rX 52 (.invokevirtual 151) 55 158 0 1383, r0 55 (.aload_n 0) 56, rX 56 (.getfield 99) 59 9 38 1238, rX 59 (.ifCond .le 4) 62 63 0 0,
  r0 62 (.return_) 63, r0 63 (.aload_n 0) 64, r0 64 (.dup) 65, rX 65 (.getfield 180) 68 9 22 1222, rX 68 (.iconst 1) 69 1 0 0, r0 69 (.iload_n 1) 70, r0 70 (.ishl) 71, r0 71 (.ior) 72,
  rX 72 (.putfield 180) 75 9 22 1222, r0 75 (.aload_n 0) 76, rX 76 (.getfield 32) 79 9 28 1228, rX 79 (.bipush 31) 81 31 0 0, r0 81 (.iload_n 1) 82, r0 82 (.iadd) 83, r0 83 (.iload_n 2) 84, rX 84 (.ifCond .eq 7) 87 91 0 0,
  rX 87 (.iconst 1) 88 1 0 0, rX 88 (.goto 4) 91 92 0 0, rX 91 (.iconst 2) 92 2 0 0, r0 92 (.iastore) 93, r0 93 (.aload_n 0) 94, r0 94 (.dup) 95, rX 95 (.getfield 168) 98 9 18 1218, rX 98 (.iconst 1) 99 1 0 0,
  r0 99 (.iadd) 100, rX 100 (.putfield 168) 103 9 18 1218, r0 103 (.return_) 104]
def T_r_readNoiseOf : List Row := [r0 0 (.aload_n 0) 1, r0 1 (.aload_n 0) 2, rX 2 (.getfield 171) 5 9 19 1219, rX 5 (.bipush 8) 7 8 0 0, rX 7 (.if_icmp .ne 7) 10 14 0 0, rX 10 (.iconst 1) 11 1 0 0, rX 11 (.goto 4) 14 15 0 0, r0 14 (.iconst 0) 15,
  rX 15 (.invokevirtual 245) 18 170 0 1451, r0 18 (.aload_n 0) 19, r0 19 (.aload_n 0) 20, rX 20 (.getfield 183) 23 9 23 1223, rX 23 (.invokevirtual 249) 26 167 0 1455, r0 26 (.istore_n 1) 27, r0 27 (.aload_n 0) 28, rV 28 (.ldc_w 256) 31 13 27 1474 1,
  rX 31 (.invokevirtual 144) 34 163 0 1411, r0 34 (.istore_n 2) 35, r0 35 (.iload_n 2) 36, rX 36 (.ifCond .ne 18) 39 54 0 0, r0 39 (.aload_n 0) 40, rV 40 (.ldc_w 258) 43 14 28 1475 1, rX 43 (.invokevirtual 144) 46 163 0 1411, rX 46 (.ifCond .ne 8) 49 54 0 0,
  r0 49 (.aload_n 0) 50, rX 50 (.iconst 1) 51 1 0 0, rX 51 (.invokevirtual 148) 54 162 0 1421, r0 54 (.aload_n 0) 55, rX 55 (.invokevirtual 151) 58 158 0 1383, r0 58 (.aload_n 0) 59, rX 59 (.iconst 1) 60 1 0 0, rX 60 (.bipush 99) 62 99 0 0,
  rX 62 (.invokevirtual 221) 65 166 0 1427, r0 65 (.istore_n 3) 66, r0 66 (.aload_n 0) 67, rX 67 (.getfield 99) 70 9 38 1238, rX 70 (.ifCond .le 4) 73 74 0 0, r0 73 (.return_) 74, r0 74 (.aload_n 0) 75, r0 75 (.dup) 76,
  rX 76 (.getfield 183) 79 9 23 1223, rX 79 (.iconst 1) 80 1 0 0, r0 80 (.iload_n 1) 81, r0 81 (.ishl) 82, r0 82 (.ior) 83, rX 83 (.putfield 183) 86 9 23 1223, r0 86 (.aload_n 0) 87, rX 87 (.getfield 23) 90 9 24 1224,
  r0 90 (.iload_n 1) 91, r0 91 (.iload_n 2) 92, rX 92 (.ifCond .eq 7) 95 99 0 0, r0 95 (.iload_n 3) 96, rX 96 (.goto 5) 99 101 0 0, r0 99 (.iload_n 3) 100, r0 100 (.ineg) 101, r0 101 (.iastore) 102,
  r0 102 (.aload_n 0) 103, r0 103 (.dup) 104, rX 104 (.getfield 171) 107 9 19 1219, rX 107 (.iconst 1) 108 1 0 0, r0 108 (.iadd) 109, rX 109 (.putfield 171) 112 9 19 1219, r0 112 (.return_) 113]
def T_r_readLost : List Row := [r0 0 (.aload_n 0) 1, r0 1 (.aload_n 0) 2, rX 2 (.getfield 174) 5 9 20 1220, rX 5 (.iconst 3) 6 3 0 0, rX 6 (.if_icmp .ne 7) 9 13 0 0, rX 9 (.iconst 1) 10 1 0 0, rX 10 (.goto 4) 13 14 0 0, r0 13 (.iconst 0) 14,
  rX 14 (.invokevirtual 245) 17 170 0 1451, r0 17 (.aload_n 0) 18, r0 18 (.aload_n 0) 19, rX 19 (.getfield 32) 22 9 28 1228, rX 22 (.bipush 62) 24 62 0 0, r0 24 (.iaload) 25, rX 25 (.invokevirtual 249) 28 167 0 1455, r0 28 (.istore_n 1) 29,
  r0 29 (.aload_n 0) 30, rX 30 (.getfield 99) 33 9 38 1238, rX 33 (.ifCond .le 4) 36 37 0 0, r0 36 (.return_) 37, r0 37 (.aload_n 0) 38, rX 38 (.getfield 32) 41 9 28 1228, rX 41 (.bipush 62) 43 62 0 0, r0 43 (.dup2) 44,
  r0 44 (.iaload) 45, rX 45 (.iconst 1) 46 1 0 0, r0 46 (.iload_n 1) 47, r0 47 (.ishl) 48, r0 48 (.ior) 49, r0 49 (.iastore) 50, r0 50 (.aload_n 0) 51, r0 51 (.dup) 52,
  rX 52 (.getfield 174) 55 9 20 1220, rX 55 (.iconst 1) 56 1 0 0, r0 56 (.iadd) 57, rX 57 (.putfield 174) 60 9 20 1220, r0 60 (.return_) 61]
def T_r_readMaskOf : List Row := [r0 0 (.aload_n 0) 1, r0 1 (.aload_n 0) 2, rX 2 (.getfield 165) 5 9 17 1217, rX 5 (.bipush 12) 7 12 0 0, rX 7 (.if_icmp .ne 7) 10 14 0 0, rX 10 (.iconst 1) 11 1 0 0, rX 11 (.goto 4) 14 15 0 0, r0 14 (.iconst 0) 15,
  rX 15 (.invokevirtual 245) 18 170 0 1451, r0 18 (.iconst 0) 19, r0 19 (.istore_n 1) 20, rX 20 (.iconst 1) 21 1 0 0, r0 21 (.istore_n 2) 22, rH 22 (.iload_n 2) 23 0 0 0 0, rX 23 (.ifCond .eq 30) 26 53 0 0, r0 26 (.iload_n 1) 27,
  rX 27 (.iconst 1) 28 1 0 0, r0 28 (.aload_n 0) 29, r0 29 (.iload_n 1) 30, rX 30 (.invokevirtual 249) 33 167 0 1455, r0 33 (.ishl) 34, r0 34 (.ior) 35, r0 35 (.istore_n 1) 36, r0 36 (.aload_n 0) 37,
  rX 37 (.getfield 111) 40 9 35 1235, rX 40 (.iconst 3) 41 3 0 0, rX 41 (.if_icmp .ne 7) 44 48 0 0, rX 44 (.iconst 1) 45 1 0 0, rX 45 (.goto 4) 48 49 0 0, r0 48 (.iconst 0) 49, r0 49 (.istore_n 2) 50, rX 50 (.goto (-28)) 53 22 0 0,
  r0 53 (.aload_n 0) 54, rX 54 (.getfield 99) 57 9 38 1238, rX 57 (.ifCond .le 4) 60 61 0 0, r0 60 (.return_) 61, r0 61 (.aload_n 0) 62, rX 62 (.getfield 26) 65 9 25 1225, r0 65 (.aload_n 0) 66, rX 66 (.getfield 165) 69 9 17 1217,
  r0 69 (.iload_n 1) 70, r0 70 (.iastore) 71, r0 71 (.aload_n 0) 72, r0 72 (.dup) 73, rX 73 (.getfield 165) 76 9 17 1217, rX 76 (.iconst 1) 77 1 0 0, r0 77 (.iadd) 78, rX 78 (.putfield 165) 81 9 17 1217,
  r0 81 (.return_) 82]
def T_r_feed : List Row := [r0 0 (.aload_n 0) 1, r0 1 (.iconst 0) 2, rX 2 (.putfield 68) 5 9 0 1200, r0 5 (.aload_n 0) 6, rX 6 (.getfield 260) 9 9 32 1232, rX 9 (.bipush 20) 11 20 0 0, r0 11 (.iadd) 12, rX 12 (.sipush 800) 15 800 0 0,
  rX 15 (.if_icmp .le 5) 18 20 0 0, rX 18 (.iconst (-1)) 19 1 1 0, r0 19 (.ireturn) 20, r0 20 (.iconst 0) 21, r0 21 (.istore 6) 23, rH 23 (.iload 6) 25 0 0 0 0, rX 25 (.bipush 20) 27 20 0 0, rX 27 (.if_icmp .ge 90) 30 117 0 0,
  r0 30 (.iload 6) 32, rX 32 (.iconst 4) 33 4 0 0, rX 33 (.if_icmp .ge 7) 36 40 0 0, r0 36 (.iload_n 1) 37, rX 37 (.goto 39) 40 76 0 0, r0 40 (.iload 6) 42, rX 42 (.bipush 8) 44 8 0 0, rX 44 (.if_icmp .ge 7) 47 51 0 0,
  r0 47 (.iload_n 2) 48, rX 48 (.goto 28) 51 76 0 0, r0 51 (.iload 6) 53, rX 53 (.bipush 12) 55 12 0 0, rX 55 (.if_icmp .ge 7) 58 62 0 0, r0 58 (.iload_n 3) 59, rX 59 (.goto 17) 62 76 0 0, r0 62 (.iload 6) 64,
  rX 64 (.bipush 16) 66 16 0 0, rX 66 (.if_icmp .ge 8) 69 74 0 0, r0 69 (.iload 4) 71, rX 71 (.goto 5) 74 76 0 0, r0 74 (.iload 5) 76, r0 76 (.istore 7) 78, r0 78 (.aload_n 0) 79, rX 79 (.getfield 38) 82 9 31 1231,
  r0 82 (.aload_n 0) 83, rX 83 (.getfield 260) 86 9 32 1232, r0 86 (.iload 7) 88, rX 88 (.bipush 24) 90 24 0 0, rX 90 (.bipush 8) 92 8 0 0, r0 92 (.iload 6) 94, rX 94 (.iconst 4) 95 4 0 0, r0 95 (.irem) 96,
  r0 96 (.imul) 97, r0 97 (.isub) 98, r0 98 (.ishr) 99, r0 99 (.i2b) 100, r0 100 (.bastore) 101, r0 101 (.aload_n 0) 102, r0 102 (.dup) 103, rX 103 (.getfield 260) 106 9 32 1232,
  rX 106 (.iconst 1) 107 1 0 0, r0 107 (.iadd) 108, rX 108 (.putfield 260) 111 9 32 1232, rX 111 (.iinc 6 1) 114 1 0 0, rX 114 (.goto (-91)) 117 23 0 0, r0 117 (.aload_n 0) 118, rX 118 (.getfield 260) 121 9 32 1232, r0 121 (.ireturn) 122]
def T_r_bench : List Row := [r0 0 (.aload_n 0) 1, r0 1 (.iconst 0) 2, rX 2 (.putfield 68) 5 9 0 1200, r0 5 (.iload_n 1) 6, rX 6 (.ifCond .lt 11) 9 17 0 0, r0 9 (.iload_n 1) 10, r0 10 (.aload_n 0) 11, rX 11 (.getfield 260) 14 9 32 1232,
  rX 14 (.if_icmp .le 9) 17 23 0 0, r0 17 (.aload_n 0) 18, rX 18 (.iconst 2) 19 2 0 0, rX 19 (.invokevirtual 74) 22 148 0 1375, r0 22 (.ireturn) 23, r0 23 (.aload_n 0) 24, r0 24 (.iload_n 1) 25, rX 25 (.putfield 96) 28 9 33 1233,
  r0 28 (.aload_n 0) 29, r0 29 (.iconst 0) 30, rX 30 (.putfield 260) 33 9 32 1232, r0 33 (.aload_n 0) 34, r0 34 (.iconst 0) 35, rX 35 (.putfield 102) 38 9 34 1234, r0 38 (.aload_n 0) 39, r0 39 (.iconst 0) 40,
  rX 40 (.putfield 99) 43 9 38 1238, r0 43 (.aload_n 0) 44, rX 44 (.invokevirtual 263) 47 168 0 1379, r0 47 (.aload_n 0) 48, rX 48 (.getfield 99) 51 9 38 1238, rX 51 (.ifCond .le 18) 54 69 0 0, r0 54 (.aload_n 0) 55, rX 55 (.iconst 4) 56 4 0 0,
  rX 56 (.putfield 71) 59 9 1 1201, r0 59 (.aload_n 0) 60, r0 60 (.aload_n 0) 61, rX 61 (.getfield 108) 64 9 36 1236, rX 64 (.putfield 9) 67 9 2 1202, rX 67 (.iconst (-1)) 68 1 1 0, r0 68 (.ireturn) 69, r0 69 (.aload_n 0) 70,
  rX 70 (.invokevirtual 266) 73 180 0 1486, r0 73 (.aload_n 0) 74, r0 74 (.aload_n 0) 75, rX 75 (.getfield 269) 78 9 5 1205, rX 78 (.invokevirtual 93) 81 150 0 1505, r0 81 (.ireturn) 82]
def T_r_takesOver : List Row := [r0 0 (.aload_n 0) 1, rX 1 (.iconst 1) 2 1 0 0, rX 2 (.putfield 272) 5 9 26 1226, r0 5 (.aload_n 0) 6, r0 6 (.aload_n 0) 7, rX 7 (.getfield 158) 10 9 13 1213, rX 10 (.putfield 269) 13 9 5 1205, r0 13 (.aload_n 0) 14,
  r0 14 (.aload_n 0) 15, rX 15 (.getfield 236) 18 9 14 1214, rX 18 (.putfield 276) 21 9 6 1206, r0 21 (.aload_n 0) 22, r0 22 (.aload_n 0) 23, rX 23 (.getfield 239) 26 9 15 1215, rX 26 (.putfield 279) 29 9 7 1207, r0 29 (.aload_n 0) 30,
  r0 30 (.aload_n 0) 31, rX 31 (.getfield 242) 34 9 16 1216, rX 34 (.putfield 281) 37 9 8 1208, r0 37 (.aload_n 0) 38, r0 38 (.aload_n 0) 39, rX 39 (.getfield 165) 42 9 17 1217, rX 42 (.putfield 283) 45 9 9 1209, r0 45 (.iconst 0) 46,
  r0 46 (.istore_n 1) 47, rH 47 (.iload_n 1) 48 0 0 0 0, rX 48 (.bipush 63) 50 63 0 0, rX 50 (.if_icmp .ge 21) 53 71 0 0, r0 53 (.aload_n 0) 54, rX 54 (.getfield 29) 57 9 27 1227, r0 57 (.iload_n 1) 58, r0 58 (.aload_n 0) 59,
  rX 59 (.getfield 32) 62 9 28 1228, r0 62 (.iload_n 1) 63, r0 63 (.iaload) 64, r0 64 (.iastore) 65, rX 65 (.iinc 1 1) 68 1 0 0, rX 68 (.goto (-21)) 71 47 0 0, r0 71 (.iconst 0) 72, r0 72 (.istore_n 1) 73,
  rH 73 (.iload_n 1) 74 0 0 0 0, rX 74 (.bipush 31) 76 31 0 0, rX 76 (.if_icmp .ge 21) 79 97 0 0, r0 79 (.aload_n 0) 80, rX 80 (.getfield 17) 83 9 11 1211, r0 83 (.iload_n 1) 84, r0 84 (.aload_n 0) 85, rX 85 (.getfield 23) 88 9 24 1224,
  r0 88 (.iload_n 1) 89, r0 89 (.iaload) 90, r0 90 (.iastore) 91, rX 91 (.iinc 1 1) 94 1 0 0, rX 94 (.goto (-21)) 97 73 0 0, r0 97 (.iconst 0) 98, r0 98 (.istore_n 1) 99, rH 99 (.iload_n 1) 100 0 0 0 0,
  r0 100 (.aload_n 0) 101, rX 101 (.getfield 283) 104 9 9 1209, rX 104 (.if_icmp .ge 21) 107 125 0 0, r0 107 (.aload_n 0) 108, rX 108 (.getfield 20) 111 9 12 1212, r0 111 (.iload_n 1) 112, r0 112 (.aload_n 0) 113, rX 113 (.getfield 26) 116 9 25 1225,
  r0 116 (.iload_n 1) 117, r0 117 (.iaload) 118, r0 118 (.iastore) 119, rX 119 (.iinc 1 1) 122 1 0 0, rX 122 (.goto (-23)) 125 99 0 0, r0 125 (.aload_n 0) 126, rX 126 (.getfield 276) 129 9 6 1206, rX 129 (.ifCond .ne 10) 132 139 0 0,
  r0 132 (.aload_n 0) 133, rX 133 (.invokevirtual 286) 136 181 0 1490, rX 136 (.goto 7) 139 143 0 0, r0 139 (.aload_n 0) 140, rX 140 (.invokevirtual 289) 143 182 0 1497, r0 143 (.aload_n 0) 144, r0 144 (.iconst 0) 145, rX 145 (.putfield 292) 148 9 44 1244,
  r0 148 (.aload_n 0) 149, r0 149 (.iconst 0) 150, rX 150 (.putfield 295) 153 9 45 1245, r0 153 (.aload_n 0) 154, r0 154 (.iconst 0) 155, rX 155 (.putfield 298) 158 9 30 1230, r0 158 (.aload_n 0) 159, rX 159 (.invokevirtual 301) 162 198 0 1501,
  r0 162 (.return_) 163]
def T_r_laysDoubled : List Row := [r0 0 (.iconst 0) 1, r0 1 (.istore_n 1) 2, rH 2 (.iconst 1) 3 1 0 0 0, r0 3 (.iload_n 1) 4, r0 4 (.ishl) 5, r0 5 (.aload_n 0) 6, rX 6 (.getfield 269) 9 9 5 1205, rX 9 (.if_icmp .gt 9) 12 18 0 0,
  rX 12 (.iinc 1 1) 15 1 0 0, rX 15 (.goto (-13)) 18 2 0 0, r0 18 (.iconst 0) 19, r0 19 (.istore_n 2) 20, rH 20 (.iload_n 2) 21 0 0 0 0, r0 21 (.aload_n 0) 22, rX 22 (.getfield 269) 25 9 5 1205, rX 25 (.if_icmp .ge 57) 28 82 0 0,
  r0 28 (.aload_n 0) 29, rX 29 (.getfield 13) 32 9 10 1210, r0 32 (.iload_n 2) 33, r0 33 (.iconst 0) 34, r0 34 (.iastore) 35, r0 35 (.iconst 0) 36, r0 36 (.istore_n 3) 37, rH 37 (.iload_n 3) 38 0 0 0 0,
  r0 38 (.aload_n 0) 39, rX 39 (.getfield 269) 42 9 5 1205, rX 42 (.if_icmp .ge 34) 45 76 0 0, r0 45 (.iload_n 1) 46, r0 46 (.iload_n 2) 47, rX 47 (.iconst 1) 48 1 0 0, r0 48 (.iadd) 49, r0 49 (.iload_n 3) 50,
  rX 50 (.iconst 1) 51 1 0 0, r0 51 (.iadd) 52, rX 52 (.invokestatic 304) 55 263 1 1494, rX 55 (.ifCond .ge 15) 58 70 0 0, r0 58 (.aload_n 0) 59, rX 59 (.getfield 13) 62 9 10 1210, r0 62 (.iload_n 2) 63, r0 63 (.dup2) 64,
  r0 64 (.iaload) 65, rX 65 (.iconst 1) 66 1 0 0, r0 66 (.iload_n 3) 67, r0 67 (.ishl) 68, r0 68 (.ior) 69, r0 69 (.iastore) 70, rX 70 (.iinc 3 1) 73 1 0 0, rX 73 (.goto (-36)) 76 37 0 0,
  rX 76 (.iinc 2 1) 79 1 0 0, rX 79 (.goto (-59)) 82 20 0 0, r0 82 (.return_) 83]
def T_r_laysSquares : List Row := [rX 0 (.iconst 1) 1 1 0 0, r0 1 (.istore_n 1) 2, rX 2 (.iconst 1) 3 1 0 0, r0 3 (.istore_n 2) 4, rH 4 (.iload_n 2) 5 0 0 0 0, r0 5 (.aload_n 0) 6, rX 6 (.getfield 269) 9 9 5 1205, rX 9 (.if_icmp .ge 22) 12 31 0 0,
  r0 12 (.iload_n 1) 13, rX 13 (.iconst 1) 14 1 0 0, r0 14 (.iload_n 2) 15, r0 15 (.iload_n 2) 16, r0 16 (.imul) 17, r0 17 (.aload_n 0) 18, rX 18 (.getfield 269) 21 9 5 1205, r0 21 (.irem) 22,
  r0 22 (.ishl) 23, r0 23 (.ior) 24, r0 24 (.istore_n 1) 25, rX 25 (.iinc 2 1) 28 1 0 0, rX 28 (.goto (-24)) 31 4 0 0, r0 31 (.iconst 0) 32, r0 32 (.istore_n 2) 33, rH 33 (.iload_n 2) 34 0 0 0 0,
  r0 34 (.aload_n 0) 35, rX 35 (.getfield 269) 38 9 5 1205, rX 38 (.if_icmp .ge 33) 41 71 0 0, r0 41 (.aload_n 0) 42, rX 42 (.getfield 13) 45 9 10 1210, r0 45 (.iload_n 2) 46, r0 46 (.iload_n 1) 47, r0 47 (.iastore) 48,
  r0 48 (.iload_n 1) 49, rX 49 (.iconst 1) 50 1 0 0, r0 50 (.iand) 51, r0 51 (.istore_n 3) 52, r0 52 (.iload_n 1) 53, rX 53 (.iconst 1) 54 1 0 0, r0 54 (.ishr) 55, r0 55 (.iload_n 3) 56,
  r0 56 (.aload_n 0) 57, rX 57 (.getfield 269) 60 9 5 1205, rX 60 (.iconst 1) 61 1 0 0, r0 61 (.isub) 62, r0 62 (.ishl) 63, r0 63 (.ior) 64, r0 64 (.istore_n 1) 65, rX 65 (.iinc 2 1) 68 1 0 0,
  rX 68 (.goto (-35)) 71 33 0 0, r0 71 (.return_) 72]
def T_r_fault : List Row := [r0 0 (.aload_n 0) 1, r0 1 (.iconst 0) 2, rX 2 (.putfield 68) 5 9 0 1200, r0 5 (.aload_n 0) 6, rX 6 (.getfield 99) 9 9 38 1238, r0 9 (.ireturn) 10]
def T_r_where : List Row := [r0 0 (.aload_n 0) 1, r0 1 (.iconst 0) 2, rX 2 (.putfield 68) 5 9 0 1200, r0 5 (.aload_n 0) 6, rX 6 (.getfield 9) 9 9 2 1202, r0 9 (.ireturn) 10]
def T_r_monitor : List Row := [r0 0 (.iconst 0) 1, r0 1 (.istore_n 1) 2, r0 2 (.iconst 0) 3, r0 3 (.istore_n 2) 4, rH 4 (.iload_n 2) 5 0 0 0 0, r0 5 (.aload_n 0) 6, rX 6 (.getfield 269) 9 9 5 1205, rX 9 (.if_icmp .ge 18) 12 27 0 0,
  r0 12 (.iload_n 1) 13, r0 13 (.aload_n 0) 14, rX 14 (.getfield 29) 17 9 27 1227, r0 17 (.iload_n 2) 18, r0 18 (.iaload) 19, r0 19 (.iadd) 20, r0 20 (.istore_n 1) 21, rX 21 (.iinc 2 1) 24 1 0 0,
  rX 24 (.goto (-20)) 27 4 0 0, r0 27 (.iload_n 1) 28, r0 28 (.ireturn) 29]
def T_r_about : List Row := [r0 0 (.aload_n 0) 1, r0 1 (.iconst 0) 2, rX 2 (.putfield 68) 5 9 0 1200, r0 5 (.aload_n 0) 6, rX 6 (.getfield 272) 9 9 26 1226, rX 9 (.ifCond .ne 9) 12 18 0 0, r0 12 (.aload_n 0) 13, rX 13 (.iconst 1) 14 1 0 0,
  rX 14 (.invokevirtual 74) 17 148 0 1375, r0 17 (.ireturn) 18, r0 18 (.iload_n 1) 19, r0 19 (.tableswitch 132 0 8 #[49, 58, 67, 76, 85, 94, 108, 117, 123]) 68, r0 68 (.aload_n 0) 69, r0 69 (.aload_n 0) 70, rX 70 (.getfield 269) 73 9 5 1205, rX 73 (.invokevirtual 93) 76 150 0 1505,
  r0 76 (.ireturn) 77, r0 77 (.aload_n 0) 78, r0 78 (.aload_n 0) 79, rX 79 (.getfield 276) 82 9 6 1206, rX 82 (.invokevirtual 93) 85 150 0 1505, r0 85 (.ireturn) 86, r0 86 (.aload_n 0) 87, r0 87 (.aload_n 0) 88,
  rX 88 (.getfield 279) 91 9 7 1207, rX 91 (.invokevirtual 93) 94 150 0 1505, r0 94 (.ireturn) 95, r0 95 (.aload_n 0) 96, r0 96 (.aload_n 0) 97, rX 97 (.getfield 281) 100 9 8 1208, rX 100 (.invokevirtual 93) 103 150 0 1505, r0 103 (.ireturn) 104,
  r0 104 (.aload_n 0) 105, r0 105 (.aload_n 0) 106, rX 106 (.invokevirtual 308) 109 185 0 1521, rX 109 (.invokevirtual 93) 112 150 0 1505, r0 112 (.ireturn) 113, r0 113 (.aload_n 0) 114, r0 114 (.aload_n 0) 115, rX 115 (.getfield 13) 118 9 10 1210,
  r0 118 (.iconst 0) 119, r0 119 (.iaload) 120, rX 120 (.invokestatic 311) 123 153 1 1525, rX 123 (.invokevirtual 93) 126 150 0 1505, r0 126 (.ireturn) 127, r0 127 (.aload_n 0) 128, r0 128 (.aload_n 0) 129, rX 129 (.getfield 292) 132 9 44 1244,
  rX 132 (.invokevirtual 93) 135 150 0 1505, r0 135 (.ireturn) 136, r0 136 (.aload_n 0) 137, r0 137 (.iconst 0) 138, rX 138 (.invokevirtual 93) 141 150 0 1505, r0 141 (.ireturn) 142, r0 142 (.aload_n 0) 143, r0 143 (.aload_n 0) 144,
  rX 144 (.getfield 295) 147 9 45 1245, rX 147 (.invokevirtual 93) 150 150 0 1505, r0 150 (.ireturn) 151, r0 151 (.aload_n 0) 152, rX 152 (.iconst 1) 153 1 0 0, rX 153 (.invokevirtual 74) 156 148 0 1375, r0 156 (.ireturn) 157]
def T_r_isOne : List Row := [r0 0 (.aload_n 0) 1, rX 1 (.getfield 272) 4 9 26 1226, rX 4 (.ifCond .eq 19) 7 23 0 0, r0 7 (.iload_n 1) 8, rX 8 (.ifCond .lt 15) 11 23 0 0, r0 11 (.iload_n 1) 12, r0 12 (.aload_n 0) 13, rX 13 (.getfield 269) 16 9 5 1205,
  rX 16 (.if_icmp .ge 7) 19 23 0 0, rX 19 (.iconst 1) 20 1 0 0, rX 20 (.goto 4) 23 24 0 0, r0 23 (.iconst 0) 24, r0 24 (.ireturn) 25]
def T_r_isSet : List Row := [r0 0 (.iload_n 1) 1, rX 1 (.ifCond .lt 26) 4 27 0 0, r0 4 (.aload_n 0) 5, rX 5 (.getfield 269) 8 9 5 1205, rX 8 (.bipush 31) 10 31 0 0, rX 10 (.if_icmp .eq 13) 13 23 0 0, r0 13 (.iload_n 1) 14, rX 14 (.iconst 1) 15 1 0 0,
  r0 15 (.aload_n 0) 16, rX 16 (.getfield 269) 19 9 5 1205, r0 19 (.ishl) 20, rX 20 (.if_icmp .ge 7) 23 27 0 0, rX 23 (.iconst 1) 24 1 0 0, rX 24 (.goto 4) 27 28 0 0, r0 27 (.iconst 0) 28, r0 28 (.ireturn) 29]
def T_r_plate : List Row := [r0 0 (.aload_n 0) 1, r0 1 (.iconst 0) 2, rX 2 (.putfield 68) 5 9 0 1200, r0 5 (.aload_n 0) 6, r0 6 (.iload_n 1) 7, rX 7 (.invokevirtual 314) 10 187 0 1532, rX 10 (.ifCond .eq 16) 13 26 0 0, r0 13 (.aload_n 0) 14,
  r0 14 (.aload_n 0) 15, rX 15 (.getfield 13) 18 9 10 1210, r0 18 (.iload_n 1) 19, r0 19 (.iaload) 20, rX 20 (.invokevirtual 93) 23 150 0 1505, rX 23 (.goto 8) 26 31 0 0, r0 26 (.aload_n 0) 27, rX 27 (.iconst 1) 28 1 0 0,
  rX 28 (.invokevirtual 74) 31 148 0 1375, r0 31 (.ireturn) 32]
def T_r_common : List Row := [r0 0 (.aload_n 0) 1, r0 1 (.iconst 0) 2, rX 2 (.putfield 68) 5 9 0 1200, r0 5 (.aload_n 0) 6, r0 6 (.iload_n 1) 7, rX 7 (.invokevirtual 314) 10 187 0 1532, rX 10 (.ifCond .eq 34) 13 44 0 0, r0 13 (.aload_n 0) 14,
  r0 14 (.iload_n 2) 15, rX 15 (.invokevirtual 314) 18 187 0 1532, rX 18 (.ifCond .eq 26) 21 44 0 0, r0 21 (.aload_n 0) 22, r0 22 (.aload_n 0) 23, rX 23 (.getfield 13) 26 9 10 1210, r0 26 (.iload_n 1) 27, r0 27 (.iaload) 28,
  r0 28 (.aload_n 0) 29, rX 29 (.getfield 13) 32 9 10 1210, r0 32 (.iload_n 2) 33, r0 33 (.iaload) 34, r0 34 (.iand) 35, rX 35 (.invokestatic 311) 38 153 1 1525, rX 38 (.invokevirtual 93) 41 150 0 1505, rX 41 (.goto 8) 44 49 0 0,
  r0 44 (.aload_n 0) 45, rX 45 (.iconst 1) 46 1 0 0, rX 46 (.invokevirtual 74) 49 148 0 1375, r0 49 (.ireturn) 50]
def T_r_which : List Row := [r0 0 (.aload_n 0) 1, r0 1 (.iconst 0) 2, rX 2 (.putfield 68) 5 9 0 1200, r0 5 (.aload_n 0) 6, rX 6 (.getfield 272) 9 9 26 1226, rX 9 (.ifCond .ne 9) 12 18 0 0, r0 12 (.aload_n 0) 13, rX 13 (.iconst 1) 14 1 0 0,
  rX 14 (.invokevirtual 74) 17 148 0 1375, r0 17 (.ireturn) 18, r0 18 (.aload_n 0) 19, r0 19 (.iload_n 1) 20, rX 20 (.invokevirtual 318) 23 188 0 1544, rX 23 (.ifCond .ne 9) 26 32 0 0, r0 26 (.aload_n 0) 27, rX 27 (.iconst 2) 28 2 0 0,
  rX 28 (.invokevirtual 74) 31 148 0 1375, r0 31 (.ireturn) 32, r0 32 (.iconst 0) 33, r0 33 (.istore_n 2) 34, rH 34 (.iload_n 2) 35 0 0 0 0, r0 35 (.aload_n 0) 36, rX 36 (.getfield 269) 39 9 5 1205, rX 39 (.if_icmp .ge 25) 42 64 0 0,
  r0 42 (.aload_n 0) 43, rX 43 (.getfield 13) 46 9 10 1210, r0 46 (.iload_n 2) 47, r0 47 (.iaload) 48, r0 48 (.iload_n 1) 49, rX 49 (.if_icmp .ne 9) 52 58 0 0, r0 52 (.aload_n 0) 53, r0 53 (.iload_n 2) 54,
  rX 54 (.invokevirtual 93) 57 150 0 1505, r0 57 (.ireturn) 58, rX 58 (.iinc 2 1) 61 1 0 0, rX 61 (.goto (-27)) 64 34 0 0, r0 64 (.aload_n 0) 65, rX 65 (.bipush (-2)) 67 2 1 0, rX 67 (.invokevirtual 93) 70 150 0 1505, r0 70 (.ireturn) 71]
def T_r_apart : List Row := [r0 0 (.aload_n 0) 1, r0 1 (.iconst 0) 2, rX 2 (.putfield 68) 5 9 0 1200, r0 5 (.aload_n 0) 6, r0 6 (.iload_n 1) 7, rX 7 (.invokevirtual 314) 10 187 0 1532, rX 10 (.ifCond .ne 9) 13 19 0 0, r0 13 (.aload_n 0) 14,
  rX 14 (.iconst 1) 15 1 0 0, rX 15 (.invokevirtual 74) 18 148 0 1375, r0 18 (.ireturn) 19, r0 19 (.aload_n 0) 20, rX 20 (.getfield 269) 23 9 5 1205, rX 23 (.iconst 1) 24 1 0 0, r0 24 (.iadd) 25, r0 25 (.istore_n 2) 26,
  r0 26 (.iconst 0) 27, r0 27 (.istore_n 3) 28, rH 28 (.iload_n 3) 29 0 0 0 0, r0 29 (.aload_n 0) 30, rX 30 (.getfield 269) 33 9 5 1205, rX 33 (.if_icmp .ge 41) 36 74 0 0, r0 36 (.aload_n 0) 37, rX 37 (.getfield 13) 40 9 10 1210,
  r0 40 (.iload_n 1) 41, r0 41 (.iaload) 42, r0 42 (.aload_n 0) 43, rX 43 (.getfield 13) 46 9 10 1210, r0 46 (.iload_n 3) 47, r0 47 (.iaload) 48, r0 48 (.ixor) 49, rX 49 (.invokestatic 311) 52 153 1 1525,
  r0 52 (.istore 4) 54, r0 54 (.iload_n 3) 55, r0 55 (.iload_n 1) 56, rX 56 (.if_icmp .eq 12) 59 68 0 0, r0 59 (.iload 4) 61, r0 61 (.iload_n 2) 62, rX 62 (.if_icmp .ge 6) 65 68 0 0, r0 65 (.iload 4) 67,
  r0 67 (.istore_n 2) 68, rX 68 (.iinc 3 1) 71 1 0 0, rX 71 (.goto (-43)) 74 28 0 0, r0 74 (.aload_n 0) 75, r0 75 (.iload_n 2) 76, rX 76 (.invokevirtual 93) 79 150 0 1505, r0 79 (.ireturn) 80]
def T_r_odd : List Row := [r0 0 (.aload_n 0) 1, r0 1 (.iconst 0) 2, rX 2 (.putfield 68) 5 9 0 1200, r0 5 (.aload_n 0) 6, rX 6 (.getfield 272) 9 9 26 1226, rX 9 (.ifCond .ne 9) 12 18 0 0, r0 12 (.aload_n 0) 13, rX 13 (.iconst 1) 14 1 0 0,
  rX 14 (.invokevirtual 74) 17 148 0 1375, r0 17 (.ireturn) 18, r0 18 (.aload_n 0) 19, r0 19 (.iload_n 1) 20, rX 20 (.invokevirtual 318) 23 188 0 1544, rX 23 (.ifCond .ne 9) 26 32 0 0, r0 26 (.aload_n 0) 27, rX 27 (.iconst 2) 28 2 0 0,
  rX 28 (.invokevirtual 74) 31 148 0 1375, r0 31 (.ireturn) 32, r0 32 (.iconst 0) 33, r0 33 (.istore_n 2) 34, r0 34 (.iconst 0) 35, r0 35 (.istore_n 3) 36, rH 36 (.iload_n 3) 37 0 0 0 0, r0 37 (.aload_n 0) 38,
  rX 38 (.getfield 269) 41 9 5 1205, rX 41 (.if_icmp .ge 26) 44 67 0 0, r0 44 (.iload_n 1) 45, r0 45 (.iload_n 3) 46, rX 46 (.invokestatic 161) 49 152 1 1459, rX 49 (.ifCond .eq 12) 52 61 0 0, r0 52 (.iload_n 2) 53, r0 53 (.aload_n 0) 54,
  rX 54 (.getfield 13) 57 9 10 1210, r0 57 (.iload_n 3) 58, r0 58 (.iaload) 59, r0 59 (.ixor) 60, r0 60 (.istore_n 2) 61, rX 61 (.iinc 3 1) 64 1 0 0, rX 64 (.goto (-28)) 67 36 0 0, r0 67 (.aload_n 0) 68,
  r0 68 (.iload_n 2) 69, rX 69 (.invokevirtual 93) 72 150 0 1505, r0 72 (.ireturn) 73]
def T_r_light : List Row := [r0 0 (.aload_n 0) 1, r0 1 (.iconst 0) 2, rX 2 (.putfield 68) 5 9 0 1200, r0 5 (.aload_n 0) 6, r0 6 (.iload_n 1) 7, rX 7 (.invokevirtual 314) 10 187 0 1532, rX 10 (.ifCond .eq 16) 13 26 0 0, r0 13 (.aload_n 0) 14,
  r0 14 (.aload_n 0) 15, rX 15 (.getfield 29) 18 9 27 1227, r0 18 (.iload_n 1) 19, r0 19 (.iaload) 20, rX 20 (.invokevirtual 93) 23 150 0 1505, rX 23 (.goto 8) 26 31 0 0, r0 26 (.aload_n 0) 27, rX 27 (.iconst 1) 28 1 0 0,
  rX 28 (.invokevirtual 74) 31 148 0 1375, r0 31 (.ireturn) 32]
def T_r_shutter : List Row := [r0 0 (.aload_n 0) 1, r0 1 (.iconst 0) 2, rX 2 (.putfield 68) 5 9 0 1200, r0 5 (.aload_n 0) 6, r0 6 (.iload_n 1) 7, rX 7 (.invokevirtual 314) 10 187 0 1532, rX 10 (.ifCond .eq 19) 13 29 0 0, r0 13 (.aload_n 0) 14,
  r0 14 (.aload_n 0) 15, rX 15 (.getfield 29) 18 9 27 1227, rX 18 (.bipush 31) 20 31 0 0, r0 20 (.iload_n 1) 21, r0 21 (.iadd) 22, r0 22 (.iaload) 23, rX 23 (.invokevirtual 93) 26 150 0 1505, rX 26 (.goto 8) 29 34 0 0,
  r0 29 (.aload_n 0) 30, rX 30 (.iconst 1) 31 1 0 0, rX 31 (.invokevirtual 74) 34 148 0 1375, r0 34 (.ireturn) 35]
def T_r_noise : List Row := [r0 0 (.aload_n 0) 1, r0 1 (.iconst 0) 2, rX 2 (.putfield 68) 5 9 0 1200, r0 5 (.aload_n 0) 6, r0 6 (.iload_n 1) 7, rX 7 (.invokevirtual 314) 10 187 0 1532, rX 10 (.ifCond .eq 14) 13 24 0 0, r0 13 (.aload_n 0) 14,
  r0 14 (.aload_n 0) 15, rX 15 (.getfield 17) 18 9 11 1211, r0 18 (.iload_n 1) 19, r0 19 (.iaload) 20, rX 20 (.invokevirtual 93) 23 150 0 1505, r0 23 (.ireturn) 24, r0 24 (.aload_n 0) 25, rX 25 (.iconst 1) 26 1 0 0,
  rX 26 (.invokevirtual 74) 29 148 0 1375, r0 29 (.pop) 30, rX 30 (.ldc_w 323) 33 2147483648 1 1568, r0 33 (.ireturn) 34]
def T_r_lost : List Row := [r0 0 (.aload_n 0) 1, r0 1 (.iconst 0) 2, rX 2 (.putfield 68) 5 9 0 1200, r0 5 (.aload_n 0) 6, r0 6 (.iload_n 1) 7, rX 7 (.invokevirtual 314) 10 187 0 1532, rX 10 (.ifCond .eq 29) 13 39 0 0, r0 13 (.aload_n 0) 14,
  r0 14 (.aload_n 0) 15, rX 15 (.getfield 29) 18 9 27 1227, rX 18 (.bipush 62) 20 62 0 0, r0 20 (.iaload) 21, r0 21 (.iload_n 1) 22, rX 22 (.invokestatic 161) 25 152 1 1459, rX 25 (.ifCond .eq 7) 28 32 0 0, rX 28 (.iconst 1) 29 1 0 0,
  rX 29 (.goto 4) 32 33 0 0, r0 32 (.iconst 0) 33, rX 33 (.invokevirtual 93) 36 150 0 1505, rX 36 (.goto 8) 39 44 0 0, r0 39 (.aload_n 0) 40, rX 40 (.iconst 1) 41 1 0 0, rX 41 (.invokevirtual 74) 44 148 0 1375, r0 44 (.ireturn) 45]
def T_r_ends : List Row := [r0 0 (.aload_n 0) 1, r0 1 (.iconst 0) 2, rX 2 (.putfield 324) 5 9 43 1243, r0 5 (.aload_n 0) 6, r0 6 (.iconst 0) 7, rX 7 (.putfield 327) 10 9 46 1246, r0 10 (.return_) 11]
def T_r_through : List Row := [r0 0 (.iconst 0) 1, r0 1 (.istore_n 2) 2, r0 2 (.iconst 0) 3, r0 3 (.istore_n 3) 4, rH 4 (.iload_n 3) 5 0 0 0 0, r0 5 (.aload_n 0) 6, rX 6 (.getfield 269) 9 9 5 1205, rX 9 (.if_icmp .ge 49) 12 58 0 0,
  r0 12 (.aload_n 0) 13, rX 13 (.getfield 29) 16 9 27 1227, rX 16 (.bipush 31) 18 31 0 0, r0 18 (.iload_n 3) 19, r0 19 (.iadd) 20, r0 20 (.iaload) 21, r0 21 (.istore 4) 23, r0 23 (.iload 4) 25,
  rX 25 (.iconst 1) 26 1 0 0, rX 26 (.if_icmp .eq 17) 29 43 0 0, r0 29 (.iload_n 1) 30, r0 30 (.iload_n 3) 31, rX 31 (.invokestatic 161) 34 152 1 1459, rX 34 (.ifCond .eq 18) 37 52 0 0, r0 37 (.iload 4) 39, rX 39 (.iconst 2) 40 2 0 0,
  rX 40 (.if_icmp .eq 12) 43 52 0 0, r0 43 (.iload_n 2) 44, r0 44 (.aload_n 0) 45, rX 45 (.getfield 29) 48 9 27 1227, r0 48 (.iload_n 3) 49, r0 49 (.iaload) 50, r0 50 (.iadd) 51, r0 51 (.istore_n 2) 52,
  rX 52 (.iinc 3 1) 55 1 0 0, rX 55 (.goto (-51)) 58 4 0 0, r0 58 (.iload_n 2) 59, r0 59 (.ireturn) 60]
def T_r_looks : List Row := [r0 0 (.aload_n 0) 1, r0 1 (.dup) 2, rX 2 (.getfield 292) 5 9 44 1244, rX 5 (.iconst 1) 6 1 0 0, r0 6 (.iadd) 7, rX 7 (.putfield 292) 10 9 44 1244, r0 10 (.aload_n 0) 11, rX 11 (.getfield 279) 14 9 7 1207,
  r0 14 (.aload_n 0) 15, r0 15 (.iload_n 1) 16, rX 16 (.invokevirtual 330) 19 199 0 1581, r0 19 (.iadd) 20, r0 20 (.istore_n 2) 21, r0 21 (.iload_n 2) 22, r0 22 (.aload_n 0) 23, rX 23 (.getfield 281) 26 9 8 1208,
  rX 26 (.if_icmp .gt 5) 29 31 0 0, r0 29 (.iload_n 2) 30, r0 30 (.ireturn) 31, r0 31 (.aload_n 0) 32, r0 32 (.dup) 33, rX 33 (.getfield 295) 36 9 45 1245, rX 36 (.iconst 1) 37 1 0 0, r0 37 (.iadd) 38,
  rX 38 (.putfield 295) 41 9 45 1245, rX 41 (.iconst (-1)) 42 1 1 0, r0 42 (.ireturn) 43]
def T_r_look : List Row := [r0 0 (.aload_n 0) 1, r0 1 (.iconst 0) 2, rX 2 (.putfield 68) 5 9 0 1200, r0 5 (.aload_n 0) 6, rX 6 (.getfield 272) 9 9 26 1226, rX 9 (.ifCond .ne 9) 12 18 0 0, r0 12 (.aload_n 0) 13, rX 13 (.iconst 1) 14 1 0 0,
  rX 14 (.invokevirtual 74) 17 148 0 1375, r0 17 (.ireturn) 18, r0 18 (.aload_n 0) 19, r0 19 (.iload_n 1) 20, rX 20 (.invokevirtual 318) 23 188 0 1544, rX 23 (.ifCond .ne 9) 26 32 0 0, r0 26 (.aload_n 0) 27, rX 27 (.iconst 2) 28 2 0 0,
  rX 28 (.invokevirtual 74) 31 148 0 1375, r0 31 (.ireturn) 32, r0 32 (.aload_n 0) 33, r0 33 (.iload_n 1) 34, rX 34 (.invokevirtual 333) 37 200 0 1577, r0 37 (.istore_n 2) 38, r0 38 (.iload_n 2) 39, rX 39 (.iconst (-1)) 40 1 1 0,
  rX 40 (.if_icmp .ne 9) 43 49 0 0, r0 43 (.aload_n 0) 44, rX 44 (.iconst 5) 45 5 0 0, rX 45 (.invokevirtual 74) 48 148 0 1375, r0 48 (.ireturn) 49, r0 49 (.aload_n 0) 50, rX 50 (.getfield 324) 53 9 43 1243, rX 53 (.bipush 20) 55 20 0 0,
  rX 55 (.if_icmp .ne 55) 58 110 0 0, rX 58 (.iconst 1) 59 1 0 0, r0 59 (.istore_n 3) 60, rH 60 (.iload_n 3) 61 0 0 0 0, rX 61 (.bipush 20) 63 20 0 0, rX 63 (.if_icmp .ge 37) 66 100 0 0, r0 66 (.aload_n 0) 67, rX 67 (.getfield 42) 70 9 40 1240,
  r0 70 (.iload_n 3) 71, rX 71 (.iconst 1) 72 1 0 0, r0 72 (.isub) 73, r0 73 (.aload_n 0) 74, rX 74 (.getfield 42) 77 9 40 1240, r0 77 (.iload_n 3) 78, r0 78 (.iaload) 79, r0 79 (.iastore) 80,
  r0 80 (.aload_n 0) 81, rX 81 (.getfield 45) 84 9 41 1241, r0 84 (.iload_n 3) 85, rX 85 (.iconst 1) 86 1 0 0, r0 86 (.isub) 87, r0 87 (.aload_n 0) 88, rX 88 (.getfield 45) 91 9 41 1241, r0 91 (.iload_n 3) 92,
  r0 92 (.iaload) 93, r0 93 (.iastore) 94, rX 94 (.iinc 3 1) 97 1 0 0, rX 97 (.goto (-37)) 100 60 0 0, r0 100 (.aload_n 0) 101, r0 101 (.dup) 102, rX 102 (.getfield 324) 105 9 43 1243, rX 105 (.iconst 1) 106 1 0 0,
  r0 106 (.isub) 107, rX 107 (.putfield 324) 110 9 43 1243, r0 110 (.aload_n 0) 111, rX 111 (.getfield 42) 114 9 40 1240, r0 114 (.aload_n 0) 115, rX 115 (.getfield 324) 118 9 43 1243, r0 118 (.iload_n 1) 119, r0 119 (.iastore) 120,
  r0 120 (.aload_n 0) 121, rX 121 (.getfield 45) 124 9 41 1241, r0 124 (.aload_n 0) 125, rX 125 (.getfield 324) 128 9 43 1243, r0 128 (.iload_n 2) 129, r0 129 (.iastore) 130, r0 130 (.aload_n 0) 131, r0 131 (.dup) 132,
  rX 132 (.getfield 324) 135 9 43 1243, rX 135 (.iconst 1) 136 1 0 0, r0 136 (.iadd) 137, rX 137 (.putfield 324) 140 9 43 1243, r0 140 (.aload_n 0) 141, r0 141 (.iload_n 2) 142, rX 142 (.invokevirtual 93) 145 150 0 1505, r0 145 (.ireturn) 146]
def T_r_logged : List Row := [r0 0 (.aload_n 0) 1, r0 1 (.iconst 0) 2, rX 2 (.putfield 68) 5 9 0 1200, r0 5 (.aload_n 0) 6, rX 6 (.getfield 272) 9 9 26 1226, rX 9 (.ifCond .eq 24) 12 33 0 0, r0 12 (.iload_n 1) 13, rX 13 (.ifCond .lt 20) 16 33 0 0,
  r0 16 (.iload_n 1) 17, r0 17 (.aload_n 0) 18, rX 18 (.getfield 324) 21 9 43 1243, rX 21 (.if_icmp .ge 12) 24 33 0 0, r0 24 (.iload_n 2) 25, r0 25 (.iconst 0) 26, rX 26 (.iconst 1) 27 1 0 0, rX 27 (.invokestatic 114) 30 151 1 1391,
  rX 30 (.ifCond .ne 9) 33 39 0 0, r0 33 (.aload_n 0) 34, rX 34 (.iconst 1) 35 1 0 0, rX 35 (.invokevirtual 74) 38 148 0 1375, r0 38 (.ireturn) 39, r0 39 (.aload_n 0) 40, r0 40 (.iload_n 2) 41, rX 41 (.ifCond .ne 19) 44 60 0 0,
  r0 44 (.aload_n 0) 45, rX 45 (.getfield 42) 48 9 40 1240, r0 48 (.aload_n 0) 49, rX 49 (.getfield 324) 52 9 43 1243, rX 52 (.iconst 1) 53 1 0 0, r0 53 (.isub) 54, r0 54 (.iload_n 1) 55, r0 55 (.isub) 56,
  r0 56 (.iaload) 57, rX 57 (.goto 16) 60 73 0 0, r0 60 (.aload_n 0) 61, rX 61 (.getfield 45) 64 9 41 1241, r0 64 (.aload_n 0) 65, rX 65 (.getfield 324) 68 9 43 1243, rX 68 (.iconst 1) 69 1 0 0, r0 69 (.isub) 70,
  r0 70 (.iload_n 1) 71, r0 71 (.isub) 72, r0 72 (.iaload) 73, rX 73 (.invokevirtual 93) 76 150 0 1505, r0 76 (.ireturn) 77]
def T_r_scan : List Row := [r0 0 (.aload_n 0) 1, r0 1 (.iconst 0) 2, rX 2 (.putfield 68) 5 9 0 1200, r0 5 (.aload_n 0) 6, rX 6 (.getfield 272) 9 9 26 1226, rX 9 (.ifCond .ne 9) 12 18 0 0, r0 12 (.aload_n 0) 13, rX 13 (.iconst 1) 14 1 0 0,
  rX 14 (.invokevirtual 74) 17 148 0 1375, r0 17 (.ireturn) 18, r0 18 (.aload_n 0) 19, r0 19 (.iconst 0) 20, rX 20 (.putfield 327) 23 9 46 1246, r0 23 (.iconst 0) 24, r0 24 (.istore_n 1) 25, r0 25 (.iconst 0) 26,
  r0 26 (.istore_n 2) 27, rH 27 (.iload_n 2) 28 0 0 0 0, r0 28 (.aload_n 0) 29, rX 29 (.getfield 269) 32 9 5 1205, rX 32 (.if_icmp .ge 65) 35 97 0 0, r0 35 (.aload_n 0) 36, rX 36 (.getfield 29) 39 9 27 1227, rX 39 (.bipush 62) 41 62 0 0,
  r0 41 (.iaload) 42, r0 42 (.iload_n 2) 43, rX 43 (.invokestatic 161) 46 152 1 1459, rX 46 (.ifCond .eq 6) 49 52 0 0, rX 49 (.goto 42) 52 91 0 0, r0 52 (.aload_n 0) 53, r0 53 (.aload_n 0) 54, rX 54 (.getfield 13) 57 9 10 1210,
  r0 57 (.iload_n 2) 58, r0 58 (.iaload) 59, rX 59 (.invokevirtual 333) 62 200 0 1577, r0 62 (.istore_n 3) 63, r0 63 (.iload_n 3) 64, rX 64 (.iconst (-1)) 65 1 1 0, rX 65 (.if_icmp .ne 9) 68 74 0 0, r0 68 (.aload_n 0) 69,
  rX 69 (.iconst 5) 70 5 0 0, rX 70 (.invokevirtual 74) 73 148 0 1375, r0 73 (.ireturn) 74, r0 74 (.aload_n 0) 75, rX 75 (.getfield 48) 78 9 42 1242, r0 78 (.iload_n 2) 79, r0 79 (.iload_n 3) 80, r0 80 (.aload_n 0) 81,
  rX 81 (.getfield 17) 84 9 11 1211, r0 84 (.iload_n 2) 85, r0 85 (.iaload) 86, r0 86 (.iadd) 87, r0 87 (.iastore) 88, rX 88 (.iinc 1 1) 91 1 0 0, rX 91 (.iinc 2 1) 94 1 0 0, rX 94 (.goto (-67)) 97 27 0 0,
  r0 97 (.aload_n 0) 98, rX 98 (.iconst 1) 99 1 0 0, rX 99 (.putfield 327) 102 9 46 1246, r0 102 (.aload_n 0) 103, r0 103 (.iload_n 1) 104, rX 104 (.invokevirtual 93) 107 150 0 1505, r0 107 (.ireturn) 108]
def T_r_blinds : List Row := [r0 0 (.aload_n 0) 1, r0 1 (.iconst 0) 2, rX 2 (.putfield 68) 5 9 0 1200, r0 5 (.aload_n 0) 6, rX 6 (.getfield 272) 9 9 26 1226, rX 9 (.ifCond .ne 9) 12 18 0 0, r0 12 (.aload_n 0) 13, rX 13 (.iconst 1) 14 1 0 0,
  rX 14 (.invokevirtual 74) 17 148 0 1375, r0 17 (.ireturn) 18, r0 18 (.iconst 0) 19, r0 19 (.istore_n 1) 20, r0 20 (.iconst 0) 21, r0 21 (.istore_n 2) 22, rH 22 (.iload_n 2) 23 0 0 0 0, r0 23 (.aload_n 0) 24,
  rX 24 (.getfield 269) 27 9 5 1205, rX 27 (.if_icmp .ge 57) 30 84 0 0, r0 30 (.aload_n 0) 31, rX 31 (.getfield 29) 34 9 27 1227, rX 34 (.bipush 62) 36 62 0 0, r0 36 (.iaload) 37, r0 37 (.iload_n 2) 38, rX 38 (.invokestatic 161) 41 152 1 1459,
  rX 41 (.ifCond .eq 6) 44 47 0 0, rX 44 (.goto 34) 47 78 0 0, r0 47 (.aload_n 0) 48, rX 48 (.getfield 279) 51 9 7 1207, r0 51 (.aload_n 0) 52, r0 52 (.aload_n 0) 53, rX 53 (.getfield 13) 56 9 10 1210, r0 56 (.iload_n 2) 57,
  r0 57 (.iaload) 58, rX 58 (.invokevirtual 330) 61 199 0 1581, r0 61 (.iadd) 62, r0 62 (.aload_n 0) 63, rX 63 (.getfield 281) 66 9 8 1208, rX 66 (.if_icmp .le 9) 69 75 0 0, r0 69 (.aload_n 0) 70, r0 70 (.iload_n 1) 71,
  rX 71 (.invokevirtual 93) 74 150 0 1505, r0 74 (.ireturn) 75, rX 75 (.iinc 1 1) 78 1 0 0, rX 78 (.iinc 2 1) 81 1 0 0, rX 81 (.goto (-59)) 84 22 0 0, r0 84 (.aload_n 0) 85, rX 85 (.bipush (-2)) 87 2 1 0, rX 87 (.invokevirtual 93) 90 150 0 1505,
  r0 90 (.ireturn) 91]
def T_r_refusedLow : List Row := [r0 0 (.aload_n 0) 1, r0 1 (.iload_n 1) 2, rX 2 (.invokevirtual 74) 5 148 0 1375, r0 5 (.pop) 6, rX 6 (.ldc_w 323) 9 2147483648 1 1568, r0 9 (.ireturn) 10]
def T_r_reading : List Row := [r0 0 (.aload_n 0) 1, r0 1 (.iconst 0) 2, rX 2 (.putfield 68) 5 9 0 1200, r0 5 (.aload_n 0) 6, r0 6 (.iload_n 1) 7, rX 7 (.invokevirtual 314) 10 187 0 1532, rX 10 (.ifCond .ne 9) 13 19 0 0, r0 13 (.aload_n 0) 14,
  rX 14 (.iconst 1) 15 1 0 0, rX 15 (.invokevirtual 336) 18 205 0 1601, r0 18 (.ireturn) 19, r0 19 (.aload_n 0) 20, rX 20 (.getfield 327) 23 9 46 1246, rX 23 (.ifCond .eq 30) 26 53 0 0, r0 26 (.aload_n 0) 27, rX 27 (.getfield 29) 30 9 27 1227,
  rX 30 (.bipush 62) 32 62 0 0, r0 32 (.iaload) 33, r0 33 (.iload_n 1) 34, rX 34 (.invokestatic 161) 37 152 1 1459, rX 37 (.ifCond .ne 16) 40 53 0 0, r0 40 (.aload_n 0) 41, r0 41 (.aload_n 0) 42, rX 42 (.getfield 48) 45 9 42 1242,
  r0 45 (.iload_n 1) 46, r0 46 (.iaload) 47, rX 47 (.invokevirtual 93) 50 150 0 1505, rX 50 (.goto 8) 53 58 0 0, r0 53 (.aload_n 0) 54, rX 54 (.iconst 5) 55 5 0 0, rX 55 (.invokevirtual 336) 58 205 0 1601, r0 58 (.ireturn) 59]
def T_r_losses : List Row := [r0 0 (.aload_n 0) 1, rX 1 (.getfield 29) 4 9 27 1227, rX 4 (.bipush 62) 6 62 0 0, r0 6 (.iaload) 7, rX 7 (.invokestatic 311) 10 153 1 1525, r0 10 (.ireturn) 11]
def T_r_netSum : List Row := [r0 0 (.iconst 0) 1, r0 1 (.istore_n 1) 2, r0 2 (.iconst 0) 3, r0 3 (.istore_n 2) 4, rH 4 (.iload_n 2) 5 0 0 0 0, r0 5 (.aload_n 0) 6, rX 6 (.getfield 269) 9 9 5 1205, rX 9 (.if_icmp .ge 37) 12 46 0 0,
  r0 12 (.aload_n 0) 13, rX 13 (.getfield 29) 16 9 27 1227, rX 16 (.bipush 62) 18 62 0 0, r0 18 (.iaload) 19, r0 19 (.iload_n 2) 20, rX 20 (.invokestatic 161) 23 152 1 1459, rX 23 (.ifCond .ne 17) 26 40 0 0, r0 26 (.iload_n 1) 27,
  r0 27 (.aload_n 0) 28, rX 28 (.getfield 48) 31 9 42 1242, r0 31 (.iload_n 2) 32, r0 32 (.iaload) 33, r0 33 (.aload_n 0) 34, rX 34 (.getfield 279) 37 9 7 1207, r0 37 (.isub) 38, r0 38 (.iadd) 39,
  r0 39 (.istore_n 1) 40, rX 40 (.iinc 2 1) 43 1 0 0, rX 43 (.goto (-39)) 46 4 0 0, r0 46 (.iload_n 1) 47, r0 47 (.ireturn) 48]
def T_r_netOf : List Row := [r0 0 (.aload_n 0) 1, rX 1 (.getfield 29) 4 9 27 1227, rX 4 (.bipush 62) 6 62 0 0, r0 6 (.iaload) 7, r0 7 (.iload_n 1) 8, rX 8 (.invokestatic 161) 11 152 1 1459, rX 11 (.ifCond .eq 24) 14 35 0 0, r0 14 (.aload_n 0) 15,
  rX 15 (.getfield 269) 18 9 5 1205, rX 18 (.iconst 1) 19 1 0 0, r0 19 (.iadd) 20, rX 20 (.iconst 2) 21 2 0 0, r0 21 (.idiv) 22, r0 22 (.aload_n 0) 23, rX 23 (.invokevirtual 308) 26 185 0 1521, r0 26 (.imul) 27,
  r0 27 (.aload_n 0) 28, rX 28 (.invokevirtual 339) 31 208 0 1617, r0 31 (.isub) 32, rX 32 (.goto 14) 35 46 0 0, r0 35 (.aload_n 0) 36, rX 36 (.getfield 48) 39 9 42 1242, r0 39 (.iload_n 1) 40, r0 40 (.iaload) 41,
  r0 41 (.aload_n 0) 42, rX 42 (.getfield 279) 45 9 7 1207, r0 45 (.isub) 46, r0 46 (.ireturn) 47]
def T_r_net : List Row := [r0 0 (.aload_n 0) 1, r0 1 (.iconst 0) 2, rX 2 (.putfield 68) 5 9 0 1200, r0 5 (.aload_n 0) 6, r0 6 (.iload_n 1) 7, rX 7 (.invokevirtual 314) 10 187 0 1532, rX 10 (.ifCond .ne 9) 13 19 0 0, r0 13 (.aload_n 0) 14,
  rX 14 (.iconst 1) 15 1 0 0, rX 15 (.invokevirtual 336) 18 205 0 1601, r0 18 (.ireturn) 19, r0 19 (.aload_n 0) 20, rX 20 (.getfield 327) 23 9 46 1246, rX 23 (.ifCond .eq 25) 26 48 0 0, r0 26 (.aload_n 0) 27, rX 27 (.getfield 29) 30 9 27 1227,
  rX 30 (.bipush 62) 32 62 0 0, r0 32 (.iaload) 33, r0 33 (.iload_n 1) 34, rX 34 (.invokestatic 161) 37 152 1 1459, rX 37 (.ifCond .eq 17) 40 54 0 0, r0 40 (.aload_n 0) 41, rX 41 (.invokevirtual 342) 44 207 0 1609, rX 44 (.iconst 1) 45 1 0 0,
  rX 45 (.if_icmp .le 9) 48 54 0 0, r0 48 (.aload_n 0) 49, rX 49 (.iconst 5) 50 5 0 0, rX 50 (.invokevirtual 336) 53 205 0 1601, r0 53 (.ireturn) 54, r0 54 (.aload_n 0) 55, r0 55 (.aload_n 0) 56, r0 56 (.iload_n 1) 57,
  rX 57 (.invokevirtual 345) 60 209 0 1613, rX 60 (.invokevirtual 93) 63 150 0 1505, r0 63 (.ireturn) 64]
def T_r_refuses : List Row := [r0 0 (.iload_n 1) 1, rX 1 (.ifCond .ne 7) 4 8 0 0, rX 4 (.iconst 1) 5 1 0 0, rX 5 (.goto 23) 8 28 0 0, r0 8 (.aload_n 0) 9, rX 9 (.getfield 327) 12 9 46 1246, rX 12 (.ifCond .eq 15) 15 27 0 0, r0 15 (.aload_n 0) 16,
  rX 16 (.invokevirtual 342) 19 207 0 1609, rX 19 (.iconst 2) 20 2 0 0, rX 20 (.if_icmp .ge 7) 23 27 0 0, r0 23 (.iconst 0) 24, rX 24 (.goto 4) 27 28 0 0, rX 27 (.iconst 5) 28 5 0 0, r0 28 (.ireturn) 29]
def T_r_netAll : List Row := [r0 0 (.aload_n 0) 1, rX 1 (.invokevirtual 342) 4 207 0 1609, rX 4 (.iconst 1) 5 1 0 0, rX 5 (.if_icmp .ne 19) 8 24 0 0, r0 8 (.aload_n 0) 9, rX 9 (.getfield 269) 12 9 5 1205, rX 12 (.iconst 1) 13 1 0 0, r0 13 (.iadd) 14,
  rX 14 (.iconst 2) 15 2 0 0, r0 15 (.idiv) 16, r0 16 (.aload_n 0) 17, rX 17 (.invokevirtual 308) 20 185 0 1521, r0 20 (.imul) 21, rX 21 (.goto 7) 24 28 0 0, r0 24 (.aload_n 0) 25, rX 25 (.invokevirtual 339) 28 208 0 1617,
  r0 28 (.ireturn) 29]
def T_r_partsOf : List Row := [r0 0 (.lconst 0) 1, r0 1 (.lstore_n 2) 2, r0 2 (.iconst 0) 3, r0 3 (.istore 4) 5, rH 5 (.iload 4) 7 0 0 0 0, r0 7 (.aload_n 0) 8, rX 8 (.getfield 269) 11 9 5 1205, rX 11 (.if_icmp .ge 33) 14 44 0 0,
  r0 14 (.aload_n 0) 15, rX 15 (.getfield 13) 18 9 10 1210, r0 18 (.iload 4) 20, r0 20 (.iaload) 21, r0 21 (.iload_n 1) 22, rX 22 (.invokestatic 161) 25 152 1 1459, rX 25 (.ifCond .eq 13) 28 38 0 0, r0 28 (.lload_n 2) 29,
  r0 29 (.aload_n 0) 30, r0 30 (.iload 4) 32, rX 32 (.invokevirtual 345) 35 209 0 1613, r0 35 (.i2l) 36, r0 36 (.ladd) 37, r0 37 (.lstore_n 2) 38, rX 38 (.iinc 4 1) 41 1 0 0, rX 41 (.goto (-36)) 44 5 0 0,
  rX 44 (.ldc2_w 348) 47 4 0 1638, r0 47 (.lload_n 2) 48, r0 48 (.lmul) 49, rX 49 (.ldc2_w 350) 52 2 0 1639, r0 52 (.aload_n 0) 53, rX 53 (.invokevirtual 352) 56 212 0 1640, r0 56 (.i2l) 57, r0 57 (.lmul) 58,
  r0 58 (.lsub) 59, r0 59 (.lreturn) 60]
def T_r_errorParts : List Row := [r0 0 (.aload_n 0) 1, r0 1 (.iload_n 1) 2, rX 2 (.invokevirtual 355) 5 213 0 1634, r0 5 (.aload_n 0) 6, rX 6 (.getfield 269) 9 9 5 1205, r0 9 (.i2l) 10, rX 10 (.lconst 1) 11 1 0 0, r0 11 (.ladd) 12,
  r0 12 (.aload_n 0) 13, rX 13 (.getfield 29) 16 9 27 1227, r0 16 (.iload_n 1) 17, r0 17 (.iaload) 18, r0 18 (.i2l) 19, r0 19 (.lmul) 20, r0 20 (.lsub) 21, r0 21 (.lreturn) 22]
def T_r_back : List Row := [r0 0 (.aload_n 0) 1, r0 1 (.iconst 0) 2, rX 2 (.putfield 68) 5 9 0 1200, r0 5 (.aload_n 0) 6, r0 6 (.aload_n 0) 7, r0 7 (.iload_n 1) 8, rX 8 (.invokevirtual 314) 11 187 0 1532, rX 11 (.invokevirtual 359) 14 211 0 1625,
  r0 14 (.istore_n 3) 15, r0 15 (.iload_n 3) 16, rX 16 (.ifCond .le 9) 19 25 0 0, r0 19 (.aload_n 0) 20, r0 20 (.iload_n 3) 21, rX 21 (.invokevirtual 363) 24 149 0 1629, r0 24 (.lreturn) 25, r0 25 (.aload_n 0) 26,
  r0 26 (.aload_n 0) 27, r0 27 (.iload_n 1) 28, rX 28 (.invokevirtual 355) 31 213 0 1634, r0 31 (.aload_n 0) 32, rX 32 (.getfield 269) 35 9 5 1205, r0 35 (.i2l) 36, rX 36 (.lconst 1) 37 1 0 0, r0 37 (.ladd) 38,
  rX 38 (.invokevirtual 366) 41 155 0 1644, r0 41 (.aload_n 0) 42, r0 42 (.iload_n 2) 43, rX 43 (.invokevirtual 370) 46 156 0 1651, r0 46 (.lreturn) 47]
def T_r_odds : List Row := [r0 0 (.aload_n 0) 1, r0 1 (.iconst 0) 2, rX 2 (.putfield 68) 5 9 0 1200, r0 5 (.aload_n 0) 6, r0 6 (.aload_n 0) 7, rX 7 (.getfield 272) 10 9 26 1226, rX 10 (.invokevirtual 359) 13 211 0 1625, r0 13 (.istore_n 1) 14,
  r0 14 (.iload_n 1) 15, rX 15 (.ifCond .le 9) 18 24 0 0, r0 18 (.aload_n 0) 19, r0 19 (.iload_n 1) 20, rX 20 (.invokevirtual 74) 23 148 0 1375, r0 23 (.ireturn) 24, r0 24 (.iconst 0) 25, r0 25 (.istore_n 2) 26,
  r0 26 (.iconst 0) 27, r0 27 (.istore_n 3) 28, rH 28 (.iload_n 3) 29 0 0 0 0, r0 29 (.aload_n 0) 30, rX 30 (.getfield 269) 33 9 5 1205, rX 33 (.if_icmp .ge 43) 36 76 0 0, r0 36 (.aload_n 0) 37, r0 37 (.iload_n 3) 38,
  rX 38 (.invokevirtual 355) 41 213 0 1634, r0 41 (.lconst 0) 42, r0 42 (.lcmp) 43, rX 43 (.ifCond .lt 21) 46 64 0 0, r0 46 (.aload_n 0) 47, r0 47 (.iload_n 3) 48, rX 48 (.invokevirtual 355) 51 213 0 1634, r0 51 (.aload_n 0) 52,
  rX 52 (.getfield 269) 55 9 5 1205, rX 55 (.iconst 1) 56 1 0 0, r0 56 (.iadd) 57, r0 57 (.i2l) 58, r0 58 (.lrem) 59, r0 59 (.lconst 0) 60, r0 60 (.lcmp) 61, rX 61 (.ifCond .eq 9) 64 70 0 0,
  r0 64 (.iload_n 2) 65, rX 65 (.iconst 1) 66 1 0 0, r0 66 (.iload_n 3) 67, r0 67 (.ishl) 68, r0 68 (.ior) 69, r0 69 (.istore_n 2) 70, rX 70 (.iinc 3 1) 73 1 0 0, rX 73 (.goto (-45)) 76 28 0 0,
  r0 76 (.aload_n 0) 77, r0 77 (.iload_n 2) 78, rX 78 (.invokevirtual 93) 81 150 0 1505, r0 81 (.ireturn) 82]
def T_r_more : List Row := [r0 0 (.aload_n 0) 1, r0 1 (.iconst 0) 2, rX 2 (.putfield 68) 5 9 0 1200, r0 5 (.aload_n 0) 6, r0 6 (.aload_n 0) 7, rX 7 (.getfield 272) 10 9 26 1226, rX 10 (.invokevirtual 359) 13 211 0 1625, r0 13 (.istore_n 2) 14,
  r0 14 (.iload_n 2) 15, rX 15 (.ifCond .le 9) 18 24 0 0, r0 18 (.aload_n 0) 19, r0 19 (.iload_n 2) 20, rX 20 (.invokevirtual 363) 23 149 0 1629, r0 23 (.lreturn) 24, r0 24 (.lconst 0) 25, r0 25 (.lstore_n 3) 26,
  r0 26 (.iconst 0) 27, r0 27 (.istore 5) 29, rH 29 (.iload 5) 31 0 0 0 0, r0 31 (.aload_n 0) 32, rX 32 (.getfield 269) 35 9 5 1205, rX 35 (.if_icmp .ge 18) 38 53 0 0, r0 38 (.lload_n 3) 39, r0 39 (.aload_n 0) 40,
  r0 40 (.iload 5) 42, rX 42 (.invokevirtual 374) 45 214 0 1663, r0 45 (.ladd) 46, r0 46 (.lstore_n 3) 47, rX 47 (.iinc 5 1) 50 1 0 0, rX 50 (.goto (-21)) 53 29 0 0, r0 53 (.aload_n 0) 54, r0 54 (.lload_n 3) 55,
  r0 55 (.aload_n 0) 56, rX 56 (.getfield 269) 59 9 5 1205, r0 59 (.i2l) 60, rX 60 (.lconst 1) 61 1 0 0, r0 61 (.ladd) 62, rX 62 (.invokevirtual 366) 65 155 0 1644, r0 65 (.aload_n 0) 66, r0 66 (.iload_n 1) 67,
  rX 67 (.invokevirtual 370) 70 156 0 1651, r0 70 (.lreturn) 71]
def T_r_error : List Row := [r0 0 (.aload_n 0) 1, r0 1 (.iconst 0) 2, rX 2 (.putfield 68) 5 9 0 1200, r0 5 (.aload_n 0) 6, r0 6 (.aload_n 0) 7, r0 7 (.iload_n 1) 8, rX 8 (.invokevirtual 314) 11 187 0 1532, rX 11 (.invokevirtual 359) 14 211 0 1625,
  r0 14 (.istore_n 3) 15, r0 15 (.iload_n 3) 16, rX 16 (.ifCond .le 9) 19 25 0 0, r0 19 (.aload_n 0) 20, r0 20 (.iload_n 3) 21, rX 21 (.invokevirtual 363) 24 149 0 1629, r0 24 (.lreturn) 25, r0 25 (.aload_n 0) 26,
  r0 26 (.aload_n 0) 27, r0 27 (.iload_n 1) 28, rX 28 (.invokevirtual 374) 31 214 0 1663, r0 31 (.aload_n 0) 32, rX 32 (.getfield 269) 35 9 5 1205, r0 35 (.i2l) 36, rX 36 (.lconst 1) 37 1 0 0, r0 37 (.ladd) 38,
  rX 38 (.invokevirtual 366) 41 155 0 1644, r0 41 (.aload_n 0) 42, r0 42 (.iload_n 2) 43, rX 43 (.invokevirtual 370) 46 156 0 1651, r0 46 (.lreturn) 47]
def T_r_errors : List Row := [r0 0 (.aload_n 0) 1, r0 1 (.iconst 0) 2, rX 2 (.putfield 68) 5 9 0 1200, r0 5 (.aload_n 0) 6, r0 6 (.aload_n 0) 7, rX 7 (.getfield 272) 10 9 26 1226, rX 10 (.invokevirtual 359) 13 211 0 1625, r0 13 (.istore_n 2) 14,
  r0 14 (.iload_n 2) 15, rX 15 (.ifCond .le 9) 18 24 0 0, r0 18 (.aload_n 0) 19, r0 19 (.iload_n 2) 20, rX 20 (.invokevirtual 363) 23 149 0 1629, r0 23 (.lreturn) 24, r0 24 (.lconst 0) 25, r0 25 (.lstore_n 3) 26,
  r0 26 (.iconst 0) 27, r0 27 (.istore 5) 29, rH 29 (.iload 5) 31 0 0 0 0, r0 31 (.aload_n 0) 32, rX 32 (.getfield 269) 35 9 5 1205, rX 35 (.if_icmp .ge 25) 38 60 0 0, r0 38 (.lload_n 3) 39, r0 39 (.aload_n 0) 40,
  r0 40 (.iload 5) 42, rX 42 (.invokevirtual 374) 45 214 0 1663, r0 45 (.aload_n 0) 46, r0 46 (.iload 5) 48, rX 48 (.invokevirtual 374) 51 214 0 1663, r0 51 (.lmul) 52, r0 52 (.ladd) 53, r0 53 (.lstore_n 3) 54,
  rX 54 (.iinc 5 1) 57 1 0 0, rX 57 (.goto (-28)) 60 29 0 0, r0 60 (.aload_n 0) 61, r0 61 (.lload_n 3) 62, r0 62 (.aload_n 0) 63, rX 63 (.getfield 269) 66 9 5 1205, r0 66 (.i2l) 67, rX 67 (.lconst 1) 68 1 0 0,
  r0 68 (.ladd) 69, r0 69 (.aload_n 0) 70, rX 70 (.getfield 269) 73 9 5 1205, r0 73 (.i2l) 74, rX 74 (.lconst 1) 75 1 0 0, r0 75 (.ladd) 76, r0 76 (.lmul) 77, rX 77 (.invokevirtual 366) 80 155 0 1644,
  r0 80 (.aload_n 0) 81, r0 81 (.iload_n 1) 82, rX 82 (.invokevirtual 370) 85 156 0 1651, r0 85 (.lreturn) 86]
def T_r_plain : List Row := [r0 0 (.lload_n 0) 1, r0 1 (.lconst 0) 2, r0 2 (.lcmp) 3, rX 3 (.ifCond .ge 8) 6 11 0 0, r0 6 (.lload_n 0) 7, r0 7 (.lneg) 8, rX 8 (.goto 4) 11 12 0 0, r0 11 (.lload_n 0) 12,
  r0 12 (.lreturn) 13]
def T_r_worst : List Row := [r0 0 (.aload_n 0) 1, r0 1 (.iconst 0) 2, rX 2 (.putfield 68) 5 9 0 1200, r0 5 (.aload_n 0) 6, r0 6 (.aload_n 0) 7, rX 7 (.getfield 272) 10 9 26 1226, rX 10 (.invokevirtual 359) 13 211 0 1625, r0 13 (.istore_n 1) 14,
  r0 14 (.iload_n 1) 15, rX 15 (.ifCond .le 9) 18 24 0 0, r0 18 (.aload_n 0) 19, r0 19 (.iload_n 1) 20, rX 20 (.invokevirtual 74) 23 148 0 1375, r0 23 (.ireturn) 24, r0 24 (.iconst 0) 25, r0 25 (.istore_n 2) 26,
  rX 26 (.iconst 1) 27 1 0 0, r0 27 (.istore_n 3) 28, rH 28 (.iload_n 3) 29 0 0 0 0, r0 29 (.aload_n 0) 30, rX 30 (.getfield 269) 33 9 5 1205, rX 33 (.if_icmp .ge 31) 36 64 0 0, r0 36 (.aload_n 0) 37, r0 37 (.iload_n 3) 38,
  rX 38 (.invokevirtual 374) 41 214 0 1663, rX 41 (.invokestatic 377) 44 220 1 1679, r0 44 (.aload_n 0) 45, r0 45 (.iload_n 2) 46, rX 46 (.invokevirtual 374) 49 214 0 1663, rX 49 (.invokestatic 377) 52 220 1 1679, r0 52 (.lcmp) 53, rX 53 (.ifCond .le 5) 56 58 0 0,
  r0 56 (.iload_n 3) 57, r0 57 (.istore_n 2) 58, rX 58 (.iinc 3 1) 61 1 0 0, rX 61 (.goto (-33)) 64 28 0 0, r0 64 (.aload_n 0) 65, r0 65 (.iload_n 2) 66, rX 66 (.invokevirtual 93) 69 150 0 1505, r0 69 (.ireturn) 70]
def T_r_share : List Row := [r0 0 (.aload_n 0) 1, r0 1 (.iconst 0) 2, rX 2 (.putfield 68) 5 9 0 1200, r0 5 (.aload_n 0) 6, rX 6 (.getfield 272) 9 9 26 1226, rX 9 (.ifCond .ne 10) 12 19 0 0, r0 12 (.aload_n 0) 13, rX 13 (.iconst 1) 14 1 0 0,
  rX 14 (.invokevirtual 74) 17 148 0 1375, r0 17 (.i2l) 18, r0 18 (.lreturn) 19, r0 19 (.aload_n 0) 20, rX 20 (.ldc2_w 348) 23 4 0 1638, r0 23 (.aload_n 0) 24, rX 24 (.getfield 269) 27 9 5 1205, r0 27 (.i2l) 28,
  r0 28 (.lmul) 29, r0 29 (.aload_n 0) 30, rX 30 (.getfield 269) 33 9 5 1205, r0 33 (.i2l) 34, rX 34 (.lconst 1) 35 1 0 0, r0 35 (.ladd) 36, r0 36 (.aload_n 0) 37, rX 37 (.getfield 269) 40 9 5 1205,
  r0 40 (.i2l) 41, rX 41 (.lconst 1) 42 1 0 0, r0 42 (.ladd) 43, r0 43 (.lmul) 44, rX 44 (.invokevirtual 366) 47 155 0 1644, r0 47 (.aload_n 0) 48, r0 48 (.iload_n 1) 49, rX 49 (.invokevirtual 370) 52 156 0 1651,
  r0 52 (.lreturn) 53]
def T_r_grains : List Row := [r0 0 (.aload_n 0) 1, r0 1 (.iconst 0) 2, rX 2 (.putfield 68) 5 9 0 1200, r0 5 (.aload_n 0) 6, r0 6 (.aload_n 0) 7, rX 7 (.getfield 272) 10 9 26 1226, rX 10 (.invokevirtual 359) 13 211 0 1625, r0 13 (.istore_n 2) 14,
  r0 14 (.iload_n 2) 15, rX 15 (.ifCond .le 9) 18 24 0 0, r0 18 (.aload_n 0) 19, r0 19 (.iload_n 2) 20, rX 20 (.invokevirtual 363) 23 149 0 1629, r0 23 (.lreturn) 24, r0 24 (.aload_n 0) 25, rX 25 (.ldc2_w 348) 28 4 0 1638,
  r0 28 (.aload_n 0) 29, rX 29 (.invokevirtual 352) 32 212 0 1640, r0 32 (.i2l) 33, r0 33 (.lmul) 34, r0 34 (.aload_n 0) 35, rX 35 (.getfield 269) 38 9 5 1205, r0 38 (.i2l) 39, rX 39 (.lconst 1) 40 1 0 0,
  r0 40 (.ladd) 41, r0 41 (.aload_n 0) 42, rX 42 (.getfield 269) 45 9 5 1205, r0 45 (.i2l) 46, rX 46 (.lconst 1) 47 1 0 0, r0 47 (.ladd) 48, r0 48 (.lmul) 49, rX 49 (.invokevirtual 366) 52 155 0 1644,
  r0 52 (.aload_n 0) 53, r0 53 (.iload_n 1) 54, rX 54 (.invokevirtual 370) 57 156 0 1651, r0 57 (.lreturn) 58]
def T_r_better : List Row := [r0 0 (.aload_n 0) 1, r0 1 (.iconst 0) 2, rX 2 (.putfield 68) 5 9 0 1200, r0 5 (.aload_n 0) 6, r0 6 (.aload_n 0) 7, rX 7 (.getfield 272) 10 9 26 1226, rX 10 (.invokevirtual 359) 13 211 0 1625, r0 13 (.istore_n 1) 14,
  r0 14 (.iload_n 1) 15, rX 15 (.ifCond .le 9) 18 24 0 0, r0 18 (.aload_n 0) 19, r0 19 (.iload_n 1) 20, rX 20 (.invokevirtual 74) 23 148 0 1375, r0 23 (.ireturn) 24, r0 24 (.iconst 0) 25, r0 25 (.istore_n 2) 26,
  r0 26 (.iconst 0) 27, r0 27 (.istore_n 3) 28, rH 28 (.iload_n 3) 29 0 0 0 0, r0 29 (.aload_n 0) 30, rX 30 (.getfield 269) 33 9 5 1205, rX 33 (.if_icmp .ge 41) 36 74 0 0, rX 36 (.ldc2_w 348) 39 4 0 1638, r0 39 (.aload_n 0) 40,
  rX 40 (.invokevirtual 352) 43 212 0 1640, r0 43 (.i2l) 44, r0 44 (.lmul) 45, r0 45 (.aload_n 0) 46, r0 46 (.iload_n 3) 47, rX 47 (.invokevirtual 355) 50 213 0 1634, r0 50 (.aload_n 0) 51, rX 51 (.getfield 269) 54 9 5 1205,
  r0 54 (.i2l) 55, rX 55 (.lconst 1) 56 1 0 0, r0 56 (.ladd) 57, r0 57 (.lmul) 58, r0 58 (.lcmp) 59, rX 59 (.ifCond .ge 9) 62 68 0 0, r0 62 (.iload_n 2) 63, rX 63 (.iconst 1) 64 1 0 0,
  r0 64 (.iload_n 3) 65, r0 65 (.ishl) 66, r0 66 (.ior) 67, r0 67 (.istore_n 2) 68, rX 68 (.iinc 3 1) 71 1 0 0, rX 71 (.goto (-43)) 74 28 0 0, r0 74 (.aload_n 0) 75, r0 75 (.iload_n 2) 76,
  rX 76 (.invokevirtual 93) 79 150 0 1505, r0 79 (.ireturn) 80]
def T_r_aloneOf : List Row := [r0 0 (.aload_n 0) 1, rX 1 (.iconst 1) 2 1 0 0, r0 2 (.iload_n 1) 3, r0 3 (.ishl) 4, rX 4 (.invokevirtual 330) 7 199 0 1581, r0 7 (.aload_n 0) 8, rX 8 (.getfield 17) 11 9 11 1211, r0 11 (.iload_n 1) 12,
  r0 12 (.iaload) 13, r0 13 (.iadd) 14, r0 14 (.ireturn) 15]
def T_r_offAlone : List Row := [r0 0 (.aload_n 0) 1, r0 1 (.iload_n 1) 2, rX 2 (.invokevirtual 381) 5 225 0 1698, r0 5 (.aload_n 0) 6, rX 6 (.getfield 29) 9 9 27 1227, r0 9 (.iload_n 1) 10, r0 10 (.iaload) 11, r0 11 (.isub) 12,
  r0 12 (.i2l) 13, rX 13 (.invokestatic 377) 16 220 1 1679, r0 16 (.lreturn) 17]
def T_r_alone : List Row := [r0 0 (.aload_n 0) 1, r0 1 (.iconst 0) 2, rX 2 (.putfield 68) 5 9 0 1200, r0 5 (.aload_n 0) 6, r0 6 (.iload_n 1) 7, rX 7 (.invokevirtual 314) 10 187 0 1532, rX 10 (.ifCond .eq 13) 13 23 0 0, r0 13 (.aload_n 0) 14,
  r0 14 (.aload_n 0) 15, r0 15 (.iload_n 1) 16, rX 16 (.invokevirtual 381) 19 225 0 1698, rX 19 (.invokevirtual 93) 22 150 0 1505, r0 22 (.ireturn) 23, r0 23 (.aload_n 0) 24, rX 24 (.iconst 1) 25 1 0 0, rX 25 (.invokevirtual 336) 28 205 0 1601,
  r0 28 (.ireturn) 29]
def T_r_alones : List Row := [r0 0 (.aload_n 0) 1, r0 1 (.iconst 0) 2, rX 2 (.putfield 68) 5 9 0 1200, r0 5 (.aload_n 0) 6, rX 6 (.getfield 272) 9 9 26 1226, rX 9 (.ifCond .ne 10) 12 19 0 0, r0 12 (.aload_n 0) 13, rX 13 (.iconst 1) 14 1 0 0,
  rX 14 (.invokevirtual 74) 17 148 0 1375, r0 17 (.i2l) 18, r0 18 (.lreturn) 19, r0 19 (.lconst 0) 20, r0 20 (.lstore_n 1) 21, r0 21 (.iconst 0) 22, r0 22 (.istore_n 3) 23, rH 23 (.iload_n 3) 24 0 0 0 0,
  r0 24 (.aload_n 0) 25, rX 25 (.getfield 269) 28 9 5 1205, rX 28 (.if_icmp .ge 23) 31 51 0 0, r0 31 (.lload_n 1) 32, r0 32 (.aload_n 0) 33, r0 33 (.iload_n 3) 34, rX 34 (.invokevirtual 384) 37 226 0 1706, r0 37 (.aload_n 0) 38,
  r0 38 (.iload_n 3) 39, rX 39 (.invokevirtual 384) 42 226 0 1706, r0 42 (.lmul) 43, r0 43 (.ladd) 44, r0 44 (.lstore_n 1) 45, rX 45 (.iinc 3 1) 48 1 0 0, rX 48 (.goto (-25)) 51 23 0 0, r0 51 (.aload_n 0) 52,
  r0 52 (.iconst 0) 53, rX 53 (.invokevirtual 93) 56 150 0 1505, r0 56 (.pop) 57, r0 57 (.lload_n 1) 58, r0 58 (.lreturn) 59]
def T_r_closer : List Row := [r0 0 (.aload_n 0) 1, r0 1 (.iconst 0) 2, rX 2 (.putfield 68) 5 9 0 1200, r0 5 (.aload_n 0) 6, r0 6 (.aload_n 0) 7, rX 7 (.getfield 272) 10 9 26 1226, rX 10 (.invokevirtual 359) 13 211 0 1625, r0 13 (.istore_n 1) 14,
  r0 14 (.iload_n 1) 15, rX 15 (.ifCond .le 9) 18 24 0 0, r0 18 (.aload_n 0) 19, r0 19 (.iload_n 1) 20, rX 20 (.invokevirtual 74) 23 148 0 1375, r0 23 (.ireturn) 24, r0 24 (.iconst 0) 25, r0 25 (.istore_n 2) 26,
  r0 26 (.iconst 0) 27, r0 27 (.istore_n 3) 28, rH 28 (.iload_n 3) 29 0 0 0 0, r0 29 (.aload_n 0) 30, rX 30 (.getfield 269) 33 9 5 1205, rX 33 (.if_icmp .ge 40) 36 73 0 0, r0 36 (.aload_n 0) 37, r0 37 (.iload_n 3) 38,
  rX 38 (.invokevirtual 374) 41 214 0 1663, rX 41 (.invokestatic 377) 44 220 1 1679, r0 44 (.aload_n 0) 45, r0 45 (.iload_n 3) 46, rX 46 (.invokevirtual 384) 49 226 0 1706, r0 49 (.aload_n 0) 50, rX 50 (.getfield 269) 53 9 5 1205, r0 53 (.i2l) 54,
  rX 54 (.lconst 1) 55 1 0 0, r0 55 (.ladd) 56, r0 56 (.lmul) 57, r0 57 (.lcmp) 58, rX 58 (.ifCond .ge 9) 61 67 0 0, r0 61 (.iload_n 2) 62, rX 62 (.iconst 1) 63 1 0 0, r0 63 (.iload_n 3) 64,
  r0 64 (.ishl) 65, r0 65 (.ior) 66, r0 66 (.istore_n 2) 67, rX 67 (.iinc 3 1) 70 1 0 0, rX 70 (.goto (-42)) 73 28 0 0, r0 73 (.aload_n 0) 74, r0 74 (.iload_n 2) 75, rX 75 (.invokevirtual 93) 78 150 0 1505,
  r0 78 (.ireturn) 79]
def T_r_isSuspect : List Row := [r0 0 (.iload_n 1) 1, rX 1 (.ifCond .ne 32) 4 33 0 0, r0 4 (.aload_n 0) 5, rX 5 (.invokevirtual 387) 8 232 0 1726, rX 8 (.ifCond .eq 23) 11 31 0 0, r0 11 (.aload_n 0) 12, rX 12 (.invokevirtual 391) 15 235 0 1734, rX 15 (.ifCond .eq 16) 18 31 0 0,
  r0 18 (.aload_n 0) 19, r0 19 (.iconst 0) 20, r0 20 (.iconst 0) 21, rX 21 (.invokevirtual 394) 24 236 0 1739, rX 24 (.ifCond .eq 7) 27 31 0 0, rX 27 (.iconst 1) 28 1 0 0, rX 28 (.goto 4) 31 32 0 0, r0 31 (.iconst 0) 32,
  r0 32 (.ireturn) 33, r0 33 (.iload_n 1) 34, rX 34 (.iconst 1) 35 1 0 0, r0 35 (.isub) 36, rX 36 (.iconst 2) 37 2 0 0, r0 37 (.idiv) 38, r0 38 (.istore_n 2) 39, r0 39 (.iload_n 1) 40,
  rX 40 (.iconst 2) 41 2 0 0, r0 41 (.irem) 42, rX 42 (.iconst 1) 43 1 0 0, rX 43 (.if_icmp .ne 35) 46 78 0 0, r0 46 (.aload_n 0) 47, r0 47 (.iload_n 2) 48, rX 48 (.invokevirtual 397) 51 233 0 1747, rX 51 (.ifCond .eq 25) 54 76 0 0,
  r0 54 (.aload_n 0) 55, rX 55 (.invokevirtual 391) 58 235 0 1734, rX 58 (.ifCond .eq 18) 61 76 0 0, r0 61 (.aload_n 0) 62, rX 62 (.iconst 1) 63 1 0 0, r0 63 (.iload_n 2) 64, r0 64 (.ishl) 65, r0 65 (.iconst 0) 66,
  rX 66 (.invokevirtual 394) 69 236 0 1739, rX 69 (.ifCond .eq 7) 72 76 0 0, rX 72 (.iconst 1) 73 1 0 0, rX 73 (.goto 4) 76 77 0 0, r0 76 (.iconst 0) 77, r0 77 (.ireturn) 78, r0 78 (.aload_n 0) 79, r0 79 (.iload_n 2) 80,
  rX 80 (.invokevirtual 400) 83 234 0 1751, rX 83 (.ifCond .eq 25) 86 108 0 0, r0 86 (.aload_n 0) 87, rX 87 (.invokevirtual 391) 90 235 0 1734, rX 90 (.ifCond .eq 18) 93 108 0 0, r0 93 (.aload_n 0) 94, r0 94 (.iconst 0) 95, rX 95 (.iconst 1) 96 1 0 0,
  r0 96 (.iload_n 2) 97, r0 97 (.ishl) 98, rX 98 (.invokevirtual 394) 101 236 0 1739, rX 101 (.ifCond .eq 7) 104 108 0 0, rX 104 (.iconst 1) 105 1 0 0, rX 105 (.goto 4) 108 109 0 0, r0 108 (.iconst 0) 109, r0 109 (.ireturn) 110]
def T_r_supposes : List Row := [r0 0 (.aload_n 0) 1, rX 1 (.getfield 51) 4 9 47 1247, r0 4 (.iload_n 1) 5, r0 5 (.lload_n 2) 6, r0 6 (.aload_n 0) 7, rX 7 (.getfield 269) 10 9 5 1205, r0 10 (.i2l) 11, rX 11 (.lconst 1) 12 1 0 0,
  r0 12 (.ladd) 13, r0 13 (.ldiv) 14, r0 14 (.lastore) 15, r0 15 (.lload_n 2) 16, r0 16 (.aload_n 0) 17, rX 17 (.getfield 269) 20 9 5 1205, r0 20 (.i2l) 21, rX 21 (.lconst 1) 22 1 0 0,
  r0 22 (.ladd) 23, r0 23 (.lrem) 24, r0 24 (.lconst 0) 25, r0 25 (.lcmp) 26, rX 26 (.ifCond .ne 7) 29 33 0 0, rX 29 (.iconst 1) 30 1 0 0, rX 30 (.goto 4) 33 34 0 0, r0 33 (.iconst 0) 34,
  r0 34 (.ireturn) 35]
def T_r_supposesFine : List Row := [rX 0 (.iconst 1) 1 1 0 0, r0 1 (.istore_n 1) 2, r0 2 (.iconst 0) 3, r0 3 (.istore_n 2) 4, rH 4 (.iload_n 2) 5 0 0 0 0, r0 5 (.aload_n 0) 6, rX 6 (.getfield 269) 9 9 5 1205, rX 9 (.if_icmp .ge 32) 12 41 0 0,
  r0 12 (.aload_n 0) 13, r0 13 (.iload_n 2) 14, r0 14 (.aload_n 0) 15, r0 15 (.iload_n 2) 16, rX 16 (.invokevirtual 355) 19 213 0 1634, rX 19 (.invokevirtual 403) 22 231 0 1730, rX 22 (.ifCond .eq 11) 25 33 0 0, r0 25 (.iload_n 1) 26,
  rX 26 (.ifCond .eq 7) 29 33 0 0, rX 29 (.iconst 1) 30 1 0 0, rX 30 (.goto 4) 33 34 0 0, r0 33 (.iconst 0) 34, r0 34 (.istore_n 1) 35, rX 35 (.iinc 2 1) 38 1 0 0, rX 38 (.goto (-34)) 41 4 0 0, r0 41 (.iload_n 1) 42,
  r0 42 (.ireturn) 43]
def T_r_supposesOpen : List Row := [rX 0 (.iconst 1) 1 1 0 0, r0 1 (.istore_n 2) 2, r0 2 (.iconst 0) 3, r0 3 (.istore_n 3) 4, rH 4 (.iload_n 3) 5 0 0 0 0, r0 5 (.aload_n 0) 6, rX 6 (.getfield 269) 9 9 5 1205, rX 9 (.if_icmp .ge 67) 12 76 0 0,
  r0 12 (.iload_n 3) 13, r0 13 (.iload_n 1) 14, rX 14 (.if_icmp .ne 23) 17 37 0 0, r0 17 (.aload_n 0) 18, r0 18 (.iload_n 1) 19, rX 19 (.invokevirtual 355) 22 213 0 1634, r0 22 (.aload_n 0) 23, rX 23 (.getfield 269) 26 9 5 1205,
  r0 26 (.i2l) 27, rX 27 (.lconst 1) 28 1 0 0, r0 28 (.ladd) 29, rX 29 (.ldc2_w 350) 32 2 0 1639, r0 32 (.ldiv) 33, r0 33 (.lmul) 34, rX 34 (.goto 14) 37 48 0 0, r0 37 (.aload_n 0) 38,
  r0 38 (.iload_n 3) 39, rX 39 (.invokevirtual 355) 42 213 0 1634, r0 42 (.aload_n 0) 43, r0 43 (.iload_n 1) 44, rX 44 (.invokevirtual 355) 47 213 0 1634, r0 47 (.lsub) 48, r0 48 (.lstore 4) 50, r0 50 (.aload_n 0) 51,
  r0 51 (.iload_n 3) 52, r0 52 (.lload 4) 54, rX 54 (.invokevirtual 403) 57 231 0 1730, rX 57 (.ifCond .eq 11) 60 68 0 0, r0 60 (.iload_n 2) 61, rX 61 (.ifCond .eq 7) 64 68 0 0, rX 64 (.iconst 1) 65 1 0 0, rX 65 (.goto 4) 68 69 0 0,
  r0 68 (.iconst 0) 69, r0 69 (.istore_n 2) 70, rX 70 (.iinc 3 1) 73 1 0 0, rX 73 (.goto (-69)) 76 4 0 0, r0 76 (.iload_n 2) 77, r0 77 (.ireturn) 78]
def T_r_supposesShut : List Row := [r0 0 (.aload_n 0) 1, rX 1 (.invokevirtual 387) 4 232 0 1726, r0 4 (.istore_n 2) 5, r0 5 (.lconst 0) 6, r0 6 (.lstore_n 3) 7, r0 7 (.iconst 0) 8, r0 8 (.istore 5) 10, rH 10 (.iload 5) 12 0 0 0 0,
  r0 12 (.aload_n 0) 13, rX 13 (.getfield 269) 16 9 5 1205, rX 16 (.if_icmp .ge 19) 19 35 0 0, r0 19 (.lload_n 3) 20, r0 20 (.aload_n 0) 21, rX 21 (.getfield 51) 24 9 47 1247, r0 24 (.iload 5) 26, r0 26 (.laload) 27,
  r0 27 (.ladd) 28, r0 28 (.lstore_n 3) 29, rX 29 (.iinc 5 1) 32 1 0 0, rX 32 (.goto (-22)) 35 10 0 0, r0 35 (.aload_n 0) 36, rX 36 (.getfield 51) 39 9 47 1247, r0 39 (.iload_n 1) 40, r0 40 (.dup2) 41,
  r0 41 (.laload) 42, r0 42 (.aload_n 0) 43, rX 43 (.invokevirtual 308) 46 185 0 1521, r0 46 (.i2l) 47, r0 47 (.lload_n 3) 48, r0 48 (.lsub) 49, r0 49 (.ladd) 50, r0 50 (.lastore) 51,
  r0 51 (.iload_n 2) 52, r0 52 (.ireturn) 53]
def T_r_areLights : List Row := [r0 0 (.lconst 0) 1, r0 1 (.lstore_n 1) 2, r0 2 (.iconst 0) 3, r0 3 (.istore_n 3) 4, rH 4 (.iload_n 3) 5 0 0 0 0, r0 5 (.aload_n 0) 6, rX 6 (.getfield 269) 9 9 5 1205, rX 9 (.if_icmp .ge 44) 12 53 0 0,
  r0 12 (.aload_n 0) 13, rX 13 (.getfield 51) 16 9 47 1247, r0 16 (.iload_n 3) 17, r0 17 (.laload) 18, r0 18 (.lconst 0) 19, r0 19 (.lcmp) 20, rX 20 (.ifCond .lt 16) 23 36 0 0, r0 23 (.aload_n 0) 24,
  rX 24 (.getfield 51) 27 9 47 1247, r0 27 (.iload_n 3) 28, r0 28 (.laload) 29, rX 29 (.ldc2_w 407) 32 9999 0 1738, r0 32 (.lcmp) 33, rX 33 (.ifCond .le 5) 36 38 0 0, r0 36 (.iconst 0) 37, r0 37 (.ireturn) 38,
  r0 38 (.lload_n 1) 39, r0 39 (.aload_n 0) 40, rX 40 (.getfield 51) 43 9 47 1247, r0 43 (.iload_n 3) 44, r0 44 (.laload) 45, r0 45 (.ladd) 46, r0 46 (.lstore_n 1) 47, rX 47 (.iinc 3 1) 50 1 0 0,
  rX 50 (.goto (-46)) 53 4 0 0, r0 53 (.lload_n 1) 54, r0 54 (.aload_n 0) 55, rX 55 (.invokevirtual 308) 58 185 0 1521, r0 58 (.i2l) 59, r0 59 (.lcmp) 60, rX 60 (.ifCond .ne 7) 63 67 0 0, rX 63 (.iconst 1) 64 1 0 0,
  rX 64 (.goto 4) 67 68 0 0, r0 67 (.iconst 0) 68, r0 68 (.ireturn) 69]
def T_r_areSeen : List Row := [r0 0 (.iconst 0) 1, r0 1 (.istore_n 3) 2, rH 2 (.iload_n 3) 3 0 0 0 0, r0 3 (.aload_n 0) 4, rX 4 (.getfield 269) 7 9 5 1205, rX 7 (.if_icmp .ge 34) 10 41 0 0, r0 10 (.aload_n 0) 11, r0 11 (.aload_n 0) 12,
  rX 12 (.getfield 13) 15 9 10 1210, r0 15 (.iload_n 3) 16, r0 16 (.iaload) 17, r0 17 (.iload_n 1) 18, r0 18 (.iload_n 2) 19, rX 19 (.invokevirtual 409) 22 237 0 1743, r0 22 (.aload_n 0) 23, rX 23 (.getfield 48) 26 9 42 1242,
  r0 26 (.iload_n 3) 27, r0 27 (.iaload) 28, r0 28 (.i2l) 29, r0 29 (.lcmp) 30, rX 30 (.ifCond .eq 5) 33 35 0 0, r0 33 (.iconst 0) 34, r0 34 (.ireturn) 35, rX 35 (.iinc 3 1) 38 1 0 0,
  rX 38 (.goto (-36)) 41 2 0 0, r0 41 (.iconst 0) 42, r0 42 (.istore_n 3) 43, rH 43 (.iload_n 3) 44 0 0 0 0, r0 44 (.aload_n 0) 45, rX 45 (.getfield 324) 48 9 43 1243, rX 48 (.if_icmp .ge 34) 51 82 0 0, r0 51 (.aload_n 0) 52,
  r0 52 (.aload_n 0) 53, rX 53 (.getfield 42) 56 9 40 1240, r0 56 (.iload_n 3) 57, r0 57 (.iaload) 58, r0 58 (.iload_n 1) 59, r0 59 (.iload_n 2) 60, rX 60 (.invokevirtual 409) 63 237 0 1743, r0 63 (.aload_n 0) 64,
  rX 64 (.getfield 45) 67 9 41 1241, r0 67 (.iload_n 3) 68, r0 68 (.iaload) 69, r0 69 (.i2l) 70, r0 70 (.lcmp) 71, rX 71 (.ifCond .eq 5) 74 76 0 0, r0 74 (.iconst 0) 75, r0 75 (.ireturn) 76,
  rX 76 (.iinc 3 1) 79 1 0 0, rX 79 (.goto (-36)) 82 43 0 0, rX 82 (.iconst 1) 83 1 0 0, r0 83 (.ireturn) 84]
def T_r_supposedRead : List Row := [r0 0 (.iload_n 1) 1, r0 1 (.iload_n 2) 2, r0 2 (.ior) 3, r0 3 (.iload_n 3) 4, rX 4 (.iconst (-1)) 5 1 1 0, r0 5 (.ixor) 6, r0 6 (.iand) 7, r0 7 (.istore 4) 9,
  r0 9 (.aload_n 0) 10, rX 10 (.getfield 279) 13 9 7 1207, r0 13 (.i2l) 14, r0 14 (.lstore 5) 16, r0 16 (.iconst 0) 17, r0 17 (.istore 7) 19, rH 19 (.iload 7) 21 0 0 0 0, r0 21 (.aload_n 0) 22,
  rX 22 (.getfield 269) 25 9 5 1205, rX 25 (.if_icmp .ge 31) 28 56 0 0, r0 28 (.iload 4) 30, r0 30 (.iload 7) 32, rX 32 (.invokestatic 161) 35 152 1 1459, rX 35 (.ifCond .eq 15) 38 50 0 0, r0 38 (.lload 5) 40, r0 40 (.aload_n 0) 41,
  rX 41 (.getfield 51) 44 9 47 1247, r0 44 (.iload 7) 46, r0 46 (.laload) 47, r0 47 (.ladd) 48, r0 48 (.lstore 5) 50, rX 50 (.iinc 7 1) 53 1 0 0, rX 53 (.goto (-34)) 56 19 0 0, r0 56 (.lload 5) 58,
  r0 58 (.lreturn) 59]
def T_r_refusesSuspects : List Row := [r0 0 (.iload_n 1) 1, rX 1 (.ifCond .ne 7) 4 8 0 0, rX 4 (.iconst 1) 5 1 0 0, rX 5 (.goto 25) 8 30 0 0, r0 8 (.aload_n 0) 9, rX 9 (.getfield 327) 12 9 46 1246, rX 12 (.ifCond .eq 17) 15 29 0 0, r0 15 (.aload_n 0) 16,
  rX 16 (.getfield 29) 19 9 27 1227, rX 19 (.bipush 62) 21 62 0 0, r0 21 (.iaload) 22, rX 22 (.ifCond .ne 7) 25 29 0 0, r0 25 (.iconst 0) 26, rX 26 (.goto 4) 29 30 0 0, rX 29 (.iconst 5) 30 5 0 0, r0 30 (.ireturn) 31]
def T_r_suspectNumber : List Row := [r0 0 (.iconst 0) 1, r0 1 (.istore_n 2) 2, r0 2 (.iconst 0) 3, r0 3 (.istore_n 3) 4, rH 4 (.iload_n 3) 5 0 0 0 0, rX 5 (.iconst 2) 6 2 0 0, r0 6 (.aload_n 0) 7, rX 7 (.getfield 269) 10 9 5 1205,
  r0 10 (.imul) 11, rX 11 (.if_icmp .gt 30) 14 41 0 0, r0 14 (.aload_n 0) 15, r0 15 (.iload_n 3) 16, rX 16 (.invokevirtual 413) 19 230 0 1722, rX 19 (.ifCond .ne 6) 22 25 0 0, rX 22 (.goto 13) 25 35 0 0, r0 25 (.iload_n 2) 26,
  r0 26 (.iload_n 1) 27, rX 27 (.if_icmp .ne 5) 30 32 0 0, r0 30 (.iload_n 3) 31, r0 31 (.ireturn) 32, rX 32 (.iinc 2 1) 35 1 0 0, rX 35 (.iinc 3 1) 38 1 0 0, rX 38 (.goto (-34)) 41 4 0 0, rX 41 (.iconst (-1)) 42 1 1 0,
  r0 42 (.ireturn) 43]
def T_r_suspects : List Row := [r0 0 (.aload_n 0) 1, r0 1 (.iconst 0) 2, rX 2 (.putfield 68) 5 9 0 1200, r0 5 (.aload_n 0) 6, r0 6 (.aload_n 0) 7, rX 7 (.getfield 272) 10 9 26 1226, rX 10 (.invokevirtual 416) 13 238 0 1718, r0 13 (.istore_n 1) 14,
  r0 14 (.iload_n 1) 15, rX 15 (.ifCond .le 9) 18 24 0 0, r0 18 (.aload_n 0) 19, r0 19 (.iload_n 1) 20, rX 20 (.invokevirtual 74) 23 148 0 1375, r0 23 (.ireturn) 24, r0 24 (.iconst 0) 25, r0 25 (.istore_n 2) 26,
  r0 26 (.iconst 0) 27, r0 27 (.istore_n 3) 28, rH 28 (.iload_n 3) 29 0 0 0 0, rX 29 (.iconst 2) 30 2 0 0, r0 30 (.aload_n 0) 31, rX 31 (.getfield 269) 34 9 5 1205, r0 34 (.imul) 35, rX 35 (.if_icmp .gt 25) 38 60 0 0,
  r0 38 (.iload_n 2) 39, r0 39 (.aload_n 0) 40, r0 40 (.iload_n 3) 41, rX 41 (.invokevirtual 413) 44 230 0 1722, rX 44 (.ifCond .eq 7) 47 51 0 0, rX 47 (.iconst 1) 48 1 0 0, rX 48 (.goto 4) 51 52 0 0, r0 51 (.iconst 0) 52,
  r0 52 (.iadd) 53, r0 53 (.istore_n 2) 54, rX 54 (.iinc 3 1) 57 1 0 0, rX 57 (.goto (-29)) 60 28 0 0, r0 60 (.aload_n 0) 61, r0 61 (.iload_n 2) 62, rX 62 (.invokevirtual 93) 65 150 0 1505, r0 65 (.ireturn) 66]
def T_r_suspect : List Row := [r0 0 (.aload_n 0) 1, r0 1 (.iconst 0) 2, rX 2 (.putfield 68) 5 9 0 1200, r0 5 (.aload_n 0) 6, r0 6 (.aload_n 0) 7, rX 7 (.getfield 272) 10 9 26 1226, rX 10 (.invokevirtual 416) 13 238 0 1718, r0 13 (.istore_n 2) 14,
  r0 14 (.iload_n 2) 15, rX 15 (.ifCond .le 9) 18 24 0 0, r0 18 (.aload_n 0) 19, r0 19 (.iload_n 2) 20, rX 20 (.invokevirtual 74) 23 148 0 1375, r0 23 (.ireturn) 24, r0 24 (.iload_n 1) 25, rX 25 (.ifCond .ge 7) 28 32 0 0,
  rX 28 (.iconst (-1)) 29 1 1 0, rX 29 (.goto 8) 32 37 0 0, r0 32 (.aload_n 0) 33, r0 33 (.iload_n 1) 34, rX 34 (.invokevirtual 419) 37 239 0 1759, r0 37 (.istore_n 3) 38, r0 38 (.iload_n 3) 39, rX 39 (.iconst (-1)) 40 1 1 0,
  rX 40 (.if_icmp .ne 11) 43 51 0 0, r0 43 (.aload_n 0) 44, rX 44 (.iconst 1) 45 1 0 0, rX 45 (.invokevirtual 74) 48 148 0 1375, rX 48 (.goto 8) 51 56 0 0, r0 51 (.aload_n 0) 52, r0 52 (.iload_n 3) 53, rX 53 (.invokevirtual 93) 56 150 0 1505,
  r0 56 (.ireturn) 57]
def T_r_supposed : List Row := [r0 0 (.aload_n 0) 1, r0 1 (.iconst 0) 2, rX 2 (.putfield 68) 5 9 0 1200, r0 5 (.aload_n 0) 6, r0 6 (.aload_n 0) 7, r0 7 (.iload_n 2) 8, rX 8 (.invokevirtual 314) 11 187 0 1532, rX 11 (.invokevirtual 416) 14 238 0 1718,
  r0 14 (.istore_n 3) 15, r0 15 (.iload_n 3) 16, rX 16 (.ifCond .le 9) 19 25 0 0, r0 19 (.aload_n 0) 20, r0 20 (.iload_n 3) 21, rX 21 (.invokevirtual 74) 24 148 0 1375, r0 24 (.ireturn) 25, r0 25 (.iload_n 1) 26,
  rX 26 (.ifCond .lt 12) 29 38 0 0, r0 29 (.aload_n 0) 30, r0 30 (.iload_n 1) 31, rX 31 (.invokevirtual 419) 34 239 0 1759, rX 34 (.iconst (-1)) 35 1 1 0, rX 35 (.if_icmp .ne 9) 38 44 0 0, r0 38 (.aload_n 0) 39, rX 39 (.iconst 1) 40 1 0 0,
  rX 40 (.invokevirtual 74) 43 148 0 1375, r0 43 (.ireturn) 44, r0 44 (.aload_n 0) 45, r0 45 (.aload_n 0) 46, rX 46 (.getfield 51) 49 9 47 1247, r0 49 (.iload_n 2) 50, r0 50 (.laload) 51, r0 51 (.l2i) 52,
  rX 52 (.invokevirtual 93) 55 150 0 1505, r0 55 (.ireturn) 56]
def T_r_puts : List Row := [r0 0 (.aload_n 0) 1, r0 1 (.lload_n 3) 2, r0 2 (.lload 5) 4, rX 4 (.invokevirtual 366) 7 155 0 1644, r0 7 (.aload_n 0) 8, rX 8 (.getfield 55) 11 9 48 1248, rX 11 (.bipush 44) 13 44 0 0, r0 13 (.iload_n 1) 14,
  r0 14 (.imul) 15, r0 15 (.iload_n 2) 16, r0 16 (.iadd) 17, r0 17 (.aload_n 0) 18, rX 18 (.getfield 86) 21 9 3 1203, r0 21 (.lastore) 22, r0 22 (.aload_n 0) 23, rX 23 (.getfield 58) 26 9 49 1249,
  rX 26 (.bipush 44) 28 44 0 0, r0 28 (.iload_n 1) 29, r0 29 (.imul) 30, r0 30 (.iload_n 2) 31, r0 31 (.iadd) 32, r0 32 (.aload_n 0) 33, rX 33 (.getfield 90) 36 9 4 1204, r0 36 (.lastore) 37,
  r0 37 (.return_) 38]
def T_r_clears : List Row := [r0 0 (.aload_n 0) 1, rX 1 (.getfield 55) 4 9 48 1248, rX 4 (.bipush 44) 6 44 0 0, r0 6 (.iload_n 1) 7, r0 7 (.imul) 8, r0 8 (.iload_n 3) 9, r0 9 (.iadd) 10, r0 10 (.laload) 11,
  r0 11 (.lstore 4) 13, r0 13 (.aload_n 0) 14, rX 14 (.getfield 58) 17 9 49 1249, rX 17 (.bipush 44) 19 44 0 0, r0 19 (.iload_n 1) 20, r0 20 (.imul) 21, r0 21 (.iload_n 3) 22, r0 22 (.iadd) 23,
  r0 23 (.laload) 24, r0 24 (.lstore 6) 26, r0 26 (.lload 4) 28, r0 28 (.lconst 0) 29, r0 29 (.lcmp) 30, rX 30 (.ifCond .ne 4) 33 34 0 0, r0 33 (.return_) 34, r0 34 (.iconst 0) 35,
  r0 35 (.istore 8) 37, rH 37 (.iload 8) 39 0 0 0 0, rX 39 (.bipush 44) 41 44 0 0, rX 41 (.if_icmp .ge 170) 44 211 0 0, r0 44 (.aload_n 0) 45, rX 45 (.getfield 55) 48 9 48 1248, rX 48 (.bipush 44) 50 44 0 0, r0 50 (.iload_n 2) 51,
  r0 51 (.imul) 52, r0 52 (.iload 8) 54, r0 54 (.iadd) 55, r0 55 (.laload) 56, r0 56 (.lstore 9) 58, r0 58 (.lload 9) 60, r0 60 (.lconst 0) 61, r0 61 (.lcmp) 62,
  rX 62 (.ifCond .ne 6) 65 68 0 0, rX 65 (.goto 140) 68 205 0 0, r0 68 (.aload_n 0) 69, rX 69 (.getfield 58) 72 9 49 1249, rX 72 (.bipush 44) 74 44 0 0, r0 74 (.iload_n 2) 75, r0 75 (.imul) 76, r0 76 (.iload 8) 78,
  r0 78 (.iadd) 79, r0 79 (.laload) 80, r0 80 (.lload 6) 82, r0 82 (.lmul) 83, r0 83 (.lload 9) 85, r0 85 (.lload 4) 87, r0 87 (.lmul) 88, r0 88 (.aload_n 0) 89,
  rX 89 (.getfield 58) 92 9 49 1249, rX 92 (.bipush 44) 94 44 0 0, r0 94 (.iload_n 2) 95, r0 95 (.imul) 96, r0 96 (.iload 8) 98, r0 98 (.iadd) 99, r0 99 (.laload) 100, r0 100 (.lload 6) 102,
  r0 102 (.lmul) 103, rX 103 (.invokestatic 82) 106 154 1 1648, r0 106 (.ldiv) 107, r0 107 (.lstore 11) 109, r0 109 (.lload 9) 111, r0 111 (.lload 4) 113, r0 113 (.lmul) 114, r0 114 (.lload 9) 116,
  r0 116 (.lload 4) 118, r0 118 (.lmul) 119, r0 119 (.aload_n 0) 120, rX 120 (.getfield 58) 123 9 49 1249, rX 123 (.bipush 44) 125 44 0 0, r0 125 (.iload_n 2) 126, r0 126 (.imul) 127, r0 127 (.iload 8) 129,
  r0 129 (.iadd) 130, r0 130 (.laload) 131, r0 131 (.lload 6) 133, r0 133 (.lmul) 134, rX 134 (.invokestatic 82) 137 154 1 1648, r0 137 (.ldiv) 138, r0 138 (.lstore 13) 140, r0 140 (.aload_n 0) 141,
  rX 141 (.getfield 58) 144 9 49 1249, rX 144 (.bipush 44) 146 44 0 0, r0 146 (.iload_n 1) 147, r0 147 (.imul) 148, r0 148 (.iload 8) 150, r0 150 (.iadd) 151, r0 151 (.laload) 152, r0 152 (.lstore 15) 154,
  r0 154 (.lload 15) 156, r0 156 (.lload 15) 158, r0 158 (.lload 11) 160, rX 160 (.invokestatic 82) 163 154 1 1648, r0 163 (.ldiv) 164, r0 164 (.lload 11) 166, r0 166 (.lmul) 167, r0 167 (.lstore 17) 169,
  r0 169 (.aload_n 0) 170, r0 170 (.iload_n 1) 171, r0 171 (.iload 8) 173, r0 173 (.aload_n 0) 174, rX 174 (.getfield 55) 177 9 48 1248, rX 177 (.bipush 44) 179 44 0 0, r0 179 (.iload_n 1) 180, r0 180 (.imul) 181,
  r0 181 (.iload 8) 183, r0 183 (.iadd) 184, r0 184 (.laload) 185, r0 185 (.lload 17) 187, r0 187 (.lload 15) 189, r0 189 (.ldiv) 190, r0 190 (.lmul) 191, r0 191 (.lload 13) 193,
  r0 193 (.lload 17) 195, r0 195 (.lload 11) 197, r0 197 (.ldiv) 198, r0 198 (.lmul) 199, r0 199 (.lsub) 200, r0 200 (.lload 17) 202, rX 202 (.invokevirtual 422) 205 243 0 1779, rX 205 (.iinc 8 1) 208 1 0 0,
  rX 208 (.goto (-171)) 211 37 0 0, r0 211 (.return_) 212]
def T_r_laysRows : List Row := [r0 0 (.aload_n 0) 1, r0 1 (.iconst 0) 2, rX 2 (.putfield 426) 5 9 51 1251, r0 5 (.aload_n 0) 6, rX 6 (.iconst 1) 7 1 0 0, rX 7 (.putfield 429) 10 9 52 1252, r0 10 (.iconst 0) 11, r0 11 (.istore_n 1) 12,
  rH 12 (.iload_n 1) 13 0 0 0 0, r0 13 (.aload_n 0) 14, rX 14 (.getfield 283) 17 9 9 1209, rX 17 (.if_icmp .ge 202) 20 219 0 0, r0 20 (.iconst 0) 21, r0 21 (.istore_n 2) 22, rH 22 (.iload_n 2) 23 0 0 0 0, rX 23 (.bipush 44) 25 44 0 0,
  rX 25 (.if_icmp .ge 74) 28 99 0 0, r0 28 (.aload_n 0) 29, r0 29 (.aload_n 0) 30, rX 30 (.getfield 426) 33 9 51 1251, r0 33 (.iload_n 2) 34, r0 34 (.iload_n 2) 35, rX 35 (.bipush 31) 37 31 0 0, rX 37 (.if_icmp .ne 17) 40 54 0 0,
  r0 40 (.aload_n 0) 41, r0 41 (.aload_n 0) 42, rX 42 (.getfield 20) 45 9 12 1212, r0 45 (.iload_n 1) 46, r0 46 (.iaload) 47, rX 47 (.invokevirtual 330) 50 199 0 1581, r0 50 (.i2l) 51, rX 51 (.goto 38) 54 89 0 0,
  r0 54 (.iload_n 2) 55, rX 55 (.bipush 31) 57 31 0 0, rX 57 (.if_icmp .ge 19) 60 76 0 0, r0 60 (.aload_n 0) 61, rX 61 (.getfield 20) 64 9 12 1212, r0 64 (.iload_n 1) 65, r0 65 (.iaload) 66, r0 66 (.iload_n 2) 67,
  rX 67 (.invokestatic 161) 70 152 1 1459, rX 70 (.ifCond .eq 18) 73 88 0 0, rX 73 (.goto 11) 76 84 0 0, r0 76 (.iload_n 2) 77, rX 77 (.bipush 32) 79 32 0 0, r0 79 (.iload_n 1) 80, r0 80 (.iadd) 81, rX 81 (.if_icmp .ne 7) 84 88 0 0,
  rX 84 (.lconst 1) 85 1 0 0, rX 85 (.goto 4) 88 89 0 0, r0 88 (.lconst 0) 89, rX 89 (.lconst 1) 90 1 0 0, rX 90 (.invokevirtual 422) 93 243 0 1779, rX 93 (.iinc 2 1) 96 1 0 0, rX 96 (.goto (-74)) 99 22 0 0, r0 99 (.iconst 0) 100,
  r0 100 (.istore_n 2) 101, rH 101 (.iload_n 2) 102 0 0 0 0, r0 102 (.aload_n 0) 103, rX 103 (.getfield 426) 106 9 51 1251, rX 106 (.if_icmp .ge 24) 109 130 0 0, r0 109 (.aload_n 0) 110, r0 110 (.aload_n 0) 111, rX 111 (.getfield 426) 114 9 51 1251,
  r0 114 (.iload_n 2) 115, r0 115 (.aload_n 0) 116, rX 116 (.getfield 61) 119 9 50 1250, r0 119 (.iload_n 2) 120, r0 120 (.iaload) 121, rX 121 (.invokevirtual 432) 124 244 0 1783, rX 124 (.iinc 2 1) 127 1 0 0, rX 127 (.goto (-26)) 130 101 0 0,
  r0 130 (.iconst 0) 131, r0 131 (.istore_n 2) 132, rH 132 (.iload_n 2) 133 0 0 0 0, rX 133 (.bipush 31) 135 31 0 0, rX 135 (.if_icmp .ge 28) 138 163 0 0, r0 138 (.aload_n 0) 139, rX 139 (.getfield 55) 142 9 48 1248, rX 142 (.bipush 44) 144 44 0 0,
  r0 144 (.aload_n 0) 145, rX 145 (.getfield 426) 148 9 51 1251, r0 148 (.imul) 149, r0 149 (.iload_n 2) 150, r0 150 (.iadd) 151, r0 151 (.laload) 152, r0 152 (.lconst 0) 153, r0 153 (.lcmp) 154,
  rX 154 (.ifCond .ne 9) 157 163 0 0, rX 157 (.iinc 2 1) 160 1 0 0, rX 160 (.goto (-28)) 163 132 0 0, r0 163 (.iload_n 2) 164, rX 164 (.bipush 31) 166 31 0 0, rX 166 (.if_icmp .ne 42) 169 208 0 0, r0 169 (.aload_n 0) 170, r0 170 (.aload_n 0) 171,
  rX 171 (.getfield 429) 174 9 52 1252, rX 174 (.ifCond .eq 27) 177 201 0 0, r0 177 (.aload_n 0) 178, rX 178 (.getfield 55) 181 9 48 1248, rX 181 (.bipush 44) 183 44 0 0, r0 183 (.aload_n 0) 184, rX 184 (.getfield 426) 187 9 51 1251, r0 187 (.imul) 188,
  rX 188 (.bipush 31) 190 31 0 0, r0 190 (.iadd) 191, r0 191 (.laload) 192, r0 192 (.lconst 0) 193, r0 193 (.lcmp) 194, rX 194 (.ifCond .ne 7) 197 201 0 0, rX 197 (.iconst 1) 198 1 0 0, rX 198 (.goto 4) 201 202 0 0,
  r0 201 (.iconst 0) 202, rX 202 (.putfield 429) 205 9 52 1252, rX 205 (.goto 8) 208 213 0 0, r0 208 (.aload_n 0) 209, r0 209 (.iload_n 2) 210, rX 210 (.invokevirtual 436) 213 246 0 1787, rX 213 (.iinc 1 1) 216 1 0 0, rX 216 (.goto (-204)) 219 12 0 0,
  r0 219 (.return_) 220]
def T_r_laysRow : List Row := [r0 0 (.aload_n 0) 1, rX 1 (.getfield 55) 4 9 48 1248, rX 4 (.bipush 44) 6 44 0 0, r0 6 (.aload_n 0) 7, rX 7 (.getfield 426) 10 9 51 1251, r0 10 (.imul) 11, r0 11 (.iload_n 1) 12, r0 12 (.iadd) 13,
  r0 13 (.laload) 14, r0 14 (.lstore_n 2) 15, r0 15 (.aload_n 0) 16, rX 16 (.getfield 58) 19 9 49 1249, rX 19 (.bipush 44) 21 44 0 0, r0 21 (.aload_n 0) 22, rX 22 (.getfield 426) 25 9 51 1251, r0 25 (.imul) 26,
  r0 26 (.iload_n 1) 27, r0 27 (.iadd) 28, r0 28 (.laload) 29, r0 29 (.lstore 4) 31, r0 31 (.lload_n 2) 32, r0 32 (.lconst 0) 33, r0 33 (.lcmp) 34, rX 34 (.ifCond .ge 9) 37 43 0 0,
  rX 37 (.ldc2_w 439) 40 1 1 1791, rX 40 (.goto 4) 43 44 0 0, rX 43 (.lconst 1) 44 1 0 0, r0 44 (.lstore 6) 46, r0 46 (.iconst 0) 47, r0 47 (.istore 8) 49, rH 49 (.iload 8) 51 0 0 0 0, rX 51 (.bipush 44) 53 44 0 0,
  rX 53 (.if_icmp .ge 60) 56 113 0 0, r0 56 (.aload_n 0) 57, r0 57 (.aload_n 0) 58, rX 58 (.getfield 426) 61 9 51 1251, r0 61 (.iload 8) 63, r0 63 (.aload_n 0) 64, rX 64 (.getfield 55) 67 9 48 1248, rX 67 (.bipush 44) 69 44 0 0,
  r0 69 (.aload_n 0) 70, rX 70 (.getfield 426) 73 9 51 1251, r0 73 (.imul) 74, r0 74 (.iload 8) 76, r0 76 (.iadd) 77, r0 77 (.laload) 78, r0 78 (.lload 4) 80, r0 80 (.lmul) 81,
  r0 81 (.lload 6) 83, r0 83 (.lmul) 84, r0 84 (.aload_n 0) 85, rX 85 (.getfield 58) 88 9 49 1249, rX 88 (.bipush 44) 90 44 0 0, r0 90 (.aload_n 0) 91, rX 91 (.getfield 426) 94 9 51 1251, r0 94 (.imul) 95,
  r0 95 (.iload 8) 97, r0 97 (.iadd) 98, r0 98 (.laload) 99, r0 99 (.lload_n 2) 100, r0 100 (.lmul) 101, r0 101 (.lload 6) 103, r0 103 (.lmul) 104, rX 104 (.invokevirtual 422) 107 243 0 1779,
  rX 107 (.iinc 8 1) 110 1 0 0, rX 110 (.goto (-61)) 113 49 0 0, r0 113 (.aload_n 0) 114, rX 114 (.getfield 61) 117 9 50 1250, r0 117 (.aload_n 0) 118, rX 118 (.getfield 426) 121 9 51 1251, r0 121 (.iload_n 1) 122, r0 122 (.iastore) 123,
  r0 123 (.iconst 0) 124, r0 124 (.istore 8) 126, rH 126 (.iload 8) 128 0 0 0 0, r0 128 (.aload_n 0) 129, rX 129 (.getfield 426) 132 9 51 1251, rX 132 (.if_icmp .ge 20) 135 152 0 0, r0 135 (.aload_n 0) 136, r0 136 (.iload 8) 138,
  r0 138 (.aload_n 0) 139, rX 139 (.getfield 426) 142 9 51 1251, r0 142 (.iload_n 1) 143, rX 143 (.invokevirtual 432) 146 244 0 1783, rX 146 (.iinc 8 1) 149 1 0 0, rX 149 (.goto (-23)) 152 126 0 0, r0 152 (.aload_n 0) 153, r0 153 (.dup) 154,
  rX 154 (.getfield 426) 157 9 51 1251, rX 157 (.iconst 1) 158 1 0 0, r0 158 (.iadd) 159, rX 159 (.putfield 426) 162 9 51 1251, r0 162 (.return_) 163]
def T_r_rowOf : List Row := [r0 0 (.iconst 0) 1, r0 1 (.istore_n 2) 2, rH 2 (.iload_n 2) 3 0 0 0 0, r0 3 (.aload_n 0) 4, rX 4 (.getfield 426) 7 9 51 1251, rX 7 (.if_icmp .ge 83) 10 90 0 0, r0 10 (.aload_n 0) 11, rX 11 (.getfield 61) 14 9 50 1250,
  r0 14 (.iload_n 2) 15, r0 15 (.iaload) 16, r0 16 (.iload_n 1) 17, rX 17 (.if_icmp .eq 6) 20 23 0 0, rX 20 (.goto 64) 23 84 0 0, rX 23 (.iconst 1) 24 1 0 0, r0 24 (.istore_n 3) 25, r0 25 (.iconst 0) 26,
  r0 26 (.istore 4) 28, rH 28 (.iload 4) 30 0 0 0 0, rX 30 (.bipush 31) 32 31 0 0, rX 32 (.if_icmp .ge 42) 35 74 0 0, r0 35 (.iload_n 3) 36, rX 36 (.ifCond .eq 30) 39 66 0 0, r0 39 (.iload 4) 41, r0 41 (.iload_n 1) 42,
  rX 42 (.if_icmp .eq 20) 45 62 0 0, r0 45 (.aload_n 0) 46, rX 46 (.getfield 55) 49 9 48 1248, rX 49 (.bipush 44) 51 44 0 0, r0 51 (.iload_n 2) 52, r0 52 (.imul) 53, r0 53 (.iload 4) 55, r0 55 (.iadd) 56,
  r0 56 (.laload) 57, r0 57 (.lconst 0) 58, r0 58 (.lcmp) 59, rX 59 (.ifCond .ne 7) 62 66 0 0, rX 62 (.iconst 1) 63 1 0 0, rX 63 (.goto 4) 66 67 0 0, r0 66 (.iconst 0) 67, r0 67 (.istore_n 3) 68,
  rX 68 (.iinc 4 1) 71 1 0 0, rX 71 (.goto (-43)) 74 28 0 0, r0 74 (.iload_n 3) 75, rX 75 (.ifCond .eq 7) 78 82 0 0, r0 78 (.iload_n 2) 79, rX 79 (.goto 4) 82 83 0 0, rX 82 (.iconst (-1)) 83 1 1 0, r0 83 (.ireturn) 84,
  rX 84 (.iinc 2 1) 87 1 0 0, rX 87 (.goto (-85)) 90 2 0 0, rX 90 (.iconst (-1)) 91 1 1 0, r0 91 (.ireturn) 92]
def T_r_mask : List Row := [r0 0 (.aload_n 0) 1, r0 1 (.iconst 0) 2, rX 2 (.putfield 68) 5 9 0 1200, r0 5 (.aload_n 0) 6, rX 6 (.getfield 272) 9 9 26 1226, rX 9 (.ifCond .eq 28) 12 37 0 0, r0 12 (.iload_n 1) 13, rX 13 (.ifCond .lt 24) 16 37 0 0,
  r0 16 (.iload_n 1) 17, r0 17 (.aload_n 0) 18, rX 18 (.getfield 283) 21 9 9 1209, rX 21 (.if_icmp .ge 16) 24 37 0 0, r0 24 (.aload_n 0) 25, r0 25 (.aload_n 0) 26, rX 26 (.getfield 20) 29 9 12 1212, r0 29 (.iload_n 1) 30,
  r0 30 (.iaload) 31, rX 31 (.invokevirtual 93) 34 150 0 1505, rX 34 (.goto 8) 37 42 0 0, r0 37 (.aload_n 0) 38, rX 38 (.iconst 1) 39 1 0 0, rX 39 (.invokevirtual 74) 42 148 0 1375, r0 42 (.ireturn) 43]
def T_r_rank : List Row := [r0 0 (.aload_n 0) 1, r0 1 (.iconst 0) 2, rX 2 (.putfield 68) 5 9 0 1200, r0 5 (.aload_n 0) 6, rX 6 (.getfield 272) 9 9 26 1226, rX 9 (.ifCond .ne 9) 12 18 0 0, r0 12 (.aload_n 0) 13, rX 13 (.iconst 1) 14 1 0 0,
  rX 14 (.invokevirtual 74) 17 148 0 1375, r0 17 (.ireturn) 18, r0 18 (.aload_n 0) 19, rX 19 (.invokevirtual 441) 22 245 0 1775, r0 22 (.aload_n 0) 23, r0 23 (.aload_n 0) 24, rX 24 (.getfield 426) 27 9 51 1251, rX 27 (.invokevirtual 93) 30 150 0 1505,
  r0 30 (.ireturn) 31]
def T_r_told : List Row := [r0 0 (.aload_n 0) 1, r0 1 (.iconst 0) 2, rX 2 (.putfield 68) 5 9 0 1200, r0 5 (.aload_n 0) 6, rX 6 (.getfield 272) 9 9 26 1226, rX 9 (.ifCond .ne 9) 12 18 0 0, r0 12 (.aload_n 0) 13, rX 13 (.iconst 1) 14 1 0 0,
  rX 14 (.invokevirtual 74) 17 148 0 1375, r0 17 (.ireturn) 18, r0 18 (.aload_n 0) 19, rX 19 (.invokevirtual 441) 22 245 0 1775, r0 22 (.iconst 0) 23, r0 23 (.istore_n 1) 24, r0 24 (.iconst 0) 25, r0 25 (.istore_n 2) 26,
  rH 26 (.iload_n 2) 27 0 0 0 0, r0 27 (.aload_n 0) 28, rX 28 (.getfield 269) 31 9 5 1205, rX 31 (.if_icmp .ge 24) 34 55 0 0, r0 34 (.aload_n 0) 35, r0 35 (.iload_n 2) 36, rX 36 (.invokevirtual 444) 39 247 0 1796, rX 39 (.iconst (-1)) 40 1 1 0,
  rX 40 (.if_icmp .eq 9) 43 49 0 0, r0 43 (.iload_n 1) 44, rX 44 (.iconst 1) 45 1 0 0, r0 45 (.iload_n 2) 46, r0 46 (.ishl) 47, r0 47 (.ior) 48, r0 48 (.istore_n 1) 49, rX 49 (.iinc 2 1) 52 1 0 0,
  rX 52 (.goto (-26)) 55 26 0 0, r0 55 (.aload_n 0) 56, r0 56 (.iload_n 1) 57, rX 57 (.invokevirtual 93) 60 150 0 1505, r0 60 (.ireturn) 61]
def T_r_solved : List Row := [r0 0 (.aload_n 0) 1, r0 1 (.iconst 0) 2, rX 2 (.putfield 68) 5 9 0 1200, r0 5 (.aload_n 0) 6, r0 6 (.iload_n 1) 7, rX 7 (.invokevirtual 314) 10 187 0 1532, rX 10 (.ifCond .ne 9) 13 19 0 0, r0 13 (.aload_n 0) 14,
  rX 14 (.iconst 1) 15 1 0 0, rX 15 (.invokevirtual 363) 18 149 0 1629, r0 18 (.lreturn) 19, r0 19 (.aload_n 0) 20, rX 20 (.invokevirtual 441) 23 245 0 1775, r0 23 (.aload_n 0) 24, r0 24 (.iload_n 1) 25, rX 25 (.invokevirtual 444) 28 247 0 1796,
  r0 28 (.istore_n 3) 29, r0 29 (.iload_n 3) 30, rX 30 (.iconst (-1)) 31 1 1 0, rX 31 (.if_icmp .ne 9) 34 40 0 0, r0 34 (.aload_n 0) 35, rX 35 (.iconst 5) 36 5 0 0, rX 36 (.invokevirtual 363) 39 149 0 1629, r0 39 (.lreturn) 40,
  r0 40 (.aload_n 0) 41, r0 41 (.aload_n 0) 42, rX 42 (.getfield 55) 45 9 48 1248, rX 45 (.bipush 44) 47 44 0 0, r0 47 (.iload_n 3) 48, r0 48 (.imul) 49, rX 49 (.bipush 31) 51 31 0 0, r0 51 (.iadd) 52,
  r0 52 (.laload) 53, r0 53 (.aload_n 0) 54, rX 54 (.getfield 58) 57 9 49 1249, rX 57 (.bipush 44) 59 44 0 0, r0 59 (.iload_n 3) 60, r0 60 (.imul) 61, rX 61 (.bipush 31) 63 31 0 0, r0 63 (.iadd) 64,
  r0 64 (.laload) 65, rX 65 (.invokevirtual 366) 68 155 0 1644, r0 68 (.aload_n 0) 69, r0 69 (.iload_n 2) 70, rX 70 (.invokevirtual 370) 73 156 0 1651, r0 73 (.lreturn) 74]
def T_r_factor : List Row := [r0 0 (.aload_n 0) 1, r0 1 (.iconst 0) 2, rX 2 (.putfield 68) 5 9 0 1200, r0 5 (.aload_n 0) 6, r0 6 (.iload_n 1) 7, rX 7 (.invokevirtual 314) 10 187 0 1532, rX 10 (.ifCond .eq 15) 13 25 0 0, r0 13 (.iload_n 2) 14,
  rX 14 (.ifCond .lt 11) 17 25 0 0, r0 17 (.iload_n 2) 18, r0 18 (.aload_n 0) 19, rX 19 (.getfield 283) 22 9 9 1209, rX 22 (.if_icmp .lt 9) 25 31 0 0, r0 25 (.aload_n 0) 26, rX 26 (.iconst 1) 27 1 0 0, rX 27 (.invokevirtual 363) 30 149 0 1629,
  r0 30 (.lreturn) 31, r0 31 (.aload_n 0) 32, rX 32 (.invokevirtual 441) 35 245 0 1775, r0 35 (.aload_n 0) 36, r0 36 (.iload_n 1) 37, rX 37 (.invokevirtual 444) 40 247 0 1796, r0 40 (.istore 4) 42, r0 42 (.iload 4) 44,
  rX 44 (.iconst (-1)) 45 1 1 0, rX 45 (.if_icmp .ne 9) 48 54 0 0, r0 48 (.aload_n 0) 49, rX 49 (.iconst 5) 50 5 0 0, rX 50 (.invokevirtual 363) 53 149 0 1629, r0 53 (.lreturn) 54, r0 54 (.aload_n 0) 55, r0 55 (.aload_n 0) 56,
  rX 56 (.getfield 55) 59 9 48 1248, rX 59 (.bipush 44) 61 44 0 0, r0 61 (.iload 4) 63, r0 63 (.imul) 64, rX 64 (.bipush 32) 66 32 0 0, r0 66 (.iadd) 67, r0 67 (.iload_n 2) 68, r0 68 (.iadd) 69,
  r0 69 (.laload) 70, r0 70 (.aload_n 0) 71, rX 71 (.getfield 58) 74 9 49 1249, rX 74 (.bipush 44) 76 44 0 0, r0 76 (.iload 4) 78, r0 78 (.imul) 79, rX 79 (.bipush 32) 81 32 0 0, r0 81 (.iadd) 82,
  r0 82 (.iload_n 2) 83, r0 83 (.iadd) 84, r0 84 (.laload) 85, rX 85 (.invokevirtual 366) 88 155 0 1644, r0 88 (.aload_n 0) 89, r0 89 (.iload_n 3) 90, rX 90 (.invokevirtual 370) 93 156 0 1651, r0 93 (.lreturn) 94]
def T_r_squaresOf : List Row := [r0 0 (.aload_n 0) 1, r0 1 (.lconst 0) 2, rX 2 (.lconst 1) 3 1 0 0, rX 3 (.invokevirtual 366) 6 155 0 1644, r0 6 (.iconst 0) 7, r0 7 (.istore_n 2) 8, rH 8 (.iload_n 2) 9 0 0 0 0, r0 9 (.aload_n 0) 10,
  rX 10 (.getfield 283) 13 9 9 1209, rX 13 (.if_icmp .ge 115) 16 128 0 0, r0 16 (.aload_n 0) 17, rX 17 (.getfield 55) 20 9 48 1248, rX 20 (.bipush 44) 22 44 0 0, r0 22 (.iload_n 1) 23, r0 23 (.imul) 24, rX 24 (.bipush 32) 26 32 0 0,
  r0 26 (.iadd) 27, r0 27 (.iload_n 2) 28, r0 28 (.iadd) 29, r0 29 (.laload) 30, r0 30 (.aload_n 0) 31, rX 31 (.getfield 55) 34 9 48 1248, rX 34 (.bipush 44) 36 44 0 0, r0 36 (.iload_n 1) 37,
  r0 37 (.imul) 38, rX 38 (.bipush 32) 40 32 0 0, r0 40 (.iadd) 41, r0 41 (.iload_n 2) 42, r0 42 (.iadd) 43, r0 43 (.laload) 44, r0 44 (.lmul) 45, r0 45 (.lstore_n 3) 46,
  r0 46 (.aload_n 0) 47, rX 47 (.getfield 58) 50 9 49 1249, rX 50 (.bipush 44) 52 44 0 0, r0 52 (.iload_n 1) 53, r0 53 (.imul) 54, rX 54 (.bipush 32) 56 32 0 0, r0 56 (.iadd) 57, r0 57 (.iload_n 2) 58,
  r0 58 (.iadd) 59, r0 59 (.laload) 60, r0 60 (.aload_n 0) 61, rX 61 (.getfield 58) 64 9 49 1249, rX 64 (.bipush 44) 66 44 0 0, r0 66 (.iload_n 1) 67, r0 67 (.imul) 68, rX 68 (.bipush 32) 70 32 0 0,
  r0 70 (.iadd) 71, r0 71 (.iload_n 2) 72, r0 72 (.iadd) 73, r0 73 (.laload) 74, r0 74 (.lmul) 75, r0 75 (.lstore 5) 77, r0 77 (.aload_n 0) 78, rX 78 (.getfield 90) 81 9 4 1204,
  r0 81 (.aload_n 0) 82, rX 82 (.getfield 90) 85 9 4 1204, r0 85 (.lload 5) 87, rX 87 (.invokestatic 82) 90 154 1 1648, r0 90 (.ldiv) 91, r0 91 (.lload 5) 93, r0 93 (.lmul) 94, r0 94 (.lstore 7) 96,
  r0 96 (.aload_n 0) 97, r0 97 (.aload_n 0) 98, rX 98 (.getfield 86) 101 9 3 1203, r0 101 (.lload 7) 103, r0 103 (.aload_n 0) 104, rX 104 (.getfield 90) 107 9 4 1204, r0 107 (.ldiv) 108, r0 108 (.lmul) 109,
  r0 109 (.lload_n 3) 110, r0 110 (.lload 7) 112, r0 112 (.lload 5) 114, r0 114 (.ldiv) 115, r0 115 (.lmul) 116, r0 116 (.ladd) 117, r0 117 (.lload 7) 119, rX 119 (.invokevirtual 366) 122 155 0 1644,
  rX 122 (.iinc 2 1) 125 1 0 0, rX 125 (.goto (-117)) 128 8 0 0, r0 128 (.return_) 129]
def T_r_shareBy : List Row := [r0 0 (.aload_n 0) 1, r0 1 (.iconst 0) 2, rX 2 (.putfield 68) 5 9 0 1200, r0 5 (.aload_n 0) 6, r0 6 (.iload_n 1) 7, rX 7 (.invokevirtual 314) 10 187 0 1532, rX 10 (.ifCond .ne 10) 13 20 0 0, r0 13 (.aload_n 0) 14,
  rX 14 (.iconst 1) 15 1 0 0, rX 15 (.invokevirtual 74) 18 148 0 1375, r0 18 (.i2l) 19, r0 19 (.lreturn) 20, r0 20 (.aload_n 0) 21, rX 21 (.invokevirtual 441) 24 245 0 1775, r0 24 (.aload_n 0) 25, r0 25 (.iload_n 1) 26,
  rX 26 (.invokevirtual 444) 29 247 0 1796, r0 29 (.istore_n 3) 30, r0 30 (.iload_n 3) 31, rX 31 (.iconst (-1)) 32 1 1 0, rX 32 (.if_icmp .ne 10) 35 42 0 0, r0 35 (.aload_n 0) 36, rX 36 (.iconst 5) 37 5 0 0, rX 37 (.invokevirtual 74) 40 148 0 1375,
  r0 40 (.i2l) 41, r0 41 (.lreturn) 42, r0 42 (.aload_n 0) 43, r0 43 (.iload_n 3) 44, rX 44 (.invokevirtual 447) 47 253 0 1812, r0 47 (.aload_n 0) 48, r0 48 (.iload_n 2) 49, rX 49 (.invokevirtual 370) 52 156 0 1651,
  r0 52 (.lreturn) 53]
def T_r_fewer : List Row := [r0 0 (.aload_n 0) 1, r0 1 (.iconst 0) 2, rX 2 (.putfield 68) 5 9 0 1200, r0 5 (.aload_n 0) 6, rX 6 (.getfield 272) 9 9 26 1226, rX 9 (.ifCond .ne 9) 12 18 0 0, r0 12 (.aload_n 0) 13, rX 13 (.iconst 1) 14 1 0 0,
  rX 14 (.invokevirtual 74) 17 148 0 1375, r0 17 (.ireturn) 18, r0 18 (.aload_n 0) 19, rX 19 (.invokevirtual 441) 22 245 0 1775, r0 22 (.iconst 0) 23, r0 23 (.istore_n 1) 24, r0 24 (.iconst 0) 25, r0 25 (.istore_n 2) 26,
  rH 26 (.iload_n 2) 27 0 0 0 0, r0 27 (.aload_n 0) 28, rX 28 (.getfield 269) 31 9 5 1205, rX 31 (.if_icmp .ge 72) 34 103 0 0, r0 34 (.aload_n 0) 35, r0 35 (.iload_n 2) 36, rX 36 (.invokevirtual 444) 39 247 0 1796, r0 39 (.istore_n 3) 40,
  r0 40 (.iload_n 3) 41, rX 41 (.iconst (-1)) 42 1 1 0, rX 42 (.if_icmp .ne 6) 45 48 0 0, rX 45 (.goto 52) 48 97 0 0, r0 48 (.aload_n 0) 49, r0 49 (.iload_n 3) 50, rX 50 (.invokevirtual 447) 53 253 0 1812, r0 53 (.aload_n 0) 54,
  rX 54 (.getfield 86) 57 9 3 1203, r0 57 (.aload_n 0) 58, rX 58 (.getfield 269) 61 9 5 1205, r0 61 (.i2l) 62, rX 62 (.lconst 1) 63 1 0 0, r0 63 (.ladd) 64, r0 64 (.aload_n 0) 65, rX 65 (.getfield 269) 68 9 5 1205,
  r0 68 (.i2l) 69, rX 69 (.lconst 1) 70 1 0 0, r0 70 (.ladd) 71, r0 71 (.lmul) 72, r0 72 (.lmul) 73, rX 73 (.ldc2_w 348) 76 4 0 1638, r0 76 (.aload_n 0) 77, rX 77 (.getfield 269) 80 9 5 1205,
  r0 80 (.i2l) 81, r0 81 (.lmul) 82, r0 82 (.aload_n 0) 83, rX 83 (.getfield 90) 86 9 4 1204, r0 86 (.lmul) 87, r0 87 (.lcmp) 88, rX 88 (.ifCond .ge 9) 91 97 0 0, r0 91 (.iload_n 1) 92,
  rX 92 (.iconst 1) 93 1 0 0, r0 93 (.iload_n 2) 94, r0 94 (.ishl) 95, r0 95 (.ior) 96, r0 96 (.istore_n 1) 97, rX 97 (.iinc 2 1) 100 1 0 0, rX 100 (.goto (-74)) 103 26 0 0, r0 103 (.aload_n 0) 104,
  r0 104 (.iload_n 1) 105, rX 105 (.invokevirtual 93) 108 150 0 1505, r0 108 (.ireturn) 109]
def T_r_agree : List Row := [r0 0 (.aload_n 0) 1, r0 1 (.iconst 0) 2, rX 2 (.putfield 68) 5 9 0 1200, r0 5 (.aload_n 0) 6, rX 6 (.getfield 272) 9 9 26 1226, rX 9 (.ifCond .ne 9) 12 18 0 0, r0 12 (.aload_n 0) 13, rX 13 (.iconst 1) 14 1 0 0,
  rX 14 (.invokevirtual 74) 17 148 0 1375, r0 17 (.ireturn) 18, r0 18 (.aload_n 0) 19, rX 19 (.invokevirtual 441) 22 245 0 1775, r0 22 (.aload_n 0) 23, r0 23 (.aload_n 0) 24, rX 24 (.getfield 429) 27 9 52 1252, rX 27 (.ifCond .eq 7) 30 34 0 0,
  rX 30 (.iconst 1) 31 1 0 0, rX 31 (.goto 4) 34 35 0 0, r0 34 (.iconst 0) 35, rX 35 (.invokevirtual 93) 38 150 0 1505, r0 38 (.ireturn) 39]
def T_r_movesTo : List Row := [r0 0 (.iload_n 1) 1, rX 1 (.iconst (-1)) 2 1 1 0, rX 2 (.if_icmp .ne 7) 5 9 0 0, r0 5 (.iconst 0) 6, rX 6 (.goto 9) 9 15 0 0, r0 9 (.aload_n 0) 10, rX 10 (.getfield 20) 13 9 12 1212, r0 13 (.iload_n 1) 14,
  r0 14 (.iaload) 15, r0 15 (.aload_n 0) 16, rX 16 (.getfield 20) 19 9 12 1212, r0 19 (.iload_n 2) 20, r0 20 (.iaload) 21, r0 21 (.ixor) 22, rX 22 (.invokestatic 311) 25 153 1 1525, r0 25 (.ireturn) 26]
def T_r_goes : List Row := [r0 0 (.iload_n 2) 1, rX 1 (.ifCond .ne 7) 4 8 0 0, r0 4 (.iconst 0) 5, rX 5 (.goto 6) 8 11 0 0, rX 8 (.ldc_w 450) 11 2147483647 0 1836, r0 11 (.istore_n 3) 12, r0 12 (.iconst 0) 13, r0 13 (.istore 4) 15,
  rH 15 (.iload 4) 17 0 0 0 0, r0 17 (.aload_n 0) 18, rX 18 (.getfield 283) 21 9 9 1209, rX 21 (.if_icmp .ge 57) 24 78 0 0, r0 24 (.iload_n 2) 25, r0 25 (.iload 4) 27, rX 27 (.invokestatic 161) 30 152 1 1459, rX 30 (.ifCond .ne 6) 33 36 0 0,
  rX 33 (.goto 39) 36 72 0 0, r0 36 (.aload_n 0) 37, r0 37 (.iload_n 1) 38, r0 38 (.iload 4) 40, rX 40 (.invokevirtual 451) 43 257 0 1837, r0 43 (.aload_n 0) 44, rX 44 (.getfield 65) 47 9 53 1253, rX 47 (.bipush 12) 49 12 0 0,
  r0 49 (.iload_n 2) 50, rX 50 (.iconst 1) 51 1 0 0, r0 51 (.iload 4) 53, r0 53 (.ishl) 54, r0 54 (.ixor) 55, r0 55 (.imul) 56, r0 56 (.iload 4) 58, r0 58 (.iadd) 59,
  r0 59 (.iaload) 60, r0 60 (.iadd) 61, r0 61 (.istore 5) 63, r0 63 (.iload 5) 65, r0 65 (.iload_n 3) 66, rX 66 (.if_icmp .ge 6) 69 72 0 0, r0 69 (.iload 5) 71, r0 71 (.istore_n 3) 72,
  rX 72 (.iinc 4 1) 75 1 0 0, rX 75 (.goto (-60)) 78 15 0 0, r0 78 (.iload_n 3) 79, r0 79 (.ireturn) 80]
def T_r_laysTours : List Row := [r0 0 (.iconst 0) 1, r0 1 (.istore_n 1) 2, rH 2 (.iload_n 1) 3 0 0 0 0, rX 3 (.iconst 1) 4 1 0 0, r0 4 (.aload_n 0) 5, rX 5 (.getfield 283) 8 9 9 1209, r0 8 (.ishl) 9, rX 9 (.if_icmp .ge 50) 12 59 0 0,
  r0 12 (.iconst 0) 13, r0 13 (.istore_n 2) 14, rH 14 (.iload_n 2) 15 0 0 0 0, r0 15 (.aload_n 0) 16, rX 16 (.getfield 283) 19 9 9 1209, rX 19 (.if_icmp .ge 34) 22 53 0 0, r0 22 (.iload_n 1) 23, r0 23 (.iload_n 2) 24,
  rX 24 (.invokestatic 161) 27 152 1 1459, rX 27 (.ifCond .ne 20) 30 47 0 0, r0 30 (.aload_n 0) 31, rX 31 (.getfield 65) 34 9 53 1253, rX 34 (.bipush 12) 36 12 0 0, r0 36 (.iload_n 1) 37, r0 37 (.imul) 38, r0 38 (.iload_n 2) 39,
  r0 39 (.iadd) 40, r0 40 (.aload_n 0) 41, r0 41 (.iload_n 2) 42, r0 42 (.iload_n 1) 43, rX 43 (.invokevirtual 454) 46 258 0 1832, r0 46 (.iastore) 47, rX 47 (.iinc 2 1) 50 1 0 0, rX 50 (.goto (-36)) 53 14 0 0,
  rX 53 (.iinc 1 1) 56 1 0 0, rX 56 (.goto (-54)) 59 2 0 0, r0 59 (.return_) 60]
def T_r_tour : List Row := [r0 0 (.aload_n 0) 1, r0 1 (.iconst 0) 2, rX 2 (.putfield 68) 5 9 0 1200, r0 5 (.aload_n 0) 6, rX 6 (.getfield 272) 9 9 26 1226, rX 9 (.ifCond .ne 9) 12 18 0 0, r0 12 (.aload_n 0) 13, rX 13 (.iconst 1) 14 1 0 0,
  rX 14 (.invokevirtual 74) 17 148 0 1375, r0 17 (.ireturn) 18, r0 18 (.aload_n 0) 19, rX 19 (.invokevirtual 457) 22 259 0 1828, r0 22 (.aload_n 0) 23, r0 23 (.aload_n 0) 24, rX 24 (.iconst (-1)) 25 1 1 0, rX 25 (.iconst 1) 26 1 0 0,
  r0 26 (.aload_n 0) 27, rX 27 (.getfield 283) 30 9 9 1209, r0 30 (.ishl) 31, rX 31 (.iconst 1) 32 1 0 0, r0 32 (.isub) 33, rX 33 (.invokevirtual 454) 36 258 0 1832, rX 36 (.invokevirtual 93) 39 150 0 1505, r0 39 (.ireturn) 40]
def T_r_tourAt : List Row := [r0 0 (.aload_n 0) 1, r0 1 (.iconst 0) 2, rX 2 (.putfield 68) 5 9 0 1200, r0 5 (.aload_n 0) 6, rX 6 (.getfield 272) 9 9 26 1226, rX 9 (.ifCond .eq 15) 12 24 0 0, r0 12 (.iload_n 1) 13, rX 13 (.ifCond .lt 11) 16 24 0 0,
  r0 16 (.iload_n 1) 17, r0 17 (.aload_n 0) 18, rX 18 (.getfield 283) 21 9 9 1209, rX 21 (.if_icmp .lt 9) 24 30 0 0, r0 24 (.aload_n 0) 25, rX 25 (.iconst 1) 26 1 0 0, rX 26 (.invokevirtual 74) 29 148 0 1375, r0 29 (.ireturn) 30,
  r0 30 (.aload_n 0) 31, rX 31 (.invokevirtual 457) 34 259 0 1828, rX 34 (.iconst (-1)) 35 1 1 0, r0 35 (.istore_n 2) 36, rX 36 (.iconst 1) 37 1 0 0, r0 37 (.aload_n 0) 38, rX 38 (.getfield 283) 41 9 9 1209, r0 41 (.ishl) 42,
  rX 42 (.iconst 1) 43 1 0 0, r0 43 (.isub) 44, r0 44 (.istore_n 3) 45, r0 45 (.iconst 0) 46, r0 46 (.istore 4) 48, rH 48 (.iload 4) 50 0 0 0 0, r0 50 (.iload_n 1) 51, rX 51 (.if_icmp .gt 75) 54 126 0 0,
  r0 54 (.aload_n 0) 55, r0 55 (.iload_n 2) 56, r0 56 (.iload_n 3) 57, rX 57 (.invokevirtual 454) 60 258 0 1832, r0 60 (.istore 5) 62, r0 62 (.iconst 0) 63, r0 63 (.istore 6) 65, rH 65 (.iload_n 3) 66 0 0 0 0,
  r0 66 (.iload 6) 68, rX 68 (.invokestatic 161) 71 152 1 1459, rX 71 (.ifCond .eq 33) 74 104 0 0, r0 74 (.aload_n 0) 75, r0 75 (.iload_n 2) 76, r0 76 (.iload 6) 78, rX 78 (.invokevirtual 451) 81 257 0 1837, r0 81 (.aload_n 0) 82,
  rX 82 (.getfield 65) 85 9 53 1253, rX 85 (.bipush 12) 87 12 0 0, r0 87 (.iload_n 3) 88, rX 88 (.iconst 1) 89 1 0 0, r0 89 (.iload 6) 91, r0 91 (.ishl) 92, r0 92 (.ixor) 93, r0 93 (.imul) 94,
  r0 94 (.iload 6) 96, r0 96 (.iadd) 97, r0 97 (.iaload) 98, r0 98 (.iadd) 99, r0 99 (.iload 5) 101, rX 101 (.if_icmp .le 9) 104 110 0 0, rX 104 (.iinc 6 1) 107 1 0 0, rX 107 (.goto (-42)) 110 65 0 0,
  r0 110 (.iload_n 3) 111, rX 111 (.iconst 1) 112 1 0 0, r0 112 (.iload 6) 114, r0 114 (.ishl) 115, r0 115 (.ixor) 116, r0 116 (.istore_n 3) 117, r0 117 (.iload 6) 119, r0 119 (.istore_n 2) 120,
  rX 120 (.iinc 4 1) 123 1 0 0, rX 123 (.goto (-75)) 126 48 0 0, r0 126 (.aload_n 0) 127, r0 127 (.iload_n 2) 128, rX 128 (.invokevirtual 93) 131 150 0 1505, r0 131 (.ireturn) 132]
def T_r_sign : List Row := [r0 0 (.aload_n 0) 1, r0 1 (.iconst 0) 2, rX 2 (.putfield 68) 5 9 0 1200, r0 5 (.iload_n 1) 6, r0 6 (.iconst 0) 7, rX 7 (.bipush 9) 9 9 0 0, rX 9 (.invokestatic 114) 12 151 1 1391, rX 12 (.ifCond .eq 29) 15 41 0 0,
  r0 15 (.iload_n 2) 16, r0 16 (.iconst 0) 17, rX 17 (.iconst 1) 18 1 0 0, r0 18 (.iload_n 1) 19, r0 19 (.ishl) 20, rX 20 (.iconst 1) 21 1 0 0, r0 21 (.isub) 22, rX 22 (.invokestatic 114) 25 151 1 1391,
  rX 25 (.ifCond .eq 16) 28 41 0 0, r0 28 (.iload_n 3) 29, r0 29 (.iconst 0) 30, rX 30 (.iconst 1) 31 1 0 0, r0 31 (.iload_n 1) 32, r0 32 (.ishl) 33, rX 33 (.iconst 1) 34 1 0 0, r0 34 (.isub) 35,
  rX 35 (.invokestatic 114) 38 151 1 1391, rX 38 (.ifCond .ne 11) 41 49 0 0, r0 41 (.aload_n 0) 42, rX 42 (.iconst 2) 43 2 0 0, rX 43 (.invokevirtual 74) 46 148 0 1375, r0 46 (.pop) 47, r0 47 (.iconst 0) 48, r0 48 (.ireturn) 49,
  r0 49 (.aload_n 0) 50, r0 50 (.iload_n 1) 51, r0 51 (.iload_n 2) 52, r0 52 (.iload_n 3) 53, rX 53 (.invokestatic 304) 56 263 1 1494, rX 56 (.invokevirtual 93) 59 150 0 1505, r0 59 (.ireturn) 60]
def T_r_signAt : List Row := [rX 0 (.iconst 1) 1 1 0 0, r0 1 (.istore_n 3) 2, r0 2 (.iload_n 1) 3, r0 3 (.istore 4) 5, r0 5 (.iload_n 2) 6, r0 6 (.istore 5) 8, rX 8 (.iconst 1) 9 1 0 0, r0 9 (.iload_n 0) 10,
  r0 10 (.ishl) 11, rX 11 (.iconst 1) 12 1 0 0, r0 12 (.ishr) 13, r0 13 (.istore 6) 15, rH 15 (.iload 6) 17 0 0 0 0, rX 17 (.ifCond .le 43) 20 60 0 0, r0 20 (.iload 4) 22, r0 22 (.iload 6) 24,
  rX 24 (.if_icmp .lt 13) 27 37 0 0, r0 27 (.iload 5) 29, r0 29 (.iload 6) 31, rX 31 (.if_icmp .lt 6) 34 37 0 0, r0 34 (.iload_n 3) 35, r0 35 (.ineg) 36, r0 36 (.istore_n 3) 37, r0 37 (.iload 4) 39,
  r0 39 (.iload 6) 41, r0 41 (.irem) 42, r0 42 (.istore 4) 44, r0 44 (.iload 5) 46, r0 46 (.iload 6) 48, r0 48 (.irem) 49, r0 49 (.istore 5) 51, r0 51 (.iload 6) 53,
  rX 53 (.iconst 1) 54 1 0 0, r0 54 (.ishr) 55, r0 55 (.istore 6) 57, rX 57 (.goto (-42)) 60 15 0 0, r0 60 (.iload_n 3) 61, r0 61 (.ireturn) 62]
def T_r_remembers : List Row := [r0 0 (.aload_n 0) 1, rX 1 (.getfield 298) 4 9 30 1230, rX 4 (.bipush 10) 6 10 0 0, rX 6 (.if_icmp .ne 43) 9 49 0 0, r0 9 (.iconst 0) 10, r0 10 (.istore_n 1) 11, rH 11 (.iload_n 1) 12 0 0 0 0, rX 12 (.sipush 567) 15 567 0 0,
  rX 15 (.if_icmp .ge 24) 18 39 0 0, r0 18 (.aload_n 0) 19, rX 19 (.getfield 35) 22 9 29 1229, r0 22 (.iload_n 1) 23, r0 23 (.aload_n 0) 24, rX 24 (.getfield 35) 27 9 29 1229, r0 27 (.iload_n 1) 28, rX 28 (.bipush 63) 30 63 0 0,
  r0 30 (.iadd) 31, r0 31 (.iaload) 32, r0 32 (.iastore) 33, rX 33 (.iinc 1 1) 36 1 0 0, rX 36 (.goto (-25)) 39 11 0 0, r0 39 (.aload_n 0) 40, r0 40 (.dup) 41, rX 41 (.getfield 298) 44 9 30 1230,
  rX 44 (.iconst 1) 45 1 0 0, r0 45 (.isub) 46, rX 46 (.putfield 298) 49 9 30 1230, r0 49 (.iconst 0) 50, r0 50 (.istore_n 1) 51, rH 51 (.iload_n 1) 52 0 0 0 0, rX 52 (.bipush 63) 54 63 0 0, rX 54 (.if_icmp .ge 29) 57 83 0 0,
  r0 57 (.aload_n 0) 58, rX 58 (.getfield 35) 61 9 29 1229, rX 61 (.bipush 63) 63 63 0 0, r0 63 (.aload_n 0) 64, rX 64 (.getfield 298) 67 9 30 1230, r0 67 (.imul) 68, r0 68 (.iload_n 1) 69, r0 69 (.iadd) 70,
  r0 70 (.aload_n 0) 71, rX 71 (.getfield 29) 74 9 27 1227, r0 74 (.iload_n 1) 75, r0 75 (.iaload) 76, r0 76 (.iastore) 77, rX 77 (.iinc 1 1) 80 1 0 0, rX 80 (.goto (-29)) 83 51 0 0, r0 83 (.aload_n 0) 84,
  r0 84 (.dup) 85, rX 85 (.getfield 298) 88 9 30 1230, rX 88 (.iconst 1) 89 1 0 0, r0 89 (.iadd) 90, rX 90 (.putfield 298) 93 9 30 1230, r0 93 (.aload_n 0) 94, rX 94 (.invokevirtual 301) 97 198 0 1501, r0 97 (.return_) 98]
def T_r_changed : List Row := [r0 0 (.aload_n 0) 1, rX 1 (.invokevirtual 460) 4 264 0 1857, r0 4 (.aload_n 0) 5, rX 5 (.getfield 29) 8 9 27 1227, r0 8 (.iload_n 1) 9, r0 9 (.iaload) 10, r0 10 (.istore_n 3) 11, r0 11 (.aload_n 0) 12,
  rX 12 (.getfield 29) 15 9 27 1227, r0 15 (.iload_n 1) 16, r0 16 (.iload_n 2) 17, r0 17 (.iastore) 18, r0 18 (.aload_n 0) 19, r0 19 (.iload_n 3) 20, rX 20 (.invokevirtual 93) 23 150 0 1505, r0 23 (.ireturn) 24]
def T_r_shine : List Row := [r0 0 (.aload_n 0) 1, r0 1 (.iconst 0) 2, rX 2 (.putfield 68) 5 9 0 1200, r0 5 (.aload_n 0) 6, r0 6 (.iload_n 1) 7, rX 7 (.invokevirtual 314) 10 187 0 1532, rX 10 (.ifCond .ne 9) 13 19 0 0, r0 13 (.aload_n 0) 14,
  rX 14 (.iconst 1) 15 1 0 0, rX 15 (.invokevirtual 74) 18 148 0 1375, r0 18 (.ireturn) 19, r0 19 (.iload_n 2) 20, r0 20 (.iconst 0) 21, rX 21 (.sipush 9999) 24 9999 0 0, rX 24 (.invokestatic 114) 27 151 1 1391, rX 27 (.ifCond .eq 12) 30 39 0 0,
  r0 30 (.aload_n 0) 31, r0 31 (.iload_n 1) 32, r0 32 (.iload_n 2) 33, rX 33 (.invokevirtual 463) 36 265 0 1853, rX 36 (.goto 8) 39 44 0 0, r0 39 (.aload_n 0) 40, rX 40 (.iconst 2) 41 2 0 0, rX 41 (.invokevirtual 74) 44 148 0 1375,
  r0 44 (.ireturn) 45]
def T_r_stick : List Row := [r0 0 (.aload_n 0) 1, r0 1 (.iconst 0) 2, rX 2 (.putfield 68) 5 9 0 1200, r0 5 (.aload_n 0) 6, r0 6 (.iload_n 1) 7, rX 7 (.invokevirtual 314) 10 187 0 1532, rX 10 (.ifCond .ne 9) 13 19 0 0, r0 13 (.aload_n 0) 14,
  rX 14 (.iconst 1) 15 1 0 0, rX 15 (.invokevirtual 74) 18 148 0 1375, r0 18 (.ireturn) 19, r0 19 (.iload_n 2) 20, r0 20 (.iconst 0) 21, rX 21 (.iconst 2) 22 2 0 0, rX 22 (.invokestatic 114) 25 151 1 1391, rX 25 (.ifCond .eq 15) 28 40 0 0,
  r0 28 (.aload_n 0) 29, rX 29 (.bipush 31) 31 31 0 0, r0 31 (.iload_n 1) 32, r0 32 (.iadd) 33, r0 33 (.iload_n 2) 34, rX 34 (.invokevirtual 463) 37 265 0 1853, rX 37 (.goto 8) 40 45 0 0, r0 40 (.aload_n 0) 41,
  rX 41 (.iconst 2) 42 2 0 0, rX 42 (.invokevirtual 74) 45 148 0 1375, r0 45 (.ireturn) 46]
def T_r_lose : List Row := [r0 0 (.aload_n 0) 1, r0 1 (.iconst 0) 2, rX 2 (.putfield 68) 5 9 0 1200, r0 5 (.aload_n 0) 6, r0 6 (.iload_n 1) 7, rX 7 (.invokevirtual 314) 10 187 0 1532, rX 10 (.ifCond .ne 9) 13 19 0 0, r0 13 (.aload_n 0) 14,
  rX 14 (.iconst 1) 15 1 0 0, rX 15 (.invokevirtual 74) 18 148 0 1375, r0 18 (.ireturn) 19, r0 19 (.aload_n 0) 20, rX 20 (.getfield 29) 23 9 27 1227, rX 23 (.bipush 62) 25 62 0 0, r0 25 (.iaload) 26, r0 26 (.iload_n 1) 27,
  rX 27 (.invokestatic 161) 30 152 1 1459, rX 30 (.ifCond .eq 9) 33 39 0 0, r0 33 (.aload_n 0) 34, rX 34 (.iconst 5) 35 5 0 0, rX 35 (.invokevirtual 74) 38 148 0 1375, r0 38 (.ireturn) 39, r0 39 (.aload_n 0) 40, rX 40 (.bipush 62) 42 62 0 0,
  r0 42 (.aload_n 0) 43, rX 43 (.getfield 29) 46 9 27 1227, rX 46 (.bipush 62) 48 62 0 0, r0 48 (.iaload) 49, rX 49 (.iconst 1) 50 1 0 0, r0 50 (.iload_n 1) 51, r0 51 (.ishl) 52, r0 52 (.ior) 53,
  rX 53 (.invokevirtual 463) 56 265 0 1853, r0 56 (.pop) 57, r0 57 (.aload_n 0) 58, r0 58 (.aload_n 0) 59, rX 59 (.invokevirtual 342) 62 207 0 1609, rX 62 (.invokevirtual 93) 65 150 0 1505, r0 65 (.ireturn) 66]
def T_r_undo : List Row := [r0 0 (.aload_n 0) 1, r0 1 (.iconst 0) 2, rX 2 (.putfield 68) 5 9 0 1200, r0 5 (.aload_n 0) 6, rX 6 (.getfield 272) 9 9 26 1226, rX 9 (.ifCond .eq 10) 12 19 0 0, r0 12 (.aload_n 0) 13, rX 13 (.getfield 298) 16 9 30 1230,
  rX 16 (.ifCond .ne 11) 19 27 0 0, r0 19 (.aload_n 0) 20, rX 20 (.iconst 1) 21 1 0 0, rX 21 (.invokevirtual 74) 24 148 0 1375, r0 24 (.pop) 25, r0 25 (.iconst 0) 26, r0 26 (.ireturn) 27, r0 27 (.aload_n 0) 28,
  r0 28 (.dup) 29, rX 29 (.getfield 298) 32 9 30 1230, rX 32 (.iconst 1) 33 1 0 0, r0 33 (.isub) 34, rX 34 (.putfield 298) 37 9 30 1230, r0 37 (.iconst 0) 38, r0 38 (.istore_n 1) 39, rH 39 (.iload_n 1) 40 0 0 0 0,
  rX 40 (.bipush 63) 42 63 0 0, rX 42 (.if_icmp .ge 29) 45 71 0 0, r0 45 (.aload_n 0) 46, rX 46 (.getfield 29) 49 9 27 1227, r0 49 (.iload_n 1) 50, r0 50 (.aload_n 0) 51, rX 51 (.getfield 35) 54 9 29 1229, rX 54 (.bipush 63) 56 63 0 0,
  r0 56 (.aload_n 0) 57, rX 57 (.getfield 298) 60 9 30 1230, r0 60 (.imul) 61, r0 61 (.iload_n 1) 62, r0 62 (.iadd) 63, r0 63 (.iaload) 64, r0 64 (.iastore) 65, rX 65 (.iinc 1 1) 68 1 0 0,
  rX 68 (.goto (-29)) 71 39 0 0, r0 71 (.aload_n 0) 72, rX 72 (.invokevirtual 301) 75 198 0 1501, r0 75 (.aload_n 0) 76, r0 76 (.iconst 0) 77, rX 77 (.invokevirtual 93) 80 150 0 1505, r0 80 (.pop) 81, rX 81 (.iconst 1) 82 1 0 0,
  r0 82 (.ireturn) 83]
def T_r_stuck : List Row := [r0 0 (.aload_n 0) 1, r0 1 (.iconst 0) 2, rX 2 (.putfield 68) 5 9 0 1200, r0 5 (.iconst 0) 6, r0 6 (.istore_n 2) 7, r0 7 (.iconst 0) 8, r0 8 (.istore_n 3) 9, rH 9 (.iload_n 3) 10 0 0 0 0,
  r0 10 (.aload_n 0) 11, rX 11 (.getfield 269) 14 9 5 1205, rX 14 (.if_icmp .ge 34) 17 48 0 0, r0 17 (.aload_n 0) 18, rX 18 (.getfield 29) 21 9 27 1227, rX 21 (.bipush 31) 23 31 0 0, r0 23 (.iload_n 3) 24, r0 24 (.iadd) 25,
  r0 25 (.iaload) 26, rX 26 (.ifCond .ne 6) 29 32 0 0, rX 29 (.goto 13) 32 42 0 0, r0 32 (.iload_n 2) 33, r0 33 (.iload_n 1) 34, rX 34 (.if_icmp .ne 5) 37 39 0 0, r0 37 (.iload_n 3) 38, r0 38 (.ireturn) 39,
  rX 39 (.iinc 2 1) 42 1 0 0, rX 42 (.iinc 3 1) 45 1 0 0, rX 45 (.goto (-36)) 48 9 0 0, r0 48 (.aload_n 0) 49, rX 49 (.iconst 1) 50 1 0 0, rX 50 (.putfield 68) 53 9 0 1200, r0 53 (.iconst 0) 54, r0 54 (.ireturn) 55]
def T_r_size : List Row := [r0 0 (.aload_n 0) 1, r0 1 (.iconst 0) 2, rX 2 (.putfield 68) 5 9 0 1200, r0 5 (.iload_n 1) 6, r0 6 (.tableswitch 76 0 5 #[38, 43, 48, 53, 66, 71]) 44, r0 44 (.aload_n 0) 45, rX 45 (.getfield 283) 48 9 9 1209, r0 48 (.ireturn) 49,
  r0 49 (.aload_n 0) 50, rX 50 (.invokevirtual 342) 53 207 0 1609, r0 53 (.ireturn) 54, r0 54 (.aload_n 0) 55, rX 55 (.getfield 324) 58 9 43 1243, r0 58 (.ireturn) 59, r0 59 (.aload_n 0) 60, rX 60 (.getfield 327) 63 9 46 1246,
  rX 63 (.ifCond .eq 7) 66 70 0 0, rX 66 (.iconst 1) 67 1 0 0, rX 67 (.goto 4) 70 71 0 0, r0 70 (.iconst 0) 71, r0 71 (.ireturn) 72, r0 72 (.aload_n 0) 73, rX 73 (.getfield 298) 76 9 30 1230, r0 76 (.ireturn) 77,
  r0 77 (.aload_n 0) 78, rX 78 (.getfield 260) 81 9 32 1232, r0 81 (.ireturn) 82, rX 82 (.iconst (-1)) 83 1 1 0, r0 83 (.ireturn) 84]
def T_r_trouble : List Row := [r0 0 (.aload_n 0) 1, r0 1 (.iconst 0) 2, rX 2 (.putfield 68) 5 9 0 1200, r0 5 (.aload_n 0) 6, rX 6 (.getfield 71) 9 9 1 1201, r0 9 (.ireturn) 10]
def T_ji_bitCount : List Row := [r0 0 (.iload_n 0) 1, r0 1 (.iload_n 0) 2, rX 2 (.iconst 1) 3 1 0 0, r0 3 (.iushr) 4, rX 4 (.ldc_w 265) 7 1431655765 0 596, r0 7 (.iand) 8, r0 8 (.isub) 9, r0 9 (.istore_n 0) 10,
  r0 10 (.iload_n 0) 11, rX 11 (.ldc_w 266) 14 858993459 0 597, r0 14 (.iand) 15, r0 15 (.iload_n 0) 16, rX 16 (.iconst 2) 17 2 0 0, r0 17 (.iushr) 18, rX 18 (.ldc_w 266) 21 858993459 0 597, r0 21 (.iand) 22,
  r0 22 (.iadd) 23, r0 23 (.istore_n 0) 24, r0 24 (.iload_n 0) 25, r0 25 (.iload_n 0) 26, rX 26 (.iconst 4) 27 4 0 0, r0 27 (.iushr) 28, r0 28 (.iadd) 29, rX 29 (.ldc_w 267) 32 252645135 0 598,
  r0 32 (.iand) 33, r0 33 (.istore_n 0) 34, r0 34 (.iload_n 0) 35, r0 35 (.iload_n 0) 36, rX 36 (.bipush 8) 38 8 0 0, r0 38 (.iushr) 39, r0 39 (.iadd) 40, r0 40 (.istore_n 0) 41,
  r0 41 (.iload_n 0) 42, r0 42 (.iload_n 0) 43, rX 43 (.bipush 16) 45 16 0 0, r0 45 (.iushr) 46, r0 46 (.iadd) 47, r0 47 (.istore_n 0) 48, r0 48 (.iload_n 0) 49, rX 49 (.bipush 63) 51 63 0 0,
  r0 51 (.iand) 52, r0 52 (.ireturn) 53]
def T_js_length : List Row := [r0 0 (.aload_n 0) 1, rX 1 (.getfield 9) 4 90 0 1899, r0 4 (.arraylength) 5, r0 5 (.aload_n 0) 6, rX 6 (.invokevirtual 335) 9 276 0 518, r0 9 (.ishr) 10, r0 10 (.ireturn) 11]
def T_js_charAt : List Row := [r0 0 (.aload_n 0) 1, rX 1 (.invokevirtual 492) 4 277 0 528, rX 4 (.ifCond .eq 12) 7 16 0 0, r0 7 (.aload_n 0) 8, rX 8 (.getfield 9) 11 90 0 1899, r0 11 (.iload_n 1) 12, rX 12 (.invokestatic 495) 15 279 1 532, r0 15 (.ireturn) 16,
  r0 16 (.aload_n 0) 17, rX 17 (.getfield 9) 20 90 0 1899, r0 20 (.iload_n 1) 21, rX 21 (.invokestatic 498) 24 9999 9 0, r0 24 (.ireturn) 25]
def T_js_coder : List Row := [rX 0 (.getstatic 38) 3 0 0 522, rX 3 (.ifCond .eq 10) 6 13 0 0, r0 6 (.aload_n 0) 7, rX 7 (.getfield 15) 10 90 1 1900, rX 10 (.goto 4) 13 14 0 0, rX 13 (.iconst 1) 14 1 0 0, r0 14 (.ireturn) 15]
def T_js_isLatin1 : List Row := [rX 0 (.getstatic 38) 3 0 0 522, rX 3 (.ifCond .eq 14) 6 17 0 0, r0 6 (.aload_n 0) 7, rX 7 (.getfield 15) 10 90 1 1900, rX 10 (.ifCond .ne 7) 13 17 0 0, rX 13 (.iconst 1) 14 1 0 0, rX 14 (.goto 4) 17 18 0 0, r0 17 (.iconst 0) 18,
  r0 18 (.ireturn) 19]
def T_js_checkIndex : List Row := [r0 0 (.iload_n 0) 1, r0 1 (.iload_n 1) 2, rX 2 (.getstatic 1053) 5 2 0 538, rX 5 (.invokestatic 1059) 8 280 1 540, r0 8 (.pop) 9, r0 9 (.return_) 10]
def T_jl_charAt : List Row := [r0 0 (.iload_n 1) 1, r0 1 (.aload_n 0) 2, r0 2 (.arraylength) 3, rX 3 (.invokestatic 9) 6 278 1 535, r0 6 (.aload_n 0) 7, r0 7 (.iload_n 1) 8, r0 8 (.baload) 9, rX 9 (.sipush 255) 12 255 0 0,
  r0 12 (.iand) 13, r0 13 (.i2c) 14, r0 14 (.ireturn) 15]
def T_jp_checkIndex : List Row := [r0 0 (.iload_n 0) 1, rX 1 (.ifCond .lt 8) 4 9 0 0, r0 4 (.iload_n 0) 5, r0 5 (.iload_n 1) 6, rX 6 (.if_icmp .lt 10) 9 16 0 0, r0 9 (.aload_n 2) 10, r0 10 (.iload_n 0) 11, r0 11 (.iload_n 1) 12,
  rX 12 (.invokestatic 95) 15 9999 9 0, r0 15 (.athrow) 16, r0 16 (.iload_n 0) 17, r0 17 (.ireturn) 18]
def T_l_law_0 : List Row := [rX 0 (.new 8) 3 0 0 132, r0 3 (.dup) 4, rX 4 (.invokespecial 15) 7 84 2 134, r0 7 (.astore_n 1) 8, rX 8 (.new 16) 11 9 0 1193, r0 11 (.dup) 12, rX 12 (.invokespecial 18) 15 146 2 1195, r0 15 (.astore_n 2) 16,
  rX 16 (.iconst 1) 17 1 0 0, r0 17 (.newarray .long) 19, r0 19 (.astore_n 3) 20, r0 20 (.iconst 0) 21, r0 21 (.istore 4) 23, rH 23 (.iload 4) 25 0 0 0 0, r0 25 (.aload_n 0) 26, r0 26 (.arraylength) 27,
  rX 27 (.bipush 6) 29 6 0 0, r0 29 (.isub) 30, rX 30 (.if_icmp .gt 1754) 33 1784 0 0, r0 33 (.aload_n 0) 34, r0 34 (.iload 4) 36, r0 36 (.iaload) 37, rX 37 (.bipush 63) 39 63 0 0, r0 39 (.iand) 40,
  r0 40 (.tableswitch 1738 0 52 #[228, 301, 326, 339, 352, 377, 402, 439, 464, 489, 514, 539, 564, 589, 614, 639, 676, 689, 702, 727, 752, 806, 819, 861, 915, 957, 970, 1012, 1054, 1067, 1092, 1106, 1119, 1132, 1157, 1194, 1219, 1232, 1245, 1299, 1365, 1419, 1432, 1445, 1458, 1483, 1532, 1569, 1606, 1631, 1644, 1700, 1725]) 268, r0 268 (.aload_n 1) 269, r0 269 (.aload_n 0) 270, r0 270 (.iload 4) 272, rX 272 (.iconst 1) 273 1 0 0, r0 273 (.iadd) 274, r0 274 (.iaload) 275, r0 275 (.aload_n 0) 276,
  r0 276 (.iload 4) 278, rX 278 (.iconst 2) 279 2 0 0, r0 279 (.iadd) 280, r0 280 (.iaload) 281, r0 281 (.aload_n 0) 282, r0 282 (.iload 4) 284, rX 284 (.iconst 3) 285 3 0 0, r0 285 (.iadd) 286,
  r0 286 (.iaload) 287, r0 287 (.aload_n 0) 288, r0 288 (.iload 4) 290, rX 290 (.iconst 4) 291 4 0 0, r0 291 (.iadd) 292, r0 292 (.iaload) 293, r0 293 (.aload_n 0) 294, r0 294 (.iload 4) 296]
def T_l_law_1 : List Row := [rX 296 (.iconst 5) 297 5 0 0, r0 297 (.iadd) 298, r0 298 (.iaload) 299, rX 299 (.invokevirtual 19) 302 85 0 462, r0 302 (.aload_n 2) 303, r0 303 (.aload_n 0) 304, r0 304 (.iload 4) 306, rX 306 (.iconst 1) 307 1 0 0,
  r0 307 (.iadd) 308, r0 308 (.iaload) 309, r0 309 (.aload_n 0) 310, r0 310 (.iload 4) 312, rX 312 (.iconst 2) 313 2 0 0, r0 313 (.iadd) 314, r0 314 (.iaload) 315, r0 315 (.aload_n 0) 316,
  r0 316 (.iload 4) 318, rX 318 (.iconst 3) 319 3 0 0, r0 319 (.iadd) 320, r0 320 (.iaload) 321, r0 321 (.aload_n 0) 322, r0 322 (.iload 4) 324, rX 324 (.iconst 4) 325 4 0 0, r0 325 (.iadd) 326,
  r0 326 (.iaload) 327, r0 327 (.aload_n 0) 328, r0 328 (.iload 4) 330, rX 330 (.iconst 5) 331 5 0 0, r0 331 (.iadd) 332, r0 332 (.iaload) 333, rX 333 (.invokevirtual 23) 336 178 0 1367, rX 336 (.if_icmp .eq 1442) 339 1778 0 0,
  r0 339 (.iconst 0) 340, r0 340 (.ireturn) 341, r0 341 (.aload_n 1) 342, r0 342 (.aload_n 0) 343, r0 343 (.iload 4) 345, rX 345 (.iconst 1) 346 1 0 0, r0 346 (.iadd) 347, r0 347 (.iaload) 348,
  rX 348 (.invokevirtual 24) 351 86 0 474, r0 351 (.aload_n 2) 352, r0 352 (.aload_n 0) 353, r0 353 (.iload 4) 355, rX 355 (.iconst 1) 356 1 0 0, r0 356 (.iadd) 357, r0 357 (.iaload) 358, rX 358 (.invokevirtual 27) 361 179 0 1371]
def T_l_law_2 : List Row := [rX 361 (.if_icmp .eq 1417) 364 1778 0 0, r0 364 (.iconst 0) 365, r0 365 (.ireturn) 366, r0 366 (.aload_n 1) 367, rX 367 (.invokevirtual 28) 370 87 0 686, r0 370 (.aload_n 2) 371, rX 371 (.invokevirtual 32) 374 183 0 1509, rX 374 (.if_icmp .eq 1404) 377 1778 0 0,
  r0 377 (.iconst 0) 378, r0 378 (.ireturn) 379, r0 379 (.aload_n 1) 380, rX 380 (.invokevirtual 33) 383 88 0 690, r0 383 (.aload_n 2) 384, rX 384 (.invokevirtual 36) 387 184 0 1513, rX 387 (.if_icmp .eq 1391) 390 1778 0 0, r0 390 (.iconst 0) 391,
  r0 391 (.ireturn) 392, r0 392 (.aload_n 1) 393, r0 393 (.aload_n 0) 394, r0 394 (.iload 4) 396, rX 396 (.iconst 1) 397 1 0 0, r0 397 (.iadd) 398, r0 398 (.iaload) 399, rX 399 (.invokevirtual 37) 402 89 0 694,
  r0 402 (.aload_n 2) 403, r0 403 (.aload_n 0) 404, r0 404 (.iload 4) 406, rX 406 (.iconst 1) 407 1 0 0, r0 407 (.iadd) 408, r0 408 (.iaload) 409, rX 409 (.invokevirtual 40) 412 186 0 1517, rX 412 (.if_icmp .eq 1366) 415 1778 0 0,
  r0 415 (.iconst 0) 416, r0 416 (.ireturn) 417, r0 417 (.aload_n 1) 418, r0 418 (.aload_n 0) 419, r0 419 (.iload 4) 421, rX 421 (.iconst 1) 422 1 0 0, r0 422 (.iadd) 423, r0 423 (.iaload) 424,
  rX 424 (.invokevirtual 41) 427 90 0 706, r0 427 (.aload_n 2) 428, r0 428 (.aload_n 0) 429, r0 429 (.iload 4) 431, rX 431 (.iconst 1) 432 1 0 0, r0 432 (.iadd) 433, r0 433 (.iaload) 434, rX 434 (.invokevirtual 44) 437 189 0 1528]
def T_l_law_3 : List Row := [rX 437 (.if_icmp .eq 1341) 440 1778 0 0, r0 440 (.iconst 0) 441, r0 441 (.ireturn) 442, r0 442 (.aload_n 1) 443, r0 443 (.aload_n 0) 444, r0 444 (.iload 4) 446, rX 446 (.iconst 1) 447 1 0 0, r0 447 (.iadd) 448,
  r0 448 (.iaload) 449, r0 449 (.aload_n 0) 450, r0 450 (.iload 4) 452, rX 452 (.iconst 2) 453 2 0 0, r0 453 (.iadd) 454, r0 454 (.iaload) 455, rX 455 (.invokevirtual 45) 458 91 0 715, r0 458 (.aload_n 2) 459,
  r0 459 (.aload_n 0) 460, r0 460 (.iload 4) 462, rX 462 (.iconst 1) 463 1 0 0, r0 463 (.iadd) 464, r0 464 (.iaload) 465, r0 465 (.aload_n 0) 466, r0 466 (.iload 4) 468, rX 468 (.iconst 2) 469 2 0 0,
  r0 469 (.iadd) 470, r0 470 (.iaload) 471, rX 471 (.invokevirtual 49) 474 190 0 1536, rX 474 (.if_icmp .eq 1304) 477 1778 0 0, r0 477 (.iconst 0) 478, r0 478 (.ireturn) 479, r0 479 (.aload_n 1) 480, r0 480 (.aload_n 0) 481,
  r0 481 (.iload 4) 483, rX 483 (.iconst 1) 484 1 0 0, r0 484 (.iadd) 485, r0 485 (.iaload) 486, rX 486 (.invokevirtual 50) 489 92 0 720, r0 489 (.aload_n 2) 490, r0 490 (.aload_n 0) 491, r0 491 (.iload 4) 493,
  rX 493 (.iconst 1) 494 1 0 0, r0 494 (.iadd) 495, r0 495 (.iaload) 496, rX 496 (.invokevirtual 53) 499 191 0 1540, rX 499 (.if_icmp .eq 1279) 502 1778 0 0, r0 502 (.iconst 0) 503, r0 503 (.ireturn) 504, r0 504 (.aload_n 1) 505]
def T_l_law_4 : List Row := [r0 505 (.aload_n 0) 506, r0 506 (.iload 4) 508, rX 508 (.iconst 1) 509 1 0 0, r0 509 (.iadd) 510, r0 510 (.iaload) 511, rX 511 (.invokevirtual 54) 514 93 0 736, r0 514 (.aload_n 2) 515, r0 515 (.aload_n 0) 516,
  r0 516 (.iload 4) 518, rX 518 (.iconst 1) 519 1 0 0, r0 519 (.iadd) 520, r0 520 (.iaload) 521, rX 521 (.invokevirtual 57) 524 192 0 1548, rX 524 (.if_icmp .eq 1254) 527 1778 0 0, r0 527 (.iconst 0) 528, r0 528 (.ireturn) 529,
  r0 529 (.aload_n 1) 530, r0 530 (.aload_n 0) 531, r0 531 (.iload 4) 533, rX 533 (.iconst 1) 534 1 0 0, r0 534 (.iadd) 535, r0 535 (.iaload) 536, rX 536 (.invokevirtual 58) 539 94 0 741, r0 539 (.aload_n 2) 540,
  r0 540 (.aload_n 0) 541, r0 541 (.iload 4) 543, rX 543 (.iconst 1) 544 1 0 0, r0 544 (.iadd) 545, r0 545 (.iaload) 546, rX 546 (.invokevirtual 61) 549 193 0 1552, rX 549 (.if_icmp .eq 1229) 552 1778 0 0, r0 552 (.iconst 0) 553,
  r0 553 (.ireturn) 554, r0 554 (.aload_n 1) 555, r0 555 (.aload_n 0) 556, r0 556 (.iload 4) 558, rX 558 (.iconst 1) 559 1 0 0, r0 559 (.iadd) 560, r0 560 (.iaload) 561, rX 561 (.invokevirtual 62) 564 95 0 745,
  r0 564 (.aload_n 2) 565, r0 565 (.aload_n 0) 566, r0 566 (.iload 4) 568, rX 568 (.iconst 1) 569 1 0 0, r0 569 (.iadd) 570, r0 570 (.iaload) 571, rX 571 (.invokevirtual 65) 574 194 0 1556, rX 574 (.if_icmp .eq 1204) 577 1778 0 0]
def T_l_law_5 : List Row := [r0 577 (.iconst 0) 578, r0 578 (.ireturn) 579, r0 579 (.aload_n 1) 580, r0 580 (.aload_n 0) 581, r0 581 (.iload 4) 583, rX 583 (.iconst 1) 584 1 0 0, r0 584 (.iadd) 585, r0 585 (.iaload) 586,
  rX 586 (.invokevirtual 66) 589 96 0 749, r0 589 (.aload_n 2) 590, r0 590 (.aload_n 0) 591, r0 591 (.iload 4) 593, rX 593 (.iconst 1) 594 1 0 0, r0 594 (.iadd) 595, r0 595 (.iaload) 596, rX 596 (.invokevirtual 69) 599 195 0 1560,
  rX 599 (.if_icmp .eq 1179) 602 1778 0 0, r0 602 (.iconst 0) 603, r0 603 (.ireturn) 604, r0 604 (.aload_n 1) 605, r0 605 (.aload_n 0) 606, r0 606 (.iload 4) 608, rX 608 (.iconst 1) 609 1 0 0, r0 609 (.iadd) 610,
  r0 610 (.iaload) 611, rX 611 (.invokevirtual 70) 614 97 0 757, r0 614 (.aload_n 2) 615, r0 615 (.aload_n 0) 616, r0 616 (.iload 4) 618, rX 618 (.iconst 1) 619 1 0 0, r0 619 (.iadd) 620, r0 620 (.iaload) 621,
  rX 621 (.invokevirtual 73) 624 196 0 1564, rX 624 (.if_icmp .eq 1154) 627 1778 0 0, r0 627 (.iconst 0) 628, r0 628 (.ireturn) 629, r0 629 (.aload_n 1) 630, r0 630 (.aload_n 0) 631, r0 631 (.iload 4) 633, rX 633 (.iconst 1) 634 1 0 0,
  r0 634 (.iadd) 635, r0 635 (.iaload) 636, rX 636 (.invokevirtual 74) 639 98 0 762, r0 639 (.aload_n 2) 640, r0 640 (.aload_n 0) 641, r0 641 (.iload 4) 643, rX 643 (.iconst 1) 644 1 0 0, r0 644 (.iadd) 645]
def T_l_law_6 : List Row := [r0 645 (.iaload) 646, rX 646 (.invokevirtual 77) 649 197 0 1569, rX 649 (.if_icmp .eq 1129) 652 1778 0 0, r0 652 (.iconst 0) 653, r0 653 (.ireturn) 654, r0 654 (.aload_n 1) 655, r0 655 (.aload_n 0) 656, r0 656 (.iload 4) 658,
  rX 658 (.iconst 1) 659 1 0 0, r0 659 (.iadd) 660, r0 660 (.iaload) 661, rX 661 (.invokevirtual 78) 664 99 0 770, r0 664 (.aload_n 2) 665, r0 665 (.aload_n 0) 666, r0 666 (.iload 4) 668, rX 668 (.iconst 1) 669 1 0 0,
  r0 669 (.iadd) 670, r0 670 (.iaload) 671, rX 671 (.invokevirtual 81) 674 201 0 1573, rX 674 (.if_icmp .eq 1104) 677 1778 0 0, r0 677 (.iconst 0) 678, r0 678 (.ireturn) 679, r0 679 (.aload_n 1) 680, r0 680 (.aload_n 0) 681,
  r0 681 (.iload 4) 683, rX 683 (.iconst 1) 684 1 0 0, r0 684 (.iadd) 685, r0 685 (.iaload) 686, r0 686 (.aload_n 0) 687, r0 687 (.iload 4) 689, rX 689 (.iconst 2) 690 2 0 0, r0 690 (.iadd) 691,
  r0 691 (.iaload) 692, rX 692 (.invokevirtual 82) 695 100 0 786, r0 695 (.aload_n 2) 696, r0 696 (.aload_n 0) 697, r0 697 (.iload 4) 699, rX 699 (.iconst 1) 700 1 0 0, r0 700 (.iadd) 701, r0 701 (.iaload) 702,
  r0 702 (.aload_n 0) 703, r0 703 (.iload 4) 705, rX 705 (.iconst 2) 706 2 0 0, r0 706 (.iadd) 707, r0 707 (.iaload) 708, rX 708 (.invokevirtual 85) 711 202 0 1585, rX 711 (.if_icmp .eq 1067) 714 1778 0 0, r0 714 (.iconst 0) 715]
def T_l_law_7 : List Row := [r0 715 (.ireturn) 716, r0 716 (.aload_n 1) 717, rX 717 (.invokevirtual 86) 720 101 0 790, r0 720 (.aload_n 2) 721, rX 721 (.invokevirtual 89) 724 203 0 1589, rX 724 (.if_icmp .eq 1054) 727 1778 0 0, r0 727 (.iconst 0) 728, r0 728 (.ireturn) 729,
  r0 729 (.aload_n 1) 730, rX 730 (.invokevirtual 90) 733 102 0 813, r0 733 (.aload_n 2) 734, rX 734 (.invokevirtual 93) 737 204 0 1593, rX 737 (.if_icmp .eq 1041) 740 1778 0 0, r0 740 (.iconst 0) 741, r0 741 (.ireturn) 742, r0 742 (.aload_n 1) 743,
  r0 743 (.aload_n 0) 744, r0 744 (.iload 4) 746, rX 746 (.iconst 1) 747 1 0 0, r0 747 (.iadd) 748, r0 748 (.iaload) 749, rX 749 (.invokevirtual 94) 752 103 0 818, r0 752 (.aload_n 2) 753, r0 753 (.aload_n 0) 754,
  r0 754 (.iload 4) 756, rX 756 (.iconst 1) 757 1 0 0, r0 757 (.iadd) 758, r0 758 (.iaload) 759, rX 759 (.invokevirtual 97) 762 206 0 1597, rX 762 (.if_icmp .eq 1016) 765 1778 0 0, r0 765 (.iconst 0) 766, r0 766 (.ireturn) 767,
  r0 767 (.aload_n 1) 768, r0 768 (.aload_n 0) 769, r0 769 (.iload 4) 771, rX 771 (.iconst 1) 772 1 0 0, r0 772 (.iadd) 773, r0 773 (.iaload) 774, rX 774 (.invokevirtual 98) 777 104 0 822, r0 777 (.aload_n 2) 778,
  r0 778 (.aload_n 0) 779, r0 779 (.iload 4) 781, rX 781 (.iconst 1) 782 1 0 0, r0 782 (.iadd) 783, r0 783 (.iaload) 784, rX 784 (.invokevirtual 101) 787 210 0 1605, rX 787 (.if_icmp .eq 991) 790 1778 0 0, r0 790 (.iconst 0) 791]
def T_l_law_8 : List Row := [r0 791 (.ireturn) 792, r0 792 (.aload_n 1) 793, r0 793 (.aload_n 0) 794, r0 794 (.iload 4) 796, rX 796 (.iconst 1) 797 1 0 0, r0 797 (.iadd) 798, r0 798 (.iaload) 799, r0 799 (.aload_n 0) 800,
  r0 800 (.iload 4) 802, rX 802 (.iconst 2) 803 2 0 0, r0 803 (.iadd) 804, r0 804 (.iaload) 805, rX 805 (.ifCond .eq 7) 808 812 0 0, rX 808 (.iconst 1) 809 1 0 0, rX 809 (.goto 4) 812 813 0 0, r0 812 (.iconst 0) 813,
  rX 813 (.invokevirtual 102) 816 105 0 827, r0 816 (.aload_n 2) 817, r0 817 (.aload_n 0) 818, r0 818 (.iload 4) 820, rX 820 (.iconst 1) 821 1 0 0, r0 821 (.iadd) 822, r0 822 (.iaload) 823, r0 823 (.aload_n 0) 824,
  r0 824 (.iload 4) 826, rX 826 (.iconst 2) 827 2 0 0, r0 827 (.iadd) 828, r0 828 (.iaload) 829, rX 829 (.ifCond .eq 7) 832 836 0 0, rX 832 (.iconst 1) 833 1 0 0, rX 833 (.goto 4) 836 837 0 0, r0 836 (.iconst 0) 837,
  rX 837 (.invokevirtual 106) 840 215 0 1621, r0 840 (.lcmp) 841, rX 841 (.ifCond .eq 937) 844 1778 0 0, r0 844 (.iconst 0) 845, r0 845 (.ireturn) 846, r0 846 (.aload_n 1) 847, rX 847 (.invokevirtual 107) 850 106 0 853, r0 850 (.aload_n 2) 851,
  rX 851 (.invokevirtual 110) 854 216 0 1655, rX 854 (.if_icmp .eq 924) 857 1778 0 0, r0 857 (.iconst 0) 858, r0 858 (.ireturn) 859, r0 859 (.aload_n 1) 860, r0 860 (.aload_n 0) 861, r0 861 (.iload 4) 863, rX 863 (.iconst 1) 864 1 0 0]
def T_l_law_9 : List Row := [r0 864 (.iadd) 865, r0 865 (.iaload) 866, rX 866 (.ifCond .eq 7) 869 873 0 0, rX 869 (.iconst 1) 870 1 0 0, rX 870 (.goto 4) 873 874 0 0, r0 873 (.iconst 0) 874, rX 874 (.invokevirtual 111) 877 107 0 860, r0 877 (.aload_n 2) 878,
  r0 878 (.aload_n 0) 879, r0 879 (.iload 4) 881, rX 881 (.iconst 1) 882 1 0 0, r0 882 (.iadd) 883, r0 883 (.iaload) 884, rX 884 (.ifCond .eq 7) 887 891 0 0, rX 887 (.iconst 1) 888 1 0 0, rX 888 (.goto 4) 891 892 0 0,
  r0 891 (.iconst 0) 892, rX 892 (.invokevirtual 115) 895 217 0 1659, r0 895 (.lcmp) 896, rX 896 (.ifCond .eq 882) 899 1778 0 0, r0 899 (.iconst 0) 900, r0 900 (.ireturn) 901, r0 901 (.aload_n 1) 902, r0 902 (.aload_n 0) 903,
  r0 903 (.iload 4) 905, rX 905 (.iconst 1) 906 1 0 0, r0 906 (.iadd) 907, r0 907 (.iaload) 908, r0 908 (.aload_n 0) 909, r0 909 (.iload 4) 911, rX 911 (.iconst 2) 912 2 0 0, r0 912 (.iadd) 913,
  r0 913 (.iaload) 914, rX 914 (.ifCond .eq 7) 917 921 0 0, rX 917 (.iconst 1) 918 1 0 0, rX 918 (.goto 4) 921 922 0 0, r0 921 (.iconst 0) 922, rX 922 (.invokevirtual 116) 925 108 0 864, r0 925 (.aload_n 2) 926, r0 926 (.aload_n 0) 927,
  r0 927 (.iload 4) 929, rX 929 (.iconst 1) 930 1 0 0, r0 930 (.iadd) 931, r0 931 (.iaload) 932, r0 932 (.aload_n 0) 933, r0 933 (.iload 4) 935, rX 935 (.iconst 2) 936 2 0 0, r0 936 (.iadd) 937]
def T_l_law_10 : List Row := [r0 937 (.iaload) 938, rX 938 (.ifCond .eq 7) 941 945 0 0, rX 941 (.iconst 1) 942 1 0 0, rX 942 (.goto 4) 945 946 0 0, r0 945 (.iconst 0) 946, rX 946 (.invokevirtual 119) 949 218 0 1667, r0 949 (.lcmp) 950, rX 950 (.ifCond .eq 828) 953 1778 0 0,
  r0 953 (.iconst 0) 954, r0 954 (.ireturn) 955, r0 955 (.aload_n 1) 956, r0 956 (.aload_n 0) 957, r0 957 (.iload 4) 959, rX 959 (.iconst 1) 960 1 0 0, r0 960 (.iadd) 961, r0 961 (.iaload) 962,
  rX 962 (.ifCond .eq 7) 965 969 0 0, rX 965 (.iconst 1) 966 1 0 0, rX 966 (.goto 4) 969 970 0 0, r0 969 (.iconst 0) 970, rX 970 (.invokevirtual 120) 973 109 0 874, r0 973 (.aload_n 2) 974, r0 974 (.aload_n 0) 975, r0 975 (.iload 4) 977,
  rX 977 (.iconst 1) 978 1 0 0, r0 978 (.iadd) 979, r0 979 (.iaload) 980, rX 980 (.ifCond .eq 7) 983 987 0 0, rX 983 (.iconst 1) 984 1 0 0, rX 984 (.goto 4) 987 988 0 0, r0 987 (.iconst 0) 988, rX 988 (.invokevirtual 123) 991 219 0 1671,
  r0 991 (.lcmp) 992, rX 992 (.ifCond .eq 786) 995 1778 0 0, r0 995 (.iconst 0) 996, r0 996 (.ireturn) 997, r0 997 (.aload_n 1) 998, rX 998 (.invokevirtual 124) 1001 110 0 883, r0 1001 (.aload_n 2) 1002, rX 1002 (.invokevirtual 127) 1005 221 0 1675,
  rX 1005 (.if_icmp .eq 773) 1008 1778 0 0, r0 1008 (.iconst 0) 1009, r0 1009 (.ireturn) 1010, r0 1010 (.aload_n 1) 1011, r0 1011 (.aload_n 0) 1012, r0 1012 (.iload 4) 1014, rX 1014 (.iconst 1) 1015 1 0 0, r0 1015 (.iadd) 1016]
def T_l_law_11 : List Row := [r0 1016 (.iaload) 1017, rX 1017 (.ifCond .eq 7) 1020 1024 0 0, rX 1020 (.iconst 1) 1021 1 0 0, rX 1021 (.goto 4) 1024 1025 0 0, r0 1024 (.iconst 0) 1025, rX 1025 (.invokevirtual 128) 1028 111 0 889, r0 1028 (.aload_n 2) 1029, r0 1029 (.aload_n 0) 1030,
  r0 1030 (.iload 4) 1032, rX 1032 (.iconst 1) 1033 1 0 0, r0 1033 (.iadd) 1034, r0 1034 (.iaload) 1035, rX 1035 (.ifCond .eq 7) 1038 1042 0 0, rX 1038 (.iconst 1) 1039 1 0 0, rX 1039 (.goto 4) 1042 1043 0 0, r0 1042 (.iconst 0) 1043,
  rX 1043 (.invokevirtual 131) 1046 222 0 1682, r0 1046 (.lcmp) 1047, rX 1047 (.ifCond .eq 731) 1050 1778 0 0, r0 1050 (.iconst 0) 1051, r0 1051 (.ireturn) 1052, r0 1052 (.aload_n 1) 1053, r0 1053 (.aload_n 0) 1054, r0 1054 (.iload 4) 1056,
  rX 1056 (.iconst 1) 1057 1 0 0, r0 1057 (.iadd) 1058, r0 1058 (.iaload) 1059, rX 1059 (.ifCond .eq 7) 1062 1066 0 0, rX 1062 (.iconst 1) 1063 1 0 0, rX 1063 (.goto 4) 1066 1067 0 0, r0 1066 (.iconst 0) 1067, rX 1067 (.invokevirtual 132) 1070 112 0 894,
  r0 1070 (.aload_n 2) 1071, r0 1071 (.aload_n 0) 1072, r0 1072 (.iload 4) 1074, rX 1074 (.iconst 1) 1075 1 0 0, r0 1075 (.iadd) 1076, r0 1076 (.iaload) 1077, rX 1077 (.ifCond .eq 7) 1080 1084 0 0, rX 1080 (.iconst 1) 1081 1 0 0,
  rX 1081 (.goto 4) 1084 1085 0 0, r0 1084 (.iconst 0) 1085, rX 1085 (.invokevirtual 135) 1088 223 0 1686, r0 1088 (.lcmp) 1089, rX 1089 (.ifCond .eq 689) 1092 1778 0 0, r0 1092 (.iconst 0) 1093, r0 1093 (.ireturn) 1094, r0 1094 (.aload_n 1) 1095]
def T_l_law_12 : List Row := [rX 1095 (.invokevirtual 136) 1098 113 0 898, r0 1098 (.aload_n 2) 1099, rX 1099 (.invokevirtual 139) 1102 224 0 1690, rX 1102 (.if_icmp .eq 676) 1105 1778 0 0, r0 1105 (.iconst 0) 1106, r0 1106 (.ireturn) 1107, r0 1107 (.aload_n 1) 1108, r0 1108 (.aload_n 0) 1109,
  r0 1109 (.iload 4) 1111, rX 1111 (.iconst 1) 1112 1 0 0, r0 1112 (.iadd) 1113, r0 1113 (.iaload) 1114, rX 1114 (.invokevirtual 140) 1117 114 0 902, r0 1117 (.aload_n 2) 1118, r0 1118 (.aload_n 0) 1119, r0 1119 (.iload 4) 1121,
  rX 1121 (.iconst 1) 1122 1 0 0, r0 1122 (.iadd) 1123, r0 1123 (.iaload) 1124, rX 1124 (.invokevirtual 143) 1127 227 0 1694, rX 1127 (.if_icmp .eq 651) 1130 1778 0 0, r0 1130 (.iconst 0) 1131, r0 1131 (.ireturn) 1132, r0 1132 (.aload_n 1) 1133,
  rX 1133 (.invokevirtual 144) 1136 115 0 911, r0 1136 (.aload_n 2) 1137, rX 1137 (.invokevirtual 148) 1140 228 0 1702, r0 1140 (.lcmp) 1141, rX 1141 (.ifCond .eq 637) 1144 1778 0 0, r0 1144 (.iconst 0) 1145, r0 1145 (.ireturn) 1146, r0 1146 (.aload_n 1) 1147,
  rX 1147 (.invokevirtual 149) 1150 116 0 915, r0 1150 (.aload_n 2) 1151, rX 1151 (.invokevirtual 152) 1154 229 0 1710, rX 1154 (.if_icmp .eq 624) 1157 1778 0 0, r0 1157 (.iconst 0) 1158, r0 1158 (.ireturn) 1159, r0 1159 (.aload_n 1) 1160, rX 1160 (.invokevirtual 153) 1163 117 0 919,
  r0 1163 (.aload_n 2) 1164, rX 1164 (.invokevirtual 156) 1167 240 0 1714, rX 1167 (.if_icmp .eq 611) 1170 1778 0 0, r0 1170 (.iconst 0) 1171, r0 1171 (.ireturn) 1172, r0 1172 (.aload_n 1) 1173, r0 1173 (.aload_n 0) 1174, r0 1174 (.iload 4) 1176]
def T_l_law_13 : List Row := [rX 1176 (.iconst 1) 1177 1 0 0, r0 1177 (.iadd) 1178, r0 1178 (.iaload) 1179, rX 1179 (.invokevirtual 157) 1182 118 0 964, r0 1182 (.aload_n 2) 1183, r0 1183 (.aload_n 0) 1184, r0 1184 (.iload 4) 1186, rX 1186 (.iconst 1) 1187 1 0 0,
  r0 1187 (.iadd) 1188, r0 1188 (.iaload) 1189, rX 1189 (.invokevirtual 160) 1192 241 0 1755, rX 1192 (.if_icmp .eq 586) 1195 1778 0 0, r0 1195 (.iconst 0) 1196, r0 1196 (.ireturn) 1197, r0 1197 (.aload_n 1) 1198, r0 1198 (.aload_n 0) 1199,
  r0 1199 (.iload 4) 1201, rX 1201 (.iconst 1) 1202 1 0 0, r0 1202 (.iadd) 1203, r0 1203 (.iaload) 1204, r0 1204 (.aload_n 0) 1205, r0 1205 (.iload 4) 1207, rX 1207 (.iconst 2) 1208 2 0 0, r0 1208 (.iadd) 1209,
  r0 1209 (.iaload) 1210, rX 1210 (.invokevirtual 161) 1213 119 0 972, r0 1213 (.aload_n 2) 1214, r0 1214 (.aload_n 0) 1215, r0 1215 (.iload 4) 1217, rX 1217 (.iconst 1) 1218 1 0 0, r0 1218 (.iadd) 1219, r0 1219 (.iaload) 1220,
  r0 1220 (.aload_n 0) 1221, r0 1221 (.iload 4) 1223, rX 1223 (.iconst 2) 1224 2 0 0, r0 1224 (.iadd) 1225, r0 1225 (.iaload) 1226, rX 1226 (.invokevirtual 164) 1229 242 0 1763, rX 1229 (.if_icmp .eq 549) 1232 1778 0 0, r0 1232 (.iconst 0) 1233,
  r0 1233 (.ireturn) 1234, r0 1234 (.aload_n 1) 1235, r0 1235 (.aload_n 0) 1236, r0 1236 (.iload 4) 1238, rX 1238 (.iconst 1) 1239 1 0 0, r0 1239 (.iadd) 1240, r0 1240 (.iaload) 1241, rX 1241 (.invokevirtual 165) 1244 120 0 976]
def T_l_law_14 : List Row := [r0 1244 (.aload_n 2) 1245, r0 1245 (.aload_n 0) 1246, r0 1246 (.iload 4) 1248, rX 1248 (.iconst 1) 1249 1 0 0, r0 1249 (.iadd) 1250, r0 1250 (.iaload) 1251, rX 1251 (.invokevirtual 168) 1254 248 0 1767, rX 1254 (.if_icmp .eq 524) 1257 1778 0 0,
  r0 1257 (.iconst 0) 1258, r0 1258 (.ireturn) 1259, r0 1259 (.aload_n 1) 1260, rX 1260 (.invokevirtual 169) 1263 121 0 984, r0 1263 (.aload_n 2) 1264, rX 1264 (.invokevirtual 172) 1267 249 0 1771, rX 1267 (.if_icmp .eq 511) 1270 1778 0 0, r0 1270 (.iconst 0) 1271,
  r0 1271 (.ireturn) 1272, r0 1272 (.aload_n 1) 1273, rX 1273 (.invokevirtual 173) 1276 122 0 988, r0 1276 (.aload_n 2) 1277, rX 1277 (.invokevirtual 176) 1280 250 0 1792, rX 1280 (.if_icmp .eq 498) 1283 1778 0 0, r0 1283 (.iconst 0) 1284, r0 1284 (.ireturn) 1285,
  r0 1285 (.aload_n 1) 1286, r0 1286 (.aload_n 0) 1287, r0 1287 (.iload 4) 1289, rX 1289 (.iconst 1) 1290 1 0 0, r0 1290 (.iadd) 1291, r0 1291 (.iaload) 1292, r0 1292 (.aload_n 0) 1293, r0 1293 (.iload 4) 1295,
  rX 1295 (.iconst 2) 1296 2 0 0, r0 1296 (.iadd) 1297, r0 1297 (.iaload) 1298, rX 1298 (.ifCond .eq 7) 1301 1305 0 0, rX 1301 (.iconst 1) 1302 1 0 0, rX 1302 (.goto 4) 1305 1306 0 0, r0 1305 (.iconst 0) 1306, rX 1306 (.invokevirtual 177) 1309 123 0 992,
  r0 1309 (.aload_n 2) 1310, r0 1310 (.aload_n 0) 1311, r0 1311 (.iload 4) 1313, rX 1313 (.iconst 1) 1314 1 0 0, r0 1314 (.iadd) 1315, r0 1315 (.iaload) 1316, r0 1316 (.aload_n 0) 1317, r0 1317 (.iload 4) 1319]
def T_l_law_15 : List Row := [rX 1319 (.iconst 2) 1320 2 0 0, r0 1320 (.iadd) 1321, r0 1321 (.iaload) 1322, rX 1322 (.ifCond .eq 7) 1325 1329 0 0, rX 1325 (.iconst 1) 1326 1 0 0, rX 1326 (.goto 4) 1329 1330 0 0, r0 1329 (.iconst 0) 1330, rX 1330 (.invokevirtual 180) 1333 251 0 1800,
  r0 1333 (.lcmp) 1334, rX 1334 (.ifCond .eq 444) 1337 1778 0 0, r0 1337 (.iconst 0) 1338, r0 1338 (.ireturn) 1339, r0 1339 (.aload_n 1) 1340, r0 1340 (.aload_n 0) 1341, r0 1341 (.iload 4) 1343, rX 1343 (.iconst 1) 1344 1 0 0,
  r0 1344 (.iadd) 1345, r0 1345 (.iaload) 1346, r0 1346 (.aload_n 0) 1347, r0 1347 (.iload 4) 1349, rX 1349 (.iconst 2) 1350 2 0 0, r0 1350 (.iadd) 1351, r0 1351 (.iaload) 1352, r0 1352 (.aload_n 0) 1353,
  r0 1353 (.iload 4) 1355, rX 1355 (.iconst 3) 1356 3 0 0, r0 1356 (.iadd) 1357, r0 1357 (.iaload) 1358, rX 1358 (.ifCond .eq 7) 1361 1365 0 0, rX 1361 (.iconst 1) 1362 1 0 0, rX 1362 (.goto 4) 1365 1366 0 0, r0 1365 (.iconst 0) 1366,
  rX 1366 (.invokevirtual 181) 1369 124 0 1013, r0 1369 (.aload_n 2) 1370, r0 1370 (.aload_n 0) 1371, r0 1371 (.iload 4) 1373, rX 1373 (.iconst 1) 1374 1 0 0, r0 1374 (.iadd) 1375, r0 1375 (.iaload) 1376, r0 1376 (.aload_n 0) 1377,
  r0 1377 (.iload 4) 1379, rX 1379 (.iconst 2) 1380 2 0 0, r0 1380 (.iadd) 1381, r0 1381 (.iaload) 1382, r0 1382 (.aload_n 0) 1383, r0 1383 (.iload 4) 1385, rX 1385 (.iconst 3) 1386 3 0 0, r0 1386 (.iadd) 1387]
def T_l_law_16 : List Row := [r0 1387 (.iaload) 1388, rX 1388 (.ifCond .eq 7) 1391 1395 0 0, rX 1391 (.iconst 1) 1392 1 0 0, rX 1392 (.goto 4) 1395 1396 0 0, r0 1395 (.iconst 0) 1396, rX 1396 (.invokevirtual 185) 1399 252 0 1804, r0 1399 (.lcmp) 1400, rX 1400 (.ifCond .eq 378) 1403 1778 0 0,
  r0 1403 (.iconst 0) 1404, r0 1404 (.ireturn) 1405, r0 1405 (.aload_n 1) 1406, r0 1406 (.aload_n 0) 1407, r0 1407 (.iload 4) 1409, rX 1409 (.iconst 1) 1410 1 0 0, r0 1410 (.iadd) 1411, r0 1411 (.iaload) 1412,
  r0 1412 (.aload_n 0) 1413, r0 1413 (.iload 4) 1415, rX 1415 (.iconst 2) 1416 2 0 0, r0 1416 (.iadd) 1417, r0 1417 (.iaload) 1418, rX 1418 (.ifCond .eq 7) 1421 1425 0 0, rX 1421 (.iconst 1) 1422 1 0 0, rX 1422 (.goto 4) 1425 1426 0 0,
  r0 1425 (.iconst 0) 1426, rX 1426 (.invokevirtual 186) 1429 125 0 1018, r0 1429 (.aload_n 2) 1430, r0 1430 (.aload_n 0) 1431, r0 1431 (.iload 4) 1433, rX 1433 (.iconst 1) 1434 1 0 0, r0 1434 (.iadd) 1435, r0 1435 (.iaload) 1436,
  r0 1436 (.aload_n 0) 1437, r0 1437 (.iload 4) 1439, rX 1439 (.iconst 2) 1440 2 0 0, r0 1440 (.iadd) 1441, r0 1441 (.iaload) 1442, rX 1442 (.ifCond .eq 7) 1445 1449 0 0, rX 1445 (.iconst 1) 1446 1 0 0, rX 1446 (.goto 4) 1449 1450 0 0,
  r0 1449 (.iconst 0) 1450, rX 1450 (.invokevirtual 189) 1453 254 0 1808, r0 1453 (.lcmp) 1454, rX 1454 (.ifCond .eq 324) 1457 1778 0 0, r0 1457 (.iconst 0) 1458, r0 1458 (.ireturn) 1459, r0 1459 (.aload_n 1) 1460, rX 1460 (.invokevirtual 190) 1463 126 0 1026]
def T_l_law_17 : List Row := [r0 1463 (.aload_n 2) 1464, rX 1464 (.invokevirtual 193) 1467 255 0 1816, rX 1467 (.if_icmp .eq 311) 1470 1778 0 0, r0 1470 (.iconst 0) 1471, r0 1471 (.ireturn) 1472, r0 1472 (.aload_n 1) 1473, rX 1473 (.invokevirtual 194) 1476 127 0 1030, r0 1476 (.aload_n 2) 1477,
  rX 1477 (.invokevirtual 197) 1480 256 0 1820, rX 1480 (.if_icmp .eq 298) 1483 1778 0 0, r0 1483 (.iconst 0) 1484, r0 1484 (.ireturn) 1485, r0 1485 (.aload_n 1) 1486, rX 1486 (.invokevirtual 198) 1489 128 0 1039, r0 1489 (.aload_n 2) 1490, rX 1490 (.invokevirtual 201) 1493 260 0 1824,
  rX 1493 (.if_icmp .eq 285) 1496 1778 0 0, r0 1496 (.iconst 0) 1497, r0 1497 (.ireturn) 1498, r0 1498 (.aload_n 1) 1499, r0 1499 (.aload_n 0) 1500, r0 1500 (.iload 4) 1502, rX 1502 (.iconst 1) 1503 1 0 0, r0 1503 (.iadd) 1504,
  r0 1504 (.iaload) 1505, rX 1505 (.invokevirtual 202) 1508 129 0 1072, r0 1508 (.aload_n 2) 1509, r0 1509 (.aload_n 0) 1510, r0 1510 (.iload 4) 1512, rX 1512 (.iconst 1) 1513 1 0 0, r0 1513 (.iadd) 1514, r0 1514 (.iaload) 1515,
  rX 1515 (.invokevirtual 205) 1518 261 0 1841, rX 1518 (.if_icmp .eq 260) 1521 1778 0 0, r0 1521 (.iconst 0) 1522, r0 1522 (.ireturn) 1523, r0 1523 (.aload_n 1) 1524, r0 1524 (.aload_n 0) 1525, r0 1525 (.iload 4) 1527, rX 1527 (.iconst 1) 1528 1 0 0,
  r0 1528 (.iadd) 1529, r0 1529 (.iaload) 1530, r0 1530 (.aload_n 0) 1531, r0 1531 (.iload 4) 1533, rX 1533 (.iconst 2) 1534 2 0 0, r0 1534 (.iadd) 1535, r0 1535 (.iaload) 1536, r0 1536 (.aload_n 0) 1537]
def T_l_law_18 : List Row := [r0 1537 (.iload 4) 1539, rX 1539 (.iconst 3) 1540 3 0 0, r0 1540 (.iadd) 1541, r0 1541 (.iaload) 1542, rX 1542 (.invokevirtual 206) 1545 130 0 1076, r0 1545 (.aload_n 2) 1546, r0 1546 (.aload_n 0) 1547, r0 1547 (.iload 4) 1549,
  rX 1549 (.iconst 1) 1550 1 0 0, r0 1550 (.iadd) 1551, r0 1551 (.iaload) 1552, r0 1552 (.aload_n 0) 1553, r0 1553 (.iload 4) 1555, rX 1555 (.iconst 2) 1556 2 0 0, r0 1556 (.iadd) 1557, r0 1557 (.iaload) 1558,
  r0 1558 (.aload_n 0) 1559, r0 1559 (.iload 4) 1561, rX 1561 (.iconst 3) 1562 3 0 0, r0 1562 (.iadd) 1563, r0 1563 (.iaload) 1564, rX 1564 (.invokevirtual 210) 1567 262 0 1845, rX 1567 (.if_icmp .eq 211) 1570 1778 0 0, r0 1570 (.iconst 0) 1571,
  r0 1571 (.ireturn) 1572, r0 1572 (.aload_n 1) 1573, r0 1573 (.aload_n 0) 1574, r0 1574 (.iload 4) 1576, rX 1576 (.iconst 1) 1577 1 0 0, r0 1577 (.iadd) 1578, r0 1578 (.iaload) 1579, r0 1579 (.aload_n 0) 1580,
  r0 1580 (.iload 4) 1582, rX 1582 (.iconst 2) 1583 2 0 0, r0 1583 (.iadd) 1584, r0 1584 (.iaload) 1585, rX 1585 (.invokevirtual 211) 1588 131 0 1080, r0 1588 (.aload_n 2) 1589, r0 1589 (.aload_n 0) 1590, r0 1590 (.iload 4) 1592,
  rX 1592 (.iconst 1) 1593 1 0 0, r0 1593 (.iadd) 1594, r0 1594 (.iaload) 1595, r0 1595 (.aload_n 0) 1596, r0 1596 (.iload 4) 1598, rX 1598 (.iconst 2) 1599 2 0 0, r0 1599 (.iadd) 1600, r0 1600 (.iaload) 1601]
def T_l_law_19 : List Row := [rX 1601 (.invokevirtual 214) 1604 266 0 1849, rX 1604 (.if_icmp .eq 174) 1607 1778 0 0, r0 1607 (.iconst 0) 1608, r0 1608 (.ireturn) 1609, r0 1609 (.aload_n 1) 1610, r0 1610 (.aload_n 0) 1611, r0 1611 (.iload 4) 1613, rX 1613 (.iconst 1) 1614 1 0 0,
  r0 1614 (.iadd) 1615, r0 1615 (.iaload) 1616, r0 1616 (.aload_n 0) 1617, r0 1617 (.iload 4) 1619, rX 1619 (.iconst 2) 1620 2 0 0, r0 1620 (.iadd) 1621, r0 1621 (.iaload) 1622, rX 1622 (.invokevirtual 215) 1625 132 0 1093,
  r0 1625 (.aload_n 2) 1626, r0 1626 (.aload_n 0) 1627, r0 1627 (.iload 4) 1629, rX 1629 (.iconst 1) 1630 1 0 0, r0 1630 (.iadd) 1631, r0 1631 (.iaload) 1632, r0 1632 (.aload_n 0) 1633, r0 1633 (.iload 4) 1635,
  rX 1635 (.iconst 2) 1636 2 0 0, r0 1636 (.iadd) 1637, r0 1637 (.iaload) 1638, rX 1638 (.invokevirtual 218) 1641 267 0 1861, rX 1641 (.if_icmp .eq 137) 1644 1778 0 0, r0 1644 (.iconst 0) 1645, r0 1645 (.ireturn) 1646, r0 1646 (.aload_n 1) 1647,
  r0 1647 (.aload_n 0) 1648, r0 1648 (.iload 4) 1650, rX 1650 (.iconst 1) 1651 1 0 0, r0 1651 (.iadd) 1652, r0 1652 (.iaload) 1653, rX 1653 (.invokevirtual 219) 1656 133 0 1098, r0 1656 (.aload_n 2) 1657, r0 1657 (.aload_n 0) 1658,
  r0 1658 (.iload 4) 1660, rX 1660 (.iconst 1) 1661 1 0 0, r0 1661 (.iadd) 1662, r0 1662 (.iaload) 1663, rX 1663 (.invokevirtual 222) 1666 268 0 1865, rX 1666 (.if_icmp .eq 112) 1669 1778 0 0, r0 1669 (.iconst 0) 1670, r0 1670 (.ireturn) 1671]
def T_l_law_20 : List Row := [r0 1671 (.aload_n 1) 1672, rX 1672 (.invokevirtual 223) 1675 134 0 1102, r0 1675 (.aload_n 2) 1676, rX 1676 (.invokevirtual 227) 1679 269 0 1869, rX 1679 (.if_icmp .eq 99) 1682 1778 0 0, r0 1682 (.iconst 0) 1683, r0 1683 (.ireturn) 1684, r0 1684 (.aload_n 1) 1685,
  r0 1685 (.aload_n 0) 1686, r0 1686 (.iload 4) 1688, rX 1688 (.iconst 1) 1689 1 0 0, r0 1689 (.iadd) 1690, r0 1690 (.iaload) 1691, r0 1691 (.aload_n 3) 1692, rX 1692 (.invokestatic 228) 1695 9999 9 0, r0 1695 (.istore 5) 1697,
  r0 1697 (.aload_n 2) 1698, r0 1698 (.aload_n 0) 1699, r0 1699 (.iload 4) 1701, rX 1701 (.iconst 1) 1702 1 0 0, r0 1702 (.iadd) 1703, r0 1703 (.iaload) 1704, rX 1704 (.invokevirtual 233) 1707 270 0 1873, r0 1707 (.istore 6) 1709,
  r0 1709 (.aload_n 2) 1710, rX 1710 (.invokevirtual 234) 1713 147 0 1363, r0 1713 (.iload 5) 1715, rX 1715 (.if_icmp .eq 5) 1718 1720 0 0, r0 1718 (.iconst 0) 1719, r0 1719 (.ireturn) 1720, r0 1720 (.iload 5) 1722, rX 1722 (.ifCond .ne 15) 1725 1737 0 0,
  r0 1725 (.aload_n 3) 1726, r0 1726 (.iconst 0) 1727, r0 1727 (.laload) 1728, r0 1728 (.iload 6) 1730, r0 1730 (.i2l) 1731, r0 1731 (.lcmp) 1732, rX 1732 (.ifCond .eq 5) 1735 1737 0 0, r0 1735 (.iconst 0) 1736,
  r0 1736 (.ireturn) 1737, rX 1737 (.goto 41) 1740 1778 0 0, r0 1740 (.aload_n 1) 1741, r0 1741 (.aload_n 0) 1742, r0 1742 (.iload 4) 1744, rX 1744 (.iconst 1) 1745 1 0 0, r0 1745 (.iadd) 1746, r0 1746 (.iaload) 1747]
def T_l_law_21 : List Row := [rX 1747 (.invokevirtual 237) 1750 136 0 1112, r0 1750 (.aload_n 2) 1751, r0 1751 (.aload_n 0) 1752, r0 1752 (.iload 4) 1754, rX 1754 (.iconst 1) 1755 1 0 0, r0 1755 (.iadd) 1756, r0 1756 (.iaload) 1757, rX 1757 (.invokevirtual 240) 1760 271 0 1877,
  rX 1760 (.if_icmp .eq 18) 1763 1778 0 0, r0 1763 (.iconst 0) 1764, r0 1764 (.ireturn) 1765, r0 1765 (.aload_n 1) 1766, rX 1766 (.invokevirtual 241) 1769 137 0 1116, r0 1769 (.aload_n 2) 1770, rX 1770 (.invokevirtual 244) 1773 272 0 1881, rX 1773 (.if_icmp .eq 5) 1776 1778 0 0,
  r0 1776 (.iconst 0) 1777, r0 1777 (.ireturn) 1778, rX 1778 (.iinc 4 6) 1781 6 0 0, rX 1781 (.goto (-1758)) 1784 23 0 0, rX 1784 (.iconst 1) 1785 1 0 0, r0 1785 (.ireturn) 1786]
def T_l_law : List Row := T_l_law_0 ++ (T_l_law_1 ++ (T_l_law_2 ++ (T_l_law_3 ++ (T_l_law_4 ++ (T_l_law_5 ++ (T_l_law_6 ++ (T_l_law_7 ++ (T_l_law_8 ++ (T_l_law_9 ++ (T_l_law_10 ++ (T_l_law_11 ++ (T_l_law_12 ++ (T_l_law_13 ++ (T_l_law_14 ++ (T_l_law_15 ++ (T_l_law_16 ++ (T_l_law_17 ++ (T_l_law_18 ++ (T_l_law_19 ++ (T_l_law_20 ++ (T_l_law_21)))))))))))))))))))))
def M_ac_init : MT := (⟨"WeighingPlates$Acts", "<init>", "()V"⟩, prog_2_method_1_code, 1, none, T_ac_init, 1, 0, 2, 8, 407, 119, 406, 0)
def M_ac_clear : MT := (⟨"WeighingPlates$Acts", "clear", "()V"⟩, prog_2_method_2_code, 1, none, T_ac_clear, 1, 0, 0, 8, 660, 119, 658, 659)
def M_ac_note : MT := (⟨"WeighingPlates$Acts", "note", "(III)V"⟩, prog_2_method_3_code, 4, none, T_ac_note, 2, 3, 0, 8, 1087, 119, 1085, 1086)
def M_ac_dropOldest : MT := (⟨"WeighingPlates$Acts", "dropOldest", "()V"⟩, prog_2_method_4_code, 2, none, T_ac_dropOldest, 1, 0, 0, 8, 1091, 119, 1090, 42)
def M_ac_takeBack : MT := (⟨"WeighingPlates$Acts", "takeBack", "(LWeighingPlates$Bench;)V"⟩, prog_2_method_5_code, 3, none, T_ac_takeBack, 2, 1, 0, 8, 1109, 119, 1107, 1108)
def M_bn_init : MT := (⟨"WeighingPlates$Bench", "<init>", "()V"⟩, prog_3_method_1_code, 1, none, T_bn_init, 1, 0, 2, 3, 166, 114, 165, 0)
def M_bn_clear : MT := (⟨"WeighingPlates$Bench", "clear", "()V"⟩, prog_3_method_2_code, 2, none, T_bn_clear, 1, 0, 0, 3, 489, 114, 487, 488)
def M_bn_makeDoubled : MT := (⟨"WeighingPlates$Bench", "makeDoubled", "(I)V"⟩, prog_3_method_3_code, 5, none, T_bn_makeDoubled, 2, 1, 0, 3, 591, 114, 589, 590)
def M_bn_makeSquares : MT := (⟨"WeighingPlates$Bench", "makeSquares", "(I)V"⟩, prog_3_method_4_code, 6, none, T_bn_makeSquares, 1, 1, 0, 3, 602, 114, 600, 601)
def M_bn_has : MT := (⟨"WeighingPlates$Bench", "has", "(I)Z"⟩, prog_3_method_5_code, 2, some .boolean, T_bn_has, 1, 1, 0, 3, 619, 114, 617, 618)
def M_bn_hasMask : MT := (⟨"WeighingPlates$Bench", "hasMask", "(I)Z"⟩, prog_3_method_6_code, 2, some .boolean, T_bn_hasMask, 1, 1, 0, 3, 983, 114, 981, 982)
def M_bn_isSet : MT := (⟨"WeighingPlates$Bench", "isSet", "(I)Z"⟩, prog_3_method_7_code, 2, some .boolean, T_bn_isSet, 1, 1, 0, 3, 735, 114, 733, 734)
def M_bn_isLost : MT := (⟨"WeighingPlates$Bench", "isLost", "(I)Z"⟩, prog_3_method_8_code, 2, some .boolean, T_bn_isLost, 1, 1, 0, 3, 769, 114, 767, 768)
def M_bn_lostCount : MT := (⟨"WeighingPlates$Bench", "lostCount", "()I"⟩, prog_3_method_9_code, 1, some .int, T_bn_lostCount, 2, 0, 0, 3, 644, 114, 642, 643)
def M_bn_order : MT := (⟨"WeighingPlates$Bench", "order", "()J"⟩, prog_3_method_10_code, 1, some .long, T_bn_order, 1, 0, 0, 3, 843, 114, 841, 842)
def M_bn_orderSquared : MT := (⟨"WeighingPlates$Bench", "orderSquared", "()J"⟩, prog_3_method_11_code, 1, some .long, T_bn_orderSquared, 2, 0, 0, 3, 881, 114, 879, 880)
def M_bn_half : MT := (⟨"WeighingPlates$Bench", "half", "()I"⟩, prog_3_method_12_code, 1, some .int, T_bn_half, 1, 0, 0, 3, 705, 114, 703, 704)
def M_bn_monitor : MT := (⟨"WeighingPlates$Bench", "monitor", "()I"⟩, prog_3_method_13_code, 3, some .int, T_bn_monitor, 1, 0, 0, 3, 701, 114, 699, 700)
def M_bn_shutterOf : MT := (⟨"WeighingPlates$Bench", "shutterOf", "(I)I"⟩, prog_3_method_14_code, 2, some .int, T_bn_shutterOf, 1, 1, 0, 3, 756, 114, 754, 755)
def M_bn_setShutter : MT := (⟨"WeighingPlates$Bench", "setShutter", "(II)V"⟩, prog_3_method_15_code, 3, none, T_bn_setShutter, 1, 2, 0, 3, 630, 114, 628, 629)
def M_bn_readOf : MT := (⟨"WeighingPlates$Bench", "readOf", "(I)I"⟩, prog_3_method_16_code, 5, some .int, T_bn_readOf, 1, 1, 0, 3, 781, 114, 779, 780)
def M_bn_aloneOf : MT := (⟨"WeighingPlates$Bench", "aloneOf", "(I)I"⟩, prog_3_method_17_code, 2, some .int, T_bn_aloneOf, 2, 1, 0, 3, 909, 114, 907, 908)
def M_mt_init : MT := (⟨"WeighingPlates$MaskTable", "<init>", "()V"⟩, prog_4_method_1_code, 1, none, T_mt_init, 1, 0, 2, 6, 348, 117, 347, 0)
def M_mt_build : MT := (⟨"WeighingPlates$MaskTable", "build", "(LWeighingPlates$Bench;)V"⟩, prog_4_method_2_code, 3, none, T_mt_build, 3, 1, 0, 6, 664, 117, 662, 663)
def M_mt_tells : MT := (⟨"WeighingPlates$MaskTable", "tells", "(I)Z"⟩, prog_4_method_3_code, 2, some .boolean, T_mt_tells, 1, 1, 0, 6, 1003, 117, 1001, 1002)
def M_mt_times : MT := (⟨"WeighingPlates$MaskTable", "times", "(II)J"⟩, prog_4_method_4_code, 3, some .long, T_mt_times, 1, 2, 0, 6, 1011, 117, 1009, 1010)
def M_mt_squares : MT := (⟨"WeighingPlates$MaskTable", "squares", "(LWeighingPlates$Bench;I)J"⟩, prog_4_method_5_code, 6, some .long, T_mt_squares, 2, 2, 0, 6, 1025, 117, 1023, 1024)
def M_mt_sumOfLooks : MT := (⟨"WeighingPlates$MaskTable", "sumOfLooks", "(LWeighingPlates$Bench;I)J"⟩, prog_4_method_6_code, 6, some .long, T_mt_sumOfLooks, 2, 2, 0, 6, 1007, 117, 1005, 1006)
def M_mt_allAgree : MT := (⟨"WeighingPlates$MaskTable", "allAgree", "(LWeighingPlates$Bench;)Z"⟩, prog_4_method_7_code, 3, some .boolean, T_mt_allAgree, 3, 1, 0, 6, 1037, 117, 1035, 1036)
def M_mt_load : MT := (⟨"WeighingPlates$MaskTable", "load", "(LWeighingPlates$Bench;I)V"⟩, prog_4_method_8_code, 7, none, T_mt_load, 1, 2, 0, 6, 668, 117, 667, 16)
def M_mt_firstColour : MT := (⟨"WeighingPlates$MaskTable", "firstColour", "(LWeighingPlates$Bench;I)I"⟩, prog_4_method_9_code, 4, some .int, T_mt_firstColour, 1, 2, 0, 6, 672, 117, 671, 17)
def M_mt_clearPivot : MT := (⟨"WeighingPlates$MaskTable", "clearPivot", "(II)V"⟩, prog_4_method_10_code, 11, none, T_mt_clearPivot, 1, 2, 0, 6, 676, 117, 675, 18)
def M_mt_findTold : MT := (⟨"WeighingPlates$MaskTable", "findTold", "(LWeighingPlates$Bench;)V"⟩, prog_4_method_11_code, 3, none, T_mt_findTold, 2, 1, 0, 6, 680, 117, 679, 19)
def M_mt_hasOnlyPivot : MT := (⟨"WeighingPlates$MaskTable", "hasOnlyPivot", "(LWeighingPlates$Bench;I)Z"⟩, prog_4_method_12_code, 4, some .boolean, T_mt_hasOnlyPivot, 1, 2, 0, 6, 684, 117, 683, 20)
def M_ra_part : MT := (⟨"WeighingPlates$Ratio", "part", "(JJZ)J"⟩, prog_5_method_2_code, 7, some .long, T_ra_part, 2, 3, 1, 99, 846, 127, 845, 0)
def M_ra_isWhole : MT := (⟨"WeighingPlates$Ratio", "isWhole", "(JJ)Z"⟩, prog_5_method_3_code, 4, some .boolean, T_ra_isWhole, 1, 2, 1, 99, 859, 127, 858, 0)
def M_ra_commonDivisor : MT := (⟨"WeighingPlates$Ratio", "commonDivisor", "(JJ)J"⟩, prog_5_method_4_code, 11, some .long, T_ra_commonDivisor, 1, 2, 1, 99, 852, 127, 851, 0)
def M_rd_init : MT := (⟨"WeighingPlates$Reader", "<init>", "()V"⟩, prog_6_method_1_code, 1, none, T_rd_init, 2, 0, 2, 2, 160, 113, 159, 0)
def M_rd_readAll : MT := (⟨"WeighingPlates$Reader", "readAll", "([II)Z"⟩, prog_6_method_2_code, 4, some .boolean, T_rd_readAll, 9, 2, 0, 2, 485, 113, 483, 484)
def M_rd_fail : MT := (⟨"WeighingPlates$Reader", "fail", "(I)Z"⟩, prog_6_method_3_code, 2, some .boolean, T_rd_fail, 1, 1, 0, 2, 565, 113, 564, 6)
def M_rd_next : MT := (⟨"WeighingPlates$Reader", "next", "()V"⟩, prog_6_method_4_code, 3, none, T_rd_next, 2, 0, 0, 2, 496, 113, 495, 1)
def M_rd_runOf : MT := (⟨"WeighingPlates$Reader", "runOf", "(CC)I"⟩, prog_6_method_5_code, 4, some .int, T_rd_runOf, 1, 2, 0, 2, 500, 113, 499, 2)
def M_rd_wholeOf : MT := (⟨"WeighingPlates$Reader", "wholeOf", "(I)I"⟩, prog_6_method_6_code, 4, some .int, T_rd_wholeOf, 1, 1, 0, 2, 504, 113, 503, 3)
def M_rd_isWord : MT := (⟨"WeighingPlates$Reader", "isWord", "(Ljava/lang/String;)Z"⟩, prog_6_method_7_code, 3, some .boolean, T_rd_isWord, 5, 1, 0, 2, 513, 113, 512, 5)
def M_rd_takeWord : MT := (⟨"WeighingPlates$Reader", "takeWord", "(Ljava/lang/String;)Z"⟩, prog_6_method_8_code, 2, some .boolean, T_rd_takeWord, 6, 1, 0, 2, 585, 113, 584, 9)
def M_rd_takeWhole : MT := (⟨"WeighingPlates$Reader", "takeWhole", "(II)Z"⟩, prog_6_method_9_code, 3, some .boolean, T_rd_takeWhole, 3, 2, 0, 2, 580, 113, 579, 8)
def M_rd_takeNew : MT := (⟨"WeighingPlates$Reader", "takeNew", "(I)Z"⟩, prog_6_method_10_code, 2, some .boolean, T_rd_takeNew, 4, 1, 0, 2, 615, 113, 614, 11)
def M_rd_takeLine : MT := (⟨"WeighingPlates$Reader", "takeLine", "()Z"⟩, prog_6_method_11_code, 2, some .boolean, T_rd_takeLine, 8, 0, 0, 2, 508, 113, 507, 4)
def M_rd_takeBench : MT := (⟨"WeighingPlates$Reader", "takeBench", "()Z"⟩, prog_6_method_12_code, 3, some .boolean, T_rd_takeBench, 7, 0, 0, 2, 569, 113, 568, 7)
def M_rd_isPrimeOfBench : MT := (⟨"WeighingPlates$Reader", "isPrimeOfBench", "(I)Z"⟩, prog_6_method_13_code, 5, some .boolean, T_rd_isPrimeOfBench, 1, 1, 1, 2, 574, 113, 573, 0)
def M_rd_takeLight : MT := (⟨"WeighingPlates$Reader", "takeLight", "()Z"⟩, prog_6_method_14_code, 2, some .boolean, T_rd_takeLight, 5, 0, 0, 2, 611, 113, 610, 10)
def M_rd_takeStuck : MT := (⟨"WeighingPlates$Reader", "takeStuck", "()Z"⟩, prog_6_method_15_code, 3, some .boolean, T_rd_takeStuck, 6, 0, 0, 2, 623, 113, 622, 12)
def M_rd_takeNoise : MT := (⟨"WeighingPlates$Reader", "takeNoise", "()Z"⟩, prog_6_method_16_code, 3, some .boolean, T_rd_takeNoise, 6, 0, 0, 2, 634, 113, 633, 13)
def M_rd_takeLost : MT := (⟨"WeighingPlates$Reader", "takeLost", "()Z"⟩, prog_6_method_17_code, 1, some .boolean, T_rd_takeLost, 5, 0, 0, 2, 640, 113, 639, 14)
def M_rd_takeMask : MT := (⟨"WeighingPlates$Reader", "takeMask", "()Z"⟩, prog_6_method_18_code, 3, some .boolean, T_rd_takeMask, 5, 0, 0, 2, 648, 113, 647, 15)
def M_sg_init : MT := (⟨"WeighingPlates$Sight", "<init>", "()V"⟩, prog_7_method_1_code, 1, none, T_sg_init, 1, 0, 2, 4, 285, 115, 284, 0)
def M_sg_startAnew : MT := (⟨"WeighingPlates$Sight", "startAnew", "()V"⟩, prog_7_method_2_code, 1, none, T_sg_startAnew, 2, 0, 0, 4, 652, 115, 650, 651)
def M_sg_forget : MT := (⟨"WeighingPlates$Sight", "forget", "()V"⟩, prog_7_method_3_code, 1, none, T_sg_forget, 1, 0, 0, 4, 656, 115, 654, 655)
def M_sg_lookAt : MT := (⟨"WeighingPlates$Sight", "lookAt", "(LWeighingPlates$Bench;I)I"⟩, prog_7_method_4_code, 4, some .int, T_sg_lookAt, 2, 2, 0, 4, 777, 115, 775, 776)
def M_sg_keep : MT := (⟨"WeighingPlates$Sight", "keep", "(II)V"⟩, prog_7_method_5_code, 4, none, T_sg_keep, 1, 2, 0, 4, 785, 115, 783, 784)
def M_sg_scanAll : MT := (⟨"WeighingPlates$Sight", "scanAll", "(LWeighingPlates$Bench;)I"⟩, prog_7_method_6_code, 5, some .int, T_sg_scanAll, 4, 1, 0, 4, 797, 115, 795, 796)
def M_sg_findNets : MT := (⟨"WeighingPlates$Sight", "findNets", "(LWeighingPlates$Bench;)V"⟩, prog_7_method_7_code, 5, none, T_sg_findNets, 3, 1, 0, 4, 803, 115, 802, 24)
def M_sg_findBacks : MT := (⟨"WeighingPlates$Sight", "findBacks", "(LWeighingPlates$Bench;)V"⟩, prog_7_method_8_code, 6, none, T_sg_findBacks, 1, 1, 0, 4, 810, 115, 809, 25)
def M_sg_errorOf : MT := (⟨"WeighingPlates$Sight", "errorOf", "(LWeighingPlates$Bench;I)J"⟩, prog_7_method_9_code, 3, some .long, T_sg_errorOf, 2, 2, 0, 4, 871, 115, 869, 870)
def M_su_init : MT := (⟨"WeighingPlates$Suspicion", "<init>", "()V"⟩, prog_8_method_1_code, 1, none, T_su_init, 1, 0, 2, 5, 337, 116, 336, 0)
def M_su_count : MT := (⟨"WeighingPlates$Suspicion", "count", "(LWeighingPlates$Bench;LWeighingPlates$Sight;)I"⟩, prog_8_method_2_code, 5, some .int, T_su_count, 4, 2, 0, 5, 930, 116, 928, 929)
def M_su_numberOf : MT := (⟨"WeighingPlates$Suspicion", "numberOf", "(ILWeighingPlates$Bench;LWeighingPlates$Sight;)I"⟩, prog_8_method_3_code, 6, some .int, T_su_numberOf, 4, 3, 0, 5, 971, 116, 969, 970)
def M_su_holds : MT := (⟨"WeighingPlates$Suspicion", "holds", "(ILWeighingPlates$Bench;LWeighingPlates$Sight;)Z"⟩, prog_8_method_4_code, 5, some .boolean, T_su_holds, 3, 3, 0, 5, 934, 116, 933, 29)
def M_su_supposeFine : MT := (⟨"WeighingPlates$Suspicion", "supposeFine", "(LWeighingPlates$Bench;LWeighingPlates$Sight;)Z"⟩, prog_8_method_5_code, 4, some .boolean, T_su_supposeFine, 2, 2, 0, 5, 938, 116, 937, 30)
def M_su_supposeOpen : MT := (⟨"WeighingPlates$Suspicion", "supposeOpen", "(ILWeighingPlates$Bench;LWeighingPlates$Sight;)Z"⟩, prog_8_method_6_code, 8, some .boolean, T_su_supposeOpen, 2, 3, 0, 5, 958, 116, 957, 34)
def M_su_supposeShut : MT := (⟨"WeighingPlates$Suspicion", "supposeShut", "(ILWeighingPlates$Bench;LWeighingPlates$Sight;)Z"⟩, prog_8_method_7_code, 7, some .boolean, T_su_supposeShut, 2, 3, 0, 5, 963, 116, 962, 35)
def M_su_put : MT := (⟨"WeighingPlates$Suspicion", "put", "(IJJ)Z"⟩, prog_8_method_8_code, 8, some .boolean, T_su_put, 1, 3, 0, 5, 943, 116, 942, 31)
def M_su_sumIsRight : MT := (⟨"WeighingPlates$Suspicion", "sumIsRight", "(LWeighingPlates$Bench;)Z"⟩, prog_8_method_9_code, 4, some .boolean, T_su_sumIsRight, 2, 1, 0, 5, 948, 116, 947, 32)
def M_su_logIsRight : MT := (⟨"WeighingPlates$Suspicion", "logIsRight", "(LWeighingPlates$Bench;LWeighingPlates$Sight;II)Z"⟩, prog_8_method_10_code, 9, some .boolean, T_su_logIsRight, 1, 4, 0, 5, 953, 116, 952, 33)
def M_tp_init : MT := (⟨"WeighingPlates$Tape", "<init>", "()V"⟩, prog_9_method_1_code, 1, none, T_tp_init, 1, 0, 2, 1, 144, 112, 143, 0)
def M_tp_hasRoom : MT := (⟨"WeighingPlates$Tape", "hasRoom", "()Z"⟩, prog_9_method_2_code, 1, some .boolean, T_tp_hasRoom, 1, 0, 0, 1, 469, 112, 467, 468)
def M_tp_put : MT := (⟨"WeighingPlates$Tape", "put", "(I)V"⟩, prog_9_method_3_code, 3, none, T_tp_put, 1, 1, 0, 1, 473, 112, 471, 472)
def M_tr_init : MT := (⟨"WeighingPlates$Tour", "<init>", "()V"⟩, prog_10_method_1_code, 1, none, T_tr_init, 1, 0, 2, 7, 379, 118, 378, 0)
def M_tr_find : MT := (⟨"WeighingPlates$Tour", "find", "(LWeighingPlates$Bench;)V"⟩, prog_10_method_2_code, 4, none, T_tr_find, 5, 1, 0, 7, 1046, 118, 1044, 1045)
def M_tr_findSteps : MT := (⟨"WeighingPlates$Tour", "findSteps", "(LWeighingPlates$Bench;)V"⟩, prog_10_method_3_code, 5, none, T_tr_findSteps, 2, 1, 0, 7, 1051, 118, 1050, 37)
def M_tr_fewestFrom : MT := (⟨"WeighingPlates$Tour", "fewestFrom", "(II)I"⟩, prog_10_method_4_code, 6, some .int, T_tr_fewestFrom, 2, 2, 0, 7, 1056, 118, 1055, 38)
def M_tr_movesBy : MT := (⟨"WeighingPlates$Tour", "movesBy", "(III)I"⟩, prog_10_method_5_code, 4, some .int, T_tr_movesBy, 1, 3, 0, 7, 1060, 118, 1059, 39)
def M_tr_walk : MT := (⟨"WeighingPlates$Tour", "walk", "()V"⟩, prog_10_method_6_code, 5, none, T_tr_walk, 4, 0, 0, 7, 1067, 118, 1066, 40)
def M_tr_nextOf : MT := (⟨"WeighingPlates$Tour", "nextOf", "(II)I"⟩, prog_10_method_7_code, 5, some .int, T_tr_nextOf, 3, 2, 0, 7, 1071, 118, 1070, 41)
def M_w_init : MT := (⟨"WeighingPlates", "<init>", "()V"⟩, prog_1_method_1_code, 1, none, T_w_init, 3, 0, 2, 0, 136, 111, 135, 0)
def M_w_feed : MT := (⟨"WeighingPlates", "feed", "(IIIII)I"⟩, prog_1_method_2_code, 6, some .int, T_w_feed, 2, 5, 0, 0, 465, 111, 463, 464)
def M_w_bench : MT := (⟨"WeighingPlates", "bench", "(I)I"⟩, prog_1_method_3_code, 4, some .int, T_w_bench, 10, 1, 0, 0, 477, 111, 475, 476)
def M_w_fault : MT := (⟨"WeighingPlates", "fault", "()I"⟩, prog_1_method_4_code, 1, some .int, T_w_fault, 1, 0, 0, 0, 689, 111, 687, 688)
def M_w_where : MT := (⟨"WeighingPlates", "where", "()I"⟩, prog_1_method_5_code, 1, some .int, T_w_where, 1, 0, 0, 0, 693, 111, 691, 692)
def M_w_about : MT := (⟨"WeighingPlates", "about", "(I)I"⟩, prog_1_method_6_code, 2, some .int, T_w_about, 2, 1, 0, 0, 697, 111, 695, 696)
def M_w_plate : MT := (⟨"WeighingPlates", "plate", "(I)I"⟩, prog_1_method_7_code, 2, some .int, T_w_plate, 3, 1, 0, 0, 709, 111, 707, 708)
def M_w_common : MT := (⟨"WeighingPlates", "common", "(II)I"⟩, prog_1_method_8_code, 3, some .int, T_w_common, 2, 2, 0, 0, 718, 111, 716, 717)
def M_w_which : MT := (⟨"WeighingPlates", "which", "(I)I"⟩, prog_1_method_9_code, 3, some .int, T_w_which, 4, 1, 0, 0, 723, 111, 721, 722)
def M_w_apart : MT := (⟨"WeighingPlates", "apart", "(I)I"⟩, prog_1_method_10_code, 4, some .int, T_w_apart, 3, 1, 0, 0, 739, 111, 737, 738)
def M_w_odd : MT := (⟨"WeighingPlates", "odd", "(I)I"⟩, prog_1_method_11_code, 4, some .int, T_w_odd, 4, 1, 0, 0, 744, 111, 742, 743)
def M_w_light : MT := (⟨"WeighingPlates", "light", "(I)I"⟩, prog_1_method_12_code, 2, some .int, T_w_light, 3, 1, 0, 0, 748, 111, 746, 747)
def M_w_shutter : MT := (⟨"WeighingPlates", "shutter", "(I)I"⟩, prog_1_method_13_code, 2, some .int, T_w_shutter, 3, 1, 0, 0, 752, 111, 750, 751)
def M_w_noise : MT := (⟨"WeighingPlates", "noise", "(I)I"⟩, prog_1_method_14_code, 2, some .int, T_w_noise, 3, 1, 0, 0, 760, 111, 758, 759)
def M_w_lost : MT := (⟨"WeighingPlates", "lost", "(I)I"⟩, prog_1_method_15_code, 2, some .int, T_w_lost, 3, 1, 0, 0, 765, 111, 763, 764)
def M_w_look : MT := (⟨"WeighingPlates", "look", "(I)I"⟩, prog_1_method_16_code, 3, some .int, T_w_look, 4, 1, 0, 0, 773, 111, 771, 772)
def M_w_logged : MT := (⟨"WeighingPlates", "logged", "(II)I"⟩, prog_1_method_17_code, 4, some .int, T_w_logged, 2, 2, 0, 0, 789, 111, 787, 788)
def M_w_scan : MT := (⟨"WeighingPlates", "scan", "()I"⟩, prog_1_method_18_code, 2, some .int, T_w_scan, 5, 0, 0, 0, 793, 111, 791, 792)
def M_w_blinds : MT := (⟨"WeighingPlates", "blinds", "()I"⟩, prog_1_method_19_code, 3, some .int, T_w_blinds, 3, 0, 0, 0, 816, 111, 814, 815)
def M_w_reading : MT := (⟨"WeighingPlates", "reading", "(I)I"⟩, prog_1_method_20_code, 2, some .int, T_w_reading, 3, 1, 0, 0, 821, 111, 819, 820)
def M_w_net : MT := (⟨"WeighingPlates", "net", "(I)I"⟩, prog_1_method_21_code, 3, some .int, T_w_net, 3, 1, 0, 0, 825, 111, 823, 824)
def M_w_back : MT := (⟨"WeighingPlates", "back", "(IZ)J"⟩, prog_1_method_22_code, 3, some .long, T_w_back, 5, 2, 0, 0, 830, 111, 828, 829)
def M_w_odds : MT := (⟨"WeighingPlates", "odds", "()I"⟩, prog_1_method_23_code, 3, some .int, T_w_odds, 4, 0, 0, 0, 856, 111, 854, 855)
def M_w_more : MT := (⟨"WeighingPlates", "more", "(Z)J"⟩, prog_1_method_24_code, 5, some .long, T_w_more, 4, 1, 0, 0, 863, 111, 861, 862)
def M_w_error : MT := (⟨"WeighingPlates", "error", "(IZ)J"⟩, prog_1_method_25_code, 3, some .long, T_w_error, 5, 2, 0, 0, 867, 111, 865, 866)
def M_w_errors : MT := (⟨"WeighingPlates", "errors", "(Z)J"⟩, prog_1_method_26_code, 7, some .long, T_w_errors, 4, 1, 0, 0, 877, 111, 875, 876)
def M_w_worst : MT := (⟨"WeighingPlates", "worst", "()I"⟩, prog_1_method_27_code, 7, some .int, T_w_worst, 4, 0, 0, 0, 886, 111, 884, 885)
def M_w_share : MT := (⟨"WeighingPlates", "share", "(Z)J"⟩, prog_1_method_28_code, 2, some .long, T_w_share, 3, 1, 0, 0, 892, 111, 890, 891)
def M_w_grains : MT := (⟨"WeighingPlates", "grains", "(Z)J"⟩, prog_1_method_29_code, 2, some .long, T_w_grains, 4, 1, 0, 0, 897, 111, 895, 896)
def M_w_better : MT := (⟨"WeighingPlates", "better", "()I"⟩, prog_1_method_30_code, 3, some .int, T_w_better, 4, 0, 0, 0, 901, 111, 899, 900)
def M_w_alone : MT := (⟨"WeighingPlates", "alone", "(I)I"⟩, prog_1_method_31_code, 2, some .int, T_w_alone, 3, 1, 0, 0, 905, 111, 903, 904)
def M_w_alones : MT := (⟨"WeighingPlates", "alones", "()J"⟩, prog_1_method_32_code, 6, some .long, T_w_alones, 3, 0, 0, 0, 914, 111, 912, 913)
def M_w_closer : MT := (⟨"WeighingPlates", "closer", "()I"⟩, prog_1_method_33_code, 5, some .int, T_w_closer, 4, 0, 0, 0, 918, 111, 916, 917)
def M_w_suspects : MT := (⟨"WeighingPlates", "suspects", "()I"⟩, prog_1_method_34_code, 1, some .int, T_w_suspects, 5, 0, 0, 0, 922, 111, 920, 921)
def M_w_suspect : MT := (⟨"WeighingPlates", "suspect", "(I)I"⟩, prog_1_method_35_code, 3, some .int, T_w_suspect, 5, 1, 0, 0, 967, 111, 965, 966)
def M_w_supposed : MT := (⟨"WeighingPlates", "supposed", "(II)I"⟩, prog_1_method_36_code, 4, some .int, T_w_supposed, 5, 2, 0, 0, 975, 111, 973, 974)
def M_w_mask : MT := (⟨"WeighingPlates", "mask", "(I)I"⟩, prog_1_method_37_code, 2, some .int, T_w_mask, 2, 1, 0, 0, 979, 111, 977, 978)
def M_w_rank : MT := (⟨"WeighingPlates", "rank", "()I"⟩, prog_1_method_38_code, 1, some .int, T_w_rank, 3, 0, 0, 0, 987, 111, 985, 986)
def M_w_told : MT := (⟨"WeighingPlates", "told", "()I"⟩, prog_1_method_39_code, 1, some .int, T_w_told, 3, 0, 0, 0, 991, 111, 989, 990)
def M_w_solved : MT := (⟨"WeighingPlates", "solved", "(IZ)J"⟩, prog_1_method_40_code, 3, some .long, T_w_solved, 4, 2, 0, 0, 995, 111, 993, 994)
def M_w_factor : MT := (⟨"WeighingPlates", "factor", "(IIZ)J"⟩, prog_1_method_41_code, 4, some .long, T_w_factor, 4, 3, 0, 0, 1016, 111, 1014, 1015)
def M_w_shareBy : MT := (⟨"WeighingPlates", "shareBy", "(IZ)J"⟩, prog_1_method_42_code, 3, some .long, T_w_shareBy, 4, 2, 0, 0, 1021, 111, 1019, 1020)
def M_w_fewer : MT := (⟨"WeighingPlates", "fewer", "()I"⟩, prog_1_method_43_code, 5, some .int, T_w_fewer, 3, 0, 0, 0, 1029, 111, 1027, 1028)
def M_w_agree : MT := (⟨"WeighingPlates", "agree", "()I"⟩, prog_1_method_44_code, 1, some .int, T_w_agree, 4, 0, 0, 0, 1033, 111, 1031, 1032)
def M_w_tour : MT := (⟨"WeighingPlates", "tour", "()I"⟩, prog_1_method_45_code, 1, some .int, T_w_tour, 6, 0, 0, 0, 1042, 111, 1040, 1041)
def M_w_tourAt : MT := (⟨"WeighingPlates", "tourAt", "(I)I"⟩, prog_1_method_46_code, 2, some .int, T_w_tourAt, 6, 1, 0, 0, 1075, 111, 1073, 1074)
def M_w_sign : MT := (⟨"WeighingPlates", "sign", "(III)I"⟩, prog_1_method_47_code, 5, some .int, T_w_sign, 2, 3, 0, 0, 1079, 111, 1077, 1078)
def M_w_shine : MT := (⟨"WeighingPlates", "shine", "(II)I"⟩, prog_1_method_48_code, 4, some .int, T_w_shine, 3, 2, 0, 0, 1083, 111, 1081, 1082)
def M_w_stick : MT := (⟨"WeighingPlates", "stick", "(II)I"⟩, prog_1_method_49_code, 4, some .int, T_w_stick, 3, 2, 0, 0, 1096, 111, 1094, 1095)
def M_w_lose : MT := (⟨"WeighingPlates", "lose", "(I)I"⟩, prog_1_method_50_code, 2, some .int, T_w_lose, 3, 1, 0, 0, 1101, 111, 1099, 1100)
def M_w_undo : MT := (⟨"WeighingPlates", "undo", "()Z"⟩, prog_1_method_51_code, 1, some .boolean, T_w_undo, 3, 0, 0, 0, 1105, 111, 1103, 1104)
def M_w_stuck : MT := (⟨"WeighingPlates", "stuck", "(I)I"⟩, prog_1_method_52_code, 4, some .int, T_w_stuck, 11, 1, 0, 0, 1127, 111, 1125, 1126)
def M_w_size : MT := (⟨"WeighingPlates", "size", "(I)I"⟩, prog_1_method_53_code, 2, some .int, T_w_size, 3, 1, 0, 0, 1115, 111, 1113, 1114)
def M_w_trouble : MT := (⟨"WeighingPlates", "trouble", "()I"⟩, prog_1_method_54_code, 1, some .int, T_w_trouble, 1, 0, 0, 0, 1119, 111, 1117, 1118)
def M_w_settle : MT := (⟨"WeighingPlates", "settle", "(I)Z"⟩, prog_1_method_55_code, 2, some .boolean, T_w_settle, 1, 1, 0, 0, 481, 111, 480, 0)
def M_w_haveBench : MT := (⟨"WeighingPlates", "haveBench", "()Z"⟩, prog_1_method_56_code, 1, some .boolean, T_w_haveBench, 2, 0, 0, 0, 731, 111, 730, 23)
def M_w_haveOne : MT := (⟨"WeighingPlates", "haveOne", "(I)Z"⟩, prog_1_method_57_code, 2, some .boolean, T_w_haveOne, 2, 1, 0, 0, 713, 111, 712, 21)
def M_w_haveSet : MT := (⟨"WeighingPlates", "haveSet", "(I)Z"⟩, prog_1_method_58_code, 2, some .boolean, T_w_haveSet, 3, 1, 0, 0, 727, 111, 726, 22)
def M_w_haveBacks : MT := (⟨"WeighingPlates", "haveBacks", "()Z"⟩, prog_1_method_59_code, 1, some .boolean, T_w_haveBacks, 3, 0, 0, 0, 838, 111, 837, 27)
def M_w_haveBackOf : MT := (⟨"WeighingPlates", "haveBackOf", "(I)Z"⟩, prog_1_method_60_code, 2, some .boolean, T_w_haveBackOf, 4, 1, 0, 0, 834, 111, 833, 26)
def M_w_haveSuspects : MT := (⟨"WeighingPlates", "haveSuspects", "()Z"⟩, prog_1_method_61_code, 1, some .boolean, T_w_haveSuspects, 3, 0, 0, 0, 926, 111, 925, 28)
def M_w_haveTold : MT := (⟨"WeighingPlates", "haveTold", "(I)Z"⟩, prog_1_method_62_code, 2, some .boolean, T_w_haveTold, 3, 1, 0, 0, 999, 111, 998, 36)
def M_r_init : MT := (⟨"WeighingPlatesModel", "<init>", "()V"⟩, prog_12_method_1_code, 1, none, T_r_init, 1, 0, 2, 9, 1197, 120, 1196, 0)
def M_r_thrown : MT := (⟨"WeighingPlatesModel", "thrown", "()I"⟩, prog_12_method_2_code, 1, some .int, T_r_thrown, 1, 0, 0, 9, 1366, 120, 1364, 1365)
def M_r_refused : MT := (⟨"WeighingPlatesModel", "refused", "(I)I"⟩, prog_12_method_3_code, 2, some .int, T_r_refused, 1, 1, 0, 9, 1378, 120, 1377, 44)
def M_r_refusedLong : MT := (⟨"WeighingPlatesModel", "refusedLong", "(I)J"⟩, prog_12_method_4_code, 2, some .long, T_r_refusedLong, 2, 1, 0, 9, 1632, 120, 1631, 81)
def M_r_good : MT := (⟨"WeighingPlatesModel", "good", "(I)I"⟩, prog_12_method_5_code, 2, some .int, T_r_good, 1, 1, 0, 9, 1508, 120, 1507, 70)
def M_r_in : MT := (⟨"WeighingPlatesModel", "in", "(III)Z"⟩, prog_12_method_6_code, 3, some .boolean, T_r_in, 1, 3, 1, 9, 1393, 120, 1392, 0)
def M_r_has : MT := (⟨"WeighingPlatesModel", "has", "(II)Z"⟩, prog_12_method_7_code, 2, some .boolean, T_r_has, 1, 2, 1, 9, 1461, 120, 1460, 0)
def M_r_many : MT := (⟨"WeighingPlatesModel", "many", "(I)I"⟩, prog_12_method_8_code, 3, some .int, T_r_many, 1, 1, 1, 9, 1527, 120, 1526, 0)
def M_r_divisor : MT := (⟨"WeighingPlatesModel", "divisor", "(JJ)J"⟩, prog_12_method_9_code, 10, some .long, T_r_divisor, 1, 2, 1, 9, 1650, 120, 1649, 0)
def M_r_sets : MT := (⟨"WeighingPlatesModel", "sets", "(JJ)V"⟩, prog_12_method_10_code, 7, none, T_r_sets, 2, 2, 0, 9, 1647, 120, 1646, 84)
def M_r_part : MT := (⟨"WeighingPlatesModel", "part", "(Z)J"⟩, prog_12_method_11_code, 2, some .long, T_r_part, 2, 1, 0, 9, 1654, 120, 1653, 85)
def M_r_byteAt : MT := (⟨"WeighingPlatesModel", "byteAt", "(I)I"⟩, prog_12_method_12_code, 2, some .int, T_r_byteAt, 1, 1, 0, 9, 1390, 120, 1389, 47)
def M_r_next : MT := (⟨"WeighingPlatesModel", "next", "()V"⟩, prog_12_method_13_code, 2, none, T_r_next, 3, 0, 0, 9, 1386, 120, 1385, 46)
def M_r_nextWord : MT := (⟨"WeighingPlatesModel", "nextWord", "()V"⟩, prog_12_method_14_code, 1, none, T_r_nextWord, 2, 0, 0, 9, 1397, 120, 1396, 48)
def M_r_nextWhole : MT := (⟨"WeighingPlatesModel", "nextWhole", "()V"⟩, prog_12_method_15_code, 1, none, T_r_nextWhole, 2, 0, 0, 9, 1401, 120, 1400, 49)
def M_r_nextSign : MT := (⟨"WeighingPlatesModel", "nextSign", "(I)V"⟩, prog_12_method_16_code, 2, none, T_r_nextSign, 1, 1, 0, 9, 1405, 120, 1404, 50)
def M_r_flaw : MT := (⟨"WeighingPlatesModel", "flaw", "(I)V"⟩, prog_12_method_17_code, 2, none, T_r_flaw, 1, 1, 0, 9, 1424, 120, 1423, 54)
def M_r_isWord : MT := (⟨"WeighingPlatesModel", "isWord", "(Ljava/lang/String;)Z"⟩, prog_12_method_18_code, 5, some .boolean, T_r_isWord, 5, 1, 0, 9, 1414, 120, 1413, 52)
def M_r_needs : MT := (⟨"WeighingPlatesModel", "needs", "(Ljava/lang/String;)V"⟩, prog_12_method_19_code, 2, none, T_r_needs, 6, 1, 0, 9, 1443, 120, 1442, 58)
def M_r_wholeAt : MT := (⟨"WeighingPlatesModel", "wholeAt", "(II)I"⟩, prog_12_method_20_code, 3, some .int, T_r_wholeAt, 2, 2, 0, 9, 1434, 120, 1433, 56)
def M_r_readWhole : MT := (⟨"WeighingPlatesModel", "readWhole", "(II)I"⟩, prog_12_method_21_code, 4, some .int, T_r_readWhole, 4, 2, 0, 9, 1430, 120, 1429, 55)
def M_r_readNew : MT := (⟨"WeighingPlatesModel", "readNew", "(I)I"⟩, prog_12_method_22_code, 3, some .int, T_r_readNew, 4, 1, 0, 9, 1458, 120, 1457, 61)
def M_r_readAll : MT := (⟨"WeighingPlatesModel", "readAll", "()V"⟩, prog_12_method_23_code, 2, none, T_r_readAll, 9, 0, 0, 9, 1382, 120, 1381, 45)
def M_r_readLine : MT := (⟨"WeighingPlatesModel", "readLine", "()V"⟩, prog_12_method_24_code, 1, none, T_r_readLine, 8, 0, 0, 9, 1409, 120, 1408, 51)
def M_r_begins : MT := (⟨"WeighingPlatesModel", "begins", "(Z)V"⟩, prog_12_method_25_code, 2, none, T_r_begins, 4, 1, 0, 9, 1454, 120, 1453, 60)
def M_r_readBench : MT := (⟨"WeighingPlatesModel", "readBench", "()V"⟩, prog_12_method_26_code, 5, none, T_r_readBench, 7, 0, 0, 9, 1420, 120, 1419, 53)
def M_r_readOrder : MT := (⟨"WeighingPlatesModel", "readOrder", "()I"⟩, prog_12_method_27_code, 2, some .int, T_r_readOrder, 4, 0, 0, 9, 1438, 120, 1437, 57)
def M_r_readLight : MT := (⟨"WeighingPlatesModel", "readLight", "()V"⟩, prog_12_method_28_code, 3, none, T_r_readLight, 5, 0, 0, 9, 1450, 120, 1449, 59)
def M_r_readStuckOne : MT := (⟨"WeighingPlatesModel", "readStuckOne", "()V"⟩, prog_12_method_29_code, 3, none, T_r_readStuckOne, 6, 0, 0, 9, 1466, 120, 1465, 62)
def M_r_readNoiseOf : MT := (⟨"WeighingPlatesModel", "readNoiseOf", "()V"⟩, prog_12_method_30_code, 4, none, T_r_readNoiseOf, 6, 0, 0, 9, 1473, 120, 1472, 63)
def M_r_readLost : MT := (⟨"WeighingPlatesModel", "readLost", "()V"⟩, prog_12_method_31_code, 2, none, T_r_readLost, 5, 0, 0, 9, 1480, 120, 1479, 64)
def M_r_readMaskOf : MT := (⟨"WeighingPlatesModel", "readMaskOf", "()V"⟩, prog_12_method_32_code, 3, none, T_r_readMaskOf, 5, 0, 0, 9, 1485, 120, 1484, 65)
def M_r_feed : MT := (⟨"WeighingPlatesModel", "feed", "(IIIII)I"⟩, prog_12_method_33_code, 8, some .int, T_r_feed, 1, 5, 0, 9, 1370, 120, 1368, 1369)
def M_r_bench : MT := (⟨"WeighingPlatesModel", "bench", "(I)I"⟩, prog_12_method_34_code, 2, some .int, T_r_bench, 10, 1, 0, 9, 1374, 120, 1372, 1373)
def M_r_takesOver : MT := (⟨"WeighingPlatesModel", "takesOver", "()V"⟩, prog_12_method_35_code, 2, none, T_r_takesOver, 3, 0, 0, 9, 1489, 120, 1488, 66)
def M_r_laysDoubled : MT := (⟨"WeighingPlatesModel", "laysDoubled", "()V"⟩, prog_12_method_36_code, 4, none, T_r_laysDoubled, 2, 0, 0, 9, 1493, 120, 1492, 67)
def M_r_laysSquares : MT := (⟨"WeighingPlatesModel", "laysSquares", "()V"⟩, prog_12_method_37_code, 4, none, T_r_laysSquares, 1, 0, 0, 9, 1500, 120, 1499, 68)
def M_r_fault : MT := (⟨"WeighingPlatesModel", "fault", "()I"⟩, prog_12_method_38_code, 1, some .int, T_r_fault, 1, 0, 0, 9, 1512, 120, 1510, 1511)
def M_r_where : MT := (⟨"WeighingPlatesModel", "where", "()I"⟩, prog_12_method_39_code, 1, some .int, T_r_where, 1, 0, 0, 9, 1516, 120, 1514, 1515)
def M_r_monitor : MT := (⟨"WeighingPlatesModel", "monitor", "()I"⟩, prog_12_method_40_code, 3, some .int, T_r_monitor, 1, 0, 0, 9, 1524, 120, 1523, 71)
def M_r_about : MT := (⟨"WeighingPlatesModel", "about", "(I)I"⟩, prog_12_method_41_code, 2, some .int, T_r_about, 2, 1, 0, 9, 1520, 120, 1518, 1519)
def M_r_isOne : MT := (⟨"WeighingPlatesModel", "isOne", "(I)Z"⟩, prog_12_method_42_code, 2, some .boolean, T_r_isOne, 1, 1, 0, 9, 1535, 120, 1534, 72)
def M_r_isSet : MT := (⟨"WeighingPlatesModel", "isSet", "(I)Z"⟩, prog_12_method_43_code, 2, some .boolean, T_r_isSet, 1, 1, 0, 9, 1547, 120, 1546, 73)
def M_r_plate : MT := (⟨"WeighingPlatesModel", "plate", "(I)I"⟩, prog_12_method_44_code, 2, some .int, T_r_plate, 2, 1, 0, 9, 1531, 120, 1529, 1530)
def M_r_common : MT := (⟨"WeighingPlatesModel", "common", "(II)I"⟩, prog_12_method_45_code, 3, some .int, T_r_common, 2, 2, 0, 9, 1539, 120, 1537, 1538)
def M_r_which : MT := (⟨"WeighingPlatesModel", "which", "(I)I"⟩, prog_12_method_46_code, 3, some .int, T_r_which, 2, 1, 0, 9, 1543, 120, 1541, 1542)
def M_r_apart : MT := (⟨"WeighingPlatesModel", "apart", "(I)I"⟩, prog_12_method_47_code, 5, some .int, T_r_apart, 2, 1, 0, 9, 1551, 120, 1549, 1550)
def M_r_odd : MT := (⟨"WeighingPlatesModel", "odd", "(I)I"⟩, prog_12_method_48_code, 4, some .int, T_r_odd, 2, 1, 0, 9, 1555, 120, 1553, 1554)
def M_r_light : MT := (⟨"WeighingPlatesModel", "light", "(I)I"⟩, prog_12_method_49_code, 2, some .int, T_r_light, 2, 1, 0, 9, 1559, 120, 1557, 1558)
def M_r_shutter : MT := (⟨"WeighingPlatesModel", "shutter", "(I)I"⟩, prog_12_method_50_code, 2, some .int, T_r_shutter, 2, 1, 0, 9, 1563, 120, 1561, 1562)
def M_r_noise : MT := (⟨"WeighingPlatesModel", "noise", "(I)I"⟩, prog_12_method_51_code, 2, some .int, T_r_noise, 2, 1, 0, 9, 1567, 120, 1565, 1566)
def M_r_lost : MT := (⟨"WeighingPlatesModel", "lost", "(I)I"⟩, prog_12_method_52_code, 2, some .int, T_r_lost, 2, 1, 0, 9, 1572, 120, 1570, 1571)
def M_r_ends : MT := (⟨"WeighingPlatesModel", "ends", "()V"⟩, prog_12_method_53_code, 1, none, T_r_ends, 1, 0, 0, 9, 1504, 120, 1503, 69)
def M_r_through : MT := (⟨"WeighingPlatesModel", "through", "(I)I"⟩, prog_12_method_54_code, 5, some .int, T_r_through, 2, 1, 0, 9, 1584, 120, 1583, 75)
def M_r_looks : MT := (⟨"WeighingPlatesModel", "looks", "(I)I"⟩, prog_12_method_55_code, 3, some .int, T_r_looks, 3, 1, 0, 9, 1580, 120, 1579, 74)
def M_r_look : MT := (⟨"WeighingPlatesModel", "look", "(I)I"⟩, prog_12_method_56_code, 4, some .int, T_r_look, 4, 1, 0, 9, 1576, 120, 1574, 1575)
def M_r_logged : MT := (⟨"WeighingPlatesModel", "logged", "(II)I"⟩, prog_12_method_57_code, 3, some .int, T_r_logged, 2, 2, 0, 9, 1588, 120, 1586, 1587)
def M_r_scan : MT := (⟨"WeighingPlatesModel", "scan", "()I"⟩, prog_12_method_58_code, 4, some .int, T_r_scan, 4, 0, 0, 9, 1592, 120, 1590, 1591)
def M_r_blinds : MT := (⟨"WeighingPlatesModel", "blinds", "()I"⟩, prog_12_method_59_code, 3, some .int, T_r_blinds, 3, 0, 0, 9, 1596, 120, 1594, 1595)
def M_r_refusedLow : MT := (⟨"WeighingPlatesModel", "refusedLow", "(I)I"⟩, prog_12_method_60_code, 2, some .int, T_r_refusedLow, 2, 1, 0, 9, 1604, 120, 1603, 76)
def M_r_reading : MT := (⟨"WeighingPlatesModel", "reading", "(I)I"⟩, prog_12_method_61_code, 2, some .int, T_r_reading, 3, 1, 0, 9, 1600, 120, 1598, 1599)
def M_r_losses : MT := (⟨"WeighingPlatesModel", "losses", "()I"⟩, prog_12_method_62_code, 1, some .int, T_r_losses, 2, 0, 0, 9, 1612, 120, 1611, 77)
def M_r_netSum : MT := (⟨"WeighingPlatesModel", "netSum", "()I"⟩, prog_12_method_63_code, 3, some .int, T_r_netSum, 2, 0, 0, 9, 1620, 120, 1619, 79)
def M_r_netOf : MT := (⟨"WeighingPlatesModel", "netOf", "(I)I"⟩, prog_12_method_64_code, 2, some .int, T_r_netOf, 3, 1, 0, 9, 1616, 120, 1615, 78)
def M_r_net : MT := (⟨"WeighingPlatesModel", "net", "(I)I"⟩, prog_12_method_65_code, 2, some .int, T_r_net, 4, 1, 0, 9, 1608, 120, 1606, 1607)
def M_r_refuses : MT := (⟨"WeighingPlatesModel", "refuses", "(Z)I"⟩, prog_12_method_66_code, 2, some .int, T_r_refuses, 3, 1, 0, 9, 1628, 120, 1627, 80)
def M_r_netAll : MT := (⟨"WeighingPlatesModel", "netAll", "()I"⟩, prog_12_method_67_code, 1, some .int, T_r_netAll, 3, 0, 0, 9, 1643, 120, 1642, 83)
def M_r_partsOf : MT := (⟨"WeighingPlatesModel", "partsOf", "(I)J"⟩, prog_12_method_68_code, 5, some .long, T_r_partsOf, 4, 1, 0, 9, 1637, 120, 1636, 82)
def M_r_errorParts : MT := (⟨"WeighingPlatesModel", "errorParts", "(I)J"⟩, prog_12_method_69_code, 2, some .long, T_r_errorParts, 5, 1, 0, 9, 1666, 120, 1665, 86)
def M_r_back : MT := (⟨"WeighingPlatesModel", "back", "(IZ)J"⟩, prog_12_method_70_code, 4, some .long, T_r_back, 5, 2, 0, 9, 1624, 120, 1622, 1623)
def M_r_odds : MT := (⟨"WeighingPlatesModel", "odds", "()I"⟩, prog_12_method_71_code, 4, some .int, T_r_odds, 5, 0, 0, 9, 1658, 120, 1656, 1657)
def M_r_more : MT := (⟨"WeighingPlatesModel", "more", "(Z)J"⟩, prog_12_method_72_code, 6, some .long, T_r_more, 6, 1, 0, 9, 1662, 120, 1660, 1661)
def M_r_error : MT := (⟨"WeighingPlatesModel", "error", "(IZ)J"⟩, prog_12_method_73_code, 4, some .long, T_r_error, 6, 2, 0, 9, 1670, 120, 1668, 1669)
def M_r_errors : MT := (⟨"WeighingPlatesModel", "errors", "(Z)J"⟩, prog_12_method_74_code, 6, some .long, T_r_errors, 6, 1, 0, 9, 1674, 120, 1672, 1673)
def M_r_plain : MT := (⟨"WeighingPlatesModel", "plain", "(J)J"⟩, prog_12_method_75_code, 2, some .long, T_r_plain, 1, 1, 1, 9, 1681, 120, 1680, 0)
def M_r_worst : MT := (⟨"WeighingPlatesModel", "worst", "()I"⟩, prog_12_method_76_code, 4, some .int, T_r_worst, 6, 0, 0, 9, 1678, 120, 1676, 1677)
def M_r_share : MT := (⟨"WeighingPlatesModel", "share", "(Z)J"⟩, prog_12_method_77_code, 2, some .long, T_r_share, 3, 1, 0, 9, 1685, 120, 1683, 1684)
def M_r_grains : MT := (⟨"WeighingPlatesModel", "grains", "(Z)J"⟩, prog_12_method_78_code, 3, some .long, T_r_grains, 4, 1, 0, 9, 1689, 120, 1687, 1688)
def M_r_better : MT := (⟨"WeighingPlatesModel", "better", "()I"⟩, prog_12_method_79_code, 4, some .int, T_r_better, 5, 0, 0, 9, 1693, 120, 1691, 1692)
def M_r_aloneOf : MT := (⟨"WeighingPlatesModel", "aloneOf", "(I)I"⟩, prog_12_method_80_code, 2, some .int, T_r_aloneOf, 3, 1, 0, 9, 1701, 120, 1700, 87)
def M_r_offAlone : MT := (⟨"WeighingPlatesModel", "offAlone", "(I)J"⟩, prog_12_method_81_code, 2, some .long, T_r_offAlone, 4, 1, 0, 9, 1709, 120, 1708, 88)
def M_r_alone : MT := (⟨"WeighingPlatesModel", "alone", "(I)I"⟩, prog_12_method_82_code, 2, some .int, T_r_alone, 4, 1, 0, 9, 1697, 120, 1695, 1696)
def M_r_alones : MT := (⟨"WeighingPlatesModel", "alones", "()J"⟩, prog_12_method_83_code, 4, some .long, T_r_alones, 5, 0, 0, 9, 1705, 120, 1703, 1704)
def M_r_closer : MT := (⟨"WeighingPlatesModel", "closer", "()I"⟩, prog_12_method_84_code, 4, some .int, T_r_closer, 6, 0, 0, 9, 1713, 120, 1711, 1712)
def M_r_isSuspect : MT := (⟨"WeighingPlatesModel", "isSuspect", "(I)Z"⟩, prog_12_method_85_code, 3, some .boolean, T_r_isSuspect, 7, 1, 0, 9, 1725, 120, 1724, 90)
def M_r_supposes : MT := (⟨"WeighingPlatesModel", "supposes", "(IJ)Z"⟩, prog_12_method_86_code, 4, some .boolean, T_r_supposes, 1, 2, 0, 9, 1733, 120, 1732, 92)
def M_r_supposesFine : MT := (⟨"WeighingPlatesModel", "supposesFine", "()Z"⟩, prog_12_method_87_code, 3, some .boolean, T_r_supposesFine, 5, 0, 0, 9, 1729, 120, 1728, 91)
def M_r_supposesOpen : MT := (⟨"WeighingPlatesModel", "supposesOpen", "(I)Z"⟩, prog_12_method_88_code, 6, some .boolean, T_r_supposesOpen, 5, 1, 0, 9, 1750, 120, 1749, 96)
def M_r_supposesShut : MT := (⟨"WeighingPlatesModel", "supposesShut", "(I)Z"⟩, prog_12_method_89_code, 6, some .boolean, T_r_supposesShut, 6, 1, 0, 9, 1754, 120, 1753, 97)
def M_r_areLights : MT := (⟨"WeighingPlatesModel", "areLights", "()Z"⟩, prog_12_method_90_code, 4, some .boolean, T_r_areLights, 2, 0, 0, 9, 1737, 120, 1736, 93)
def M_r_areSeen : MT := (⟨"WeighingPlatesModel", "areSeen", "(II)Z"⟩, prog_12_method_91_code, 4, some .boolean, T_r_areSeen, 3, 2, 0, 9, 1742, 120, 1741, 94)
def M_r_supposedRead : MT := (⟨"WeighingPlatesModel", "supposedRead", "(III)J"⟩, prog_12_method_92_code, 8, some .long, T_r_supposedRead, 2, 3, 0, 9, 1746, 120, 1745, 95)
def M_r_refusesSuspects : MT := (⟨"WeighingPlatesModel", "refusesSuspects", "(Z)I"⟩, prog_12_method_93_code, 2, some .int, T_r_refusesSuspects, 1, 1, 0, 9, 1721, 120, 1720, 89)
def M_r_suspectNumber : MT := (⟨"WeighingPlatesModel", "suspectNumber", "(I)I"⟩, prog_12_method_94_code, 4, some .int, T_r_suspectNumber, 8, 1, 0, 9, 1762, 120, 1761, 98)
def M_r_suspects : MT := (⟨"WeighingPlatesModel", "suspects", "()I"⟩, prog_12_method_95_code, 4, some .int, T_r_suspects, 8, 0, 0, 9, 1717, 120, 1715, 1716)
def M_r_suspect : MT := (⟨"WeighingPlatesModel", "suspect", "(I)I"⟩, prog_12_method_96_code, 4, some .int, T_r_suspect, 9, 1, 0, 9, 1758, 120, 1756, 1757)
def M_r_supposed : MT := (⟨"WeighingPlatesModel", "supposed", "(II)I"⟩, prog_12_method_97_code, 4, some .int, T_r_supposed, 9, 2, 0, 9, 1766, 120, 1764, 1765)
def M_r_puts : MT := (⟨"WeighingPlatesModel", "puts", "(IIJJ)V"⟩, prog_12_method_98_code, 7, none, T_r_puts, 3, 4, 0, 9, 1782, 120, 1781, 100)
def M_r_clears : MT := (⟨"WeighingPlatesModel", "clears", "(III)V"⟩, prog_12_method_99_code, 19, none, T_r_clears, 4, 3, 0, 9, 1786, 120, 1785, 101)
def M_r_laysRows : MT := (⟨"WeighingPlatesModel", "laysRows", "()V"⟩, prog_12_method_100_code, 3, none, T_r_laysRows, 6, 0, 0, 9, 1778, 120, 1777, 99)
def M_r_laysRow : MT := (⟨"WeighingPlatesModel", "laysRow", "(I)V"⟩, prog_12_method_101_code, 9, none, T_r_laysRow, 5, 1, 0, 9, 1790, 120, 1789, 102)
def M_r_rowOf : MT := (⟨"WeighingPlatesModel", "rowOf", "(I)I"⟩, prog_12_method_102_code, 5, some .int, T_r_rowOf, 1, 1, 0, 9, 1799, 120, 1798, 103)
def M_r_mask : MT := (⟨"WeighingPlatesModel", "mask", "(I)I"⟩, prog_12_method_103_code, 2, some .int, T_r_mask, 2, 1, 0, 9, 1770, 120, 1768, 1769)
def M_r_rank : MT := (⟨"WeighingPlatesModel", "rank", "()I"⟩, prog_12_method_104_code, 1, some .int, T_r_rank, 7, 0, 0, 9, 1774, 120, 1772, 1773)
def M_r_told : MT := (⟨"WeighingPlatesModel", "told", "()I"⟩, prog_12_method_105_code, 3, some .int, T_r_told, 7, 0, 0, 9, 1795, 120, 1793, 1794)
def M_r_solved : MT := (⟨"WeighingPlatesModel", "solved", "(IZ)J"⟩, prog_12_method_106_code, 4, some .long, T_r_solved, 7, 2, 0, 9, 1803, 120, 1801, 1802)
def M_r_factor : MT := (⟨"WeighingPlatesModel", "factor", "(IIZ)J"⟩, prog_12_method_107_code, 5, some .long, T_r_factor, 7, 3, 0, 9, 1807, 120, 1805, 1806)
def M_r_squaresOf : MT := (⟨"WeighingPlatesModel", "squaresOf", "(I)V"⟩, prog_12_method_108_code, 9, none, T_r_squaresOf, 3, 1, 0, 9, 1815, 120, 1814, 104)
def M_r_shareBy : MT := (⟨"WeighingPlatesModel", "shareBy", "(IZ)J"⟩, prog_12_method_109_code, 4, some .long, T_r_shareBy, 7, 2, 0, 9, 1811, 120, 1809, 1810)
def M_r_fewer : MT := (⟨"WeighingPlatesModel", "fewer", "()I"⟩, prog_12_method_110_code, 4, some .int, T_r_fewer, 7, 0, 0, 9, 1819, 120, 1817, 1818)
def M_r_agree : MT := (⟨"WeighingPlatesModel", "agree", "()I"⟩, prog_12_method_111_code, 1, some .int, T_r_agree, 7, 0, 0, 9, 1823, 120, 1821, 1822)
def M_r_movesTo : MT := (⟨"WeighingPlatesModel", "movesTo", "(II)I"⟩, prog_12_method_112_code, 3, some .int, T_r_movesTo, 2, 2, 0, 9, 1840, 120, 1839, 107)
def M_r_goes : MT := (⟨"WeighingPlatesModel", "goes", "(II)I"⟩, prog_12_method_113_code, 6, some .int, T_r_goes, 3, 2, 0, 9, 1835, 120, 1834, 106)
def M_r_laysTours : MT := (⟨"WeighingPlatesModel", "laysTours", "()V"⟩, prog_12_method_114_code, 3, none, T_r_laysTours, 4, 0, 0, 9, 1831, 120, 1830, 105)
def M_r_tour : MT := (⟨"WeighingPlatesModel", "tour", "()I"⟩, prog_12_method_115_code, 1, some .int, T_r_tour, 5, 0, 0, 9, 1827, 120, 1825, 1826)
def M_r_tourAt : MT := (⟨"WeighingPlatesModel", "tourAt", "(I)I"⟩, prog_12_method_116_code, 7, some .int, T_r_tourAt, 5, 1, 0, 9, 1844, 120, 1842, 1843)
def M_r_sign : MT := (⟨"WeighingPlatesModel", "sign", "(III)I"⟩, prog_12_method_117_code, 4, some .int, T_r_sign, 2, 3, 0, 9, 1848, 120, 1846, 1847)
def M_r_signAt : MT := (⟨"WeighingPlatesModel", "signAt", "(III)I"⟩, prog_12_method_118_code, 7, some .int, T_r_signAt, 1, 3, 1, 9, 1496, 120, 1495, 0)
def M_r_remembers : MT := (⟨"WeighingPlatesModel", "remembers", "()V"⟩, prog_12_method_119_code, 2, none, T_r_remembers, 2, 0, 0, 9, 1860, 120, 1859, 109)
def M_r_changed : MT := (⟨"WeighingPlatesModel", "changed", "(II)I"⟩, prog_12_method_120_code, 4, some .int, T_r_changed, 3, 2, 0, 9, 1856, 120, 1855, 108)
def M_r_shine : MT := (⟨"WeighingPlatesModel", "shine", "(II)I"⟩, prog_12_method_121_code, 3, some .int, T_r_shine, 4, 2, 0, 9, 1852, 120, 1850, 1851)
def M_r_stick : MT := (⟨"WeighingPlatesModel", "stick", "(II)I"⟩, prog_12_method_122_code, 3, some .int, T_r_stick, 4, 2, 0, 9, 1864, 120, 1862, 1863)
def M_r_lose : MT := (⟨"WeighingPlatesModel", "lose", "(I)I"⟩, prog_12_method_123_code, 2, some .int, T_r_lose, 4, 1, 0, 9, 1868, 120, 1866, 1867)
def M_r_undo : MT := (⟨"WeighingPlatesModel", "undo", "()Z"⟩, prog_12_method_124_code, 2, some .boolean, T_r_undo, 2, 0, 0, 9, 1872, 120, 1870, 1871)
def M_r_stuck : MT := (⟨"WeighingPlatesModel", "stuck", "(I)I"⟩, prog_12_method_125_code, 4, some .int, T_r_stuck, 1, 1, 0, 9, 1876, 120, 1874, 1875)
def M_r_size : MT := (⟨"WeighingPlatesModel", "size", "(I)I"⟩, prog_12_method_126_code, 2, some .int, T_r_size, 3, 1, 0, 9, 1880, 120, 1878, 1879)
def M_r_trouble : MT := (⟨"WeighingPlatesModel", "trouble", "()I"⟩, prog_12_method_127_code, 1, some .int, T_r_trouble, 1, 0, 0, 9, 1884, 120, 1882, 1883)
def M_ji_bitCount : MT := (⟨"java/lang/Integer", "bitCount", "(I)I"⟩, prog_17_method_49_code, 1, some .int, T_ji_bitCount, 1, 1, 1, 99, 595, 126, 594, 0)
def M_js_length : MT := (⟨"java/lang/String", "length", "()I"⟩, prog_20_method_54_code, 1, some .int, T_js_length, 2, 0, 0, 90, 517, 122, 515, 516)
def M_js_charAt : MT := (⟨"java/lang/String", "charAt", "(I)C"⟩, prog_20_method_56_code, 2, some .char, T_js_charAt, 4, 1, 0, 90, 527, 122, 525, 526)
def M_js_coder : MT := (⟨"java/lang/String", "coder", "()B"⟩, prog_20_method_152_code, 1, some .byte, T_js_coder, 1, 0, 0, 90, 521, 122, 519, 520)
def M_js_isLatin1 : MT := (⟨"java/lang/String", "isLatin1", "()Z"⟩, prog_20_method_154_code, 1, some .boolean, T_js_isLatin1, 1, 0, 0, 90, 531, 122, 529, 530)
def M_js_checkIndex : MT := (⟨"java/lang/String", "checkIndex", "(II)V"⟩, prog_20_method_155_code, 2, none, T_js_checkIndex, 2, 2, 1, 90, 537, 122, 536, 0)
def M_jl_charAt : MT := (⟨"java/lang/StringLatin1", "charAt", "([BI)C"⟩, prog_21_method_2_code, 2, some .char, T_jl_charAt, 3, 2, 1, 99, 534, 123, 533, 0)
def M_jp_checkIndex : MT := (⟨"jdk/internal/util/Preconditions", "checkIndex", "(IILjava/util/function/BiFunction;)I"⟩, prog_27_method_11_code, 3, some .int, T_jp_checkIndex, 1, 3, 1, 99, 542, 124, 541, 0)
def M_l_law : MT := (⟨"WeighingPlatesLaw", "law", "([I)Z"⟩, code, 7, some .boolean, T_l_law, 13, 1, 8, 99, 0, 0, 0, 0)
def mm : List MT := [M_ac_init, M_ac_clear, M_ac_note, M_ac_dropOldest, M_ac_takeBack, M_bn_init, M_bn_clear, M_bn_makeDoubled,
  M_bn_makeSquares, M_bn_has, M_bn_hasMask, M_bn_isSet, M_bn_isLost, M_bn_lostCount, M_bn_order, M_bn_orderSquared,
  M_bn_half, M_bn_monitor, M_bn_shutterOf, M_bn_setShutter, M_bn_readOf, M_bn_aloneOf, M_mt_init, M_mt_build,
  M_mt_tells, M_mt_times, M_mt_squares, M_mt_sumOfLooks, M_mt_allAgree, M_mt_load, M_mt_firstColour, M_mt_clearPivot,
  M_mt_findTold, M_mt_hasOnlyPivot, M_ra_part, M_ra_isWhole, M_ra_commonDivisor, M_rd_init, M_rd_readAll, M_rd_fail,
  M_rd_next, M_rd_runOf, M_rd_wholeOf, M_rd_isWord, M_rd_takeWord, M_rd_takeWhole, M_rd_takeNew, M_rd_takeLine,
  M_rd_takeBench, M_rd_isPrimeOfBench, M_rd_takeLight, M_rd_takeStuck, M_rd_takeNoise, M_rd_takeLost, M_rd_takeMask, M_sg_init,
  M_sg_startAnew, M_sg_forget, M_sg_lookAt, M_sg_keep, M_sg_scanAll, M_sg_findNets, M_sg_findBacks, M_sg_errorOf,
  M_su_init, M_su_count, M_su_numberOf, M_su_holds, M_su_supposeFine, M_su_supposeOpen, M_su_supposeShut, M_su_put,
  M_su_sumIsRight, M_su_logIsRight, M_tp_init, M_tp_hasRoom, M_tp_put, M_tr_init, M_tr_find, M_tr_findSteps,
  M_tr_fewestFrom, M_tr_movesBy, M_tr_walk, M_tr_nextOf, M_w_init, M_w_feed, M_w_bench, M_w_fault,
  M_w_where, M_w_about, M_w_plate, M_w_common, M_w_which, M_w_apart, M_w_odd, M_w_light,
  M_w_shutter, M_w_noise, M_w_lost, M_w_look, M_w_logged, M_w_scan, M_w_blinds, M_w_reading,
  M_w_net, M_w_back, M_w_odds, M_w_more, M_w_error, M_w_errors, M_w_worst, M_w_share,
  M_w_grains, M_w_better, M_w_alone, M_w_alones, M_w_closer, M_w_suspects, M_w_suspect, M_w_supposed,
  M_w_mask, M_w_rank, M_w_told, M_w_solved, M_w_factor, M_w_shareBy, M_w_fewer, M_w_agree,
  M_w_tour, M_w_tourAt, M_w_sign, M_w_shine, M_w_stick, M_w_lose, M_w_undo, M_w_stuck,
  M_w_size, M_w_trouble, M_w_settle, M_w_haveBench, M_w_haveOne, M_w_haveSet, M_w_haveBacks, M_w_haveBackOf,
  M_w_haveSuspects, M_w_haveTold, M_r_init, M_r_thrown, M_r_refused, M_r_refusedLong, M_r_good, M_r_in,
  M_r_has, M_r_many, M_r_divisor, M_r_sets, M_r_part, M_r_byteAt, M_r_next, M_r_nextWord,
  M_r_nextWhole, M_r_nextSign, M_r_flaw, M_r_isWord, M_r_needs, M_r_wholeAt, M_r_readWhole, M_r_readNew,
  M_r_readAll, M_r_readLine, M_r_begins, M_r_readBench, M_r_readOrder, M_r_readLight, M_r_readStuckOne, M_r_readNoiseOf,
  M_r_readLost, M_r_readMaskOf, M_r_feed, M_r_bench, M_r_takesOver, M_r_laysDoubled, M_r_laysSquares, M_r_fault,
  M_r_where, M_r_monitor, M_r_about, M_r_isOne, M_r_isSet, M_r_plate, M_r_common, M_r_which,
  M_r_apart, M_r_odd, M_r_light, M_r_shutter, M_r_noise, M_r_lost, M_r_ends, M_r_through,
  M_r_looks, M_r_look, M_r_logged, M_r_scan, M_r_blinds, M_r_refusedLow, M_r_reading, M_r_losses,
  M_r_netSum, M_r_netOf, M_r_net, M_r_refuses, M_r_netAll, M_r_partsOf, M_r_errorParts, M_r_back,
  M_r_odds, M_r_more, M_r_error, M_r_errors, M_r_plain, M_r_worst, M_r_share, M_r_grains,
  M_r_better, M_r_aloneOf, M_r_offAlone, M_r_alone, M_r_alones, M_r_closer, M_r_isSuspect, M_r_supposes,
  M_r_supposesFine, M_r_supposesOpen, M_r_supposesShut, M_r_areLights, M_r_areSeen, M_r_supposedRead, M_r_refusesSuspects, M_r_suspectNumber,
  M_r_suspects, M_r_suspect, M_r_supposed, M_r_puts, M_r_clears, M_r_laysRows, M_r_laysRow, M_r_rowOf,
  M_r_mask, M_r_rank, M_r_told, M_r_solved, M_r_factor, M_r_squaresOf, M_r_shareBy, M_r_fewer,
  M_r_agree, M_r_movesTo, M_r_goes, M_r_laysTours, M_r_tour, M_r_tourAt, M_r_sign, M_r_signAt,
  M_r_remembers, M_r_changed, M_r_shine, M_r_stick, M_r_lose, M_r_undo, M_r_stuck, M_r_size,
  M_r_trouble, M_ji_bitCount, M_js_length, M_js_charAt, M_js_coder, M_js_isLatin1, M_js_checkIndex, M_jl_charAt,
  M_jp_checkIndex, M_l_law]
end
section
/-! ===== the abstract machine: values, memory, one instruction, stretches of code ===== -/
/-- an int, a long, a reference (its role, its length, its number) or null -/
abbrev AV : Type := Int32 ⊕ (Int64 ⊕ Option (Nat × Nat × Nat))
abbrev vI (x : Int32) : AV := .inl x
abbrev vL (x : Int64) : AV := .inr (.inl x)
abbrev vO (q : Option (Nat × Nat × Nat)) : AV := .inr (.inr q)
abbrev vR (ro n a : Nat) : AV := .inr (.inr (some (ro, n, a)))
abbrev eLS : Type := List (Option AV)
abbrev MR : Type := Nat → Nat → Option (Nat × Nat × Nat)
abbrev MI : Type := Nat → Nat → Int32
abbrev ML : Type := Nat → Nat → Int64
abbrev HP : Type := Nat → MR → MI → ML → Prop
/-- one place of a memory changed -/
def u2 {α : Type} (f : Nat → Nat → α) (a k : Nat) (v : α) : Nat → Nat → α := fun b => if b = a then (fun j => if j = k then v else f a j) else f b
/-- one cell of a memory made anew -/
def z2 {α : Type} (f : Nat → Nat → α) (a : Nat) (v : α) : Nat → Nat → α := fun b => if b = a then (fun _ => v) else f b
def dflM : MT := (⟨"", "", ""⟩, ⟨#[]⟩, 0, none, [], 0, 0, 9, 99, 0, 0, 0, 0)
def mget (y : Nat) : MT := mm.getD y dflM
def mNm (y : Nat) : MethodName := (mget y).1
def mCd (y : Nat) : ByteArray := (mget y).2.1
def mMx (y : Nat) : Nat := (mget y).2.2.1
def mRt (y : Nat) : Option FieldType := (mget y).2.2.2.1
def mTb (y : Nat) : List Row := (mget y).2.2.2.2.1
def mDp (y : Nat) : Nat := (mget y).2.2.2.2.2.1
def mNa (y : Nat) : Nat := (mget y).2.2.2.2.2.2.1
def mKd (y : Nat) : Nat := (mget y).2.2.2.2.2.2.2.1
def mCi (y : Nat) : Nat := (mget y).2.2.2.2.2.2.2.2.1
/-- the kind of a field -/
def fk (ci k : Nat) : Nat := (fkT.getD ci []).getD k 9
def clN (ci : Nat) : Nat := (fkT.getD ci []).length
/-- numbers that stand in the code -/
def cI (n sg : Nat) : Int32 := match sg with
  | 0 => nI n
  | _ => -(nI n)
def cL (n sg : Nat) : Int64 := match sg with
  | 0 => lN n
  | _ => -(lN n)
def cIK (n sg : Nat) (K : Int32 → Prop) : Prop := match sg with
  | 0 => K (nI n)
  | _ => K (-(nI n))
def cLK (n sg : Nat) (K : Int64 → Prop) : Prop := match sg with
  | 0 => K (lN n)
  | _ => K (-(lN n))
theorem cIK_eq (n sg : Nat) (K : Int32 → Prop) : cIK n sg K = K (cI n sg) := by cases sg <;> rfl
theorem cLK_eq (n sg : Nat) (K : Int64 → Prop) : cLK n sg K = K (cL n sg) := by cases sg <;> rfl
def prC (i : Nat) : Int32 := ([3, 7, 11, 19, 23, 31] : List Int32).getD i 0
-- locals
def lg : eLS → Nat → Option AV
  | [], _ => none
  | x :: _, 0 => x
  | _ :: r, n + 1 => lg r n
def clrK {β : Sort _} (x : Option AV) (K : Option AV → β) : β := match x with
  | none => K none
  | some (.inl a) => K (some (.inl a))
  | some (.inr (.inl _)) => K none
  | some (.inr (.inr q)) => K (some (.inr (.inr q)))
/-- storing a value of one slot -/
def stoK {β : Sort _} : eLS → Nat → AV → (eLS → β) → β
  | [], _, _, K => K []
  | _ :: r, 0, v, K => K (some v :: r)
  | x :: r, 1, v, K => clrK x (fun x' => stoK r 0 v (fun r' => K (x' :: r')))
  | x :: r, i + 2, v, K => stoK r (i + 1) v (fun r' => K (x :: r'))
/-- storing a value of two slots -/
def stoLK {β : Sort _} : eLS → Nat → AV → (eLS → β) → β
  | _ :: _ :: r, 0, v, K => K (some v :: none :: r)
  | x :: r, 1, v, K => clrK x (fun x' => stoLK r 0 v (fun r' => K (x' :: r')))
  | x :: r, i + 2, v, K => stoLK r (i + 1) v (fun r' => K (x :: r'))
  | _, _, _, K => K []
/-- the locals at a method's entry -/
def entK {β : Sort _} : List AV → Nat → (eLS → β) → β
  | [], n, K => K (List.replicate n none)
  | .inr (.inl x) :: r, n, K => entK r (n - 2) (fun l => K (some (.inr (.inl x)) :: none :: l))
  | .inl x :: r, n, K => entK r (n - 1) (fun l => K (some (.inl x) :: l))
  | .inr (.inr q) :: r, n, K => entK r (n - 1) (fun l => K (some (.inr (.inr q)) :: l))
/-- so many values off the stack, the deepest first -/
def popK {β : Sort _} : Nat → List AV → List AV → (List AV → List AV → β) → β → β
  | 0, st, acc, K, _ => K acc st
  | _ + 1, [], _, _, z => z
  | n + 1, v :: st, acc, K, z => popK n st (v :: acc) K z
def catA : AV → Nat
  | .inr (.inl _) => 2
  | _ => 1
def catS : List AV → Nat
  | [] => 0
  | v :: r => catA v + catS r
def psh (rv : Option AV) (t : List AV) : List AV := match rv with
  | none => t
  | some v => v :: t
def suf : List Row → Nat → List Row
  | [], _ => []
  | r :: l, pc => bif Nat.beq r.1 pc then r :: l else suf l pc
/-- what an int answer owes to the type of the method -/
def retK (rt : Option FieldType) (x : Int32) (K : Prop) : Prop := match rt with
  | some .int => K
  | some .boolean => (x = 0 ∨ x = 1) ∧ K
  | some ty => narrow ty (.int x) = .int x ∧ K
  | none => False
def brc (cd : ClassFile.Cond) (x y : Int32) (J N : Prop) : Prop := match cd with
  | .eq => (x = y → J) ∧ (¬ x = y → N)
  | .ne => (¬ x = y → J) ∧ (x = y → N)
  | .lt => (x < y → J) ∧ (¬ x < y → N)
  | .ge => (y ≤ x → J) ∧ (¬ y ≤ x → N)
  | .gt => (y < x → J) ∧ (¬ y < x → N)
  | .le => (x ≤ y → J) ∧ (¬ x ≤ y → N)
def arOK (ro : Nat) : Bool := Nat.blt ro 4 || Nat.beq ro 101 || Nat.beq ro 102 || Nat.beq ro 104
/-- one instruction: N goes on behind it, J at its target, A: it isn't known here, Rt: the method answers, Cl: a call -/
def stp (rt : Option FieldType) (r : Row) (ls : eLS) (st : List AV) (k s c : Nat) (mr : MR) (mi : MI) (ml : ML) (N : eLS → List AV → Nat → Nat → HP) (J : List AV → Prop) (A : Prop) (Rt : Option AV → Prop) (Cl : Prop) : Prop :=
  match r with
  | (_, ins, _, x1, x2, _, v, _) => match ins with
    | .iload i => match lg ls i with
      | some (.inl x) => N ls (.inl x :: st) k s c mr mi ml
      | _ => A
    | .iload_n i => match lg ls i.val with
      | some (.inl x) => N ls (.inl x :: st) k s c mr mi ml
      | _ => A
    | .lload i => match lg ls i with
      | some (.inr (.inl x)) => N ls (.inr (.inl x) :: st) k s c mr mi ml
      | _ => A
    | .lload_n i => match lg ls i.val with
      | some (.inr (.inl x)) => N ls (.inr (.inl x) :: st) k s c mr mi ml
      | _ => A
    | .aload i => match lg ls i with
      | some (.inr (.inr (some q))) => N ls (.inr (.inr (some q)) :: st) k s c mr mi ml
      | _ => A
    | .aload_n i => match lg ls i.val with
      | some (.inr (.inr (some q))) => N ls (.inr (.inr (some q)) :: st) k s c mr mi ml
      | _ => A
    | .istore i => match st with
      | .inl x :: t => stoK ls i (.inl x) (fun ls' => N ls' t k s c mr mi ml)
      | _ => A
    | .istore_n i => match st with
      | .inl x :: t => stoK ls i.val (.inl x) (fun ls' => N ls' t k s c mr mi ml)
      | _ => A
    | .lstore i => match st with
      | .inr (.inl x) :: t => stoLK ls i (.inr (.inl x)) (fun ls' => N ls' t k s c mr mi ml)
      | _ => A
    | .lstore_n i => match st with
      | .inr (.inl x) :: t => stoLK ls i.val (.inr (.inl x)) (fun ls' => N ls' t k s c mr mi ml)
      | _ => A
    | .astore i => match st with
      | .inr (.inr (some q)) :: t => stoK ls i (.inr (.inr (some q))) (fun ls' => N ls' t k s c mr mi ml)
      | _ => A
    | .astore_n i => match st with
      | .inr (.inr (some q)) :: t => stoK ls i.val (.inr (.inr (some q))) (fun ls' => N ls' t k s c mr mi ml)
      | _ => A
    | .iconst _ => cIK x1 x2 (fun w => N ls (.inl w :: st) k s c mr mi ml)
    | .bipush _ => cIK x1 x2 (fun w => N ls (.inl w :: st) k s c mr mi ml)
    | .sipush _ => cIK x1 x2 (fun w => N ls (.inl w :: st) k s c mr mi ml)
    | .lconst _ => cLK x1 x2 (fun w => N ls (.inr (.inl w) :: st) k s c mr mi ml)
    | .ldc _ => match v with
      | 0 => cIK x1 x2 (fun w => N ls (.inl w :: st) k s c mr mi ml)
      | 1 => N ls (.inr (.inr (some (100, 0, x1))) :: st) k s c mr mi ml
      | _ => A
    | .ldc_w _ => match v with
      | 0 => cIK x1 x2 (fun w => N ls (.inl w :: st) k s c mr mi ml)
      | _ => A
    | .ldc2_w _ => match v with
      | 0 => cLK x1 x2 (fun w => N ls (.inr (.inl w) :: st) k s c mr mi ml)
      | _ => A
    | .iinc i _ => match lg ls i with
      | some (.inl x) => cIK x1 x2 (fun w => stoK ls i (.inl (x + w)) (fun ls' => N ls' st k s c mr mi ml))
      | _ => A
    | .iadd => match st with
      | .inl y :: .inl x :: t => N ls (.inl (x + y) :: t) k s c mr mi ml
      | _ => A
    | .isub => match st with
      | .inl y :: .inl x :: t => N ls (.inl (x - y) :: t) k s c mr mi ml
      | _ => A
    | .imul => match st with
      | .inl y :: .inl x :: t => N ls (.inl (x * y) :: t) k s c mr mi ml
      | _ => A
    | .iand => match st with
      | .inl y :: .inl x :: t => N ls (.inl (x &&& y) :: t) k s c mr mi ml
      | _ => A
    | .ior => match st with
      | .inl y :: .inl x :: t => N ls (.inl (x ||| y) :: t) k s c mr mi ml
      | _ => A
    | .ixor => match st with
      | .inl y :: .inl x :: t => N ls (.inl (x ^^^ y) :: t) k s c mr mi ml
      | _ => A
    | .idiv => match st with
      | .inl y :: .inl x :: t => ¬ y = 0 ∧ N ls (.inl (x / y) :: t) k s c mr mi ml
      | _ => A
    | .irem => match st with
      | .inl y :: .inl x :: t => ¬ y = 0 ∧ N ls (.inl (x - x / y * y) :: t) k s c mr mi ml
      | _ => A
    | .ishl => match st with
      | .inl y :: .inl x :: t => N ls (.inl (x <<< (y &&& 31)) :: t) k s c mr mi ml
      | _ => A
    | .ishr => match st with
      | .inl y :: .inl x :: t => N ls (.inl (x >>> (y &&& 31)) :: t) k s c mr mi ml
      | _ => A
    | .iushr => match st with
      | .inl y :: .inl x :: t => N ls (.inl ((x.toUInt32 >>> (y.toUInt32 &&& Int32.toUInt32 31)).toInt32) :: t) k s c mr mi ml
      | _ => A
    | .ineg => match st with
      | .inl x :: t => N ls (.inl (-x) :: t) k s c mr mi ml
      | _ => A
    | .ladd => match st with
      | .inr (.inl y) :: .inr (.inl x) :: t => N ls (.inr (.inl (x + y)) :: t) k s c mr mi ml
      | _ => A
    | .lsub => match st with
      | .inr (.inl y) :: .inr (.inl x) :: t => N ls (.inr (.inl (x - y)) :: t) k s c mr mi ml
      | _ => A
    | .lmul => match st with
      | .inr (.inl y) :: .inr (.inl x) :: t => N ls (.inr (.inl (x * y)) :: t) k s c mr mi ml
      | _ => A
    | .lor => match st with
      | .inr (.inl y) :: .inr (.inl x) :: t => N ls (.inr (.inl (x ||| y)) :: t) k s c mr mi ml
      | _ => A
    | .ldiv => match st with
      | .inr (.inl y) :: .inr (.inl x) :: t => ¬ y = 0 ∧ N ls (.inr (.inl (x / y)) :: t) k s c mr mi ml
      | _ => A
    | .lrem => match st with
      | .inr (.inl y) :: .inr (.inl x) :: t => ¬ y = 0 ∧ N ls (.inr (.inl (x - x / y * y)) :: t) k s c mr mi ml
      | _ => A
    | .lneg => match st with
      | .inr (.inl x) :: t => N ls (.inr (.inl (-x)) :: t) k s c mr mi ml
      | _ => A
    | .lshl => match st with
      | .inl y :: .inr (.inl x) :: t => N ls (.inr (.inl (x <<< (y.toInt64 &&& 63))) :: t) k s c mr mi ml
      | _ => A
    | .i2l => match st with
      | .inl x :: t => N ls (.inr (.inl x.toInt64) :: t) k s c mr mi ml
      | _ => A
    | .l2i => match st with
      | .inr (.inl x) :: t => N ls (.inl x.toInt32 :: t) k s c mr mi ml
      | _ => A
    | .i2b => match st with
      | .inl x :: t => N ls (.inl x.toInt8.toInt32 :: t) k s c mr mi ml
      | _ => A
    | .i2c => match st with
      | .inl x :: t => N ls (.inl (x.toUInt32 % 65536).toInt32 :: t) k s c mr mi ml
      | _ => A
    | .lcmp => match st with
      | .inr (.inl y) :: .inr (.inl x) :: t => N ls (.inl (lg_cmp x y) :: t) k s c mr mi ml
      | _ => A
    | .dup => match st with
      | .inl x :: t => N ls (.inl x :: .inl x :: t) k s c mr mi ml
      | .inr (.inr q) :: t => N ls (.inr (.inr q) :: .inr (.inr q) :: t) k s c mr mi ml
      | _ => A
    | .dup2 => match st with
      | .inr (.inl x) :: t => N ls (.inr (.inl x) :: .inr (.inl x) :: t) k s c mr mi ml
      | .inl y :: .inl x :: t => N ls (.inl y :: .inl x :: .inl y :: .inl x :: t) k s c mr mi ml
      | .inl y :: .inr (.inr q) :: t => N ls (.inl y :: .inr (.inr q) :: .inl y :: .inr (.inr q) :: t) k s c mr mi ml
      | _ => A
    | .pop => match st with
      | .inl _ :: t => N ls t k s c mr mi ml
      | .inr (.inr _) :: t => N ls t k s c mr mi ml
      | _ => A
    | .goto _ => J st
    | .ifCond cd _ => match st with
      | .inl x :: t => brc cd x 0 (J t) (N ls t k s c mr mi ml)
      | _ => A
    | .if_icmp cd _ => match st with
      | .inl y :: .inl x :: t => brc cd x y (J t) (N ls t k s c mr mi ml)
      | _ => A
    | .getfield _ => match st with
      | .inr (.inr (some (ro, _, a))) :: t =>
        bif Nat.beq x1 90 then (bif Nat.beq ro 100 then (match x2 with
          | 0 => N ls (.inr (.inr (some (102, strN.getD a 0, a))) :: t) k s c mr mi ml
          | 1 => N ls (.inl 0 :: t) k s c mr mi ml
          | _ => A) else A)
        else (bif Nat.beq ro (x1 + 10) then (match fk x1 x2 with
          | 0 => N ls (.inl (mi a x2) :: t) k s c mr mi ml
          | 1 => N ls (.inr (.inl (ml a x2)) :: t) k s c mr mi ml
          | 2 => N ls (.inr (.inr (mr a x2)) :: t) k s c mr mi ml
          | 3 => N ls (.inl (mi a x2) :: t) k s c mr mi ml
          | _ => A) else A)
      | _ => A
    | .putfield _ => match st with
      | w :: .inr (.inr (some (ro, _, a))) :: t =>
        bif Nat.beq ro (x1 + 10) then (match fk x1 x2, w with
          | 0, .inl x => N ls t k s c mr (u2 mi a x2 x) ml
          | 1, .inr (.inl x) => N ls t k s c mr mi (u2 ml a x2 x)
          | 2, .inr (.inr q) => N ls t k s c (u2 mr a x2 q) mi ml
          | 3, .inl x => (x = 0 ∨ x = 1) ∧ N ls t k s c mr (u2 mi a x2 x) ml
          | _, _ => A) else A
      | _ => A
    | .iaload => match st with
      | .inl i :: .inr (.inr (some (ro, n, a))) :: t =>
        bif Nat.beq ro 0 then (vp_in i n ∧ N ls (.inl (mi a i.toNatClampNeg) :: t) k s c mr mi ml)
        else bif Nat.beq ro 104 then (vp_in i n ∧ N ls (.inl (mi 0 i.toNatClampNeg) :: t) k s c mr mi ml)
        else bif Nat.beq ro 101 then (vp_in i n ∧ N ls (.inl (prC i.toNatClampNeg) :: t) k s c mr mi ml) else A
      | _ => A
    | .baload => match st with
      | .inl i :: .inr (.inr (some (ro, n, a))) :: t =>
        bif Nat.beq ro 2 then (vp_in i n ∧ N ls (.inl (mi a i.toNatClampNeg) :: t) k s c mr mi ml)
        else bif Nat.beq ro 102 then (vp_in i n ∧ N ls (.inl ((strB.getD a []).getD i.toNatClampNeg 0) :: t) k s c mr mi ml) else A
      | _ => A
    | .laload => match st with
      | .inl i :: .inr (.inr (some (ro, n, a))) :: t => bif Nat.beq ro 1 then (vp_in i n ∧ N ls (.inr (.inl (ml a i.toNatClampNeg)) :: t) k s c mr mi ml) else A
      | _ => A
    | .aaload => match st with
      | .inl i :: .inr (.inr (some (ro, n, a))) :: t => bif Nat.beq ro 3 then (vp_in i n ∧ ∃ q, mr a i.toNatClampNeg = some q ∧ N ls (.inr (.inr (some q)) :: t) k s c mr mi ml) else A
      | _ => A
    | .iastore => match st with
      | .inl x :: .inl i :: .inr (.inr (some (ro, n, a))) :: t => bif Nat.beq ro 0 then (vp_in i n ∧ N ls t k s c mr (u2 mi a i.toNatClampNeg x) ml) else A
      | _ => A
    | .bastore => match st with
      | .inl x :: .inl i :: .inr (.inr (some (ro, n, a))) :: t => bif Nat.beq ro 2 then (vp_in i n ∧ N ls t k s c mr (u2 mi a i.toNatClampNeg (vp_nar .byte x)) ml) else A
      | _ => A
    | .lastore => match st with
      | .inr (.inl x) :: .inl i :: .inr (.inr (some (ro, n, a))) :: t => bif Nat.beq ro 1 then (vp_in i n ∧ N ls t k s c mr mi (u2 ml a i.toNatClampNeg x)) else A
      | _ => A
    | .arraylength => match st with
      | .inr (.inr (some (ro, n, _))) :: t => bif arOK ro then N ls (.inl (nI n) :: t) k s c mr mi ml else A
      | _ => A
    | .getstatic _ => match x1 with
      | 0 => N ls (.inl 1 :: st) k s c mr mi ml
      | 1 => N ls (.inr (.inr (some (101, 6, 0))) :: st) k s c mr mi ml
      | 2 => N ls (.inr (.inr (some (103, 0, 0))) :: st) k s c mr mi ml
      | _ => A
    | .new _ => match k with
      | 0 => A
      | k' + 1 => bif (Nat.blt x1 10 && Nat.ble (clN x1) s) then N ls (.inr (.inr (some (x1 + 10, 0, c))) :: st) k' (s - clN x1) (c + 1) (z2 mr c none) (z2 mi c 0) (z2 ml c 0) else A
    | .newarray ty => match st with
      | .inl n :: t => ∃ m : Nat, n = nI m ∧ m ≤ 65536 ∧ 1 ≤ k ∧ m ≤ s ∧ (match ty with
        | .int => N ls (.inr (.inr (some (0, m, c))) :: t) (k - 1) (s - m) (c + 1) (z2 mr c none) (z2 mi c 0) (z2 ml c 0)
        | .long => N ls (.inr (.inr (some (1, m, c))) :: t) (k - 1) (s - m) (c + 1) (z2 mr c none) (z2 mi c 0) (z2 ml c 0)
        | .byte => N ls (.inr (.inr (some (2, m, c))) :: t) (k - 1) (s - m) (c + 1) (z2 mr c none) (z2 mi c 0) (z2 ml c 0)
        | _ => False)
      | _ => A
    | .invokevirtual _ => Cl
    | .invokestatic _ => match x2 with
      | 5 => (match st with
        | .inl y :: .inl x :: t => bif Nat.ble (catS t) 8 then N ls (.inl (if x < y then y else x) :: t) k s c mr mi ml else A
        | _ => A)
      | 6 => (match st with
        | .inl y :: .inl x :: t => bif Nat.ble (catS t) 8 then N ls (.inl (if y < x then y else x) :: t) k s c mr mi ml else A
        | _ => A)
      | 7 => (match st with
        | .inr (.inl x) :: t => bif Nat.ble (catS t) 8 then N ls (.inr (.inl (if 0 < x then x else -x)) :: t) k s c mr mi ml else A
        | _ => A)
      | _ => Cl
    | .invokespecial _ => bif Nat.beq x2 4 then (match st with
        | .inr (.inr (some _)) :: t => N ls t k s c mr mi ml
        | _ => A) else Cl
    | .ireturn => match st with
      | [.inl x] => retK rt x (Rt (some (.inl x)))
      | _ => A
    | .lreturn => match st with
      | [.inr (.inl x)] => Rt (some (.inr (.inl x)))
      | _ => A
    | .return_ => match st with
      | [] => Rt none
      | _ => A
    | _ => A
end
section
/-! ===== the words that stay ===== -/
def WT : List Cond := lw_tbl.filter goodWord
end
section
/-! ===== the rows are the code's: checked by computation ===== -/
def wAt (i : Nat) (w : Cond) : Bool := decide (lw_tbl[i]? = some w) && goodWord w
theorem wAt_mem {i : Nat} {w : Cond} (h : wAt i w = true) : w ∈ WT := by
  simp only [wAt, Bool.and_eq_true, decide_eq_true_eq] at h
  exact List.mem_filter.mpr ⟨List.mem_of_getElem? h.1, h.2⟩
def rlen (ins : Instr) (d : Nat) : Nat := match ins with
  | .iload _ => 2
  | .lload _ => 2
  | .aload _ => 2
  | .istore _ => 2
  | .lstore _ => 2
  | .astore _ => 2
  | .bipush _ => 2
  | .ldc _ => 2
  | .newarray _ => 2
  | .sipush _ => 3
  | .ldc_w _ => 3
  | .ldc2_w _ => 3
  | .iinc _ _ => 3
  | .goto _ => 3
  | .ifCond _ _ => 3
  | .if_icmp _ _ => 3
  | .getfield _ => 3
  | .putfield _ => 3
  | .getstatic _ => 3
  | .invokevirtual _ => 3
  | .invokestatic _ => 3
  | .invokespecial _ => 3
  | .new _ => 3
  | .multianewarray _ _ => 4
  | .tableswitch _ _ _ _ => d
  | .lookupswitch _ _ => d
  | _ => 1
def ftOK (kd : Nat) (d : String) : Bool := match kd, parseFieldDescriptor d with
  | 0, some .int => true
  | 1, some .long => true
  | 3, some .boolean => true
  | 2, some ty => ty.isReference
  | _, _ => false
def fCk (own : String) (idx x1 x2 x3 : Nat) : Bool := match clT[x1]? with
  | some (C, T, N) => Nat.blt x2 N && wAt x3 (.fieldLink own idx C (T x2).2.1 (T x2).2.2.1) && decide ((T x2).1 = C) && ftOK (fk x1 x2) (T x2).2.2.1
  | none => false
def fFin (x1 x2 : Nat) : Bool := match clT[x1]? with
  | some (_, T, _) => (T x2).2.2.2
  | none => true
def rwOK (own nmM : String) (cd : ByteArray) (mx : Nat) (r : Row) : Bool := match r with
  | (pc, ins, nx, x1, x2, x3, v, _) =>
    decide (decode cd pc = .ok (ins, rlen ins (nx - pc))) && Nat.beq nx (pc + rlen ins (nx - pc)) && (match ins with
    | .istore i => Nat.blt i mx
    | .istore_n i => Nat.blt i.val mx
    | .lstore i => Nat.blt (i + 1) mx
    | .lstore_n i => Nat.blt (i.val + 1) mx
    | .astore i => Nat.blt i mx
    | .astore_n i => Nat.blt i.val mx
    | .iinc i n => Nat.blt i mx && decide (Int32.ofInt n = cI x1 x2)
    | .iconst n => decide (Int32.ofInt n = cI x1 x2)
    | .bipush n => decide ((Int8.ofInt n).toInt32 = cI x1 x2)
    | .sipush n => decide ((Int16.ofInt n).toInt32 = cI x1 x2)
    | .lconst n => decide (Int64.ofNat n.val = cL x1 x2)
    | .ldc idx => (match v with
      | 0 => wAt x3 (.constant own idx (cI x1 x2))
      | 1 => (match ldT[x2]? with
        | some (o, i, _, t) => decide (o = own) && Nat.beq i idx && Nat.beq t x1
        | none => false)
      | _ => true)
    | .ldc_w idx => (match v with
      | 0 => wAt x3 (.constant own idx (cI x1 x2))
      | _ => true)
    | .ldc2_w idx => (match v with
      | 0 => wAt x3 (.constantLong own idx (cL x1 x2))
      | _ => true)
    | .goto off => decide ((pc : Int) + off = (x1 : Int))
    | .ifCond _ off => decide ((pc : Int) + off = (x1 : Int))
    | .if_icmp _ off => decide ((pc : Int) + off = (x1 : Int))
    | .getfield idx => (bif Nat.beq x1 90 then (match x2 with
        | 0 => wAt x3 (.fieldLink own idx "java/lang/String" "value" "[B")
        | 1 => wAt x3 (.fieldLink own idx "java/lang/String" "coder" "B")
        | _ => true)
      else (Nat.beq x1 99 || fCk own idx x1 x2 x3))
    | .putfield idx => fCk own idx x1 x2 x3 && (!fFin x1 x2 || (decide (nmM = "<init>") && (match clT[x1]? with
        | some (C, _, _) => decide (C = own)
        | none => false)))
    | .getstatic idx => (match x1 with
        | 0 => wAt x3 (.fieldLink own idx "java/lang/String" "COMPACT_STRINGS" "Z")
        | 1 => wAt x3 (.fieldLink own idx "WeighingPlates$Reader" "PRIMES" "[I")
        | 2 => wAt x3 (.fieldLink own idx "jdk/internal/util/Preconditions" "SIOOBE_FORMATTER" "Ljava/util/function/BiFunction;")
        | _ => true)
    | .new idx => (Nat.beq x1 99 || (match clT[x1]? with
        | some (C, _, _) => wAt x3 (.classLink own idx C)
        | none => false))
    | .invokevirtual idx => (Nat.beq x2 9 || (Nat.beq x2 0 && Nat.blt x1 282 && Nat.beq (mKd x1) 0 && wAt x3 (.methodLink own idx (mNm x1))))
    | .invokestatic idx => (Nat.beq x2 9 || (Nat.beq x2 5 && wAt x3 (.methodLink own idx Lib.Math.max.name)) || (Nat.beq x2 6 && wAt x3 (.methodLink own idx Lib.Math.min.name)) || (Nat.beq x2 7 && wAt x3 (.methodLink own idx Lib.MathLoose.abs_long.x)) || (Nat.beq x2 1 && Nat.blt x1 282 && Nat.beq (mKd x1) 1 && wAt x3 (.methodLink own idx (mNm x1))))
    | .invokespecial idx => (Nat.beq x2 9 || (Nat.beq x2 4 && wAt x3 (.methodLink own idx objectInit)) || (Nat.beq x2 2 && Nat.blt x1 282 && Nat.beq (mKd x1) 2 && wAt x3 (.methodLink own idx (mNm x1))) || (Nat.beq x2 3 && Nat.blt x1 282 && Nat.beq (mKd x1) 2 && decide (nestT[x3]? = some (own, idx, mNm x1))))
    | _ => true)
def chn : List Row → Bool
  | a :: b :: l => Nat.beq a.2.2.1 b.1 && chn (b :: l)
  | _ => true
def okH (M : MT) : Bool := match M with
  | (nm, cd, mx, rt, T, _, na, kd, ci, wc, wi, wa, wb) =>
    chn T && (match T with
      | r :: _ => Nat.beq r.1 0
      | [] => false) && plainName nm.cls && Nat.ble mx 19 && decide ((parseMethodDescriptor nm.desc).map (fun d => d.parameters.length) = some na) && decide (nm.cls ≠ "java/lang/invoke/MethodHandle") && decide (nm.cls ≠ "java/lang/invoke/VarHandle") && (match kd with
      | 0 => wAt wc (.code nm cd mx rt) && wAt wi (.initialized nm.cls) && wAt wa (.instanceMethod nm) && wAt wb (.selects nm.cls nm nm) && (bif Nat.beq ci 90 then decide (nm.cls = "java/lang/String") else (match clT[ci]? with
        | some (C, _, _) => decide (nm.cls = C)
        | none => false))
      | 1 => wAt wc (.code nm cd mx rt) && wAt wi (.initialized nm.cls) && wAt wa (.static nm)
      | 2 => wAt wc (.code nm cd mx rt) && wAt wi (.initialized nm.cls) && wAt wa (.instanceMethod nm) && decide (nm.name = "<init>")
      | _ => true)
def okT (M : MT) : Bool := M.2.2.2.2.1.all (rwOK M.1.cls M.1.name M.2.1 M.2.2.1) && okH M
/-- a class: its words, its fields' types, their names -/
def clOK (ci : Nat) : Bool := match clT[ci]? with
  | some (C, T, N) => (u_ws C T N).all (fun w => decide (w ∈ lw_tbl) && goodWord w) && decide (Cond.instantiable C N ∈ lw_tbl) && goodWord (Cond.instantiable C N) && decide (Cond.initialized C ∈ lw_tbl) && goodWord (Cond.initialized C) && Nat.beq N (clN ci) && (List.range N).all (fun k => ftOK (fk ci k) (T k).2.2.1)
     && (List.range N).all (fun a => (List.range N).all (fun b => Nat.beq a b || decide ((T a).2.1 ≠ (T b).2.1)))
  | none => false
theorem clOK_all : (List.range 10).all clOK = true := by decide +kernel
theorem arr_words : ∀ ty ∈ [FieldType.int, .long, .byte], Cond.arrayClass ty ∈ WT := by decide +kernel

theorem okT_ac_init : okT M_ac_init = true := by decide +kernel
theorem okT_ac_clear : okT M_ac_clear = true := by decide +kernel
theorem okT_ac_note : okT M_ac_note = true := by decide +kernel
theorem okT_ac_dropOldest : okT M_ac_dropOldest = true := by decide +kernel
theorem okT_ac_takeBack : okT M_ac_takeBack = true := by decide +kernel
theorem okT_bn_init : okT M_bn_init = true := by decide +kernel
theorem okT_bn_clear : okT M_bn_clear = true := by decide +kernel
theorem okT_bn_makeDoubled : okT M_bn_makeDoubled = true := by decide +kernel
theorem okT_bn_makeSquares : okT M_bn_makeSquares = true := by decide +kernel
theorem okT_bn_has : okT M_bn_has = true := by decide +kernel
theorem okT_bn_hasMask : okT M_bn_hasMask = true := by decide +kernel
theorem okT_bn_isSet : okT M_bn_isSet = true := by decide +kernel
theorem okT_bn_isLost : okT M_bn_isLost = true := by decide +kernel
theorem okT_bn_lostCount : okT M_bn_lostCount = true := by decide +kernel
theorem okT_bn_order : okT M_bn_order = true := by decide +kernel
theorem okT_bn_orderSquared : okT M_bn_orderSquared = true := by decide +kernel
theorem okT_bn_half : okT M_bn_half = true := by decide +kernel
theorem okT_bn_monitor : okT M_bn_monitor = true := by decide +kernel
theorem okT_bn_shutterOf : okT M_bn_shutterOf = true := by decide +kernel
theorem okT_bn_setShutter : okT M_bn_setShutter = true := by decide +kernel
theorem okT_bn_readOf : okT M_bn_readOf = true := by decide +kernel
theorem okT_bn_aloneOf : okT M_bn_aloneOf = true := by decide +kernel
theorem okT_mt_init : okT M_mt_init = true := by decide +kernel
theorem okT_mt_build : okT M_mt_build = true := by decide +kernel
theorem okT_mt_tells : okT M_mt_tells = true := by decide +kernel
theorem okT_mt_times : okT M_mt_times = true := by decide +kernel
theorem okT_mt_squares : okT M_mt_squares = true := by decide +kernel
theorem okT_mt_sumOfLooks : okT M_mt_sumOfLooks = true := by decide +kernel
theorem okT_mt_allAgree : okT M_mt_allAgree = true := by decide +kernel
theorem okT_mt_load : okT M_mt_load = true := by decide +kernel
theorem okT_mt_firstColour : okT M_mt_firstColour = true := by decide +kernel
theorem okT_mt_clearPivot : okT M_mt_clearPivot = true := by decide +kernel
theorem okT_mt_findTold : okT M_mt_findTold = true := by decide +kernel
theorem okT_mt_hasOnlyPivot : okT M_mt_hasOnlyPivot = true := by decide +kernel
theorem okT_ra_part : okT M_ra_part = true := by decide +kernel
theorem okT_ra_isWhole : okT M_ra_isWhole = true := by decide +kernel
theorem okT_ra_commonDivisor : okT M_ra_commonDivisor = true := by decide +kernel
theorem okT_rd_init : okT M_rd_init = true := by decide +kernel
theorem okT_rd_readAll : okT M_rd_readAll = true := by decide +kernel
theorem okT_rd_fail : okT M_rd_fail = true := by decide +kernel
theorem okT_rd_next : okT M_rd_next = true := by decide +kernel
theorem okT_rd_runOf : okT M_rd_runOf = true := by decide +kernel
theorem okT_rd_wholeOf : okT M_rd_wholeOf = true := by decide +kernel
theorem okT_rd_isWord : okT M_rd_isWord = true := by decide +kernel
theorem okT_rd_takeWord : okT M_rd_takeWord = true := by decide +kernel
theorem okT_rd_takeWhole : okT M_rd_takeWhole = true := by decide +kernel
theorem okT_rd_takeNew : okT M_rd_takeNew = true := by decide +kernel
theorem okT_rd_takeLine : okT M_rd_takeLine = true := by decide +kernel
theorem okT_rd_takeBench : okT M_rd_takeBench = true := by decide +kernel
theorem okT_rd_isPrimeOfBench : okT M_rd_isPrimeOfBench = true := by decide +kernel
theorem okT_rd_takeLight : okT M_rd_takeLight = true := by decide +kernel
theorem okT_rd_takeStuck : okT M_rd_takeStuck = true := by decide +kernel
theorem okT_rd_takeNoise : okT M_rd_takeNoise = true := by decide +kernel
theorem okT_rd_takeLost : okT M_rd_takeLost = true := by decide +kernel
theorem okT_rd_takeMask : okT M_rd_takeMask = true := by decide +kernel
theorem okT_sg_init : okT M_sg_init = true := by decide +kernel
theorem okT_sg_startAnew : okT M_sg_startAnew = true := by decide +kernel
theorem okT_sg_forget : okT M_sg_forget = true := by decide +kernel
theorem okT_sg_lookAt : okT M_sg_lookAt = true := by decide +kernel
theorem okT_sg_keep : okT M_sg_keep = true := by decide +kernel
theorem okT_sg_scanAll : okT M_sg_scanAll = true := by decide +kernel
theorem okT_sg_findNets : okT M_sg_findNets = true := by decide +kernel
theorem okT_sg_findBacks : okT M_sg_findBacks = true := by decide +kernel
theorem okT_sg_errorOf : okT M_sg_errorOf = true := by decide +kernel
theorem okT_su_init : okT M_su_init = true := by decide +kernel
theorem okT_su_count : okT M_su_count = true := by decide +kernel
theorem okT_su_numberOf : okT M_su_numberOf = true := by decide +kernel
theorem okT_su_holds : okT M_su_holds = true := by decide +kernel
theorem okT_su_supposeFine : okT M_su_supposeFine = true := by decide +kernel
theorem okT_su_supposeOpen : okT M_su_supposeOpen = true := by decide +kernel
theorem okT_su_supposeShut : okT M_su_supposeShut = true := by decide +kernel
theorem okT_su_put : okT M_su_put = true := by decide +kernel
theorem okT_su_sumIsRight : okT M_su_sumIsRight = true := by decide +kernel
theorem okT_su_logIsRight : okT M_su_logIsRight = true := by decide +kernel
theorem okT_tp_init : okT M_tp_init = true := by decide +kernel
theorem okT_tp_hasRoom : okT M_tp_hasRoom = true := by decide +kernel
theorem okT_tp_put : okT M_tp_put = true := by decide +kernel
theorem okT_tr_init : okT M_tr_init = true := by decide +kernel
theorem okT_tr_find : okT M_tr_find = true := by decide +kernel
theorem okT_tr_findSteps : okT M_tr_findSteps = true := by decide +kernel
theorem okT_tr_fewestFrom : okT M_tr_fewestFrom = true := by decide +kernel
theorem okT_tr_movesBy : okT M_tr_movesBy = true := by decide +kernel
theorem okT_tr_walk : okT M_tr_walk = true := by decide +kernel
theorem okT_tr_nextOf : okT M_tr_nextOf = true := by decide +kernel
theorem okT_w_init : okT M_w_init = true := by decide +kernel
theorem okT_w_feed : okT M_w_feed = true := by decide +kernel
theorem okT_w_bench : okT M_w_bench = true := by decide +kernel
theorem okT_w_fault : okT M_w_fault = true := by decide +kernel
theorem okT_w_where : okT M_w_where = true := by decide +kernel
theorem okT_w_about : okT M_w_about = true := by decide +kernel
theorem okT_w_plate : okT M_w_plate = true := by decide +kernel
theorem okT_w_common : okT M_w_common = true := by decide +kernel
theorem okT_w_which : okT M_w_which = true := by decide +kernel
theorem okT_w_apart : okT M_w_apart = true := by decide +kernel
theorem okT_w_odd : okT M_w_odd = true := by decide +kernel
theorem okT_w_light : okT M_w_light = true := by decide +kernel
theorem okT_w_shutter : okT M_w_shutter = true := by decide +kernel
theorem okT_w_noise : okT M_w_noise = true := by decide +kernel
theorem okT_w_lost : okT M_w_lost = true := by decide +kernel
theorem okT_w_look : okT M_w_look = true := by decide +kernel
theorem okT_w_logged : okT M_w_logged = true := by decide +kernel
theorem okT_w_scan : okT M_w_scan = true := by decide +kernel
theorem okT_w_blinds : okT M_w_blinds = true := by decide +kernel
theorem okT_w_reading : okT M_w_reading = true := by decide +kernel
theorem okT_w_net : okT M_w_net = true := by decide +kernel
theorem okT_w_back : okT M_w_back = true := by decide +kernel
theorem okT_w_odds : okT M_w_odds = true := by decide +kernel
theorem okT_w_more : okT M_w_more = true := by decide +kernel
theorem okT_w_error : okT M_w_error = true := by decide +kernel
theorem okT_w_errors : okT M_w_errors = true := by decide +kernel
theorem okT_w_worst : okT M_w_worst = true := by decide +kernel
theorem okT_w_share : okT M_w_share = true := by decide +kernel
theorem okT_w_grains : okT M_w_grains = true := by decide +kernel
theorem okT_w_better : okT M_w_better = true := by decide +kernel
theorem okT_w_alone : okT M_w_alone = true := by decide +kernel
theorem okT_w_alones : okT M_w_alones = true := by decide +kernel
theorem okT_w_closer : okT M_w_closer = true := by decide +kernel
theorem okT_w_suspects : okT M_w_suspects = true := by decide +kernel
theorem okT_w_suspect : okT M_w_suspect = true := by decide +kernel
theorem okT_w_supposed : okT M_w_supposed = true := by decide +kernel
theorem okT_w_mask : okT M_w_mask = true := by decide +kernel
theorem okT_w_rank : okT M_w_rank = true := by decide +kernel
theorem okT_w_told : okT M_w_told = true := by decide +kernel
theorem okT_w_solved : okT M_w_solved = true := by decide +kernel
theorem okT_w_factor : okT M_w_factor = true := by decide +kernel
theorem okT_w_shareBy : okT M_w_shareBy = true := by decide +kernel
theorem okT_w_fewer : okT M_w_fewer = true := by decide +kernel
theorem okT_w_agree : okT M_w_agree = true := by decide +kernel
theorem okT_w_tour : okT M_w_tour = true := by decide +kernel
theorem okT_w_tourAt : okT M_w_tourAt = true := by decide +kernel
theorem okT_w_sign : okT M_w_sign = true := by decide +kernel
theorem okT_w_shine : okT M_w_shine = true := by decide +kernel
theorem okT_w_stick : okT M_w_stick = true := by decide +kernel
theorem okT_w_lose : okT M_w_lose = true := by decide +kernel
theorem okT_w_undo : okT M_w_undo = true := by decide +kernel
theorem okT_w_stuck : okT M_w_stuck = true := by decide +kernel
theorem okT_w_size : okT M_w_size = true := by decide +kernel
theorem okT_w_trouble : okT M_w_trouble = true := by decide +kernel
theorem okT_w_settle : okT M_w_settle = true := by decide +kernel
theorem okT_w_haveBench : okT M_w_haveBench = true := by decide +kernel
theorem okT_w_haveOne : okT M_w_haveOne = true := by decide +kernel
theorem okT_w_haveSet : okT M_w_haveSet = true := by decide +kernel
theorem okT_w_haveBacks : okT M_w_haveBacks = true := by decide +kernel
theorem okT_w_haveBackOf : okT M_w_haveBackOf = true := by decide +kernel
theorem okT_w_haveSuspects : okT M_w_haveSuspects = true := by decide +kernel
theorem okT_w_haveTold : okT M_w_haveTold = true := by decide +kernel
theorem okT_ji_bitCount : okT M_ji_bitCount = true := by decide +kernel
theorem okT_js_length : okT M_js_length = true := by decide +kernel
theorem okT_js_charAt : okT M_js_charAt = true := by decide +kernel
theorem okT_js_coder : okT M_js_coder = true := by decide +kernel
theorem okT_js_isLatin1 : okT M_js_isLatin1 = true := by decide +kernel
theorem okT_js_checkIndex : okT M_js_checkIndex = true := by decide +kernel
theorem okT_jl_charAt : okT M_jl_charAt = true := by decide +kernel
theorem okT_jp_checkIndex : okT M_jp_checkIndex = true := by decide +kernel
end
section
theorem okT_r_init : okT M_r_init = true := by decide +kernel
theorem okT_r_thrown : okT M_r_thrown = true := by decide +kernel
theorem okT_r_refused : okT M_r_refused = true := by decide +kernel
theorem okT_r_refusedLong : okT M_r_refusedLong = true := by decide +kernel
theorem okT_r_good : okT M_r_good = true := by decide +kernel
theorem okT_r_in : okT M_r_in = true := by decide +kernel
theorem okT_r_has : okT M_r_has = true := by decide +kernel
theorem okT_r_many : okT M_r_many = true := by decide +kernel
theorem okT_r_divisor : okT M_r_divisor = true := by decide +kernel
theorem okT_r_sets : okT M_r_sets = true := by decide +kernel
theorem okT_r_part : okT M_r_part = true := by decide +kernel
theorem okT_r_byteAt : okT M_r_byteAt = true := by decide +kernel
theorem okT_r_next : okT M_r_next = true := by decide +kernel
theorem okT_r_nextWord : okT M_r_nextWord = true := by decide +kernel
theorem okT_r_nextWhole : okT M_r_nextWhole = true := by decide +kernel
theorem okT_r_nextSign : okT M_r_nextSign = true := by decide +kernel
theorem okT_r_flaw : okT M_r_flaw = true := by decide +kernel
theorem okT_r_isWord : okT M_r_isWord = true := by decide +kernel
theorem okT_r_needs : okT M_r_needs = true := by decide +kernel
theorem okT_r_wholeAt : okT M_r_wholeAt = true := by decide +kernel
theorem okT_r_readWhole : okT M_r_readWhole = true := by decide +kernel
theorem okT_r_readNew : okT M_r_readNew = true := by decide +kernel
theorem okT_r_readAll : okT M_r_readAll = true := by decide +kernel
theorem okT_r_readLine : okT M_r_readLine = true := by decide +kernel
theorem okT_r_begins : okT M_r_begins = true := by decide +kernel
theorem okT_r_readBench : okT M_r_readBench = true := by decide +kernel
theorem okT_r_readOrder : okT M_r_readOrder = true := by decide +kernel
theorem okT_r_readLight : okT M_r_readLight = true := by decide +kernel
theorem okT_r_readStuckOne : okT M_r_readStuckOne = true := by decide +kernel
theorem okT_r_readNoiseOf : okT M_r_readNoiseOf = true := by decide +kernel
theorem okT_r_readLost : okT M_r_readLost = true := by decide +kernel
theorem okT_r_readMaskOf : okT M_r_readMaskOf = true := by decide +kernel
theorem okT_r_feed : okT M_r_feed = true := by decide +kernel
theorem okT_r_bench : okT M_r_bench = true := by decide +kernel
theorem okT_r_takesOver : okT M_r_takesOver = true := by decide +kernel
theorem okT_r_laysDoubled : okT M_r_laysDoubled = true := by decide +kernel
theorem okT_r_laysSquares : okT M_r_laysSquares = true := by decide +kernel
theorem okT_r_fault : okT M_r_fault = true := by decide +kernel
theorem okT_r_where : okT M_r_where = true := by decide +kernel
theorem okT_r_monitor : okT M_r_monitor = true := by decide +kernel
theorem okT_r_about : okT M_r_about = true := by decide +kernel
theorem okT_r_isOne : okT M_r_isOne = true := by decide +kernel
theorem okT_r_isSet : okT M_r_isSet = true := by decide +kernel
theorem okT_r_plate : okT M_r_plate = true := by decide +kernel
theorem okT_r_common : okT M_r_common = true := by decide +kernel
theorem okT_r_which : okT M_r_which = true := by decide +kernel
theorem okT_r_apart : okT M_r_apart = true := by decide +kernel
theorem okT_r_odd : okT M_r_odd = true := by decide +kernel
theorem okT_r_light : okT M_r_light = true := by decide +kernel
theorem okT_r_shutter : okT M_r_shutter = true := by decide +kernel
theorem okT_r_noise : okT M_r_noise = true := by decide +kernel
theorem okT_r_lost : okT M_r_lost = true := by decide +kernel
theorem okT_r_ends : okT M_r_ends = true := by decide +kernel
theorem okT_r_through : okT M_r_through = true := by decide +kernel
theorem okT_r_looks : okT M_r_looks = true := by decide +kernel
theorem okT_r_look : okT M_r_look = true := by decide +kernel
theorem okT_r_logged : okT M_r_logged = true := by decide +kernel
theorem okT_r_scan : okT M_r_scan = true := by decide +kernel
theorem okT_r_blinds : okT M_r_blinds = true := by decide +kernel
theorem okT_r_refusedLow : okT M_r_refusedLow = true := by decide +kernel
theorem okT_r_reading : okT M_r_reading = true := by decide +kernel
theorem okT_r_losses : okT M_r_losses = true := by decide +kernel
theorem okT_r_netSum : okT M_r_netSum = true := by decide +kernel
theorem okT_r_netOf : okT M_r_netOf = true := by decide +kernel
theorem okT_r_net : okT M_r_net = true := by decide +kernel
theorem okT_r_refuses : okT M_r_refuses = true := by decide +kernel
theorem okT_r_netAll : okT M_r_netAll = true := by decide +kernel
theorem okT_r_partsOf : okT M_r_partsOf = true := by decide +kernel
theorem okT_r_errorParts : okT M_r_errorParts = true := by decide +kernel
theorem okT_r_back : okT M_r_back = true := by decide +kernel
theorem okT_r_odds : okT M_r_odds = true := by decide +kernel
theorem okT_r_more : okT M_r_more = true := by decide +kernel
theorem okT_r_error : okT M_r_error = true := by decide +kernel
theorem okT_r_errors : okT M_r_errors = true := by decide +kernel
theorem okT_r_plain : okT M_r_plain = true := by decide +kernel
theorem okT_r_worst : okT M_r_worst = true := by decide +kernel
theorem okT_r_share : okT M_r_share = true := by decide +kernel
theorem okT_r_grains : okT M_r_grains = true := by decide +kernel
theorem okT_r_better : okT M_r_better = true := by decide +kernel
theorem okT_r_aloneOf : okT M_r_aloneOf = true := by decide +kernel
theorem okT_r_offAlone : okT M_r_offAlone = true := by decide +kernel
theorem okT_r_alone : okT M_r_alone = true := by decide +kernel
theorem okT_r_alones : okT M_r_alones = true := by decide +kernel
theorem okT_r_closer : okT M_r_closer = true := by decide +kernel
theorem okT_r_isSuspect : okT M_r_isSuspect = true := by decide +kernel
theorem okT_r_supposes : okT M_r_supposes = true := by decide +kernel
theorem okT_r_supposesFine : okT M_r_supposesFine = true := by decide +kernel
theorem okT_r_supposesOpen : okT M_r_supposesOpen = true := by decide +kernel
theorem okT_r_supposesShut : okT M_r_supposesShut = true := by decide +kernel
theorem okT_r_areLights : okT M_r_areLights = true := by decide +kernel
theorem okT_r_areSeen : okT M_r_areSeen = true := by decide +kernel
theorem okT_r_supposedRead : okT M_r_supposedRead = true := by decide +kernel
theorem okT_r_refusesSuspects : okT M_r_refusesSuspects = true := by decide +kernel
theorem okT_r_suspectNumber : okT M_r_suspectNumber = true := by decide +kernel
theorem okT_r_suspects : okT M_r_suspects = true := by decide +kernel
theorem okT_r_suspect : okT M_r_suspect = true := by decide +kernel
theorem okT_r_supposed : okT M_r_supposed = true := by decide +kernel
theorem okT_r_puts : okT M_r_puts = true := by decide +kernel
theorem okT_r_clears : okT M_r_clears = true := by decide +kernel
theorem okT_r_laysRows : okT M_r_laysRows = true := by decide +kernel
theorem okT_r_laysRow : okT M_r_laysRow = true := by decide +kernel
theorem okT_r_rowOf : okT M_r_rowOf = true := by decide +kernel
theorem okT_r_mask : okT M_r_mask = true := by decide +kernel
theorem okT_r_rank : okT M_r_rank = true := by decide +kernel
theorem okT_r_told : okT M_r_told = true := by decide +kernel
theorem okT_r_solved : okT M_r_solved = true := by decide +kernel
theorem okT_r_factor : okT M_r_factor = true := by decide +kernel
theorem okT_r_squaresOf : okT M_r_squaresOf = true := by decide +kernel
theorem okT_r_shareBy : okT M_r_shareBy = true := by decide +kernel
theorem okT_r_fewer : okT M_r_fewer = true := by decide +kernel
theorem okT_r_agree : okT M_r_agree = true := by decide +kernel
theorem okT_r_movesTo : okT M_r_movesTo = true := by decide +kernel
theorem okT_r_goes : okT M_r_goes = true := by decide +kernel
theorem okT_r_laysTours : okT M_r_laysTours = true := by decide +kernel
theorem okT_r_tour : okT M_r_tour = true := by decide +kernel
theorem okT_r_tourAt : okT M_r_tourAt = true := by decide +kernel
theorem okT_r_sign : okT M_r_sign = true := by decide +kernel
theorem okT_r_signAt : okT M_r_signAt = true := by decide +kernel
theorem okT_r_remembers : okT M_r_remembers = true := by decide +kernel
theorem okT_r_changed : okT M_r_changed = true := by decide +kernel
theorem okT_r_shine : okT M_r_shine = true := by decide +kernel
theorem okT_r_stick : okT M_r_stick = true := by decide +kernel
theorem okT_r_lose : okT M_r_lose = true := by decide +kernel
theorem okT_r_undo : okT M_r_undo = true := by decide +kernel
theorem okT_r_stuck : okT M_r_stuck = true := by decide +kernel
theorem okT_r_size : okT M_r_size = true := by decide +kernel
theorem okT_r_trouble : okT M_r_trouble = true := by decide +kernel
end
section
def lw_ck (r : Row) : Bool := rwOK M_l_law.1.cls M_l_law.1.name M_l_law.2.1 M_l_law.2.2.1 r
theorem okL_0 : T_l_law_0.all lw_ck = true := by decide +kernel
theorem okL_1 : T_l_law_1.all lw_ck = true := by decide +kernel
theorem okL_2 : T_l_law_2.all lw_ck = true := by decide +kernel
theorem okL_3 : T_l_law_3.all lw_ck = true := by decide +kernel
theorem okL_4 : T_l_law_4.all lw_ck = true := by decide +kernel
theorem okL_5 : T_l_law_5.all lw_ck = true := by decide +kernel
theorem okL_6 : T_l_law_6.all lw_ck = true := by decide +kernel
theorem okL_7 : T_l_law_7.all lw_ck = true := by decide +kernel
theorem okL_8 : T_l_law_8.all lw_ck = true := by decide +kernel
theorem okL_9 : T_l_law_9.all lw_ck = true := by decide +kernel
theorem okL_10 : T_l_law_10.all lw_ck = true := by decide +kernel
theorem okL_11 : T_l_law_11.all lw_ck = true := by decide +kernel
theorem okL_12 : T_l_law_12.all lw_ck = true := by decide +kernel
theorem okL_13 : T_l_law_13.all lw_ck = true := by decide +kernel
theorem okL_14 : T_l_law_14.all lw_ck = true := by decide +kernel
theorem okL_15 : T_l_law_15.all lw_ck = true := by decide +kernel
theorem okL_16 : T_l_law_16.all lw_ck = true := by decide +kernel
theorem okL_17 : T_l_law_17.all lw_ck = true := by decide +kernel
theorem okL_18 : T_l_law_18.all lw_ck = true := by decide +kernel
theorem okL_19 : T_l_law_19.all lw_ck = true := by decide +kernel
theorem okL_20 : T_l_law_20.all lw_ck = true := by decide +kernel
theorem okL_21 : T_l_law_21.all lw_ck = true := by decide +kernel
theorem okL_rows : T_l_law.all lw_ck = true := by
  simp only [T_l_law, List.all_append, Bool.and_eq_true]
  exact ⟨okL_0, ⟨okL_1, ⟨okL_2, ⟨okL_3, ⟨okL_4, ⟨okL_5, ⟨okL_6, ⟨okL_7, ⟨okL_8, ⟨okL_9, ⟨okL_10, ⟨okL_11, ⟨okL_12, ⟨okL_13, ⟨okL_14, ⟨okL_15, ⟨okL_16, ⟨okL_17, ⟨okL_18, ⟨okL_19, ⟨okL_20, okL_21⟩⟩⟩⟩⟩⟩⟩⟩⟩⟩⟩⟩⟩⟩⟩⟩⟩⟩⟩⟩⟩
theorem okL_head : okH M_l_law = true := by decide +kernel
theorem okT_l_law : okT M_l_law = true := by
  show (T_l_law.all lw_ck && okH M_l_law) = true
  rw [okL_rows, okL_head]; rfl
theorem okT_c0 : ∀ M ∈ [M_ac_init, M_ac_clear, M_ac_note, M_ac_dropOldest, M_ac_takeBack, M_bn_init, M_bn_clear, M_bn_makeDoubled, M_bn_makeSquares, M_bn_has, M_bn_hasMask, M_bn_isSet, M_bn_isLost, M_bn_lostCount, M_bn_order, M_bn_orderSquared], okT M = true := List.forall_mem_cons.mpr ⟨okT_ac_init, List.forall_mem_cons.mpr ⟨okT_ac_clear, List.forall_mem_cons.mpr ⟨okT_ac_note, List.forall_mem_cons.mpr ⟨okT_ac_dropOldest, List.forall_mem_cons.mpr ⟨okT_ac_takeBack, List.forall_mem_cons.mpr ⟨okT_bn_init, List.forall_mem_cons.mpr ⟨okT_bn_clear, List.forall_mem_cons.mpr ⟨okT_bn_makeDoubled, List.forall_mem_cons.mpr ⟨okT_bn_makeSquares, List.forall_mem_cons.mpr ⟨okT_bn_has, List.forall_mem_cons.mpr ⟨okT_bn_hasMask, List.forall_mem_cons.mpr ⟨okT_bn_isSet, List.forall_mem_cons.mpr ⟨okT_bn_isLost, List.forall_mem_cons.mpr ⟨okT_bn_lostCount, List.forall_mem_cons.mpr ⟨okT_bn_order, List.forall_mem_cons.mpr ⟨okT_bn_orderSquared, fun _ h => absurd h List.not_mem_nil⟩⟩⟩⟩⟩⟩⟩⟩⟩⟩⟩⟩⟩⟩⟩⟩
theorem okT_c1 : ∀ M ∈ [M_bn_half, M_bn_monitor, M_bn_shutterOf, M_bn_setShutter, M_bn_readOf, M_bn_aloneOf, M_mt_init, M_mt_build, M_mt_tells, M_mt_times, M_mt_squares, M_mt_sumOfLooks, M_mt_allAgree, M_mt_load, M_mt_firstColour, M_mt_clearPivot], okT M = true := List.forall_mem_cons.mpr ⟨okT_bn_half, List.forall_mem_cons.mpr ⟨okT_bn_monitor, List.forall_mem_cons.mpr ⟨okT_bn_shutterOf, List.forall_mem_cons.mpr ⟨okT_bn_setShutter, List.forall_mem_cons.mpr ⟨okT_bn_readOf, List.forall_mem_cons.mpr ⟨okT_bn_aloneOf, List.forall_mem_cons.mpr ⟨okT_mt_init, List.forall_mem_cons.mpr ⟨okT_mt_build, List.forall_mem_cons.mpr ⟨okT_mt_tells, List.forall_mem_cons.mpr ⟨okT_mt_times, List.forall_mem_cons.mpr ⟨okT_mt_squares, List.forall_mem_cons.mpr ⟨okT_mt_sumOfLooks, List.forall_mem_cons.mpr ⟨okT_mt_allAgree, List.forall_mem_cons.mpr ⟨okT_mt_load, List.forall_mem_cons.mpr ⟨okT_mt_firstColour, List.forall_mem_cons.mpr ⟨okT_mt_clearPivot, fun _ h => absurd h List.not_mem_nil⟩⟩⟩⟩⟩⟩⟩⟩⟩⟩⟩⟩⟩⟩⟩⟩
theorem okT_c2 : ∀ M ∈ [M_mt_findTold, M_mt_hasOnlyPivot, M_ra_part, M_ra_isWhole, M_ra_commonDivisor, M_rd_init, M_rd_readAll, M_rd_fail, M_rd_next, M_rd_runOf, M_rd_wholeOf, M_rd_isWord, M_rd_takeWord, M_rd_takeWhole, M_rd_takeNew, M_rd_takeLine], okT M = true := List.forall_mem_cons.mpr ⟨okT_mt_findTold, List.forall_mem_cons.mpr ⟨okT_mt_hasOnlyPivot, List.forall_mem_cons.mpr ⟨okT_ra_part, List.forall_mem_cons.mpr ⟨okT_ra_isWhole, List.forall_mem_cons.mpr ⟨okT_ra_commonDivisor, List.forall_mem_cons.mpr ⟨okT_rd_init, List.forall_mem_cons.mpr ⟨okT_rd_readAll, List.forall_mem_cons.mpr ⟨okT_rd_fail, List.forall_mem_cons.mpr ⟨okT_rd_next, List.forall_mem_cons.mpr ⟨okT_rd_runOf, List.forall_mem_cons.mpr ⟨okT_rd_wholeOf, List.forall_mem_cons.mpr ⟨okT_rd_isWord, List.forall_mem_cons.mpr ⟨okT_rd_takeWord, List.forall_mem_cons.mpr ⟨okT_rd_takeWhole, List.forall_mem_cons.mpr ⟨okT_rd_takeNew, List.forall_mem_cons.mpr ⟨okT_rd_takeLine, fun _ h => absurd h List.not_mem_nil⟩⟩⟩⟩⟩⟩⟩⟩⟩⟩⟩⟩⟩⟩⟩⟩
theorem okT_c3 : ∀ M ∈ [M_rd_takeBench, M_rd_isPrimeOfBench, M_rd_takeLight, M_rd_takeStuck, M_rd_takeNoise, M_rd_takeLost, M_rd_takeMask, M_sg_init, M_sg_startAnew, M_sg_forget, M_sg_lookAt, M_sg_keep, M_sg_scanAll, M_sg_findNets, M_sg_findBacks, M_sg_errorOf], okT M = true := List.forall_mem_cons.mpr ⟨okT_rd_takeBench, List.forall_mem_cons.mpr ⟨okT_rd_isPrimeOfBench, List.forall_mem_cons.mpr ⟨okT_rd_takeLight, List.forall_mem_cons.mpr ⟨okT_rd_takeStuck, List.forall_mem_cons.mpr ⟨okT_rd_takeNoise, List.forall_mem_cons.mpr ⟨okT_rd_takeLost, List.forall_mem_cons.mpr ⟨okT_rd_takeMask, List.forall_mem_cons.mpr ⟨okT_sg_init, List.forall_mem_cons.mpr ⟨okT_sg_startAnew, List.forall_mem_cons.mpr ⟨okT_sg_forget, List.forall_mem_cons.mpr ⟨okT_sg_lookAt, List.forall_mem_cons.mpr ⟨okT_sg_keep, List.forall_mem_cons.mpr ⟨okT_sg_scanAll, List.forall_mem_cons.mpr ⟨okT_sg_findNets, List.forall_mem_cons.mpr ⟨okT_sg_findBacks, List.forall_mem_cons.mpr ⟨okT_sg_errorOf, fun _ h => absurd h List.not_mem_nil⟩⟩⟩⟩⟩⟩⟩⟩⟩⟩⟩⟩⟩⟩⟩⟩
theorem okT_c4 : ∀ M ∈ [M_su_init, M_su_count, M_su_numberOf, M_su_holds, M_su_supposeFine, M_su_supposeOpen, M_su_supposeShut, M_su_put, M_su_sumIsRight, M_su_logIsRight, M_tp_init, M_tp_hasRoom, M_tp_put, M_tr_init, M_tr_find, M_tr_findSteps], okT M = true := List.forall_mem_cons.mpr ⟨okT_su_init, List.forall_mem_cons.mpr ⟨okT_su_count, List.forall_mem_cons.mpr ⟨okT_su_numberOf, List.forall_mem_cons.mpr ⟨okT_su_holds, List.forall_mem_cons.mpr ⟨okT_su_supposeFine, List.forall_mem_cons.mpr ⟨okT_su_supposeOpen, List.forall_mem_cons.mpr ⟨okT_su_supposeShut, List.forall_mem_cons.mpr ⟨okT_su_put, List.forall_mem_cons.mpr ⟨okT_su_sumIsRight, List.forall_mem_cons.mpr ⟨okT_su_logIsRight, List.forall_mem_cons.mpr ⟨okT_tp_init, List.forall_mem_cons.mpr ⟨okT_tp_hasRoom, List.forall_mem_cons.mpr ⟨okT_tp_put, List.forall_mem_cons.mpr ⟨okT_tr_init, List.forall_mem_cons.mpr ⟨okT_tr_find, List.forall_mem_cons.mpr ⟨okT_tr_findSteps, fun _ h => absurd h List.not_mem_nil⟩⟩⟩⟩⟩⟩⟩⟩⟩⟩⟩⟩⟩⟩⟩⟩
theorem okT_c5 : ∀ M ∈ [M_tr_fewestFrom, M_tr_movesBy, M_tr_walk, M_tr_nextOf, M_w_init, M_w_feed, M_w_bench, M_w_fault, M_w_where, M_w_about, M_w_plate, M_w_common, M_w_which, M_w_apart, M_w_odd, M_w_light], okT M = true := List.forall_mem_cons.mpr ⟨okT_tr_fewestFrom, List.forall_mem_cons.mpr ⟨okT_tr_movesBy, List.forall_mem_cons.mpr ⟨okT_tr_walk, List.forall_mem_cons.mpr ⟨okT_tr_nextOf, List.forall_mem_cons.mpr ⟨okT_w_init, List.forall_mem_cons.mpr ⟨okT_w_feed, List.forall_mem_cons.mpr ⟨okT_w_bench, List.forall_mem_cons.mpr ⟨okT_w_fault, List.forall_mem_cons.mpr ⟨okT_w_where, List.forall_mem_cons.mpr ⟨okT_w_about, List.forall_mem_cons.mpr ⟨okT_w_plate, List.forall_mem_cons.mpr ⟨okT_w_common, List.forall_mem_cons.mpr ⟨okT_w_which, List.forall_mem_cons.mpr ⟨okT_w_apart, List.forall_mem_cons.mpr ⟨okT_w_odd, List.forall_mem_cons.mpr ⟨okT_w_light, fun _ h => absurd h List.not_mem_nil⟩⟩⟩⟩⟩⟩⟩⟩⟩⟩⟩⟩⟩⟩⟩⟩
theorem okT_c6 : ∀ M ∈ [M_w_shutter, M_w_noise, M_w_lost, M_w_look, M_w_logged, M_w_scan, M_w_blinds, M_w_reading, M_w_net, M_w_back, M_w_odds, M_w_more, M_w_error, M_w_errors, M_w_worst, M_w_share], okT M = true := List.forall_mem_cons.mpr ⟨okT_w_shutter, List.forall_mem_cons.mpr ⟨okT_w_noise, List.forall_mem_cons.mpr ⟨okT_w_lost, List.forall_mem_cons.mpr ⟨okT_w_look, List.forall_mem_cons.mpr ⟨okT_w_logged, List.forall_mem_cons.mpr ⟨okT_w_scan, List.forall_mem_cons.mpr ⟨okT_w_blinds, List.forall_mem_cons.mpr ⟨okT_w_reading, List.forall_mem_cons.mpr ⟨okT_w_net, List.forall_mem_cons.mpr ⟨okT_w_back, List.forall_mem_cons.mpr ⟨okT_w_odds, List.forall_mem_cons.mpr ⟨okT_w_more, List.forall_mem_cons.mpr ⟨okT_w_error, List.forall_mem_cons.mpr ⟨okT_w_errors, List.forall_mem_cons.mpr ⟨okT_w_worst, List.forall_mem_cons.mpr ⟨okT_w_share, fun _ h => absurd h List.not_mem_nil⟩⟩⟩⟩⟩⟩⟩⟩⟩⟩⟩⟩⟩⟩⟩⟩
theorem okT_c7 : ∀ M ∈ [M_w_grains, M_w_better, M_w_alone, M_w_alones, M_w_closer, M_w_suspects, M_w_suspect, M_w_supposed, M_w_mask, M_w_rank, M_w_told, M_w_solved, M_w_factor, M_w_shareBy, M_w_fewer, M_w_agree], okT M = true := List.forall_mem_cons.mpr ⟨okT_w_grains, List.forall_mem_cons.mpr ⟨okT_w_better, List.forall_mem_cons.mpr ⟨okT_w_alone, List.forall_mem_cons.mpr ⟨okT_w_alones, List.forall_mem_cons.mpr ⟨okT_w_closer, List.forall_mem_cons.mpr ⟨okT_w_suspects, List.forall_mem_cons.mpr ⟨okT_w_suspect, List.forall_mem_cons.mpr ⟨okT_w_supposed, List.forall_mem_cons.mpr ⟨okT_w_mask, List.forall_mem_cons.mpr ⟨okT_w_rank, List.forall_mem_cons.mpr ⟨okT_w_told, List.forall_mem_cons.mpr ⟨okT_w_solved, List.forall_mem_cons.mpr ⟨okT_w_factor, List.forall_mem_cons.mpr ⟨okT_w_shareBy, List.forall_mem_cons.mpr ⟨okT_w_fewer, List.forall_mem_cons.mpr ⟨okT_w_agree, fun _ h => absurd h List.not_mem_nil⟩⟩⟩⟩⟩⟩⟩⟩⟩⟩⟩⟩⟩⟩⟩⟩
theorem okT_c8 : ∀ M ∈ [M_w_tour, M_w_tourAt, M_w_sign, M_w_shine, M_w_stick, M_w_lose, M_w_undo, M_w_stuck, M_w_size, M_w_trouble, M_w_settle, M_w_haveBench, M_w_haveOne, M_w_haveSet, M_w_haveBacks, M_w_haveBackOf], okT M = true := List.forall_mem_cons.mpr ⟨okT_w_tour, List.forall_mem_cons.mpr ⟨okT_w_tourAt, List.forall_mem_cons.mpr ⟨okT_w_sign, List.forall_mem_cons.mpr ⟨okT_w_shine, List.forall_mem_cons.mpr ⟨okT_w_stick, List.forall_mem_cons.mpr ⟨okT_w_lose, List.forall_mem_cons.mpr ⟨okT_w_undo, List.forall_mem_cons.mpr ⟨okT_w_stuck, List.forall_mem_cons.mpr ⟨okT_w_size, List.forall_mem_cons.mpr ⟨okT_w_trouble, List.forall_mem_cons.mpr ⟨okT_w_settle, List.forall_mem_cons.mpr ⟨okT_w_haveBench, List.forall_mem_cons.mpr ⟨okT_w_haveOne, List.forall_mem_cons.mpr ⟨okT_w_haveSet, List.forall_mem_cons.mpr ⟨okT_w_haveBacks, List.forall_mem_cons.mpr ⟨okT_w_haveBackOf, fun _ h => absurd h List.not_mem_nil⟩⟩⟩⟩⟩⟩⟩⟩⟩⟩⟩⟩⟩⟩⟩⟩
theorem okT_c9 : ∀ M ∈ [M_w_haveSuspects, M_w_haveTold, M_r_init, M_r_thrown, M_r_refused, M_r_refusedLong, M_r_good, M_r_in, M_r_has, M_r_many, M_r_divisor, M_r_sets, M_r_part, M_r_byteAt, M_r_next, M_r_nextWord], okT M = true := List.forall_mem_cons.mpr ⟨okT_w_haveSuspects, List.forall_mem_cons.mpr ⟨okT_w_haveTold, List.forall_mem_cons.mpr ⟨okT_r_init, List.forall_mem_cons.mpr ⟨okT_r_thrown, List.forall_mem_cons.mpr ⟨okT_r_refused, List.forall_mem_cons.mpr ⟨okT_r_refusedLong, List.forall_mem_cons.mpr ⟨okT_r_good, List.forall_mem_cons.mpr ⟨okT_r_in, List.forall_mem_cons.mpr ⟨okT_r_has, List.forall_mem_cons.mpr ⟨okT_r_many, List.forall_mem_cons.mpr ⟨okT_r_divisor, List.forall_mem_cons.mpr ⟨okT_r_sets, List.forall_mem_cons.mpr ⟨okT_r_part, List.forall_mem_cons.mpr ⟨okT_r_byteAt, List.forall_mem_cons.mpr ⟨okT_r_next, List.forall_mem_cons.mpr ⟨okT_r_nextWord, fun _ h => absurd h List.not_mem_nil⟩⟩⟩⟩⟩⟩⟩⟩⟩⟩⟩⟩⟩⟩⟩⟩
theorem okT_c10 : ∀ M ∈ [M_r_nextWhole, M_r_nextSign, M_r_flaw, M_r_isWord, M_r_needs, M_r_wholeAt, M_r_readWhole, M_r_readNew, M_r_readAll, M_r_readLine, M_r_begins, M_r_readBench, M_r_readOrder, M_r_readLight, M_r_readStuckOne, M_r_readNoiseOf], okT M = true := List.forall_mem_cons.mpr ⟨okT_r_nextWhole, List.forall_mem_cons.mpr ⟨okT_r_nextSign, List.forall_mem_cons.mpr ⟨okT_r_flaw, List.forall_mem_cons.mpr ⟨okT_r_isWord, List.forall_mem_cons.mpr ⟨okT_r_needs, List.forall_mem_cons.mpr ⟨okT_r_wholeAt, List.forall_mem_cons.mpr ⟨okT_r_readWhole, List.forall_mem_cons.mpr ⟨okT_r_readNew, List.forall_mem_cons.mpr ⟨okT_r_readAll, List.forall_mem_cons.mpr ⟨okT_r_readLine, List.forall_mem_cons.mpr ⟨okT_r_begins, List.forall_mem_cons.mpr ⟨okT_r_readBench, List.forall_mem_cons.mpr ⟨okT_r_readOrder, List.forall_mem_cons.mpr ⟨okT_r_readLight, List.forall_mem_cons.mpr ⟨okT_r_readStuckOne, List.forall_mem_cons.mpr ⟨okT_r_readNoiseOf, fun _ h => absurd h List.not_mem_nil⟩⟩⟩⟩⟩⟩⟩⟩⟩⟩⟩⟩⟩⟩⟩⟩
theorem okT_c11 : ∀ M ∈ [M_r_readLost, M_r_readMaskOf, M_r_feed, M_r_bench, M_r_takesOver, M_r_laysDoubled, M_r_laysSquares, M_r_fault, M_r_where, M_r_monitor, M_r_about, M_r_isOne, M_r_isSet, M_r_plate, M_r_common, M_r_which], okT M = true := List.forall_mem_cons.mpr ⟨okT_r_readLost, List.forall_mem_cons.mpr ⟨okT_r_readMaskOf, List.forall_mem_cons.mpr ⟨okT_r_feed, List.forall_mem_cons.mpr ⟨okT_r_bench, List.forall_mem_cons.mpr ⟨okT_r_takesOver, List.forall_mem_cons.mpr ⟨okT_r_laysDoubled, List.forall_mem_cons.mpr ⟨okT_r_laysSquares, List.forall_mem_cons.mpr ⟨okT_r_fault, List.forall_mem_cons.mpr ⟨okT_r_where, List.forall_mem_cons.mpr ⟨okT_r_monitor, List.forall_mem_cons.mpr ⟨okT_r_about, List.forall_mem_cons.mpr ⟨okT_r_isOne, List.forall_mem_cons.mpr ⟨okT_r_isSet, List.forall_mem_cons.mpr ⟨okT_r_plate, List.forall_mem_cons.mpr ⟨okT_r_common, List.forall_mem_cons.mpr ⟨okT_r_which, fun _ h => absurd h List.not_mem_nil⟩⟩⟩⟩⟩⟩⟩⟩⟩⟩⟩⟩⟩⟩⟩⟩
theorem okT_c12 : ∀ M ∈ [M_r_apart, M_r_odd, M_r_light, M_r_shutter, M_r_noise, M_r_lost, M_r_ends, M_r_through, M_r_looks, M_r_look, M_r_logged, M_r_scan, M_r_blinds, M_r_refusedLow, M_r_reading, M_r_losses], okT M = true := List.forall_mem_cons.mpr ⟨okT_r_apart, List.forall_mem_cons.mpr ⟨okT_r_odd, List.forall_mem_cons.mpr ⟨okT_r_light, List.forall_mem_cons.mpr ⟨okT_r_shutter, List.forall_mem_cons.mpr ⟨okT_r_noise, List.forall_mem_cons.mpr ⟨okT_r_lost, List.forall_mem_cons.mpr ⟨okT_r_ends, List.forall_mem_cons.mpr ⟨okT_r_through, List.forall_mem_cons.mpr ⟨okT_r_looks, List.forall_mem_cons.mpr ⟨okT_r_look, List.forall_mem_cons.mpr ⟨okT_r_logged, List.forall_mem_cons.mpr ⟨okT_r_scan, List.forall_mem_cons.mpr ⟨okT_r_blinds, List.forall_mem_cons.mpr ⟨okT_r_refusedLow, List.forall_mem_cons.mpr ⟨okT_r_reading, List.forall_mem_cons.mpr ⟨okT_r_losses, fun _ h => absurd h List.not_mem_nil⟩⟩⟩⟩⟩⟩⟩⟩⟩⟩⟩⟩⟩⟩⟩⟩
theorem okT_c13 : ∀ M ∈ [M_r_netSum, M_r_netOf, M_r_net, M_r_refuses, M_r_netAll, M_r_partsOf, M_r_errorParts, M_r_back, M_r_odds, M_r_more, M_r_error, M_r_errors, M_r_plain, M_r_worst, M_r_share, M_r_grains], okT M = true := List.forall_mem_cons.mpr ⟨okT_r_netSum, List.forall_mem_cons.mpr ⟨okT_r_netOf, List.forall_mem_cons.mpr ⟨okT_r_net, List.forall_mem_cons.mpr ⟨okT_r_refuses, List.forall_mem_cons.mpr ⟨okT_r_netAll, List.forall_mem_cons.mpr ⟨okT_r_partsOf, List.forall_mem_cons.mpr ⟨okT_r_errorParts, List.forall_mem_cons.mpr ⟨okT_r_back, List.forall_mem_cons.mpr ⟨okT_r_odds, List.forall_mem_cons.mpr ⟨okT_r_more, List.forall_mem_cons.mpr ⟨okT_r_error, List.forall_mem_cons.mpr ⟨okT_r_errors, List.forall_mem_cons.mpr ⟨okT_r_plain, List.forall_mem_cons.mpr ⟨okT_r_worst, List.forall_mem_cons.mpr ⟨okT_r_share, List.forall_mem_cons.mpr ⟨okT_r_grains, fun _ h => absurd h List.not_mem_nil⟩⟩⟩⟩⟩⟩⟩⟩⟩⟩⟩⟩⟩⟩⟩⟩
theorem okT_c14 : ∀ M ∈ [M_r_better, M_r_aloneOf, M_r_offAlone, M_r_alone, M_r_alones, M_r_closer, M_r_isSuspect, M_r_supposes, M_r_supposesFine, M_r_supposesOpen, M_r_supposesShut, M_r_areLights, M_r_areSeen, M_r_supposedRead, M_r_refusesSuspects, M_r_suspectNumber], okT M = true := List.forall_mem_cons.mpr ⟨okT_r_better, List.forall_mem_cons.mpr ⟨okT_r_aloneOf, List.forall_mem_cons.mpr ⟨okT_r_offAlone, List.forall_mem_cons.mpr ⟨okT_r_alone, List.forall_mem_cons.mpr ⟨okT_r_alones, List.forall_mem_cons.mpr ⟨okT_r_closer, List.forall_mem_cons.mpr ⟨okT_r_isSuspect, List.forall_mem_cons.mpr ⟨okT_r_supposes, List.forall_mem_cons.mpr ⟨okT_r_supposesFine, List.forall_mem_cons.mpr ⟨okT_r_supposesOpen, List.forall_mem_cons.mpr ⟨okT_r_supposesShut, List.forall_mem_cons.mpr ⟨okT_r_areLights, List.forall_mem_cons.mpr ⟨okT_r_areSeen, List.forall_mem_cons.mpr ⟨okT_r_supposedRead, List.forall_mem_cons.mpr ⟨okT_r_refusesSuspects, List.forall_mem_cons.mpr ⟨okT_r_suspectNumber, fun _ h => absurd h List.not_mem_nil⟩⟩⟩⟩⟩⟩⟩⟩⟩⟩⟩⟩⟩⟩⟩⟩
theorem okT_c15 : ∀ M ∈ [M_r_suspects, M_r_suspect, M_r_supposed, M_r_puts, M_r_clears, M_r_laysRows, M_r_laysRow, M_r_rowOf, M_r_mask, M_r_rank, M_r_told, M_r_solved, M_r_factor, M_r_squaresOf, M_r_shareBy, M_r_fewer], okT M = true := List.forall_mem_cons.mpr ⟨okT_r_suspects, List.forall_mem_cons.mpr ⟨okT_r_suspect, List.forall_mem_cons.mpr ⟨okT_r_supposed, List.forall_mem_cons.mpr ⟨okT_r_puts, List.forall_mem_cons.mpr ⟨okT_r_clears, List.forall_mem_cons.mpr ⟨okT_r_laysRows, List.forall_mem_cons.mpr ⟨okT_r_laysRow, List.forall_mem_cons.mpr ⟨okT_r_rowOf, List.forall_mem_cons.mpr ⟨okT_r_mask, List.forall_mem_cons.mpr ⟨okT_r_rank, List.forall_mem_cons.mpr ⟨okT_r_told, List.forall_mem_cons.mpr ⟨okT_r_solved, List.forall_mem_cons.mpr ⟨okT_r_factor, List.forall_mem_cons.mpr ⟨okT_r_squaresOf, List.forall_mem_cons.mpr ⟨okT_r_shareBy, List.forall_mem_cons.mpr ⟨okT_r_fewer, fun _ h => absurd h List.not_mem_nil⟩⟩⟩⟩⟩⟩⟩⟩⟩⟩⟩⟩⟩⟩⟩⟩
theorem okT_c16 : ∀ M ∈ [M_r_agree, M_r_movesTo, M_r_goes, M_r_laysTours, M_r_tour, M_r_tourAt, M_r_sign, M_r_signAt, M_r_remembers, M_r_changed, M_r_shine, M_r_stick, M_r_lose, M_r_undo, M_r_stuck, M_r_size], okT M = true := List.forall_mem_cons.mpr ⟨okT_r_agree, List.forall_mem_cons.mpr ⟨okT_r_movesTo, List.forall_mem_cons.mpr ⟨okT_r_goes, List.forall_mem_cons.mpr ⟨okT_r_laysTours, List.forall_mem_cons.mpr ⟨okT_r_tour, List.forall_mem_cons.mpr ⟨okT_r_tourAt, List.forall_mem_cons.mpr ⟨okT_r_sign, List.forall_mem_cons.mpr ⟨okT_r_signAt, List.forall_mem_cons.mpr ⟨okT_r_remembers, List.forall_mem_cons.mpr ⟨okT_r_changed, List.forall_mem_cons.mpr ⟨okT_r_shine, List.forall_mem_cons.mpr ⟨okT_r_stick, List.forall_mem_cons.mpr ⟨okT_r_lose, List.forall_mem_cons.mpr ⟨okT_r_undo, List.forall_mem_cons.mpr ⟨okT_r_stuck, List.forall_mem_cons.mpr ⟨okT_r_size, fun _ h => absurd h List.not_mem_nil⟩⟩⟩⟩⟩⟩⟩⟩⟩⟩⟩⟩⟩⟩⟩⟩
theorem okT_c17 : ∀ M ∈ [M_r_trouble, M_ji_bitCount, M_js_length, M_js_charAt, M_js_coder, M_js_isLatin1, M_js_checkIndex, M_jl_charAt, M_jp_checkIndex, M_l_law], okT M = true := List.forall_mem_cons.mpr ⟨okT_r_trouble, List.forall_mem_cons.mpr ⟨okT_ji_bitCount, List.forall_mem_cons.mpr ⟨okT_js_length, List.forall_mem_cons.mpr ⟨okT_js_charAt, List.forall_mem_cons.mpr ⟨okT_js_coder, List.forall_mem_cons.mpr ⟨okT_js_isLatin1, List.forall_mem_cons.mpr ⟨okT_js_checkIndex, List.forall_mem_cons.mpr ⟨okT_jl_charAt, List.forall_mem_cons.mpr ⟨okT_jp_checkIndex, List.forall_mem_cons.mpr ⟨okT_l_law, fun _ h => absurd h List.not_mem_nil⟩⟩⟩⟩⟩⟩⟩⟩⟩⟩
set_option maxRecDepth 100000 in
theorem okT_all : ∀ M ∈ mm, okT M = true := by
  have e : mm = [M_ac_init, M_ac_clear, M_ac_note, M_ac_dropOldest, M_ac_takeBack, M_bn_init, M_bn_clear, M_bn_makeDoubled, M_bn_makeSquares, M_bn_has, M_bn_hasMask, M_bn_isSet, M_bn_isLost, M_bn_lostCount, M_bn_order, M_bn_orderSquared] ++ ([M_bn_half, M_bn_monitor, M_bn_shutterOf, M_bn_setShutter, M_bn_readOf, M_bn_aloneOf, M_mt_init, M_mt_build, M_mt_tells, M_mt_times, M_mt_squares, M_mt_sumOfLooks, M_mt_allAgree, M_mt_load, M_mt_firstColour, M_mt_clearPivot] ++ ([M_mt_findTold, M_mt_hasOnlyPivot, M_ra_part, M_ra_isWhole, M_ra_commonDivisor, M_rd_init, M_rd_readAll, M_rd_fail, M_rd_next, M_rd_runOf, M_rd_wholeOf, M_rd_isWord, M_rd_takeWord, M_rd_takeWhole, M_rd_takeNew, M_rd_takeLine] ++ ([M_rd_takeBench, M_rd_isPrimeOfBench, M_rd_takeLight, M_rd_takeStuck, M_rd_takeNoise, M_rd_takeLost, M_rd_takeMask, M_sg_init, M_sg_startAnew, M_sg_forget, M_sg_lookAt, M_sg_keep, M_sg_scanAll, M_sg_findNets, M_sg_findBacks, M_sg_errorOf] ++ ([M_su_init, M_su_count, M_su_numberOf, M_su_holds, M_su_supposeFine, M_su_supposeOpen, M_su_supposeShut, M_su_put, M_su_sumIsRight, M_su_logIsRight, M_tp_init, M_tp_hasRoom, M_tp_put, M_tr_init, M_tr_find, M_tr_findSteps] ++ ([M_tr_fewestFrom, M_tr_movesBy, M_tr_walk, M_tr_nextOf, M_w_init, M_w_feed, M_w_bench, M_w_fault, M_w_where, M_w_about, M_w_plate, M_w_common, M_w_which, M_w_apart, M_w_odd, M_w_light] ++ ([M_w_shutter, M_w_noise, M_w_lost, M_w_look, M_w_logged, M_w_scan, M_w_blinds, M_w_reading, M_w_net, M_w_back, M_w_odds, M_w_more, M_w_error, M_w_errors, M_w_worst, M_w_share] ++ ([M_w_grains, M_w_better, M_w_alone, M_w_alones, M_w_closer, M_w_suspects, M_w_suspect, M_w_supposed, M_w_mask, M_w_rank, M_w_told, M_w_solved, M_w_factor, M_w_shareBy, M_w_fewer, M_w_agree] ++ ([M_w_tour, M_w_tourAt, M_w_sign, M_w_shine, M_w_stick, M_w_lose, M_w_undo, M_w_stuck, M_w_size, M_w_trouble, M_w_settle, M_w_haveBench, M_w_haveOne, M_w_haveSet, M_w_haveBacks, M_w_haveBackOf] ++ ([M_w_haveSuspects, M_w_haveTold, M_r_init, M_r_thrown, M_r_refused, M_r_refusedLong, M_r_good, M_r_in, M_r_has, M_r_many, M_r_divisor, M_r_sets, M_r_part, M_r_byteAt, M_r_next, M_r_nextWord] ++ ([M_r_nextWhole, M_r_nextSign, M_r_flaw, M_r_isWord, M_r_needs, M_r_wholeAt, M_r_readWhole, M_r_readNew, M_r_readAll, M_r_readLine, M_r_begins, M_r_readBench, M_r_readOrder, M_r_readLight, M_r_readStuckOne, M_r_readNoiseOf] ++ ([M_r_readLost, M_r_readMaskOf, M_r_feed, M_r_bench, M_r_takesOver, M_r_laysDoubled, M_r_laysSquares, M_r_fault, M_r_where, M_r_monitor, M_r_about, M_r_isOne, M_r_isSet, M_r_plate, M_r_common, M_r_which] ++ ([M_r_apart, M_r_odd, M_r_light, M_r_shutter, M_r_noise, M_r_lost, M_r_ends, M_r_through, M_r_looks, M_r_look, M_r_logged, M_r_scan, M_r_blinds, M_r_refusedLow, M_r_reading, M_r_losses] ++ ([M_r_netSum, M_r_netOf, M_r_net, M_r_refuses, M_r_netAll, M_r_partsOf, M_r_errorParts, M_r_back, M_r_odds, M_r_more, M_r_error, M_r_errors, M_r_plain, M_r_worst, M_r_share, M_r_grains] ++ ([M_r_better, M_r_aloneOf, M_r_offAlone, M_r_alone, M_r_alones, M_r_closer, M_r_isSuspect, M_r_supposes, M_r_supposesFine, M_r_supposesOpen, M_r_supposesShut, M_r_areLights, M_r_areSeen, M_r_supposedRead, M_r_refusesSuspects, M_r_suspectNumber] ++ ([M_r_suspects, M_r_suspect, M_r_supposed, M_r_puts, M_r_clears, M_r_laysRows, M_r_laysRow, M_r_rowOf, M_r_mask, M_r_rank, M_r_told, M_r_solved, M_r_factor, M_r_squaresOf, M_r_shareBy, M_r_fewer] ++ ([M_r_agree, M_r_movesTo, M_r_goes, M_r_laysTours, M_r_tour, M_r_tourAt, M_r_sign, M_r_signAt, M_r_remembers, M_r_changed, M_r_shine, M_r_stick, M_r_lose, M_r_undo, M_r_stuck, M_r_size] ++ ([M_r_trouble, M_ji_bitCount, M_js_length, M_js_charAt, M_js_coder, M_js_isLatin1, M_js_checkIndex, M_jl_charAt, M_jp_checkIndex, M_l_law]))))))))))))))))) := rfl
  rw [e]
  exact List.forall_mem_append.mpr ⟨okT_c0, List.forall_mem_append.mpr ⟨okT_c1, List.forall_mem_append.mpr ⟨okT_c2, List.forall_mem_append.mpr ⟨okT_c3, List.forall_mem_append.mpr ⟨okT_c4, List.forall_mem_append.mpr ⟨okT_c5, List.forall_mem_append.mpr ⟨okT_c6, List.forall_mem_append.mpr ⟨okT_c7, List.forall_mem_append.mpr ⟨okT_c8, List.forall_mem_append.mpr ⟨okT_c9, List.forall_mem_append.mpr ⟨okT_c10, List.forall_mem_append.mpr ⟨okT_c11, List.forall_mem_append.mpr ⟨okT_c12, List.forall_mem_append.mpr ⟨okT_c13, List.forall_mem_append.mpr ⟨okT_c14, List.forall_mem_append.mpr ⟨okT_c15, List.forall_mem_append.mpr ⟨okT_c16, okT_c17⟩⟩⟩⟩⟩⟩⟩⟩⟩⟩⟩⟩⟩⟩⟩⟩⟩
end
section
/-! ===== BEGIN exceptions that leave a method, and their catching by the caller (launches without stack traces) ===== -/
section VXA
/-! The laws vx_back, vx_callV, vx_callS, vx_callSW, vx_throw0, vx_throwS follow proofs of the library, with one case more: JvmDerived/Free/Laws.lean (Back.of_free), Shelf42/LK1.lean (callV, callS), Shelf/KitTraced.lean (throwNew0V, throwNewS). -/
/-- where a method has thrown q: the class by its name, the cell, what was written, the world -/
def vx_T (XC : String → State → State → Prop) (st : State) (q : Addr) (t : State) (mc ms : Nat) (free : Addr → Prop) : Prop :=
  ∃ (E : String) (ce : Cell) (L : List Loc), XC E st t ∧ t.heap[q]? = some ce ∧ ce.vm = .none ∧ st.vm.findClass E = some ce.cls ∧ st.WarmedH t.vm ∧ st.sameButNew ({ t with vm := st.vm } : State) L mc ms ∧ ∀ z ∈ L, free z.base
def vx_Q (Qc : Array Value → State → Outcome → State → Prop) (XC : String → State → State → Prop) (mc ms : Nat) (free : Addr → Prop) : Array Value → State → Outcome → State → Prop := fun a st o t =>
  (Qc a st o t ∧ ∃ L, FrameEnd st o t L mc ms ∧ ∀ q ∈ L, free q.base) ∨ ∃ q, o = .threw q ∧ vx_T XC st q t mc ms free
/-- a callee that returns or throws -/
def vx_Met (l : Launch) (y : MethodName) (ws : List Cond) (rm : Room) (Pc : Array Value → State → Prop) (Qc : Array Value → State → Outcome → State → Prop) (XC : String → State → State → Prop) (mc ms : Nat) (free : Addr → Prop) : Prop :=
  MetFree l y (headSpec ws rm) Pc (fun _ _ _ _ _ => True) (vx_Q Qc XC mc ms free)
def vx_Post (XC : String → State → State → Prop) (mc ms : Nat) (free : Addr → Prop) : Pt → Array Value → Addr → Pt → Prop := fun A a q B =>
  ∃ (g : JFrame) (mk : MethodId) (t : State) (L : List Loc) (E : String) (ce : Cell), B.U.heap = t.heap ∧ B.U.vm = t.vm ∧ XC E (A.U.calling g mk a) t ∧ t.heap[q]? = some ce ∧ ce.vm = .none ∧ A.U.vm.findClass E = some ce.cls ∧ B.locs = A.locs ++ L ∧ (∀ z ∈ L, free z.base) ∧ B.cells = A.cells + mc ∧ B.slots = A.slots + ms
def vx_Back (l : Launch) (R : Room) (p : Program) (e : Env) (below : List Frame) (s : State) (sargs : Array Value) (y : MethodName) (len W9 : Nat)
    (Pre : Pt → Array Value → Prop) (Post : Pt → Array Value → Option Value → Pt → Prop) (PostX : Pt → Array Value → Addr → Pt → Prop) : Prop :=
  ∀ (m : MethodId) (meth : Method) (c : Code) (A : Pt) (g : JFrame) (ig : Instr) (mk : MethodId) (a : Array Value),
    Stand p l e R s m sargs below meth c A.U A.locs A.cells A.slots → g.method = m → g.locals.size = c.maxLocals → decode c.code g.pc = .ok (ig, len) →
    2 * g.monitorRoom + (g.stack.map fun v => v.category).sum ≤ W9 → A.U.methodNamed? y = some mk → Pre A a →
    (∃ (v : Option Value) (B : Pt), Stand p l e R s m sargs below meth c B.U B.locs B.cells B.slots ∧ Post A a v B ∧
      Steps p.tables e below (doInvoke e (A.U.setTop g) [] mk a).1 (B.U.setTop { g with pc := g.pc + len, stack := v.toList ++ g.stack })) ∨
    (∃ (q : Addr) (B : Pt), Stand p l e R s m sargs below meth c B.U B.locs B.cells B.slots ∧ PostX A a q B ∧
      Steps p.tables e below (doInvoke e (A.U.setTop g) [] mk a).1 ((B.U.setTop g).pushFrame (.throwing q)))
section Payer
variable {l : Launch} {R : Room} {p : Program} {e : Env} {below : List Frame} {s : State} {sargs : Array Value} {y : MethodName} {len W9 : Nat}
theorem vx_back {ws : List Cond} {rm : Room} {Pc : Array Value → State → Prop} {Qc : Array Value → State → Outcome → State → Prop} {XC : String → State → State → Prop} {mc ms : Nat} {free : Addr → Prop} {bytes : ByteArray} {maxL : Nat} {ret : Option FieldType}
    (hM : vx_Met l y ws rm Pc Qc XC mc ms free) (hblind : FrameBlind Pc) (hrc : rm.cells = mc) (hrs : rm.slots = ms)
    (hframes : rm.frames + 1 ≤ R.frames) (hlocals : W9 + (maxL + 11) + rm.locals ≤ R.locals)
    (hws : ∀ w ∈ ws, ∀ a' U, s.WarmedH U.vm → w.before a' U = true) (hcode : Cond.code y bytes maxL ret ∈ ws) (hinit : ∀ a' U, s.WarmedH U.vm → (Cond.initialized y.cls).before a' U = true) :
    vx_Back l R p e below s sargs y len W9 (PreOf R mc ms Pc) (PostOf Qc mc ms free) (vx_Post XC mc ms free) := by
  intro m meth c A g ig mk a X hg hsize hdg hW hn hp
  have h1 : (headSpec ws rm).pre.before a A.U = true := atoms_intro fun w hw => hws w hw _ _ X.warmed
  have h2 : (Cond.code y bytes maxL ret).before a A.U = true := hws _ hcode _ _ X.warmed
  have h3 : (Cond.initialized y.cls).before a A.U = true := hinit _ _ X.warmed
  have h4 : A.cells + (headSpec ws rm).room.cells ≤ R.cells := by rw [show (headSpec ws rm).room.cells = mc from hrc]; exact hp.1
  have h5 : A.slots + (headSpec ws rm).room.slots ≤ R.slots := by rw [show (headSpec ws rm).room.slots = ms from hrs]; exact hp.2.1
  have hPc : Pc a (A.U.calling g mk a) := hblind _ _ _ _ hp.2.2
  obtain ⟨U, Ls, c0, s0⟩ := A
  dsimp only [Pt.U, Pt.locs, Pt.cells, Pt.slots] at h1 h2 h3 h4 h5 X hn hPc ⊢
  obtain ⟨methY, cY, hmY, hcY, -, hlY, -, -, -, -⟩ := Cond.code_spec hn h2
  obtain ⟨kY, hkY, -⟩ := className_of_methodNamed hn
  have hinitY : kY.init = .initialized := Cond.initialized_spec (findClass_of_methodNamed hn) hkY h3
  have h : At U g.method c below := by rw [hg]; exact X.here
  have hlocals9 : W9 + (maxL + 11) + (headSpec ws rm).room.locals ≤ R.locals := hlocals
  have happ : (headSpec ws rm).appliesLoose y e.platform (U.calling g mk a) = true :=
    Spec.appliesLoose_calling (g := g) h hdg hn hkY hinitY
      (X.room_calling (g := g) (R' := (headSpec ws rm).room) hsize hmY hcY hframes (by rw [hlY]; omega) h4 h5) h1
  obtain ⟨mid, hmid⟩ := h.above
  have hfr : (U.setTop g).frames = (.java g :: mid) ++ below := by rw [State.frames_setTop' g h.top, hmid]; rfl
  obtain ⟨o, s₂, hsteps, -, hend, hq⟩ := Steps.callFree hM p X.admits X.cas X.clock (acts := []) hfr happ hPc trivial
  have hq' : vx_Q Qc XC mc ms free a (U.calling g mk a) o s₂ := hq
  rw [State.frames_setTop' g h.top] at hend
  obtain ⟨g₀, hg0⟩ := Option.isSome_iff_exists.mp h.top
  obtain ⟨r, hr⟩ := State.topJava?_eq_some.mp hg0
  have hr' : (({ U with heap := s₂.heap, slotsUsed := s₂.slotsUsed } : State).setVm s₂.vm).frames = .java g₀ :: r := hr
  rcases hq' with ⟨hqc, L, hfe, hL⟩ | ⟨q, rfl, E, ce, L, hx, hce, hcv, hcl, hW₂, hsm, hL⟩
  · obtain ⟨⟨v, rfl⟩, hW₂, e2, q2, q3, q4, q5, q6⟩ := id hfe
    have e3 : s₂ = ({ (U.calling g mk a).setFrames s₂.frames with heap := s₂.heap, slotsUsed := s₂.slotsUsed } : State).setVm s₂.vm := by
      have : s₂ = ({ s₂ with vm := (U.calling g mk a).vm } : State).setVm s₂.vm := rfl
      rw [e2] at this
      exact this
    obtain ⟨c₂, i₂, len₂, hc₂, hd₂, hf₂⟩ := hend
    have hW' : U.WarmedH s₂.vm := hW₂
    have hcc : c₂ = c := by
      have h1 : s₂.code? g.method = U.code? g.method := by
        rw [State.code?_eq, State.code?_eq, hW'.alike.method?]
      exact Option.some.inj (hc₂.symm.trans (h1.trans h.code))
    subst hcc
    have hlen : len₂ = len := by rw [hdg] at hd₂; cases hd₂; rfl
    subst hlen
    have hs₂ : s₂ = (({ U with heap := s₂.heap, slotsUsed := s₂.slotsUsed } : State).setVm s₂.vm).setTop { g with pc := g.pc + len₂, stack := v.toList ++ g.stack } := by
      refine e3.trans ?_
      rw [hf₂, State.calling_eq h.top, State.setFrames_setFrames, State.setTop_of_frames _ hr', hr]
      rfl
    have hsame : U.sameButNew ({ U with heap := s₂.heap, slotsUsed := s₂.slotsUsed } : State) L mc ms := by
      refine ⟨?_, q2, q3, q4, q5, q6⟩
      obtain ⟨t, ht, -⟩ := State.frames_cons hr
      show ({ U with heap := s₂.heap, slotsUsed := s₂.slotsUsed } : State) = { U.setFrames U.frames with heap := s₂.heap, slotsUsed := s₂.slotsUsed }
      rw [State.setFrames_self ht]
    subst hg
    refine Or.inl ⟨v, ⟨(({ U with heap := s₂.heap, slotsUsed := s₂.slotsUsed } : State).setVm s₂.vm), Ls ++ L, c0 + mc, s0 + ms⟩,
      ⟨X.admits, X.cas, X.clock, X.frames, X.room, X.hears, X.method, X.code, (X.here.setHeapUsed s₂.heap s₂.slotsUsed).setVm hW'.alike, X.tail, State.WarmedH.trans X.warmed hW', X.limits, X.bytes, X.same.trans (hsame.setVm s.vm)⟩,
      ⟨g, mk, s₂, L, rfl, rfl, hqc, rfl, hL, rfl, rfl⟩, ?_⟩
    show Steps p.tables e below _ ((({ U with heap := s₂.heap, slotsUsed := s₂.slotsUsed } : State).setVm s₂.vm).setTop { g with pc := g.pc + len₂, stack := v.toList ++ g.stack })
    rw [← hs₂]
    exact hsteps
  · obtain ⟨e2, q2, q3, q4, q5, q6⟩ := id hsm
    have e3 : s₂ = ({ (U.calling g mk a).setFrames s₂.frames with heap := s₂.heap, slotsUsed := s₂.slotsUsed } : State).setVm s₂.vm := by
      have : s₂ = ({ s₂ with vm := (U.calling g mk a).vm } : State).setVm s₂.vm := rfl
      rw [e2] at this
      exact this
    have hf₂ : s₂.frames = .throwing q :: .java g :: U.frames.tail := hend
    have hW' : U.WarmedH s₂.vm := hW₂
    have hs₂ : s₂ = ((({ U with heap := s₂.heap, slotsUsed := s₂.slotsUsed } : State).setVm s₂.vm).setTop g).pushFrame (.throwing q) := by
      refine e3.trans ?_
      rw [hf₂, State.calling_eq h.top, State.setFrames_setFrames, State.pushFrame, State.frames_setTop _ hr', State.setTop_of_frames _ hr', State.setFrames_setFrames, hr]
      rfl
    have hsame : U.sameButNew ({ U with heap := s₂.heap, slotsUsed := s₂.slotsUsed } : State) L mc ms := by
      refine ⟨?_, q2, q3, q4, q5, q6⟩
      obtain ⟨t, ht, -⟩ := State.frames_cons hr
      show ({ U with heap := s₂.heap, slotsUsed := s₂.slotsUsed } : State) = { U.setFrames U.frames with heap := s₂.heap, slotsUsed := s₂.slotsUsed }
      rw [State.setFrames_self ht]
    subst hg
    refine Or.inr ⟨q, ⟨(({ U with heap := s₂.heap, slotsUsed := s₂.slotsUsed } : State).setVm s₂.vm), Ls ++ L, c0 + mc, s0 + ms⟩,
      ⟨X.admits, X.cas, X.clock, X.frames, X.room, X.hears, X.method, X.code, (X.here.setHeapUsed s₂.heap s₂.slotsUsed).setVm hW'.alike, X.tail, State.WarmedH.trans X.warmed hW', X.limits, X.bytes, X.same.trans (hsame.setVm s.vm)⟩,
      ⟨g, mk, s₂, L, E, ce, rfl, rfl, hx, hce, hcv, hcl, rfl, hL, rfl, rfl⟩, ?_⟩
    show Steps p.tables e below _ (((({ U with heap := s₂.heap, slotsUsed := s₂.slotsUsed } : State).setVm s₂.vm).setTop g).pushFrame (.throwing q))
    rw [← hs₂]
    exact hsteps
end Payer
section Calls
variable {p : Program} {l : Launch} {e : Env} {R : Room} {s : State} {m : MethodId} {args : Array Value} {below : List Frame} {meth : Method} {c : Code} {T : State} {locs : List Loc} {cells slots : Nat}
theorem vx_callV (X : Stand p l e R s m args below meth c T locs cells slots) (hexec : p.tables.exec = Jvm.exec) {own C : String} {index : Nat} {y : MethodName} {bytes : ByteArray} {maxL : Nat} {ret : Option FieldType}
    (hown : s.vm.findClass own = some m.cls) (hlink : (Cond.methodLink own index y).before args s = true) (hinst : (Cond.instanceMethod y).before args s = true) (hsel : (Cond.selects C y y).before args s = true)
    (hcode : (Cond.code y bytes maxL ret).before args s = true) (hy : y.cls ≠ "java/lang/invoke/MethodHandle" ∧ y.cls ≠ "java/lang/invoke/VarHandle")
    {W9 : Nat} {Pre : Pt → Array Value → Prop} {Post : Pt → Array Value → Option Value → Pt → Prop} {PostX : Pt → Array Value → Addr → Pt → Prop} (hK : vx_Back l R p e below s args y 3 W9 Pre Post PostX)
    {b : Addr} {cellB : Cell} (hcell : T.heap[b]? = some cellB) (hobj : cellB.vm.isStatics = false) (hcls : s.vm.findClass C = some cellB.cls)
    {g : JFrame} (hg : g.method = m) (hsize : g.locals.size = c.maxLocals) {argsL rest : List Value} (hlen : ∀ sig, parseMethodDescriptor y.desc = some sig → argsL.length = sig.parameters.length)
    (hstack : g.stack = argsL.reverse ++ .ref b :: rest) (hW : 2 * g.monitorRoom + (rest.map fun v => v.category).sum ≤ W9) (hdg : decode c.code g.pc = .ok (.invokevirtual index, 3))
    (hpre : ∀ vm₁, s.WarmedH vm₁ → Pre ⟨T.setVm vm₁, locs, cells, slots⟩ (Value.ref b :: argsL).toArray) :
    (∃ (v : Option Value) (vm₁ : Vm) (B : Pt), s.WarmedH vm₁ ∧ Stand p l e R s m args below meth c B.U B.locs B.cells B.slots ∧ Post ⟨T.setVm vm₁, locs, cells, slots⟩ (Value.ref b :: argsL).toArray v B ∧
      ∀ target, Steps p.tables e below (B.U.setTop { g with pc := g.pc + 3, stack := v.toList ++ rest }) target → Steps p.tables e below (T.setTop g) target) ∨
    (∃ (q : Addr) (vm₁ : Vm) (B : Pt), s.WarmedH vm₁ ∧ Stand p l e R s m args below meth c B.U B.locs B.cells B.slots ∧ PostX ⟨T.setVm vm₁, locs, cells, slots⟩ (Value.ref b :: argsL).toArray q B ∧
      Steps p.tables e below (T.setTop g) ((B.U.setTop { g with stack := rest }).pushFrame (.throwing q))) := by
  obtain ⟨mk, methM, hnamed, hmethM, hstM, habM⟩ := Cond.instanceMethod_spec hinst
  obtain ⟨methM', cM, hmethM', -, -, -, -, -, -, hsigM⟩ := Cond.code_spec hnamed hcode
  cases hmethM.symm.trans hmethM'
  obtain ⟨c2, r2, m2, q1, q2, q3, q4, kP, hkP, hkPi⟩ := Cond.selects_spec hsel
  cases hcls.symm.trans q1
  cases (State.methodFound?_of_named hnamed hy).symm.trans q2
  cases hnamed.symm.trans q3
  have hselP : selectMethod e.platform s.vm cellB.cls mk = .method mk := by rw [Launch.admits_selectMethod X.admits]; exact q4
  obtain ⟨vm₁, X₁, hstep₁⟩ := X.invokevirtual hexec hown hlink hnamed hmethM hstM hkP hkPi hy (a := b) (cell := cellB) hcell
    (fun z h => by rw [h] at hobj; cases hobj) hselP hmethM habM hkP hkPi (g := g) hg (argsL := argsL) (rest := rest) (hlen _ hsigM) hstack hdg
  rcases hK m meth c ⟨T.setVm vm₁, locs, cells, slots⟩ { g with stack := rest } (.invokevirtual index) mk (Value.ref b :: argsL).toArray X₁ hg hsize hdg hW (X₁.named hnamed) (hpre vm₁ X₁.warmed) with ⟨v, B, X', hpost, hsteps⟩ | ⟨q, B, X', hpost, hsteps⟩
  · exact Or.inl ⟨v, vm₁, B, X₁.warmed, X', hpost, fun target h => hstep₁ _ fun acts => by rw [doInvoke_state]; exact hsteps.trans h⟩
  · exact Or.inr ⟨q, vm₁, B, X₁.warmed, X', hpost, hstep₁ _ fun acts => by rw [doInvoke_state]; exact hsteps⟩
theorem vx_callS (X : Stand p l e R s m args below meth c T locs cells slots) (hexec : p.tables.exec = Jvm.exec) {own : String} {index : Nat} {y : MethodName} {bytes : ByteArray} {maxL : Nat} {ret : Option FieldType}
    (hown : s.vm.findClass own = some m.cls) (hlink : (Cond.methodLink own index y).before args s = true) (hstat : (Cond.static y).before args s = true) (hinit : (Cond.initialized y.cls).before args s = true)
    (hcode : (Cond.code y bytes maxL ret).before args s = true) (hy : y.cls ≠ "java/lang/invoke/MethodHandle" ∧ y.cls ≠ "java/lang/invoke/VarHandle")
    {W9 : Nat} {Pre : Pt → Array Value → Prop} {Post : Pt → Array Value → Option Value → Pt → Prop} {PostX : Pt → Array Value → Addr → Pt → Prop} (hK : vx_Back l R p e below s args y 3 W9 Pre Post PostX)
    {g : JFrame} (hg : g.method = m) (hsize : g.locals.size = c.maxLocals) {argsL rest : List Value} (hlen : ∀ sig, parseMethodDescriptor y.desc = some sig → argsL.length = sig.parameters.length)
    (hstack : g.stack = argsL.reverse ++ rest) (hW : 2 * g.monitorRoom + (rest.map fun v => v.category).sum ≤ W9) (hdg : decode c.code g.pc = .ok (.invokestatic index, 3))
    (hpre : ∀ vm₁, s.WarmedH vm₁ → Pre ⟨T.setVm vm₁, locs, cells, slots⟩ argsL.toArray) :
    (∃ (v : Option Value) (vm₁ : Vm) (B : Pt), s.WarmedH vm₁ ∧ Stand p l e R s m args below meth c B.U B.locs B.cells B.slots ∧ Post ⟨T.setVm vm₁, locs, cells, slots⟩ argsL.toArray v B ∧
      ∀ target, Steps p.tables e below (B.U.setTop { g with pc := g.pc + 3, stack := v.toList ++ rest }) target → Steps p.tables e below (T.setTop g) target) ∨
    (∃ (q : Addr) (vm₁ : Vm) (B : Pt), s.WarmedH vm₁ ∧ Stand p l e R s m args below meth c B.U B.locs B.cells B.slots ∧ PostX ⟨T.setVm vm₁, locs, cells, slots⟩ argsL.toArray q B ∧
      Steps p.tables e below (T.setTop g) ((B.U.setTop { g with stack := rest }).pushFrame (.throwing q))) := by
  obtain ⟨mk, hnamed⟩ := Cond.code_named hcode
  obtain ⟨methM, cM, hmethM, -, -, -, -, -, -, hsigM⟩ := Cond.code_spec hnamed hcode
  have hstatic : methM.isStatic = true := Cond.static_spec hnamed hmethM hstat
  obtain ⟨kP, hkP, -⟩ := className_of_methodNamed hnamed
  have hinitP : kP.init = .initialized := Cond.initialized_spec (findClass_of_methodNamed hnamed) hkP hinit
  obtain ⟨vm₁, X₁, hstep₁⟩ := X.invokestatic hexec hown hlink hnamed hmethM hstatic hkP hinitP hy (g := g) hg (argsL := argsL) (rest := rest) (hlen _ hsigM) hstack hdg
  rcases hK m meth c ⟨T.setVm vm₁, locs, cells, slots⟩ { g with stack := rest } (.invokestatic index) mk argsL.toArray X₁ hg hsize hdg hW (X₁.named hnamed) (hpre vm₁ X₁.warmed) with ⟨v, B, X', hpost, hsteps⟩ | ⟨q, B, X', hpost, hsteps⟩
  · exact Or.inl ⟨v, vm₁, B, X₁.warmed, X', hpost, fun target h => hstep₁ _ fun acts => by rw [doInvoke_state]; exact hsteps.trans h⟩
  · exact Or.inr ⟨q, vm₁, B, X₁.warmed, X', hpost, hstep₁ _ fun acts => by rw [doInvoke_state]; exact hsteps⟩
end Calls
theorem vx_cls {s : State} {T : State} {vm₁ : Vm} {E : String} {k : ClassId} (hW : s.WarmedH vm₁) (h : (T.setVm vm₁).vm.findClass E = some k) : s.vm.findClass E = some k := by
  have h1 : vm₁.findClass E = some k := h
  rw [hW.alike.findClass] at h1
  exact h1
/-- the method's frame g, with q thrown over it -/
def vx_W (p : Program) (l : Launch) (e : Env) (R : Room) (s : State) (m : MethodId) (args : Array Value) (below : List Frame) (meth : Method) (c : Code) (H : Heap) (locs : List Loc) (cells slots : Nat) (Q : State → Prop) (g : JFrame) (q : Addr) : Prop :=
  ∀ T : State, T.heap = H → Stand p l e R s m args below meth c T locs cells slots → ∃ t, Steps p.tables e below ((T.setTop g).pushFrame (.throwing q)) t ∧ Q t
def vx_Run (p : Program) (l : Launch) (e : Env) (R : Room) (s : State) (m : MethodId) (args : Array Value) (below : List Frame) (meth : Method) (c : Code) (H : Heap) (locs : List Loc) (cells slots mc ms : Nat) (g : JFrame) (rest : List Value) (Qa : State → Outcome → State → Prop) (XC : String → State → State → Prop) (free : Addr → Prop) : Prop :=
  ∀ T : State, T.heap = H → Stand p l e R s m args below meth c T locs cells slots →
    (∃ (v : Option Value) (st₀ t T' : State) (L : List Loc), st₀.heap = H ∧ Stand p l e R s m args below meth c T' (locs ++ L) (cells + mc) (slots + ms) ∧ (∀ q ∈ L, free q.base) ∧ T'.heap = t.heap ∧ T'.vm = t.vm ∧ Qa st₀ (.returned v) t ∧
      Goes p e below T g T' { g with pc := g.pc + 3, stack := v.toList ++ rest }) ∨
    (∃ (q : Addr) (st₀ t T' : State) (L : List Loc) (E : String) (ce : Cell), st₀.heap = H ∧ Stand p l e R s m args below meth c T' (locs ++ L) (cells + mc) (slots + ms) ∧ (∀ z ∈ L, free z.base) ∧ T'.heap = t.heap ∧ T'.vm = t.vm ∧ XC E st₀ t ∧ t.heap[q]? = some ce ∧ ce.vm = .none ∧ s.vm.findClass E = some ce.cls ∧
      Steps p.tables e below (T.setTop g) ((T'.setTop { g with stack := rest }).pushFrame (.throwing q)))
def vx_X {S : Type} (px : S → Prop) (B : String → S → State → Prop) (A : Nat → Prop) : String → State → State → Prop := fun E st t => ∃ u : S, px u ∧ B E u t ∧ va_F A st t
section Runs
variable {p : Program} {l : Launch} {e : Env} {R : Room} {s : State} {m : MethodId} {args : Array Value} {below : List Frame} {meth : Method} {c : Code} {H : Heap} {locs : List Loc} {cells slots : Nat}
variable {y : MethodName} {bytes cc : ByteArray} {maxL nL mc ms n index : Nat} {ret : Option FieldType} {ws : List Cond} {rm : Room} {Pc : Array Value → State → Prop} {Qc : Array Value → State → Outcome → State → Prop} {XC : String → State → State → Prop} {free : Addr → Prop} {Ts : List Cond} {own C : String} {b : Addr} {As rest : List Value} {g : JFrame}
theorem vx_callBack (cb : CallB R s args own index y bytes maxL ret ws rm mc ms n) (hM : vx_Met l y ws rm Pc Qc XC mc ms free) (hbl : FrameBlind Pc) : vx_Back l R p e below s args y 3 8 (PreOf R mc ms Pc) (PostOf Qc mc ms free) (vx_Post XC mc ms free) := by
  obtain ⟨hrc, hrs, hfr, hlo, hws, hcw, -, hini, -⟩ := cb
  exact vx_back (bytes := bytes) (maxL := maxL) (ret := ret) hM hbl hrc hrs hfr hlo hws hcw (fun a' U hW => word_at hW (Or.inl (by first | rfl | simp [Cond.onTables, Cond.keeps, Cond.steady])) hini)
theorem vx_runV (S : CallFix p m c cc nL s args Ts own) (hM : vx_Met l y ws rm Pc Qc XC mc ms free) (cw : CallW R s args own C index y bytes maxL ret ws rm mc ms n) (hp : PreV s H C b Pc As)
    (hg : g.method = m) (hn : As.length = n) (hsize : g.locals.size = nL) (hstack : g.stack = As.reverse ++ .ref b :: rest) (hW : 2 * g.monitorRoom + (rest.map fun v => v.category).sum ≤ 8) (hdg : decode cc g.pc = .ok (.invokevirtual index, 3)) (hf : cells + mc ≤ R.cells ∧ slots + ms ≤ R.slots) :
    vx_Run p l e R s m args below meth c H locs cells slots mc ms g rest (Qc (Value.ref b :: As).toArray) XC free := by
  have hK : vx_Back l R p e below s args y 3 8 (PreOf R mc ms Pc) (PostOf Qc mc ms free) (vx_Post XC mc ms free) := vx_callBack cw.1 hM hp.1
  obtain ⟨⟨-, -, -, -, -, -, hcode, -, hy, hlen, hl⟩, hin, hse⟩ := cw
  obtain ⟨hx, hb, hml, ho, -⟩ := S
  obtain ⟨-, ⟨cellB, hcB, hoB, hclB⟩, hPc⟩ := hp
  intro T hT X
  rcases vx_callV X hx (C := C) (bytes := bytes) (maxL := maxL) (ret := ret) ho hl hin hse hcode hy hK (by rw [hT]; exact hcB) hoB hclB hg (hsize.trans hml.symm) (argsL := As) (rest := rest) (fun sig h => hn.trans (hlen sig h)) hstack hW (by rw [hb]; exact hdg)
    (fun vm₁ hW₁ => ⟨hf.1, hf.2, hPc (T.setVm vm₁) hT hW₁⟩) with ⟨v, vm₁, ⟨U', l2, c2, s2⟩, hW₁, X', ⟨g', mk, t, L, e1, e2, hq, h1, hL, h2, h3⟩, st⟩ | ⟨q, vm₁, ⟨U', l2, c2, s2⟩, hW₁, X', ⟨g', mk, t, L, E, ce, e1, e2, hq, hce, hcv, hcl, h1, hL, h2, h3⟩, st⟩
  · dsimp only [Pt.U, Pt.locs, Pt.cells, Pt.slots] at X' e1 e2 h1 h2 h3 st
    subst h1; subst h2; subst h3
    exact Or.inl ⟨v, (T.setVm vm₁).calling g' mk (Value.ref b :: As).toArray, t, U', L, hT, X', hL, e1, e2, hq, st⟩
  · dsimp only [Pt.U, Pt.locs, Pt.cells, Pt.slots] at X' e1 e2 h1 h2 h3 st hcl
    subst h1; subst h2; subst h3
    exact Or.inr ⟨q, (T.setVm vm₁).calling g' mk (Value.ref b :: As).toArray, t, U', L, E, ce, hT, X', hL, e1, e2, hq, hce, hcv, vx_cls hW₁ hcl, st⟩
theorem vx_runS (S : CallFix p m c cc nL s args Ts own) (hM : vx_Met l y ws rm Pc Qc XC mc ms free) (cw : CallB R s args own index y bytes maxL ret ws rm mc ms n ∧ (Cond.static y).before args s = true) (hp : PreS s H Pc As)
    (hg : g.method = m) (hn : As.length = n) (hsize : g.locals.size = nL) (hstack : g.stack = As.reverse ++ rest) (hW : 2 * g.monitorRoom + (rest.map fun v => v.category).sum ≤ 8) (hdg : decode cc g.pc = .ok (.invokestatic index, 3)) (hf : cells + mc ≤ R.cells ∧ slots + ms ≤ R.slots) :
    vx_Run p l e R s m args below meth c H locs cells slots mc ms g rest (Qc As.toArray) XC free := by
  have hK : vx_Back l R p e below s args y 3 8 (PreOf R mc ms Pc) (PostOf Qc mc ms free) (vx_Post XC mc ms free) := vx_callBack cw.1 hM hp.1
  obtain ⟨⟨-, -, -, -, -, -, hcode, hini, hy, hlen, hl⟩, hstt⟩ := cw
  obtain ⟨hx, hb, hml, ho, -⟩ := S
  intro T hT X
  rcases vx_callS X hx (bytes := bytes) (maxL := maxL) (ret := ret) ho hl hstt hini hcode hy hK hg (hsize.trans hml.symm) (argsL := As) (rest := rest) (fun sig h => hn.trans (hlen sig h)) hstack hW (by rw [hb]; exact hdg)
    (fun vm₁ hW₁ => ⟨hf.1, hf.2, hp.2 (T.setVm vm₁) hT hW₁⟩) with ⟨v, vm₁, ⟨U', l2, c2, s2⟩, hW₁, X', ⟨g', mk, t, L, e1, e2, hq, h1, hL, h2, h3⟩, st⟩ | ⟨q, vm₁, ⟨U', l2, c2, s2⟩, hW₁, X', ⟨g', mk, t, L, E, ce, e1, e2, hq, hce, hcv, hcl, h1, hL, h2, h3⟩, st⟩
  · dsimp only [Pt.U, Pt.locs, Pt.cells, Pt.slots] at X' e1 e2 h1 h2 h3 st
    subst h1; subst h2; subst h3
    exact Or.inl ⟨v, (T.setVm vm₁).calling g' mk As.toArray, t, U', L, hT, X', hL, e1, e2, hq, st⟩
  · dsimp only [Pt.U, Pt.locs, Pt.cells, Pt.slots] at X' e1 e2 h1 h2 h3 st hcl
    subst h1; subst h2; subst h3
    exact Or.inr ⟨q, (T.setVm vm₁).calling g' mk As.toArray, t, U', L, E, ce, hT, X', hL, e1, e2, hq, hce, hcv, vx_cls hW₁ hcl, st⟩
end Runs
section Rows
variable {p : Program} {l : Launch} {e : Env} {R : Room} {s : State} {m : MethodId} {args : Array Value} {below : List Frame} {meth : Method} {c : Code} {H : Heap} {locs : List Loc} {cells slots : Nat} {Q : State → Prop}
variable {mc ms : Nat} {free : Addr → Prop} {A0 A1 : Nat → Prop} {H0 : Heap} {a : Array Value} {pc : Nat} {ls : Array Slot} {st0 rest : List Value}
theorem vx_keep {st₀ t T' : State} {L : List Loc} (h0 : st₀.heap = H) (e1 : T'.heap = t.heap) (hS : va_S A0 H0 H locs) (hA : ∀ q, q < H.size → A1 q → A0 q) (hf : ∀ q, free q → A0 q) (hL : ∀ q ∈ L, free q.base) (hF : va_F A1 st₀ t) :
    H.size ≤ T'.heap.size ∧ (∀ q : Nat, q < H.size → ¬ A1 q → T'.heap[q]? = H[q]?) ∧ va_S A0 H0 T'.heap (locs ++ L) := by
  obtain ⟨hz, hk⟩ := hF
  rw [h0] at hz hk
  exact ⟨by rw [e1]; exact hz, fun q h1 h2 => by rw [e1]; exact hk q h1 h2,
    ⟨Nat.le_trans hS.1 (by rw [e1]; exact hz), fun q h1 h2 => by rw [e1, hk q (Nat.lt_of_lt_of_le h1 hS.1) (fun z => h2 (hA q (Nat.lt_of_lt_of_le h1 hS.1) z))]; exact hS.2.1 q h1 h2, fun q hq => by
      rcases List.mem_append.mp hq with h | h
      · exact hS.2.2 q h
      · exact hf _ (hL q h)⟩⟩
theorem vx_calli {S SX : Type} {post : Int32 → S → Prop} {px : SX → Prop} {B : S → State → Prop} {BX : String → SX → State → Prop} {AX : Nat → Prop} (hr : vx_Run p l e R s m args below meth c H locs cells slots mc ms (F0 m pc ls st0) rest (va_Qi post B A1 a) (vx_X px BX AX) free) (hS : va_S A0 H0 H locs) (hA : ∀ q, q < H.size → A1 q → A0 q) (hf : ∀ q, free q → A0 q) (hAX : ∀ q, q < H.size → AX q → A0 q)
    (kx : ∀ (E : String) (ce : Cell) (q9 : Addr) (u : SX) (t : State) (H1 : Heap) (locs1 : List Loc), t.heap = H1 → s.vm.Alike t.vm → px u → BX E u t → H.size ≤ H1.size → (∀ q : Nat, q < H.size → ¬ AX q → H1[q]? = H[q]?) → va_S A0 H0 H1 locs1 → H1[q9]? = some ce → ce.vm = .none → s.vm.findClass E = some ce.cls → vx_W p l e R s m args below meth c H1 locs1 (cells + mc) (slots + ms) Q (F0 m pc ls rest) q9)
    (kk : ∀ (r : Int32) (u : S) (t : State) (H1 : Heap) (locs1 : List Loc), t.heap = H1 → s.vm.Alike t.vm → post r u → B u t → H.size ≤ H1.size → (∀ q : Nat, q < H.size → ¬ A1 q → H1[q]? = H[q]?) → va_S A0 H0 H1 locs1 → W p l e R s m args below meth c H1 locs1 (cells + mc) (slots + ms) Q (F0 m (pc + 3) ls (.int r :: rest))) : W p l e R s m args below meth c H locs cells slots Q (F0 m pc ls st0) := by
  intro T hT X
  rcases hr T hT X with ⟨v, st₀, t, T', L, h0, X', hL, e1, e2, ⟨⟨r, u, hv, hp, hb⟩, hF⟩, st⟩ | ⟨q, st₀, t, T', L, E, ce, h0, X', hL, e1, e2, ⟨u, hp, hb, hF⟩, hce, hcv, hcl, st⟩
  · cases hv
    obtain ⟨k1, k2, k3⟩ := vx_keep h0 e1 hS hA hf hL hF
    obtain ⟨t2, a1, b1⟩ := kk r u t T'.heap (locs ++ L) e1.symm (by rw [← e2]; exact X'.warmed.alike) hp hb k1 k2 k3 T' rfl X'
    exact ⟨t2, st t2 a1, b1⟩
  · obtain ⟨k1, k2, k3⟩ := vx_keep h0 e1 hS hAX hf hL hF
    obtain ⟨t2, a1, b1⟩ := kx E ce q u t T'.heap (locs ++ L) e1.symm (by rw [← e2]; exact X'.warmed.alike) hp hb k1 k2 k3 (by rw [e1]; exact hce) hcv hcl T' rfl X'
    exact ⟨t2, st.trans a1, b1⟩
theorem vx_calll {S SX : Type} {post : Int64 → S → Prop} {px : SX → Prop} {B : S → State → Prop} {BX : String → SX → State → Prop} {AX : Nat → Prop} (hr : vx_Run p l e R s m args below meth c H locs cells slots mc ms (F0 m pc ls st0) rest (va_Ql post B A1 a) (vx_X px BX AX) free) (hS : va_S A0 H0 H locs) (hA : ∀ q, q < H.size → A1 q → A0 q) (hf : ∀ q, free q → A0 q) (hAX : ∀ q, q < H.size → AX q → A0 q)
    (kx : ∀ (E : String) (ce : Cell) (q9 : Addr) (u : SX) (t : State) (H1 : Heap) (locs1 : List Loc), t.heap = H1 → s.vm.Alike t.vm → px u → BX E u t → H.size ≤ H1.size → (∀ q : Nat, q < H.size → ¬ AX q → H1[q]? = H[q]?) → va_S A0 H0 H1 locs1 → H1[q9]? = some ce → ce.vm = .none → s.vm.findClass E = some ce.cls → vx_W p l e R s m args below meth c H1 locs1 (cells + mc) (slots + ms) Q (F0 m pc ls rest) q9)
    (kk : ∀ (r : Int64) (u : S) (t : State) (H1 : Heap) (locs1 : List Loc), t.heap = H1 → s.vm.Alike t.vm → post r u → B u t → H.size ≤ H1.size → (∀ q : Nat, q < H.size → ¬ A1 q → H1[q]? = H[q]?) → va_S A0 H0 H1 locs1 → W p l e R s m args below meth c H1 locs1 (cells + mc) (slots + ms) Q (F0 m (pc + 3) ls (.long r :: rest))) : W p l e R s m args below meth c H locs cells slots Q (F0 m pc ls st0) := by
  intro T hT X
  rcases hr T hT X with ⟨v, st₀, t, T', L, h0, X', hL, e1, e2, ⟨⟨r, u, hv, hp, hb⟩, hF⟩, st⟩ | ⟨q, st₀, t, T', L, E, ce, h0, X', hL, e1, e2, ⟨u, hp, hb, hF⟩, hce, hcv, hcl, st⟩
  · cases hv
    obtain ⟨k1, k2, k3⟩ := vx_keep h0 e1 hS hA hf hL hF
    obtain ⟨t2, a1, b1⟩ := kk r u t T'.heap (locs ++ L) e1.symm (by rw [← e2]; exact X'.warmed.alike) hp hb k1 k2 k3 T' rfl X'
    exact ⟨t2, st t2 a1, b1⟩
  · obtain ⟨k1, k2, k3⟩ := vx_keep h0 e1 hS hAX hf hL hF
    obtain ⟨t2, a1, b1⟩ := kx E ce q u t T'.heap (locs ++ L) e1.symm (by rw [← e2]; exact X'.warmed.alike) hp hb k1 k2 k3 (by rw [e1]; exact hce) hcv hcl T' rfl X'
    exact ⟨t2, st.trans a1, b1⟩
theorem vx_callf {S SX : Type} {post : UInt32 → S → Prop} {px : SX → Prop} {B : S → State → Prop} {BX : String → SX → State → Prop} {AX : Nat → Prop} (hr : vx_Run p l e R s m args below meth c H locs cells slots mc ms (F0 m pc ls st0) rest (va_Qf post B A1 a) (vx_X px BX AX) free) (hS : va_S A0 H0 H locs) (hA : ∀ q, q < H.size → A1 q → A0 q) (hf : ∀ q, free q → A0 q) (hAX : ∀ q, q < H.size → AX q → A0 q)
    (kx : ∀ (E : String) (ce : Cell) (q9 : Addr) (u : SX) (t : State) (H1 : Heap) (locs1 : List Loc), t.heap = H1 → s.vm.Alike t.vm → px u → BX E u t → H.size ≤ H1.size → (∀ q : Nat, q < H.size → ¬ AX q → H1[q]? = H[q]?) → va_S A0 H0 H1 locs1 → H1[q9]? = some ce → ce.vm = .none → s.vm.findClass E = some ce.cls → vx_W p l e R s m args below meth c H1 locs1 (cells + mc) (slots + ms) Q (F0 m pc ls rest) q9)
    (kk : ∀ (r : UInt32) (u : S) (t : State) (H1 : Heap) (locs1 : List Loc), t.heap = H1 → s.vm.Alike t.vm → post r u → B u t → H.size ≤ H1.size → (∀ q : Nat, q < H.size → ¬ A1 q → H1[q]? = H[q]?) → va_S A0 H0 H1 locs1 → W p l e R s m args below meth c H1 locs1 (cells + mc) (slots + ms) Q (F0 m (pc + 3) ls (.float r :: rest))) : W p l e R s m args below meth c H locs cells slots Q (F0 m pc ls st0) := by
  intro T hT X
  rcases hr T hT X with ⟨v, st₀, t, T', L, h0, X', hL, e1, e2, ⟨⟨r, u, hv, hp, hb⟩, hF⟩, st⟩ | ⟨q, st₀, t, T', L, E, ce, h0, X', hL, e1, e2, ⟨u, hp, hb, hF⟩, hce, hcv, hcl, st⟩
  · cases hv
    obtain ⟨k1, k2, k3⟩ := vx_keep h0 e1 hS hA hf hL hF
    obtain ⟨t2, a1, b1⟩ := kk r u t T'.heap (locs ++ L) e1.symm (by rw [← e2]; exact X'.warmed.alike) hp hb k1 k2 k3 T' rfl X'
    exact ⟨t2, st t2 a1, b1⟩
  · obtain ⟨k1, k2, k3⟩ := vx_keep h0 e1 hS hAX hf hL hF
    obtain ⟨t2, a1, b1⟩ := kx E ce q u t T'.heap (locs ++ L) e1.symm (by rw [← e2]; exact X'.warmed.alike) hp hb k1 k2 k3 (by rw [e1]; exact hce) hcv hcl T' rfl X'
    exact ⟨t2, st.trans a1, b1⟩
theorem vx_calld {S SX : Type} {post : UInt64 → S → Prop} {px : SX → Prop} {B : S → State → Prop} {BX : String → SX → State → Prop} {AX : Nat → Prop} (hr : vx_Run p l e R s m args below meth c H locs cells slots mc ms (F0 m pc ls st0) rest (va_Qd post B A1 a) (vx_X px BX AX) free) (hS : va_S A0 H0 H locs) (hA : ∀ q, q < H.size → A1 q → A0 q) (hf : ∀ q, free q → A0 q) (hAX : ∀ q, q < H.size → AX q → A0 q)
    (kx : ∀ (E : String) (ce : Cell) (q9 : Addr) (u : SX) (t : State) (H1 : Heap) (locs1 : List Loc), t.heap = H1 → s.vm.Alike t.vm → px u → BX E u t → H.size ≤ H1.size → (∀ q : Nat, q < H.size → ¬ AX q → H1[q]? = H[q]?) → va_S A0 H0 H1 locs1 → H1[q9]? = some ce → ce.vm = .none → s.vm.findClass E = some ce.cls → vx_W p l e R s m args below meth c H1 locs1 (cells + mc) (slots + ms) Q (F0 m pc ls rest) q9)
    (kk : ∀ (r : UInt64) (u : S) (t : State) (H1 : Heap) (locs1 : List Loc), t.heap = H1 → s.vm.Alike t.vm → post r u → B u t → H.size ≤ H1.size → (∀ q : Nat, q < H.size → ¬ A1 q → H1[q]? = H[q]?) → va_S A0 H0 H1 locs1 → W p l e R s m args below meth c H1 locs1 (cells + mc) (slots + ms) Q (F0 m (pc + 3) ls (.double r :: rest))) : W p l e R s m args below meth c H locs cells slots Q (F0 m pc ls st0) := by
  intro T hT X
  rcases hr T hT X with ⟨v, st₀, t, T', L, h0, X', hL, e1, e2, ⟨⟨r, u, hv, hp, hb⟩, hF⟩, st⟩ | ⟨q, st₀, t, T', L, E, ce, h0, X', hL, e1, e2, ⟨u, hp, hb, hF⟩, hce, hcv, hcl, st⟩
  · cases hv
    obtain ⟨k1, k2, k3⟩ := vx_keep h0 e1 hS hA hf hL hF
    obtain ⟨t2, a1, b1⟩ := kk r u t T'.heap (locs ++ L) e1.symm (by rw [← e2]; exact X'.warmed.alike) hp hb k1 k2 k3 T' rfl X'
    exact ⟨t2, st t2 a1, b1⟩
  · obtain ⟨k1, k2, k3⟩ := vx_keep h0 e1 hS hAX hf hL hF
    obtain ⟨t2, a1, b1⟩ := kx E ce q u t T'.heap (locs ++ L) e1.symm (by rw [← e2]; exact X'.warmed.alike) hp hb k1 k2 k3 (by rw [e1]; exact hce) hcv hcl T' rfl X'
    exact ⟨t2, st.trans a1, b1⟩
theorem vx_callv {S SX : Type} {post : S → Prop} {px : SX → Prop} {B : S → State → Prop} {BX : String → SX → State → Prop} {AX : Nat → Prop} (hr : vx_Run p l e R s m args below meth c H locs cells slots mc ms (F0 m pc ls st0) rest (va_Qv post B A1 a) (vx_X px BX AX) free) (hS : va_S A0 H0 H locs) (hA : ∀ q, q < H.size → A1 q → A0 q) (hf : ∀ q, free q → A0 q) (hAX : ∀ q, q < H.size → AX q → A0 q)
    (kx : ∀ (E : String) (ce : Cell) (q9 : Addr) (u : SX) (t : State) (H1 : Heap) (locs1 : List Loc), t.heap = H1 → s.vm.Alike t.vm → px u → BX E u t → H.size ≤ H1.size → (∀ q : Nat, q < H.size → ¬ AX q → H1[q]? = H[q]?) → va_S A0 H0 H1 locs1 → H1[q9]? = some ce → ce.vm = .none → s.vm.findClass E = some ce.cls → vx_W p l e R s m args below meth c H1 locs1 (cells + mc) (slots + ms) Q (F0 m pc ls rest) q9)
    (kk : ∀ (u : S) (t : State) (H1 : Heap) (locs1 : List Loc), t.heap = H1 → s.vm.Alike t.vm → post u → B u t → H.size ≤ H1.size → (∀ q : Nat, q < H.size → ¬ A1 q → H1[q]? = H[q]?) → va_S A0 H0 H1 locs1 → W p l e R s m args below meth c H1 locs1 (cells + mc) (slots + ms) Q (F0 m (pc + 3) ls (rest))) : W p l e R s m args below meth c H locs cells slots Q (F0 m pc ls st0) := by
  intro T hT X
  rcases hr T hT X with ⟨v, st₀, t, T', L, h0, X', hL, e1, e2, ⟨⟨u, hv, hp, hb⟩, hF⟩, st⟩ | ⟨q, st₀, t, T', L, E, ce, h0, X', hL, e1, e2, ⟨u, hp, hb, hF⟩, hce, hcv, hcl, st⟩
  · cases hv
    obtain ⟨k1, k2, k3⟩ := vx_keep h0 e1 hS hA hf hL hF
    obtain ⟨t2, a1, b1⟩ := kk u t T'.heap (locs ++ L) e1.symm (by rw [← e2]; exact X'.warmed.alike) hp hb k1 k2 k3 T' rfl X'
    exact ⟨t2, st t2 a1, b1⟩
  · obtain ⟨k1, k2, k3⟩ := vx_keep h0 e1 hS hAX hf hL hF
    obtain ⟨t2, a1, b1⟩ := kx E ce q u t T'.heap (locs ++ L) e1.symm (by rw [← e2]; exact X'.warmed.alike) hp hb k1 k2 k3 (by rw [e1]; exact hce) hcv hcl T' rfl X'
    exact ⟨t2, st.trans a1, b1⟩
/-- caught by the row x of this method's table; the rows ahead don't take it -/
theorem vx_catch {own name : String} {E : String} {ce : Cell} {q : Addr} (hown : s.vm.findClass own = some m.cls) (pre : List ExceptionTableEntry) (x : ExceptionTableEntry) (suf : List ExceptionTableEntry) (hsplit : c.exceptionTable.toList = pre ++ x :: suf)
    (hpass : ∀ z ∈ pre, covers z pc = false ∨ (z.catchType ≠ 0 ∧ ∃ nm : String, (Cond.classLink own z.catchType nm).before args s = true ∧ va_Nc E nm s)) (hx : covers x pc = true) (h0 : x.catchType ≠ 0)
    (hlink : (Cond.classLink own x.catchType name).before args s = true) (hcast : (Cond.castable E name).before args s = true) (hcell : H[q]? = some ce) (hv : ce.vm = .none) (hcl : s.vm.findClass E = some ce.cls)
    (kk : W p l e R s m args below meth c H locs cells slots Q (F0 m x.handlerPc ls [.ref q])) : vx_W p l e R s m args below meth c H locs cells slots Q (F0 m pc ls rest) q := by
  intro T hT X
  have hpl : e.platform.magicAccessors = ({} : Platform).magicAccessors := by rw [X.admits.platform]
  obtain ⟨c3, c4, hc3, hc4, hasg⟩ := Cond.castable_spec hcast
  cases Option.some.inj (hc3.symm.trans hcl)
  obtain ⟨c5, hc5, hcl5⟩ := Cond.classLink_spec hown hlink e.platform hpl
  cases Option.some.inj (hc4.symm.trans hc5)
  obtain ⟨vm', X', st⟩ := X.thenCaughtThrough q (g := F0 m pc ls rest) rfl (Steps.refl _) (by rw [hT]; exact hcell) (by rw [hv]; rfl) (by obtain ⟨k9, h9, -⟩ := Vm.findClass_spec hcl; exact ⟨k9, h9⟩) pre x suf hsplit
    (fun z hz => by
      rcases hpass z hz with h | ⟨hz0, nm, hl1, hn1⟩
      · exact Or.inl h
      · obtain ⟨c6, hc6, hcl6⟩ := Cond.classLink_spec hown hl1 e.platform hpl
        obtain ⟨a8, b8, h1, h2, h3⟩ := hn1
        cases Option.some.inj (h1.symm.trans hcl)
        cases Option.some.inj (h2.symm.trans hc6)
        exact Or.inr ⟨hz0, _, hcl6, h3⟩) hx (Or.inr ⟨h0, c4, hcl5, hasg⟩)
  obtain ⟨t, a1, b1⟩ := kk (T.setVm vm') hT X'
  exact ⟨t, st.trans a1, b1⟩
end Rows
section Ends
variable {p : Program} {l : Launch} {e : Env} {R : Room} {s : State} {m : MethodId} {args : Array Value} {below : List Frame} {meth : Method} {c : Code} {H : Heap} {locs : List Loc} {cells slots : Nat} {Q : State → Prop}
variable {mc ms : Nat} {free : Addr → Prop} {A0 A1 : Nat → Prop} {H0 : Heap} {a : Array Value} {ls : Array Slot} {st0 rest : List Value}
variable {Qc : Array Value → State → Outcome → State → Prop} {XC : String → State → State → Prop}
/-- what a body that may throw owes at its end -/
def vx_MQ (below : List Frame) (Qc : Array Value → State → Outcome → State → Prop) (XC : String → State → State → Prop) (a : Array Value) (s : State) (mc ms : Nat) (free : Addr → Prop) : State → Prop := fun t =>
  ∃ o, t.status = .running ∧ Ended t below o ∧ vx_Q Qc XC mc ms free a s o t
theorem vx_ret {g : JFrame} {mc ms : Nat} (k : W p l e R s m args below meth c H locs cells slots (MQ below Qc args s mc ms free) g) : W p l e R s m args below meth c H locs cells slots (vx_MQ below Qc XC args s mc ms free) g := by
  intro T hT X
  obtain ⟨t, a1, o, b1, b2, b3, b4⟩ := k T hT X
  exact ⟨t, a1, o, b1, b2, Or.inl ⟨b3, b4⟩⟩
/-- not caught here: it goes on to the caller -/
theorem vx_widen {g : JFrame} {q : Addr} {k n : Nat} (h1 : cells ≤ k) (h2 : slots ≤ n) (kk : vx_W p l e R s m args below meth c H locs k n Q g q) : vx_W p l e R s m args below meth c H locs cells slots Q g q := fun T hT X => kk T hT (stand_widen X h1 h2)
theorem vx_out {pc : Nat} {E : String} {ce : Cell} {q : Addr} {mc ms : Nat} (hout : ∀ x ∈ c.exceptionTable.toList, covers x pc = false) (hlocks : meth.locks = false) (hcell : H[q]? = some ce) (hv : ce.vm = .none) (hcl : s.vm.findClass E = some ce.cls)
    (hx : ∀ t : State, t.heap = H → s.vm.Alike t.vm → XC E s t) (hf : ∀ z ∈ locs, free z.base) (hc : cells ≤ mc) (hs : slots ≤ ms) :
    vx_W p l e R s m args below meth c H locs cells slots (vx_MQ below Qc XC args s mc ms free) (F0 m pc ls rest) q := by
  intro T hT X
  obtain ⟨st1, hrun, hend, hW, hsm⟩ := X.leaveThrown q (g := F0 m pc ls rest) rfl rfl rfl hout hlocks
  have hcell9 : (T.setFrames (.throwing q :: below)).heap[q]? = some ce := by
    show T.heap[q]? = some ce
    rw [hT]; exact hcell
  exact ⟨_, st1, .threw q, hrun, hend, Or.inr ⟨q, rfl, E, ce, locs, hx _ hT hW.alike, hcell9, hv, hcl, hW, hsm.mono hc hs, hf⟩⟩
theorem vx_frame {U : State} {k n : Nat} (h : s.sameButNew ({ U with vm := s.vm } : State) locs k n) : s.heap.size ≤ U.heap.size ∧ ∀ q : Nat, q < s.heap.size → (∀ z ∈ locs, z.base ≠ q) → U.heap[q]? = s.heap[q]? := by
  obtain ⟨-, h2, -, -, -, h6⟩ := h
  refine ⟨h2, fun q hq hz => ?_⟩
  obtain ⟨c9, e1, e2, e3, e4⟩ := h6 q _ (Array.getElem?_eq_getElem hq)
  have hs : c9.slots = (s.heap[q]).slots := Array.ext_getElem? fun i => e4 i fun hm => hz _ hm rfl
  have h9 : c9 = s.heap[q] := by
    rw [hs] at e2
    exact e2
  have e5 : U.heap[q]? = some c9 := e1
  rw [e5, h9, Array.getElem?_eq_getElem hq]
/-- the words of a throw but the four that speak of the heap -/
def vx_no (w : Cond) : Bool := decide (w ≠ .isRef (.static Bundle.tN "UNASSIGNED_STACK" Bundle.steD)) && decide (w ≠ .isRef (.static Bundle.tN "SUPPRESSED_SENTINEL" Bundle.listD)) && decide (w ≠ .laysStatic Bundle.tN "UNASSIGNED_STACK" Bundle.steD) && decide (w ≠ .laysStatic Bundle.tN "SUPPRESSED_SENTINEL" Bundle.listD)
def vx_at0 (own : String) (ic : Nat) (X : String) (names : List String) : List Cond := (Bundle.ownAtoms0 own ic X names).filter vx_no
def vx_atS (own : String) (ic : Nat) (X : String) (names : List String) : List Cond := (Bundle.ownAtoms own ic X names).filter vx_no
/-- a word that the tables alone decide, or a good one -/
def vx_ot (w : Cond) : Bool := w.onTables || goodWord w
theorem vx_ot_at {args a' : Array Value} {s U : State} {w : Cond} (hW : s.WarmedH U.vm) (hvm : s.vm = U.vm) (hg : vx_ot w = true) (h : w.before args s = true) : w.before a' U = true := by
  simp only [vx_ot, Bool.or_eq_true] at hg
  rcases hg with hg | hg
  · exact va_tabs hg hvm h
  · exact word_at hW (good_of_word hg) h
/-- a list's words: the good ones out of the method's own list, the others by premises of their own -/
theorem vx_hat {args : Array Value} {s : State} {L B : List Cond} (h1 : ∀ w ∈ L.filter goodWord, w.before args s = true) (h2 : ∀ w ∈ L.filter (fun w => !goodWord w), w ∈ B) (h3 : ∀ w ∈ B, w.before args s = true) : ∀ w ∈ L, w.before args s = true := by
  intro w hw
  by_cases g : goodWord w = true
  · exact h1 w (List.mem_filter.mpr ⟨hw, g⟩)
  · refine h3 w (h2 w (List.mem_filter.mpr ⟨hw, ?_⟩))
    show (!goodWord w) = true
    cases hgw : goodWord w
    · rfl
    · exact absurd hgw g
theorem vx_c {args : Array Value} {s : State} {w : Cond} {B : List Cond} (h : w.before args s = true) (t : ∀ w ∈ B, w.before args s = true) : ∀ w' ∈ w :: B, w'.before args s = true := fun w' h' => (List.mem_cons.mp h').elim (fun e => by rw [e]; exact h) (t w')
theorem vx_n {args : Array Value} {s : State} : ∀ w ∈ ([] : List Cond), w.before args s = true := fun _ h => nomatch h
theorem vx_own {args : Array Value} {s : State} {L : List Cond} (h1 : ∀ w ∈ L.filter vx_no, w.before args s = true)
    (hU : (Cond.isRef (.static Bundle.tN "UNASSIGNED_STACK" Bundle.steD)).before args s = true) (hN : (Cond.isRef (.static Bundle.tN "SUPPRESSED_SENTINEL" Bundle.listD)).before args s = true)
    (lU : (Cond.laysStatic Bundle.tN "UNASSIGNED_STACK" Bundle.steD).before args s = true) (lN : (Cond.laysStatic Bundle.tN "SUPPRESSED_SENTINEL" Bundle.listD).before args s = true) : ∀ w ∈ L, w.before args s = true := by
  intro w hw
  by_cases e1 : w = .isRef (.static Bundle.tN "UNASSIGNED_STACK" Bundle.steD)
  · rw [e1]; exact hU
  · by_cases e2 : w = .isRef (.static Bundle.tN "SUPPRESSED_SENTINEL" Bundle.listD)
    · rw [e2]; exact hN
    · by_cases e3 : w = .laysStatic Bundle.tN "UNASSIGNED_STACK" Bundle.steD
      · rw [e3]; exact lU
      · by_cases e4 : w = .laysStatic Bundle.tN "SUPPRESSED_SENTINEL" Bundle.listD
        · rw [e4]; exact lN
        · exact h1 w (List.mem_filter.mpr ⟨hw, by unfold vx_no; rw [decide_eq_true e1, decide_eq_true e2, decide_eq_true e3, decide_eq_true e4]; rfl⟩)
/-- where a static field lies, its class's statics cell in H -/
def vx_L (C n d : String) (A : Nat → Prop) (U : State) (H : Heap) : Prop := ∃ (c : ClassId) (k : Class) (i : Nat) (f : Field) (a : Nat) (cell : Cell), U.vm.findClass C = some c ∧ U.fieldFound? C n d = some (c, k, i, f) ∧ f.isStatic = true ∧ k.statics = some a ∧ H[a]? = some cell ∧ cell.vm.isStatics = true ∧ cell.cls = c ∧ f.slot < cell.slots.size ∧ k.staticTypes[f.slot]? = some f.type ∧ ¬ A a
theorem vx_L.moved {C n d : String} {A : Nat → Prop} {u U : State} {H : Heap} (hvm : u.vm.Alike U.vm) (h : vx_L C n d A u H) : vx_L C n d A U H := by
  obtain ⟨c, k, i, f, a, cell, h1, h2, h3, h4, h5, h6, h7, h8, h9, h10⟩ := h
  obtain ⟨k', hi', he⟩ := State.fieldFound?_setVm hvm h2
  exact ⟨c, k', i, f, a, cell, by rw [hvm.findClass]; exact h1, hi', h3, by rw [he]; exact h4, h5, h6, h7, h8, by rw [he]; exact h9, h10⟩
theorem vx_L.kept {C n d : String} {A : Nat → Prop} {U : State} {H H1 : Heap} (h : vx_L C n d A U H) (hq : ∀ a : Nat, a < H.size → ¬ A a → H1[a]? = H[a]?) : vx_L C n d A U H1 := by
  obtain ⟨c, k, i, f, a, cell, h1, h2, h3, h4, h5, h6, h7, h8, h9, h10⟩ := h
  exact ⟨c, k, i, f, a, cell, h1, h2, h3, h4, by rw [hq a (Array.getElem?_eq_some_iff.mp h5).1 h10]; exact h5, h6, h7, h8, h9, h10⟩
theorem vx_L.narrow {C n d : String} {A B : Nat → Prop} {U : State} {H : Heap} (h : vx_L C n d A U H) (hAB : ∀ q, B q → A q) : vx_L C n d B U H := by
  obtain ⟨c, k, i, f, a, cell, h1, h2, h3, h4, h5, h6, h7, h8, h9, h10⟩ := h
  exact ⟨c, k, i, f, a, cell, h1, h2, h3, h4, h5, h6, h7, h8, h9, fun z => h10 (hAB _ z)⟩
theorem vx_L.word {C n d : String} {A : Nat → Prop} {s : State} {args : Array Value} (h : vx_L C n d A s s.heap) : (Cond.laysStatic C n d).before args s = true := by
  obtain ⟨c, k, i, f, a, cell, h1, h2, h3, h4, h5, h6, h7, h8, h9, -⟩ := h
  show (Cond.laysStatic C n d).holds args s none s [] = true
  exact Cond.laysStatic_of h1 h2 h3 h4 h5 h6 h7 h8 h9
/-- .. and what it holds: null or some reference -/
def vx_Zq (C n d : String) (A : Nat → Prop) (U : State) (H : Heap) : Prop := va_Zq C n d A U H ∧ vx_L C n d A U H
theorem vx_Zq.moved {C n d : String} {A : Nat → Prop} {u U : State} {H : Heap} (hvm : u.vm.Alike U.vm) (h : vx_Zq C n d A u H) : vx_Zq C n d A U H := ⟨va_Zq.moved hvm h.1, vx_L.moved hvm h.2⟩
theorem vx_Zq.kept {C n d : String} {A : Nat → Prop} {U : State} {H H1 : Heap} (h : vx_Zq C n d A U H) (hq : ∀ a : Nat, a < H.size → ¬ A a → H1[a]? = H[a]?) : vx_Zq C n d A U H1 := ⟨va_Zq.kept h.1 hq, vx_L.kept h.2 hq⟩
theorem vx_Zq.narrow {C n d : String} {A B : Nat → Prop} {U : State} {H : Heap} (h : vx_Zq C n d A U H) (hAB : ∀ q, B q → A q) : vx_Zq C n d B U H := ⟨va_Zq.narrow h.1 hAB, vx_L.narrow h.2 hAB⟩
theorem vx_Zqof {args : Array Value} {s : State} {C n d : String} {A : Nat → Prop} (hl : (Cond.laysStatic C n d).before args s = true) (hini : (Cond.initialized C).before args s = true) (h : (Cond.isRef (.static C n d)).before args s = true) (hA : ∀ a : Nat, a < s.heap.size → ¬ A a) : vx_Zq C n d A s s.heap := by
  refine ⟨va_Zqof hl hini h hA, ?_⟩
  obtain ⟨c, k, i, f, a, cell, h1, h2, h3, h4, h5, h6, h7, h8, h9⟩ := Cond.laysStatic_spec hl
  exact ⟨c, k, i, f, a, cell, h1, h2, h3, h4, h5, h6, h7, h8, h9, hA a (Array.getElem?_eq_some_iff.mp h5).1⟩
theorem vx_isRef {C n d : String} {v : Value} {A : Nat → Prop} {s : State} {args : Array Value} (h : va_Z C n d v A s s.heap) (hv : v.isRef = true) : (Cond.isRef (.static C n d)).before args s = true := by
  obtain ⟨cf, kf, fi, f, a, cell, h1, h2, h3, h4, h5, h6, h7, -⟩ := h
  have he : (Term.static C n d).eval args s none [] s = some v := by
    simp [Term.eval, State.fieldNamed?, h1, h2, h4, h5, h6, h7]
  simp only [Cond.before, Cond.holds, Cond.value, he]
  cases v <;> simp_all [Value.isRef]
theorem vx_isRefq {C n d : String} {A : Nat → Prop} {s : State} {args : Array Value} (h : va_Zq C n d A s s.heap) : (Cond.isRef (.static C n d)).before args s = true := by
  rcases h with h | ⟨t, h⟩
  · exact vx_isRef h rfl
  · exact vx_isRef h rfl
/-- the same frame, seen from here: as if the method were called anew in this heap -/
theorem vx_rebase {T : State} (X : Stand p l e R s m args below meth c T locs cells slots) {R' : Room} (hf : R'.frames ≤ R.frames) (hl : R'.locals ≤ R.locals) (hc : cells + R'.cells ≤ R.cells) (hs : slots + R'.slots ≤ R.slots) :
    Stand p l e R' ((T.setVm s.vm).setFrames (.invoking m args :: below)) m args below meth c T [] 0 0 := by
  have htop : (T.setVm s.vm).topJava?.isSome := X.here.top
  have hF : ((T.setVm s.vm).setFrames (.invoking m args :: below)).frames = .invoking m args :: below := State.frames_setFrames _ (State.cur_lt_of_top htop)
  obtain ⟨g₀, hg0⟩ := Option.isSome_iff_exists.mp htop
  obtain ⟨r, hr⟩ := State.topJava?_eq_some.mp hg0
  have hl9 : e.platform.stackLimits (T.setVm s.vm).me = e.platform.stackLimits s.me := X.limits
  have hb9 : (T.setVm s.vm).me.stackBytes = s.me.stackBytes := X.bytes
  refine ⟨X.admits, X.cas, X.clock, hF, ?_, X.hears, X.method, X.code, X.here, X.tail, X.warmed, ?_, ?_, ?_⟩
  · have h := X.room
    have hU : ((T.setVm s.vm).setFrames (.invoking m args :: below)).localsInUse = s.localsInUse := by
      rw [State.localsInUse_invoking hF (meth := meth) (c := c) X.method X.code, State.localsInUse_invoking X.frames X.method X.code]
    simp only [State.hasRoom, Bool.and_eq_true, decide_eq_true_eq] at h ⊢
    obtain ⟨⟨⟨⟨h1, h2, h3, h4, h5, h6⟩, h7⟩, h8⟩, h9⟩ := h
    rw [X.frames, List.length_cons] at h2 h3
    have q1 := X.heapSize
    have q2 := X.used
    simp only [hF, hU, List.length_cons, State.stackLimits_setFrames, State.stackBytes_setFrames, hl9, hb9]
    refine ⟨⟨⟨⟨by omega, by omega, by omega, by omega, by omega, h6⟩, ?_⟩, ?_⟩, X.book⟩
    · show T.heap.size + R'.cells ≤ e.platform.maxCells
      omega
    · show T.slotsUsed + R'.slots ≤ e.platform.maxSlots
      omega
  · rw [State.stackLimits_setFrames]; rfl
  · rw [State.stackBytes_setFrames]; rfl
  · refine ⟨?_, Nat.le_refl _, Nat.le_refl _, ?_, ?_, fun a c9 h9 => ⟨c9, h9, rfl, rfl, fun _ _ => rfl⟩⟩
    · obtain ⟨t, ht, -⟩ := State.frames_cons hr
      show T.setVm s.vm = { ((T.setVm s.vm).setFrames (.invoking m args :: below)).setFrames (T.setVm s.vm).frames with heap := T.heap, slotsUsed := T.slotsUsed }
      rw [State.setFrames_setFrames, State.setFrames_self ht]
      rfl
    · show T.slotsUsed = T.slotsUsed + ((T.heap.toList.drop T.heap.size).map (·.slots.size)).sum
      rw [List.drop_eq_nil_of_le (Nat.le_of_eq Array.length_toList)]
      rfl
    · show ((T.heap.toList.drop T.heap.size).map (·.slots.size)).sum ≤ 0
      rw [List.drop_eq_nil_of_le (Nat.le_of_eq Array.length_toList)]
      exact Nat.le_refl _
/-- 'throw new E()': new; dup; invokespecial; athrow -/
theorem vx_throw0 {cc : ByteArray} {pc : Nat} (hexec : p.tables.exec = Jvm.exec) (hb : c.code = cc) (hl : l.stackTraces = false) {own cls : String} {names : List String} {ik ic mc ms : Nat} {A : Nat → Prop}
    (hown : s.vm.findClass own = some m.cls) (hcls : Bundle.fit cls = true) (hnames : ∀ n ∈ names, Bundle.fit n = true)
    (hk : (Cond.classLink own ik cls).before args s = true) (hini : (Cond.initialized cls).before args s = true) (hat : ∀ w ∈ vx_at0 own ic cls names, w.before args s = true)
    (hgood : ∀ w ∈ Cond.classLink own ik cls :: Cond.initialized cls :: vx_at0 own ic cls names, vx_ot w = true)
    (hU : vx_Zq Bundle.tN "UNASSIGNED_STACK" Bundle.steD A s s.heap) (hN : vx_Zq Bundle.tN "SUPPRESSED_SENTINEL" Bundle.listD A s s.heap) (hS : va_S A s.heap H locs) (hsize : ls.size = c.maxLocals)
    (d0 : decode cc pc = .ok (.new ik, 3)) (d3 : decode cc (pc + 3) = .ok (.dup, 1)) (d4 : decode cc (pc + 4) = .ok (.invokespecial ic, 3)) (d7 : decode cc (pc + 7) = .ok (.athrow, 1))
    (hout : ∀ x ∈ c.exceptionTable.toList, covers x (pc + 7) = false)
    (hRframes : names.length + 3 < R.frames) (hRlocals : (rest.map fun v => v.category).sum + (13 * (names.length + 1) + 42) ≤ R.locals) (hRcells : cells + 1 ≤ R.cells) (hRslots : slots + 6 ≤ R.slots) (hlocks : meth.locks = false)
    (hx : ∀ t : State, s.vm.Alike t.vm → H.size ≤ t.heap.size → (∀ q : Nat, q < H.size → t.heap[q]? = H[q]?) → XC cls s t)
    (hf : ∀ z ∈ locs, free z.base) (hc : cells + 1 ≤ mc) (hs : slots + 6 ≤ ms) :
    W p l e R s m args below meth c H locs cells slots (vx_MQ below Qc XC args s mc ms free) (F0 m pc ls rest) := by
  intro T hT X
  have htr : e.platform.stackTraces = false := (show e.platform.stackTraces = l.stackTraces by rw [X.admits.platform]).trans hl
  have Y := vx_rebase X (R' := { frames := R.frames, locals := R.locals, cells := 1, slots := 6 }) (Nat.le_refl _) (Nat.le_refl _) hRcells hRslots
  obtain ⟨s', hA⟩ : ∃ z, z = (T.setVm s.vm).setFrames (.invoking m args :: below) := ⟨_, rfl⟩
  rw [← hA] at Y
  have hvm : s'.vm = s.vm := by rw [hA]; rfl
  have hhp : s'.heap = H := by rw [hA]; exact hT
  have hW0 : s.WarmedH s'.vm := by rw [hvm]; exact State.WarmedH.refl s
  have hat' : ∀ w ∈ vx_at0 own ic cls names, w.before args s' = true := fun w hw => vx_ot_at hW0 hvm.symm (hgood w (List.mem_cons_of_mem _ (List.mem_cons_of_mem _ hw))) (hat w hw)
  have hk' : (Cond.classLink own ik cls).before args s' = true := vx_ot_at hW0 hvm.symm (hgood _ List.mem_cons_self) hk
  have hini' : (Cond.initialized cls).before args s' = true := vx_ot_at hW0 hvm.symm (hgood _ (List.mem_cons_of_mem _ List.mem_cons_self)) hini
  have hU' : vx_Zq Bundle.tN "UNASSIGNED_STACK" Bundle.steD A s' s'.heap := by rw [hhp]; exact vx_Zq.moved hW0.alike (hU.kept hS.2.1)
  have hN' : vx_Zq Bundle.tN "SUPPRESSED_SENTINEL" Bundle.listD A s' s'.heap := by rw [hhp]; exact vx_Zq.moved hW0.alike (hN.kept hS.2.1)
  have h : ∀ w ∈ Bundle.ownAtoms0 own ic cls names, w.before args s' = true := vx_own hat' (vx_isRefq hU'.1) (vx_isRefq hN'.1) hU'.2.word hN'.2.word
  have hown' : s'.vm.findClass own = some m.cls := by rw [hvm]; exact hown
  have hins : (Cond.instantiable cls 6).before args s' = true := h _ (by simp [Bundle.ownAtoms0])
  obtain ⟨vm₁, cX, kX, hfX, hkX, -, -, X₁, st1⟩ := Y.newCold hexec (own := own) (C := cls) (index := ik) (n := 6) hown' hk' hins hini'
    (g := F0 m pc ls rest) rfl (by rw [hb]; exact d0) (Nat.le_refl _) (Nat.le_refl _)
  generalize hT1 : (T.setVm vm₁).pushCell { cls := cX, slots := kX.instanceTypes.map defaultValue, vm := .none } = T1 at X₁ st1
  have hcat : (Value.ref T.heap.size).category = 1 := rfl
  have hcellA : T1.heap[T.heap.size]? = some (freshCell cX kX) := by rw [← hT1]; exact State.heap_pushCell_size _ _
  have d3' : decode c.code (pc + 3) = .ok (.dup, 1) := by rw [hb]; exact d3
  obtain ⟨U, hsteps, hrun, hend, hW, hsame, ce, hce, hO⟩ := X₁.ctorThrow0 hexec htr (own := own) (cls := cls) (names := names) (ic := ic) hown' hcls hnames h (fun x hx => nomatch hx) hfX hkX hcellA (by rw [hhp, hT]; exact Nat.le_refl _)
    (g := { method := m, pc := pc + 4, locals := ls, stack := .ref T.heap.size :: .ref T.heap.size :: rest, locked := none }) rfl hsize rfl rfl (rest := rest) rfl
    (by rw [hb]; exact d4) (by rw [hb]; exact d7) hout hRframes (by simp only [List.map_cons, List.sum_cons, hcat]; omega) hlocks
  obtain ⟨f1, f2⟩ := vx_frame hsame
  rw [hhp] at f1 f2
  have hWs : s.WarmedH U.vm := State.WarmedH.trans hW0 hW
  have hcl : s.vm.findClass cls = some ce.cls := by
    have h9 := hO.cls
    rw [hvm] at h9
    exact h9
  have hall : s.sameButNew ({ U with vm := s.vm } : State) locs mc ms := by
    subst hA
    obtain ⟨e1, e2⟩ := hsame
    rw [State.setFrames_setFrames] at e1
    have h2 : (T.setVm s.vm).sameButNew ({ U with vm := s.vm } : State) [] (0 + 1) (0 + 6) := ⟨e1, e2⟩
    have h3 := X.same.trans h2
    rw [List.append_nil] at h3
    exact h3.mono hc hs
  refine ⟨U, ?_, .threw T.heap.size, hrun, hend, Or.inr ⟨T.heap.size, rfl, cls, ce, locs, hx U hWs.alike f1 (fun q hq => f2 q hq (fun z hz => nomatch hz)), hce, hO.vm, hcl, hWs, hall, hf⟩⟩
  refine st1 _ ?_
  show Steps p.tables e below (T1.setTop { method := m, pc := pc + 3, locals := ls, stack := .ref T.heap.size :: rest, locked := none }) _
  jvm_step X₁.here [X₁.here.top, hexec, d3', Value.category]
  exact hsteps
/-- 'throw new E("text")': new; dup; ldc; invokespecial; athrow -/
theorem vx_throwS {cc : ByteArray} {pc : Nat} (hexec : p.tables.exec = Jvm.exec) (hb : c.code = cc) (hl : l.stackTraces = false) {own cls text : String} {names : List String} {ik is ic mc ms sa : Nat} {A : Nat → Prop}
    (hown : s.vm.findClass own = some m.cls) (hcls : Bundle.fit cls = true) (hnames : ∀ n ∈ names, Bundle.fit n = true)
    (hk : (Cond.classLink own ik cls).before args s = true) (hini : (Cond.initialized cls).before args s = true) (hstr : vk_R own is text sa s) (hat : ∀ w ∈ vx_atS own ic cls names, w.before args s = true)
    (hgood : ∀ w ∈ Cond.classLink own ik cls :: Cond.initialized cls :: vx_atS own ic cls names, vx_ot w = true)
    (hU : vx_Zq Bundle.tN "UNASSIGNED_STACK" Bundle.steD A s s.heap) (hN : vx_Zq Bundle.tN "SUPPRESSED_SENTINEL" Bundle.listD A s s.heap) (hS : va_S A s.heap H locs) (hsize : ls.size = c.maxLocals)
    (d0 : decode cc pc = .ok (.new ik, 3)) (d3 : decode cc (pc + 3) = .ok (.dup, 1)) (d4 : decode cc (pc + 4) = .ok (.ldc is, 2)) (d6 : decode cc (pc + 6) = .ok (.invokespecial ic, 3)) (d9 : decode cc (pc + 9) = .ok (.athrow, 1))
    (hout : ∀ x ∈ c.exceptionTable.toList, covers x (pc + 9) = false)
    (hRframes : names.length + 3 < R.frames) (hRlocals : (rest.map fun v => v.category).sum + (13 * (names.length + 1) + 43) ≤ R.locals) (hRcells : cells + 1 ≤ R.cells) (hRslots : slots + 6 ≤ R.slots) (hlocks : meth.locks = false)
    (hx : ∀ t : State, s.vm.Alike t.vm → H.size ≤ t.heap.size → (∀ q : Nat, q < H.size → t.heap[q]? = H[q]?) → XC cls s t)
    (hf : ∀ z ∈ locs, free z.base) (hc : cells + 1 ≤ mc) (hs : slots + 6 ≤ ms) :
    W p l e R s m args below meth c H locs cells slots (vx_MQ below Qc XC args s mc ms free) (F0 m pc ls rest) := by
  intro T hT X
  have htr : e.platform.stackTraces = false := (show e.platform.stackTraces = l.stackTraces by rw [X.admits.platform]).trans hl
  have Y := vx_rebase X (R' := { frames := R.frames, locals := R.locals, cells := 1, slots := 6 }) (Nat.le_refl _) (Nat.le_refl _) hRcells hRslots
  obtain ⟨s', hA⟩ : ∃ z, z = (T.setVm s.vm).setFrames (.invoking m args :: below) := ⟨_, rfl⟩
  rw [← hA] at Y
  have hvm : s'.vm = s.vm := by rw [hA]; rfl
  have hhp : s'.heap = H := by rw [hA]; exact hT
  have hW0 : s.WarmedH s'.vm := by rw [hvm]; exact State.WarmedH.refl s
  have hat' : ∀ w ∈ vx_atS own ic cls names, w.before args s' = true := fun w hw => vx_ot_at hW0 hvm.symm (hgood w (List.mem_cons_of_mem _ (List.mem_cons_of_mem _ hw))) (hat w hw)
  have hk' : (Cond.classLink own ik cls).before args s' = true := vx_ot_at hW0 hvm.symm (hgood _ List.mem_cons_self) hk
  have hini' : (Cond.initialized cls).before args s' = true := vx_ot_at hW0 hvm.symm (hgood _ (List.mem_cons_of_mem _ List.mem_cons_self)) hini
  have hU' : vx_Zq Bundle.tN "UNASSIGNED_STACK" Bundle.steD A s' s'.heap := by rw [hhp]; exact vx_Zq.moved hW0.alike (hU.kept hS.2.1)
  have hN' : vx_Zq Bundle.tN "SUPPRESSED_SENTINEL" Bundle.listD A s' s'.heap := by rw [hhp]; exact vx_Zq.moved hW0.alike (hN.kept hS.2.1)
  have h : ∀ w ∈ Bundle.ownAtoms own ic cls names, w.before args s' = true := vx_own hat' (vx_isRefq hU'.1) (vx_isRefq hN'.1) hU'.2.word hN'.2.word
  have hown' : s'.vm.findClass own = some m.cls := by rw [hvm]; exact hown
  have hins : (Cond.instantiable cls 6).before args s' = true := h _ (by simp [Bundle.ownAtoms])
  obtain ⟨vm₁, cX, kX, hfX, hkX, -, -, X₁, st1⟩ := Y.newCold hexec (own := own) (C := cls) (index := ik) (n := 6) hown' hk' hins hini'
    (g := F0 m pc ls rest) rfl (by rw [hb]; exact d0) (Nat.le_refl _) (Nat.le_refl _)
  generalize hT1 : (T.setVm vm₁).pushCell { cls := cX, slots := kX.instanceTypes.map defaultValue, vm := .none } = T1 at X₁ st1
  have hcat : (Value.ref T.heap.size).category = 1 := rfl
  have hcellA : T1.heap[T.heap.size]? = some (freshCell cX kX) := by rw [← hT1]; exact State.heap_pushCell_size _ _
  have d3' : decode c.code (pc + 3) = .ok (.dup, 1) := by rw [hb]; exact d3
  have d4' : decode c.code (pc + 4) = .ok (.ldc is, 2) := by rw [hb]; exact d4
  have hstr' : vk_R own is text sa s' := vk_R.warm hW0 hstr
  obtain ⟨U, hsteps, hrun, hend, hW, hsame, ce, hce, hO⟩ := X₁.ctorThrowS hexec htr (own := own) (cls := cls) (names := names) (ic := ic) hown' hcls hnames h (fun x hx => nomatch hx) hfX hkX hcellA (by rw [hhp, hT]; exact Nat.le_refl _) (msg := .ref sa) rfl
    (g := { method := m, pc := pc + 6, locals := ls, stack := .ref sa :: .ref T.heap.size :: .ref T.heap.size :: rest, locked := none }) rfl hsize rfl rfl (rest := rest) rfl
    (by rw [hb]; exact d6) (by rw [hb]; exact d9) hout hRframes (by simp only [List.map_cons, List.sum_cons, hcat]; omega) hlocks
  obtain ⟨f1, f2⟩ := vx_frame hsame
  rw [hhp] at f1 f2
  have hWs : s.WarmedH U.vm := State.WarmedH.trans hW0 hW
  have hcl : s.vm.findClass cls = some ce.cls := by
    have h9 := hO.cls
    rw [hvm] at h9
    exact h9
  have hall : s.sameButNew ({ U with vm := s.vm } : State) locs mc ms := by
    subst hA
    obtain ⟨e1, e2⟩ := hsame
    rw [State.setFrames_setFrames] at e1
    have h2 : (T.setVm s.vm).sameButNew ({ U with vm := s.vm } : State) [] (0 + 1) (0 + 6) := ⟨e1, e2⟩
    have h3 := X.same.trans h2
    rw [List.append_nil] at h3
    exact h3.mono hc hs
  refine ⟨U, ?_, .threw T.heap.size, hrun, hend, Or.inr ⟨T.heap.size, rfl, cls, ce, locs, hx U hWs.alike f1 (fun q hq => f2 q hq (fun z hz => nomatch hz)), hce, hO.vm, hcl, hWs, hall, hf⟩⟩
  refine st1 _ ?_
  show Steps p.tables e below (T1.setTop { method := m, pc := pc + 3, locals := ls, stack := .ref T.heap.size :: rest, locked := none }) _
  jvm_step X₁.here [X₁.here.top, hexec, d3', Value.category]
  exact X₁.ldcString hexec (own := own) (text := text) (index := is) (a := sa) hown' hstr'.1 hstr'.2
    (g := { method := m, pc := pc + 4, locals := ls, stack := .ref T.heap.size :: .ref T.heap.size :: rest, locked := none }) rfl d4' _ hsteps
/-- 'throw new E("text")', the text by a wide index -/
theorem vx_throwSW {cc : ByteArray} {pc : Nat} (hexec : p.tables.exec = Jvm.exec) (hb : c.code = cc) (hl : l.stackTraces = false) {own cls text : String} {names : List String} {ik is ic mc ms sa : Nat} {A : Nat → Prop}
    (hown : s.vm.findClass own = some m.cls) (hcls : Bundle.fit cls = true) (hnames : ∀ n ∈ names, Bundle.fit n = true)
    (hk : (Cond.classLink own ik cls).before args s = true) (hini : (Cond.initialized cls).before args s = true) (hstr : vk_R own is text sa s) (hat : ∀ w ∈ vx_atS own ic cls names, w.before args s = true)
    (hgood : ∀ w ∈ Cond.classLink own ik cls :: Cond.initialized cls :: vx_atS own ic cls names, vx_ot w = true)
    (hU : vx_Zq Bundle.tN "UNASSIGNED_STACK" Bundle.steD A s s.heap) (hN : vx_Zq Bundle.tN "SUPPRESSED_SENTINEL" Bundle.listD A s s.heap) (hS : va_S A s.heap H locs) (hsize : ls.size = c.maxLocals)
    (d0 : decode cc pc = .ok (.new ik, 3)) (d3 : decode cc (pc + 3) = .ok (.dup, 1)) (d4 : decode cc (pc + 4) = .ok (.ldc_w is, 3)) (d7 : decode cc (pc + 7) = .ok (.invokespecial ic, 3)) (d10 : decode cc (pc + 10) = .ok (.athrow, 1))
    (hout : ∀ x ∈ c.exceptionTable.toList, covers x (pc + 10) = false)
    (hRframes : names.length + 3 < R.frames) (hRlocals : (rest.map fun v => v.category).sum + (13 * (names.length + 1) + 43) ≤ R.locals) (hRcells : cells + 1 ≤ R.cells) (hRslots : slots + 6 ≤ R.slots) (hlocks : meth.locks = false)
    (hx : ∀ t : State, s.vm.Alike t.vm → H.size ≤ t.heap.size → (∀ q : Nat, q < H.size → t.heap[q]? = H[q]?) → XC cls s t)
    (hf : ∀ z ∈ locs, free z.base) (hc : cells + 1 ≤ mc) (hs : slots + 6 ≤ ms) :
    W p l e R s m args below meth c H locs cells slots (vx_MQ below Qc XC args s mc ms free) (F0 m pc ls rest) := by
  intro T hT X
  have htr : e.platform.stackTraces = false := (show e.platform.stackTraces = l.stackTraces by rw [X.admits.platform]).trans hl
  have Y := vx_rebase X (R' := { frames := R.frames, locals := R.locals, cells := 1, slots := 6 }) (Nat.le_refl _) (Nat.le_refl _) hRcells hRslots
  obtain ⟨s', hA⟩ : ∃ z, z = (T.setVm s.vm).setFrames (.invoking m args :: below) := ⟨_, rfl⟩
  rw [← hA] at Y
  have hvm : s'.vm = s.vm := by rw [hA]; rfl
  have hhp : s'.heap = H := by rw [hA]; exact hT
  have hW0 : s.WarmedH s'.vm := by rw [hvm]; exact State.WarmedH.refl s
  have hat' : ∀ w ∈ vx_atS own ic cls names, w.before args s' = true := fun w hw => vx_ot_at hW0 hvm.symm (hgood w (List.mem_cons_of_mem _ (List.mem_cons_of_mem _ hw))) (hat w hw)
  have hk' : (Cond.classLink own ik cls).before args s' = true := vx_ot_at hW0 hvm.symm (hgood _ List.mem_cons_self) hk
  have hini' : (Cond.initialized cls).before args s' = true := vx_ot_at hW0 hvm.symm (hgood _ (List.mem_cons_of_mem _ List.mem_cons_self)) hini
  have hU' : vx_Zq Bundle.tN "UNASSIGNED_STACK" Bundle.steD A s' s'.heap := by rw [hhp]; exact vx_Zq.moved hW0.alike (hU.kept hS.2.1)
  have hN' : vx_Zq Bundle.tN "SUPPRESSED_SENTINEL" Bundle.listD A s' s'.heap := by rw [hhp]; exact vx_Zq.moved hW0.alike (hN.kept hS.2.1)
  have h : ∀ w ∈ Bundle.ownAtoms own ic cls names, w.before args s' = true := vx_own hat' (vx_isRefq hU'.1) (vx_isRefq hN'.1) hU'.2.word hN'.2.word
  have hown' : s'.vm.findClass own = some m.cls := by rw [hvm]; exact hown
  have hins : (Cond.instantiable cls 6).before args s' = true := h _ (by simp [Bundle.ownAtoms])
  obtain ⟨vm₁, cX, kX, hfX, hkX, -, -, X₁, st1⟩ := Y.newCold hexec (own := own) (C := cls) (index := ik) (n := 6) hown' hk' hins hini'
    (g := F0 m pc ls rest) rfl (by rw [hb]; exact d0) (Nat.le_refl _) (Nat.le_refl _)
  generalize hT1 : (T.setVm vm₁).pushCell { cls := cX, slots := kX.instanceTypes.map defaultValue, vm := .none } = T1 at X₁ st1
  have hcat : (Value.ref T.heap.size).category = 1 := rfl
  have hcellA : T1.heap[T.heap.size]? = some (freshCell cX kX) := by rw [← hT1]; exact State.heap_pushCell_size _ _
  have d3' : decode c.code (pc + 3) = .ok (.dup, 1) := by rw [hb]; exact d3
  have d4' : decode c.code (pc + 4) = .ok (.ldc_w is, 3) := by rw [hb]; exact d4
  have hstr' : vk_R own is text sa s' := vk_R.warm hW0 hstr
  obtain ⟨U, hsteps, hrun, hend, hW, hsame, ce, hce, hO⟩ := X₁.ctorThrowS hexec htr (own := own) (cls := cls) (names := names) (ic := ic) hown' hcls hnames h (fun x hx => nomatch hx) hfX hkX hcellA (by rw [hhp, hT]; exact Nat.le_refl _) (msg := .ref sa) rfl
    (g := { method := m, pc := pc + 7, locals := ls, stack := .ref sa :: .ref T.heap.size :: .ref T.heap.size :: rest, locked := none }) rfl hsize rfl rfl (rest := rest) rfl
    (by rw [hb]; exact d7) (by rw [hb]; exact d10) hout hRframes (by simp only [List.map_cons, List.sum_cons, hcat]; omega) hlocks
  obtain ⟨f1, f2⟩ := vx_frame hsame
  rw [hhp] at f1 f2
  have hWs : s.WarmedH U.vm := State.WarmedH.trans hW0 hW
  have hcl : s.vm.findClass cls = some ce.cls := by
    have h9 := hO.cls
    rw [hvm] at h9
    exact h9
  have hall : s.sameButNew ({ U with vm := s.vm } : State) locs mc ms := by
    subst hA
    obtain ⟨e1, e2⟩ := hsame
    rw [State.setFrames_setFrames] at e1
    have h2 : (T.setVm s.vm).sameButNew ({ U with vm := s.vm } : State) [] (0 + 1) (0 + 6) := ⟨e1, e2⟩
    have h3 := X.same.trans h2
    rw [List.append_nil] at h3
    exact h3.mono hc hs
  refine ⟨U, ?_, .threw T.heap.size, hrun, hend, Or.inr ⟨T.heap.size, rfl, cls, ce, locs, hx U hWs.alike f1 (fun q hq => f2 q hq (fun z hz => nomatch hz)), hce, hO.vm, hcl, hWs, hall, hf⟩⟩
  refine st1 _ ?_
  show Steps p.tables e below (T1.setTop { method := m, pc := pc + 3, locals := ls, stack := .ref T.heap.size :: rest, locked := none }) _
  jvm_step X₁.here [X₁.here.top, hexec, d3', Value.category]
  exact X₁.ldcStringW hexec (own := own) (text := text) (index := is) (a := sa) hown' hstr'.1 hstr'.2
    (g := { method := m, pc := pc + 4, locals := ls, stack := .ref T.heap.size :: .ref T.heap.size :: rest, locked := none }) rfl d4' _ hsteps
end Ends
section Bodies
variable {l : Launch}
theorem vx_ofW {y : MethodName} {ws ws' : List Cond} {rm : Room} {Pc : Array Value → State → Prop} {Qc : Array Value → State → Outcome → State → Prop} {XC : String → State → State → Prop} {mc ms : Nat} {free : Addr → Prop} {cc : ByteArray} {maxL : Nat} {ret : Option FieldType}
    (hy : plainName y.cls = true) (hw : ws = Cond.code y cc maxL ret :: ws')
    (body : ∀ p e s m args below meth c s₁, BodyLoose p l y (headSpec ws rm) cc maxL ret e s m args below meth c s₁ → c.maxLocals = maxL → (∀ x ∈ c.exceptionTable.toList, False) → Pc args s →
      W p l e (headSpec ws rm).room s m args below meth c s.heap [] 0 0 (vx_MQ below Qc XC args s mc ms free) (entryFrame m args maxL)) : vx_Met l y ws rm Pc Qc XC mc ms free := by
  refine MetFree.of_bodyS (code := cc) (maxLocals := maxL) (ret := ret) hy ?_ ?_
  · intro args s m h hn
    obtain ⟨meth, c, h1, h2, h3, h4, h5, h6, -, -⟩ := Cond.code_spec hn (atoms_spec (ws := ws) h _ (by rw [hw]; exact List.mem_cons_self))
    exact ⟨meth, c, h1, h2, h3, h4, h5, h6⟩
  · intro p e s m args below meth c s₁ B hml hP _
    have hh0 : s₁.heap = s.heap := by rw [B.state]; rfl
    have ht : ∀ x ∈ c.exceptionTable.toList, False := by
      obtain ⟨meth9, c9, h1, h2, -, -, -, -, h7, -⟩ := Cond.code_spec B.named (atoms_spec (ws := ws) B.pre _ (by rw [hw]; exact List.mem_cons_self))
      cases Option.some.inj (h1.symm.trans B.method)
      cases Option.some.inj (h2.symm.trans (Stand.of_body B).code)
      intro x hx
      rw [Array.isEmpty_iff.mp h7] at hx
      cases hx
    obtain ⟨t, a1, o, b1, b2, b3⟩ := body p e s m args below meth c s₁ B hml ht hP s₁ hh0 (Stand.of_body B)
    exact ⟨t, o, a1, b1, b2, b3⟩
/-- the table of a body with handlers -/
theorem vx_table {p : Program} {x y : MethodName} {S : Spec} {cc bytes : ByteArray} {maxL maxL' : Nat} {ret ret' : Option FieldType} {e : Env} {s s₁ : State} {m : MethodId} {args : Array Value} {below : List Frame} {meth : Method} {c : Code} {hh : List (Nat × Nat × Nat × Nat)}
    (B : BodyLoose p l y S cc maxL ret e s m args below meth c s₁) (h : (Cond.codeWith y bytes maxL' ret' hh).before args s = true) : c.exceptionTable.toList = tableOf hh := by
  obtain ⟨m9, meth9, c9, hn9, h1, h2, -, -, h6, -⟩ := Cond.codeWith_spec h
  cases Option.some.inj (hn9.symm.trans B.named)
  cases Option.some.inj (h1.symm.trans B.method)
  cases Option.some.inj (h2.symm.trans (Stand.of_body B).code)
  rw [← h6, table_eq]
end Bodies
end VXA
/-! ===== END ===== -/
/-! ===== BEGIN a static call of a method with an exception table ===== -/
section VXS
variable {p : Program} {l : Launch} {e : Env} {R : Room} {s : State} {m : MethodId} {args : Array Value} {below : List Frame} {meth : Method} {c : Code} {T : State} {H : Heap} {locs : List Loc} {cells slots : Nat}
abbrev vx_CSW (R : Room) (s : State) (args : Array Value) (own : String) (index : Nat) (y : MethodName) (bytes : ByteArray) (maxL : Nat) (ret : Option FieldType) (hh : List (Nat × Nat × Nat × Nat)) (ws : List Cond) (rm : Room) (mc ms n : Nat) : Prop :=
  (rm.cells = mc ∧ rm.slots = ms ∧ rm.frames + 1 ≤ R.frames ∧ 8 + (maxL + 11) + rm.locals ≤ R.locals ∧ (∀ w ∈ ws, ∀ (a' : Array Value) (U : State), s.WarmedH U.vm → w.before a' U = true) ∧ Cond.codeWith y bytes maxL ret hh ∈ ws) ∧
  (Cond.codeWith y bytes maxL ret hh).before args s = true ∧ (Cond.initialized y.cls).before args s = true ∧ (y.cls ≠ "java/lang/invoke/MethodHandle" ∧ y.cls ≠ "java/lang/invoke/VarHandle") ∧
  (∀ sig, parseMethodDescriptor y.desc = some sig → n = sig.parameters.length) ∧ (Cond.methodLink own index y).before args s = true ∧ (Cond.static y).before args s = true
theorem vx_cwSW {own : String} {index maxL mc ms : Nat} {y : MethodName} {bytes : ByteArray} {ret : Option FieldType} {hh : List (Nat × Nat × Nat × Nat)} {Ts ws ws' : List Cond} {rm : Room} (n : Nat) (ht : ∀ w ∈ Ts, w.before args s = true) (hT : GoodIn Ts (va_wsS own index y ws)) (hw : ws = Cond.codeWith y bytes maxL ret hh :: ws') (hrc : rm.cells = mc) (hrs : rm.slots = ms)
    (hd : y.cls ≠ "java/lang/invoke/MethodHandle" ∧ y.cls ≠ "java/lang/invoke/VarHandle" ∧ (parseMethodDescriptor y.desc).map (fun d => d.parameters.length) = some n) (hR : rm.frames + 1 ≤ R.frames ∧ 8 + (maxL + 11) + rm.locals ≤ R.locals) :
    vx_CSW R s args own index y bytes maxL ret hh ws rm mc ms n := by
  have ok : ∀ w ∈ va_wsS own index y ws, w.before args s = true := fun w h => ht w (hT w h).1
  have hG : GoodIn Ts ws := fun w h => hT w (by unfold va_wsS; exact List.mem_append_right _ h)
  have hc : Cond.codeWith y bytes maxL ret hh ∈ ws := by rw [hw]; exact List.mem_cons_self
  refine ⟨⟨hrc, hrs, hR.1, hR.2, pay_in ht hG, hc⟩, ht _ (hG _ hc).1, ok _ (by simp [va_wsS]), ⟨hd.1, hd.2.1⟩, fun sig h => ?_, ok _ (by simp [va_wsS]), ok _ (by simp [va_wsS])⟩
  have h2 := hd.2.2
  rw [h] at h2
  exact (Option.some.inj h2).symm
theorem vx_callSW (X : Stand p l e R s m args below meth c T locs cells slots) (hexec : p.tables.exec = Jvm.exec) {own : String} {index : Nat} {y : MethodName} {bytes : ByteArray} {maxL : Nat} {ret : Option FieldType} {hh : List (Nat × Nat × Nat × Nat)}
    (hown : s.vm.findClass own = some m.cls) (hlink : (Cond.methodLink own index y).before args s = true) (hstat : (Cond.static y).before args s = true) (hinit : (Cond.initialized y.cls).before args s = true)
    (hcode : (Cond.codeWith y bytes maxL ret hh).before args s = true) (hy : y.cls ≠ "java/lang/invoke/MethodHandle" ∧ y.cls ≠ "java/lang/invoke/VarHandle")
    {W9 : Nat} {Pre : Pt → Array Value → Prop} {Post : Pt → Array Value → Option Value → Pt → Prop} (hK : Back l R p e below s args y 3 W9 Pre Post)
    {g : JFrame} (hg : g.method = m) (hsize : g.locals.size = c.maxLocals) {argsL rest : List Value} (hlen : ∀ sig, parseMethodDescriptor y.desc = some sig → argsL.length = sig.parameters.length)
    (hstack : g.stack = argsL.reverse ++ rest) (hW : 2 * g.monitorRoom + (rest.map fun v => v.category).sum ≤ W9) (hdg : decode c.code g.pc = .ok (.invokestatic index, 3))
    (hpre : ∀ vm₁, s.WarmedH vm₁ → Pre ⟨T.setVm vm₁, locs, cells, slots⟩ argsL.toArray) :
    ∃ (v : Option Value) (vm₁ : Vm) (B : Pt), s.WarmedH vm₁ ∧ Stand p l e R s m args below meth c B.U B.locs B.cells B.slots ∧ Post ⟨T.setVm vm₁, locs, cells, slots⟩ argsL.toArray v B ∧
      ∀ target, Steps p.tables e below (B.U.setTop { g with pc := g.pc + 3, stack := v.toList ++ rest }) target → Steps p.tables e below (T.setTop g) target := by
  obtain ⟨mk, methM, cM, hnamed, hmethM, -, -, -, -, -, -, hsigM⟩ := Cond.codeWith_spec hcode
  have hstatic : methM.isStatic = true := Cond.static_spec hnamed hmethM hstat
  obtain ⟨kP, hkP, -⟩ := className_of_methodNamed hnamed
  have hinitP : kP.init = .initialized := Cond.initialized_spec (findClass_of_methodNamed hnamed) hkP hinit
  obtain ⟨vm₁, X₁, hstep₁⟩ := X.invokestatic hexec hown hlink hnamed hmethM hstatic hkP hinitP hy (g := g) hg (argsL := argsL) (rest := rest) (hlen _ hsigM) hstack hdg
  obtain ⟨v, B, X', hpost, hsteps⟩ := hK m meth c ⟨T.setVm vm₁, locs, cells, slots⟩ { g with stack := rest } (.invokestatic index) mk argsL.toArray X₁ hg hsize hdg hW (X₁.named hnamed) (hpre vm₁ X₁.warmed)
  exact ⟨v, vm₁, B, X₁.warmed, X', hpost, fun target h => hstep₁ _ fun acts => by rw [doInvoke_state]; exact hsteps.trans h⟩
theorem vx_runSW {y : MethodName} {bytes cc : ByteArray} {maxL nL mc ms n index : Nat} {ret : Option FieldType} {hh : List (Nat × Nat × Nat × Nat)} {ws : List Cond} {rm : Room} {Pc : Array Value → State → Prop} {Qc : Array Value → State → Outcome → State → Prop} {free : Addr → Prop} {Ts : List Cond} {own : String} {As rest : List Value} {g : JFrame}
    (S : CallFix p m c cc nL s args Ts own) (hM : Met l y ws rm Pc Qc mc ms free) (cw : vx_CSW R s args own index y bytes maxL ret hh ws rm mc ms n) (hp : PreS s H Pc As)
    (hg : g.method = m) (hn : As.length = n) (hsize : g.locals.size = nL) (hstack : g.stack = As.reverse ++ rest) (hW : 2 * g.monitorRoom + (rest.map fun v => v.category).sum ≤ 8) (hdg : decode cc g.pc = .ok (.invokestatic index, 3)) (hf : cells + mc ≤ R.cells ∧ slots + ms ≤ R.slots) :
    va_Run p l e R s m args below meth c H locs cells slots mc ms g rest (Qc As.toArray) (free) := by
  obtain ⟨⟨hrc, hrs, hfr, hlo, hws, hcw⟩, hcode, hini, hy, hlen, hl, hstt⟩ := cw
  have hK : Back l R p e below s args y 3 8 (PreOf R mc ms Pc) (PostOf Qc mc ms free) := va_backW (hh := hh) (bytes := bytes) (maxL := maxL) (ret := ret) hM hp.1 hrc hrs hfr hlo hws hcw (fun a' U hW => word_at hW (Or.inl (by first | rfl | simp [Cond.onTables, Cond.keeps, Cond.steady])) hini)
  obtain ⟨hx, hb, hml, ho, -⟩ := S
  intro T hT X
  obtain ⟨v, vm₁, ⟨U', l2, c2, s2⟩, hW₁, X', ⟨g', mk, t, L, e1, e2, hq, h1, hL, h2, h3⟩, st⟩ := vx_callSW X hx (hh := hh) (bytes := bytes) (maxL := maxL) (ret := ret) ho hl hstt hini hcode hy hK hg (hsize.trans hml.symm) (argsL := As) (rest := rest) (fun sig h => hn.trans (hlen sig h)) hstack hW (by rw [hb]; exact hdg)
    (fun vm₁ hW₁ => ⟨hf.1, hf.2, hp.2 (T.setVm vm₁) hT hW₁⟩)
  dsimp only [Pt.U, Pt.locs, Pt.cells, Pt.slots] at X' e1 e2 h1 h2 h3 st
  subst h1; subst h2; subst h3
  exact ⟨v, (T.setVm vm₁).calling g' mk As.toArray, t, U', L, hT, X', hL, e1, e2, hq, st⟩
/-- not caught here, past rows that name other classes: it goes on to the caller -/
theorem vx_outP {p : Program} {l : Launch} {e : Env} {R : Room} {s : State} {m : MethodId} {args : Array Value} {below : List Frame} {meth : Method} {c : Code} {H : Heap} {locs : List Loc} {cells slots : Nat} {free : Addr → Prop} {ls : Array Slot} {rest : List Value} {Qc : Array Value → State → Outcome → State → Prop} {XC : String → State → State → Prop}
    {pc : Nat} {own E : String} {ce : Cell} {q : Addr} {mc ms : Nat} (hown : s.vm.findClass own = some m.cls) (hlocks : meth.locks = false)
    (hpass : ∀ z ∈ c.exceptionTable.toList, covers z pc = false ∨ (z.catchType ≠ 0 ∧ ∃ nm : String, (Cond.classLink own z.catchType nm).before args s = true ∧ va_Nc E nm s)) (hcell : H[q]? = some ce) (hv : ce.vm = .none) (hcl : s.vm.findClass E = some ce.cls)
    (hx : ∀ t : State, t.heap = H → s.vm.Alike t.vm → XC E s t) (hf : ∀ z ∈ locs, free z.base) (hc : cells ≤ mc) (hs : slots ≤ ms) :
    vx_W p l e R s m args below meth c H locs cells slots (vx_MQ below Qc XC args s mc ms free) (F0 m pc ls rest) q := by
  intro T hT X
  have hpl : e.platform.magicAccessors = ({} : Platform).magicAccessors := by rw [X.admits.platform]
  obtain ⟨vm', hW', X', st⟩ := X.outThrough hlocks q (g := F0 m pc ls rest) rfl rfl rfl (cell := ce) (by rw [hT]; exact hcell) (by rw [hv]; rfl)
    (by obtain ⟨k9, h9, -⟩ := Vm.findClass_spec hcl; exact ⟨k9, h9⟩) (fun z hz => by
      rcases hpass z hz with h | ⟨hz0, nm, hl1, hn1⟩
      · exact Or.inl h
      · obtain ⟨c6, hc6, hcl6⟩ := Cond.classLink_spec hown hl1 e.platform hpl
        obtain ⟨a8, b8, h1, h2, h3⟩ := hn1
        cases Option.some.inj (h1.symm.trans hcl)
        cases Option.some.inj (h2.symm.trans hc6)
        exact Or.inr ⟨hz0, _, hcl6, h3⟩)
  obtain ⟨g₀, hfr⟩ := X'.frames_eq
  have hcell9 : ((T.setVm vm').setFrames (.throwing q :: below)).heap[q]? = some ce := by
    show T.heap[q]? = some ce
    rw [hT]; exact hcell
  have hend : Ended ((T.setVm vm').setFrames (.throwing q :: below)) below (.threw q) := State.frames_setFrames _ (State.cur_lt_of_frames hfr)
  refine ⟨(T.setVm vm').setFrames (.throwing q :: below), ?_, .threw q, X'.here.running, hend, Or.inr ⟨q, rfl, E, ce, locs, hx _ hT (X'.ends _).1.alike, hcell9, hv, hcl, (X'.ends _).1, (X'.ends _).2.mono hc hs, hf⟩⟩
  rw [X.pushThrowing_eq]
  exact st
/-- a thing of a world lies in the heap -/
theorem vx_lt {D : va_G} {cl : List vw_C} {ws : va_W} {H1 : Heap} (h : va_P D cl ws H1) {k : Nat} {q : Nat × va_E} (hk : ws[k]? = some q) : q.1 < H1.size := (h k q hk).lt
end VXS
/-! ===== END ===== -/
/-! ===== BEGIN methods with a table of their own: called by a name, returning or throwing ===== -/
section VXH
/-! vx_backW, vx_callVX, vx_callSX, vx_callVW, vx_runVW, vx_runVX, vx_runSX, vx_ofWH follow the same proofs as their sisters above (Free/Laws.lean, Shelf42/LK1.lean); vx_outP calls Shelf42/NT130.lean (outThrough). -/
section
variable {l : Launch} {R : Room} {p : Program} {e : Env} {below : List Frame} {s : State} {sargs : Array Value} {y : MethodName} {len W9 : Nat}
theorem vx_backW {ws : List Cond} {rm : Room} {Pc : Array Value → State → Prop} {Qc : Array Value → State → Outcome → State → Prop} {XC : String → State → State → Prop} {mc ms : Nat} {free : Addr → Prop} {bytes : ByteArray} {maxL : Nat} {ret : Option FieldType} {hh : List (Nat × Nat × Nat × Nat)}
    (hM : vx_Met l y ws rm Pc Qc XC mc ms free) (hblind : FrameBlind Pc) (hrc : rm.cells = mc) (hrs : rm.slots = ms)
    (hframes : rm.frames + 1 ≤ R.frames) (hlocals : W9 + (maxL + 11) + rm.locals ≤ R.locals)
    (hws : ∀ w ∈ ws, ∀ a' U, s.WarmedH U.vm → w.before a' U = true) (hcode : Cond.codeWith y bytes maxL ret hh ∈ ws) (hinit : ∀ a' U, s.WarmedH U.vm → (Cond.initialized y.cls).before a' U = true) :
    vx_Back l R p e below s sargs y len W9 (PreOf R mc ms Pc) (PostOf Qc mc ms free) (vx_Post XC mc ms free) := by
  intro m meth c A g ig mk a X hg hsize hdg hW hn hp
  have h1 : (headSpec ws rm).pre.before a A.U = true := atoms_intro fun w hw => hws w hw _ _ X.warmed
  have h2 : (Cond.codeWith y bytes maxL ret hh).before a A.U = true := hws _ hcode _ _ X.warmed
  have h3 : (Cond.initialized y.cls).before a A.U = true := hinit _ _ X.warmed
  have h4 : A.cells + (headSpec ws rm).room.cells ≤ R.cells := by rw [show (headSpec ws rm).room.cells = mc from hrc]; exact hp.1
  have h5 : A.slots + (headSpec ws rm).room.slots ≤ R.slots := by rw [show (headSpec ws rm).room.slots = ms from hrs]; exact hp.2.1
  have hPc : Pc a (A.U.calling g mk a) := hblind _ _ _ _ hp.2.2
  obtain ⟨U, Ls, c0, s0⟩ := A
  dsimp only [Pt.U, Pt.locs, Pt.cells, Pt.slots] at h1 h2 h3 h4 h5 X hn hPc ⊢
  obtain ⟨m9, methY, cY, hn9, hmY, hcY, -, hlY, -⟩ := Cond.codeWith_spec h2
  cases Option.some.inj (hn9.symm.trans hn)
  obtain ⟨kY, hkY, -⟩ := className_of_methodNamed hn
  have hinitY : kY.init = .initialized := Cond.initialized_spec (findClass_of_methodNamed hn) hkY h3
  have h : At U g.method c below := by rw [hg]; exact X.here
  have hlocals9 : W9 + (maxL + 11) + (headSpec ws rm).room.locals ≤ R.locals := hlocals
  have happ : (headSpec ws rm).appliesLoose y e.platform (U.calling g mk a) = true :=
    Spec.appliesLoose_calling (g := g) h hdg hn hkY hinitY
      (X.room_calling (g := g) (R' := (headSpec ws rm).room) hsize hmY hcY hframes (by rw [hlY]; omega) h4 h5) h1
  obtain ⟨mid, hmid⟩ := h.above
  have hfr : (U.setTop g).frames = (.java g :: mid) ++ below := by rw [State.frames_setTop' g h.top, hmid]; rfl
  obtain ⟨o, s₂, hsteps, -, hend, hq⟩ := Steps.callFree hM p X.admits X.cas X.clock (acts := []) hfr happ hPc trivial
  have hq' : vx_Q Qc XC mc ms free a (U.calling g mk a) o s₂ := hq
  rw [State.frames_setTop' g h.top] at hend
  obtain ⟨g₀, hg0⟩ := Option.isSome_iff_exists.mp h.top
  obtain ⟨r, hr⟩ := State.topJava?_eq_some.mp hg0
  have hr' : (({ U with heap := s₂.heap, slotsUsed := s₂.slotsUsed } : State).setVm s₂.vm).frames = .java g₀ :: r := hr
  rcases hq' with ⟨hqc, L, hfe, hL⟩ | ⟨q, rfl, E, ce, L, hx, hce, hcv, hcl, hW₂, hsm, hL⟩
  · obtain ⟨⟨v, rfl⟩, hW₂, e2, q2, q3, q4, q5, q6⟩ := id hfe
    have e3 : s₂ = ({ (U.calling g mk a).setFrames s₂.frames with heap := s₂.heap, slotsUsed := s₂.slotsUsed } : State).setVm s₂.vm := by
      have : s₂ = ({ s₂ with vm := (U.calling g mk a).vm } : State).setVm s₂.vm := rfl
      rw [e2] at this
      exact this
    obtain ⟨c₂, i₂, len₂, hc₂, hd₂, hf₂⟩ := hend
    have hW' : U.WarmedH s₂.vm := hW₂
    have hcc : c₂ = c := by
      have h1 : s₂.code? g.method = U.code? g.method := by
        rw [State.code?_eq, State.code?_eq, hW'.alike.method?]
      exact Option.some.inj (hc₂.symm.trans (h1.trans h.code))
    subst hcc
    have hlen : len₂ = len := by rw [hdg] at hd₂; cases hd₂; rfl
    subst hlen
    have hs₂ : s₂ = (({ U with heap := s₂.heap, slotsUsed := s₂.slotsUsed } : State).setVm s₂.vm).setTop { g with pc := g.pc + len₂, stack := v.toList ++ g.stack } := by
      refine e3.trans ?_
      rw [hf₂, State.calling_eq h.top, State.setFrames_setFrames, State.setTop_of_frames _ hr', hr]
      rfl
    have hsame : U.sameButNew ({ U with heap := s₂.heap, slotsUsed := s₂.slotsUsed } : State) L mc ms := by
      refine ⟨?_, q2, q3, q4, q5, q6⟩
      obtain ⟨t, ht, -⟩ := State.frames_cons hr
      show ({ U with heap := s₂.heap, slotsUsed := s₂.slotsUsed } : State) = { U.setFrames U.frames with heap := s₂.heap, slotsUsed := s₂.slotsUsed }
      rw [State.setFrames_self ht]
    subst hg
    refine Or.inl ⟨v, ⟨(({ U with heap := s₂.heap, slotsUsed := s₂.slotsUsed } : State).setVm s₂.vm), Ls ++ L, c0 + mc, s0 + ms⟩,
      ⟨X.admits, X.cas, X.clock, X.frames, X.room, X.hears, X.method, X.code, (X.here.setHeapUsed s₂.heap s₂.slotsUsed).setVm hW'.alike, X.tail, State.WarmedH.trans X.warmed hW', X.limits, X.bytes, X.same.trans (hsame.setVm s.vm)⟩,
      ⟨g, mk, s₂, L, rfl, rfl, hqc, rfl, hL, rfl, rfl⟩, ?_⟩
    show Steps p.tables e below _ ((({ U with heap := s₂.heap, slotsUsed := s₂.slotsUsed } : State).setVm s₂.vm).setTop { g with pc := g.pc + len₂, stack := v.toList ++ g.stack })
    rw [← hs₂]
    exact hsteps
  · obtain ⟨e2, q2, q3, q4, q5, q6⟩ := id hsm
    have e3 : s₂ = ({ (U.calling g mk a).setFrames s₂.frames with heap := s₂.heap, slotsUsed := s₂.slotsUsed } : State).setVm s₂.vm := by
      have : s₂ = ({ s₂ with vm := (U.calling g mk a).vm } : State).setVm s₂.vm := rfl
      rw [e2] at this
      exact this
    have hf₂ : s₂.frames = .throwing q :: .java g :: U.frames.tail := hend
    have hW' : U.WarmedH s₂.vm := hW₂
    have hs₂ : s₂ = ((({ U with heap := s₂.heap, slotsUsed := s₂.slotsUsed } : State).setVm s₂.vm).setTop g).pushFrame (.throwing q) := by
      refine e3.trans ?_
      rw [hf₂, State.calling_eq h.top, State.setFrames_setFrames, State.pushFrame, State.frames_setTop _ hr', State.setTop_of_frames _ hr', State.setFrames_setFrames, hr]
      rfl
    have hsame : U.sameButNew ({ U with heap := s₂.heap, slotsUsed := s₂.slotsUsed } : State) L mc ms := by
      refine ⟨?_, q2, q3, q4, q5, q6⟩
      obtain ⟨t, ht, -⟩ := State.frames_cons hr
      show ({ U with heap := s₂.heap, slotsUsed := s₂.slotsUsed } : State) = { U.setFrames U.frames with heap := s₂.heap, slotsUsed := s₂.slotsUsed }
      rw [State.setFrames_self ht]
    subst hg
    refine Or.inr ⟨q, ⟨(({ U with heap := s₂.heap, slotsUsed := s₂.slotsUsed } : State).setVm s₂.vm), Ls ++ L, c0 + mc, s0 + ms⟩,
      ⟨X.admits, X.cas, X.clock, X.frames, X.room, X.hears, X.method, X.code, (X.here.setHeapUsed s₂.heap s₂.slotsUsed).setVm hW'.alike, X.tail, State.WarmedH.trans X.warmed hW', X.limits, X.bytes, X.same.trans (hsame.setVm s.vm)⟩,
      ⟨g, mk, s₂, L, E, ce, rfl, rfl, hx, hce, hcv, hcl, rfl, hL, rfl, rfl⟩, ?_⟩
    show Steps p.tables e below _ (((({ U with heap := s₂.heap, slotsUsed := s₂.slotsUsed } : State).setVm s₂.vm).setTop g).pushFrame (.throwing q))
    rw [← hs₂]
    exact hsteps
end
variable {p : Program} {l : Launch} {e : Env} {R : Room} {s : State} {m : MethodId} {args : Array Value} {below : List Frame} {meth : Method} {c : Code} {T : State} {H : Heap} {locs : List Loc} {cells slots : Nat}
theorem vx_callVX (X : Stand p l e R s m args below meth c T locs cells slots) (hexec : p.tables.exec = Jvm.exec) {own C : String} {index : Nat} {y : MethodName} {bytes : ByteArray} {maxL : Nat} {ret : Option FieldType} {hh : List (Nat × Nat × Nat × Nat)}
    (hown : s.vm.findClass own = some m.cls) (hlink : (Cond.methodLink own index y).before args s = true) (hinst : (Cond.instanceMethod y).before args s = true) (hsel : (Cond.selects C y y).before args s = true)
    (hcode : (Cond.codeWith y bytes maxL ret hh).before args s = true) (hy : y.cls ≠ "java/lang/invoke/MethodHandle" ∧ y.cls ≠ "java/lang/invoke/VarHandle")
    {W9 : Nat} {Pre : Pt → Array Value → Prop} {Post : Pt → Array Value → Option Value → Pt → Prop} {PostX : Pt → Array Value → Addr → Pt → Prop} (hK : vx_Back l R p e below s args y 3 W9 Pre Post PostX)
    {b : Addr} {cellB : Cell} (hcell : T.heap[b]? = some cellB) (hobj : cellB.vm.isStatics = false) (hcls : s.vm.findClass C = some cellB.cls)
    {g : JFrame} (hg : g.method = m) (hsize : g.locals.size = c.maxLocals) {argsL rest : List Value} (hlen : ∀ sig, parseMethodDescriptor y.desc = some sig → argsL.length = sig.parameters.length)
    (hstack : g.stack = argsL.reverse ++ .ref b :: rest) (hW : 2 * g.monitorRoom + (rest.map fun v => v.category).sum ≤ W9) (hdg : decode c.code g.pc = .ok (.invokevirtual index, 3))
    (hpre : ∀ vm₁, s.WarmedH vm₁ → Pre ⟨T.setVm vm₁, locs, cells, slots⟩ (Value.ref b :: argsL).toArray) :
    (∃ (v : Option Value) (vm₁ : Vm) (B : Pt), s.WarmedH vm₁ ∧ Stand p l e R s m args below meth c B.U B.locs B.cells B.slots ∧ Post ⟨T.setVm vm₁, locs, cells, slots⟩ (Value.ref b :: argsL).toArray v B ∧
      ∀ target, Steps p.tables e below (B.U.setTop { g with pc := g.pc + 3, stack := v.toList ++ rest }) target → Steps p.tables e below (T.setTop g) target) ∨
    (∃ (q : Addr) (vm₁ : Vm) (B : Pt), s.WarmedH vm₁ ∧ Stand p l e R s m args below meth c B.U B.locs B.cells B.slots ∧ PostX ⟨T.setVm vm₁, locs, cells, slots⟩ (Value.ref b :: argsL).toArray q B ∧
      Steps p.tables e below (T.setTop g) ((B.U.setTop { g with stack := rest }).pushFrame (.throwing q))) := by
  obtain ⟨mk, methM, hnamed, hmethM, hstM, habM⟩ := Cond.instanceMethod_spec hinst
  obtain ⟨m8, methM', cM, hn8, hmethM', -, -, -, -, -, -, hsigM⟩ := Cond.codeWith_spec hcode
  cases Option.some.inj (hn8.symm.trans hnamed)
  cases hmethM.symm.trans hmethM'
  obtain ⟨c2, r2, m2, q1, q2, q3, q4, kP, hkP, hkPi⟩ := Cond.selects_spec hsel
  cases hcls.symm.trans q1
  cases (State.methodFound?_of_named hnamed hy).symm.trans q2
  cases hnamed.symm.trans q3
  have hselP : selectMethod e.platform s.vm cellB.cls mk = .method mk := by rw [Launch.admits_selectMethod X.admits]; exact q4
  obtain ⟨vm₁, X₁, hstep₁⟩ := X.invokevirtual hexec hown hlink hnamed hmethM hstM hkP hkPi hy (a := b) (cell := cellB) hcell
    (fun z h => by rw [h] at hobj; cases hobj) hselP hmethM habM hkP hkPi (g := g) hg (argsL := argsL) (rest := rest) (hlen _ hsigM) hstack hdg
  rcases hK m meth c ⟨T.setVm vm₁, locs, cells, slots⟩ { g with stack := rest } (.invokevirtual index) mk (Value.ref b :: argsL).toArray X₁ hg hsize hdg hW (X₁.named hnamed) (hpre vm₁ X₁.warmed) with ⟨v, B, X', hpost, hsteps⟩ | ⟨q, B, X', hpost, hsteps⟩
  · exact Or.inl ⟨v, vm₁, B, X₁.warmed, X', hpost, fun target h => hstep₁ _ fun acts => by rw [doInvoke_state]; exact hsteps.trans h⟩
  · exact Or.inr ⟨q, vm₁, B, X₁.warmed, X', hpost, hstep₁ _ fun acts => by rw [doInvoke_state]; exact hsteps⟩
theorem vx_callSX (X : Stand p l e R s m args below meth c T locs cells slots) (hexec : p.tables.exec = Jvm.exec) {own : String} {index : Nat} {y : MethodName} {bytes : ByteArray} {maxL : Nat} {ret : Option FieldType} {hh : List (Nat × Nat × Nat × Nat)}
    (hown : s.vm.findClass own = some m.cls) (hlink : (Cond.methodLink own index y).before args s = true) (hstat : (Cond.static y).before args s = true) (hinit : (Cond.initialized y.cls).before args s = true)
    (hcode : (Cond.codeWith y bytes maxL ret hh).before args s = true) (hy : y.cls ≠ "java/lang/invoke/MethodHandle" ∧ y.cls ≠ "java/lang/invoke/VarHandle")
    {W9 : Nat} {Pre : Pt → Array Value → Prop} {Post : Pt → Array Value → Option Value → Pt → Prop} {PostX : Pt → Array Value → Addr → Pt → Prop} (hK : vx_Back l R p e below s args y 3 W9 Pre Post PostX)
    {g : JFrame} (hg : g.method = m) (hsize : g.locals.size = c.maxLocals) {argsL rest : List Value} (hlen : ∀ sig, parseMethodDescriptor y.desc = some sig → argsL.length = sig.parameters.length)
    (hstack : g.stack = argsL.reverse ++ rest) (hW : 2 * g.monitorRoom + (rest.map fun v => v.category).sum ≤ W9) (hdg : decode c.code g.pc = .ok (.invokestatic index, 3))
    (hpre : ∀ vm₁, s.WarmedH vm₁ → Pre ⟨T.setVm vm₁, locs, cells, slots⟩ argsL.toArray) :
    (∃ (v : Option Value) (vm₁ : Vm) (B : Pt), s.WarmedH vm₁ ∧ Stand p l e R s m args below meth c B.U B.locs B.cells B.slots ∧ Post ⟨T.setVm vm₁, locs, cells, slots⟩ argsL.toArray v B ∧
      ∀ target, Steps p.tables e below (B.U.setTop { g with pc := g.pc + 3, stack := v.toList ++ rest }) target → Steps p.tables e below (T.setTop g) target) ∨
    (∃ (q : Addr) (vm₁ : Vm) (B : Pt), s.WarmedH vm₁ ∧ Stand p l e R s m args below meth c B.U B.locs B.cells B.slots ∧ PostX ⟨T.setVm vm₁, locs, cells, slots⟩ argsL.toArray q B ∧
      Steps p.tables e below (T.setTop g) ((B.U.setTop { g with stack := rest }).pushFrame (.throwing q))) := by
  obtain ⟨mk, methM, cM, hnamed, hmethM, -, -, -, -, -, -, hsigM⟩ := Cond.codeWith_spec hcode
  have hstatic : methM.isStatic = true := Cond.static_spec hnamed hmethM hstat
  obtain ⟨kP, hkP, -⟩ := className_of_methodNamed hnamed
  have hinitP : kP.init = .initialized := Cond.initialized_spec (findClass_of_methodNamed hnamed) hkP hinit
  obtain ⟨vm₁, X₁, hstep₁⟩ := X.invokestatic hexec hown hlink hnamed hmethM hstatic hkP hinitP hy (g := g) hg (argsL := argsL) (rest := rest) (hlen _ hsigM) hstack hdg
  rcases hK m meth c ⟨T.setVm vm₁, locs, cells, slots⟩ { g with stack := rest } (.invokestatic index) mk argsL.toArray X₁ hg hsize hdg hW (X₁.named hnamed) (hpre vm₁ X₁.warmed) with ⟨v, B, X', hpost, hsteps⟩ | ⟨q, B, X', hpost, hsteps⟩
  · exact Or.inl ⟨v, vm₁, B, X₁.warmed, X', hpost, fun target h => hstep₁ _ fun acts => by rw [doInvoke_state]; exact hsteps.trans h⟩
  · exact Or.inr ⟨q, vm₁, B, X₁.warmed, X', hpost, hstep₁ _ fun acts => by rw [doInvoke_state]; exact hsteps⟩
theorem vx_callVW (X : Stand p l e R s m args below meth c T locs cells slots) (hexec : p.tables.exec = Jvm.exec) {own C : String} {index : Nat} {y : MethodName} {bytes : ByteArray} {maxL : Nat} {ret : Option FieldType} {hh : List (Nat × Nat × Nat × Nat)}
    (hown : s.vm.findClass own = some m.cls) (hlink : (Cond.methodLink own index y).before args s = true) (hinst : (Cond.instanceMethod y).before args s = true) (hsel : (Cond.selects C y y).before args s = true)
    (hcode : (Cond.codeWith y bytes maxL ret hh).before args s = true) (hy : y.cls ≠ "java/lang/invoke/MethodHandle" ∧ y.cls ≠ "java/lang/invoke/VarHandle")
    {W9 : Nat} {Pre : Pt → Array Value → Prop} {Post : Pt → Array Value → Option Value → Pt → Prop} (hK : Back l R p e below s args y 3 W9 Pre Post)
    {b : Addr} {cellB : Cell} (hcell : T.heap[b]? = some cellB) (hobj : cellB.vm.isStatics = false) (hcls : s.vm.findClass C = some cellB.cls)
    {g : JFrame} (hg : g.method = m) (hsize : g.locals.size = c.maxLocals) {argsL rest : List Value} (hlen : ∀ sig, parseMethodDescriptor y.desc = some sig → argsL.length = sig.parameters.length)
    (hstack : g.stack = argsL.reverse ++ .ref b :: rest) (hW : 2 * g.monitorRoom + (rest.map fun v => v.category).sum ≤ W9) (hdg : decode c.code g.pc = .ok (.invokevirtual index, 3))
    (hpre : ∀ vm₁, s.WarmedH vm₁ → Pre ⟨T.setVm vm₁, locs, cells, slots⟩ (Value.ref b :: argsL).toArray) :
    ∃ (v : Option Value) (vm₁ : Vm) (B : Pt), s.WarmedH vm₁ ∧ Stand p l e R s m args below meth c B.U B.locs B.cells B.slots ∧ Post ⟨T.setVm vm₁, locs, cells, slots⟩ (Value.ref b :: argsL).toArray v B ∧
      ∀ target, Steps p.tables e below (B.U.setTop { g with pc := g.pc + 3, stack := v.toList ++ rest }) target → Steps p.tables e below (T.setTop g) target := by
  obtain ⟨mk, methM, hnamed, hmethM, hstM, habM⟩ := Cond.instanceMethod_spec hinst
  obtain ⟨m8, methM', cM, hn8, hmethM', -, -, -, -, -, -, hsigM⟩ := Cond.codeWith_spec hcode
  cases Option.some.inj (hn8.symm.trans hnamed)
  cases hmethM.symm.trans hmethM'
  obtain ⟨c2, r2, m2, q1, q2, q3, q4, kP, hkP, hkPi⟩ := Cond.selects_spec hsel
  cases hcls.symm.trans q1
  cases (State.methodFound?_of_named hnamed hy).symm.trans q2
  cases hnamed.symm.trans q3
  have hselP : selectMethod e.platform s.vm cellB.cls mk = .method mk := by rw [Launch.admits_selectMethod X.admits]; exact q4
  obtain ⟨vm₁, X₁, hstep₁⟩ := X.invokevirtual hexec hown hlink hnamed hmethM hstM hkP hkPi hy (a := b) (cell := cellB) hcell
    (fun z h => by rw [h] at hobj; cases hobj) hselP hmethM habM hkP hkPi (g := g) hg (argsL := argsL) (rest := rest) (hlen _ hsigM) hstack hdg
  obtain ⟨v, B, X', hpost, hsteps⟩ := hK m meth c ⟨T.setVm vm₁, locs, cells, slots⟩ { g with stack := rest } (.invokevirtual index) mk (Value.ref b :: argsL).toArray X₁ hg hsize hdg hW (X₁.named hnamed) (hpre vm₁ X₁.warmed)
  exact ⟨v, vm₁, B, X₁.warmed, X', hpost, fun target h => hstep₁ _ fun acts => by rw [doInvoke_state]; exact hsteps.trans h⟩
abbrev vx_CVW (R : Room) (s : State) (args : Array Value) (own C : String) (index : Nat) (y : MethodName) (bytes : ByteArray) (maxL : Nat) (ret : Option FieldType) (hh : List (Nat × Nat × Nat × Nat)) (ws : List Cond) (rm : Room) (mc ms n : Nat) : Prop :=
  (rm.cells = mc ∧ rm.slots = ms ∧ rm.frames + 1 ≤ R.frames ∧ 8 + (maxL + 11) + rm.locals ≤ R.locals ∧ (∀ w ∈ ws, ∀ (a' : Array Value) (U : State), s.WarmedH U.vm → w.before a' U = true) ∧ Cond.codeWith y bytes maxL ret hh ∈ ws) ∧
  (Cond.codeWith y bytes maxL ret hh).before args s = true ∧ (Cond.initialized y.cls).before args s = true ∧ (y.cls ≠ "java/lang/invoke/MethodHandle" ∧ y.cls ≠ "java/lang/invoke/VarHandle") ∧
  (∀ sig, parseMethodDescriptor y.desc = some sig → n = sig.parameters.length) ∧ (Cond.methodLink own index y).before args s = true ∧ (Cond.instanceMethod y).before args s = true ∧ (Cond.selects C y y).before args s = true
theorem vx_cwVW {own C : String} {index maxL mc ms : Nat} {y : MethodName} {bytes : ByteArray} {ret : Option FieldType} {hh : List (Nat × Nat × Nat × Nat)} {Ts ws ws' : List Cond} {rm : Room} (n : Nat) (ht : ∀ w ∈ Ts, w.before args s = true) (hT : GoodIn Ts (wsV own index C y ws)) (hw : ws = Cond.codeWith y bytes maxL ret hh :: ws') (hrc : rm.cells = mc) (hrs : rm.slots = ms)
    (hd : y.cls = C ∧ y.cls ≠ "java/lang/invoke/MethodHandle" ∧ y.cls ≠ "java/lang/invoke/VarHandle" ∧ (parseMethodDescriptor y.desc).map (fun d => d.parameters.length) = some n) (hR : rm.frames + 1 ≤ R.frames ∧ 8 + (maxL + 11) + rm.locals ≤ R.locals) :
    vx_CVW R s args own C index y bytes maxL ret hh ws rm mc ms n := by
  obtain ⟨hC, hd⟩ := hd
  subst hC
  have ok : ∀ w ∈ wsV own index y.cls y ws, w.before args s = true := fun w h => ht w (hT w h).1
  have hG : GoodIn Ts ws := fun w h => hT w (by unfold wsV; exact List.mem_append_right _ h)
  have hc : Cond.codeWith y bytes maxL ret hh ∈ ws := by rw [hw]; exact List.mem_cons_self
  refine ⟨⟨hrc, hrs, hR.1, hR.2, pay_in ht hG, hc⟩, ht _ (hG _ hc).1, ok _ (by simp [wsV]), ⟨hd.1, hd.2.1⟩, fun sig h => ?_, ok _ (by simp [wsV]), ok _ (by simp [wsV]), ok _ (by simp [wsV])⟩
  have h2 := hd.2.2
  rw [h] at h2
  exact (Option.some.inj h2).symm
theorem vx_runVW {y : MethodName} {bytes cc : ByteArray} {maxL nL mc ms n index : Nat} {ret : Option FieldType} {hh : List (Nat × Nat × Nat × Nat)} {ws : List Cond} {rm : Room} {Pc : Array Value → State → Prop} {Qc : Array Value → State → Outcome → State → Prop} {free : Addr → Prop} {Ts : List Cond} {own C : String} {b : Addr} {As rest : List Value} {g : JFrame}
    (S : CallFix p m c cc nL s args Ts own) (hM : Met l y ws rm Pc Qc mc ms free) (cw : vx_CVW R s args own C index y bytes maxL ret hh ws rm mc ms n) (hp : PreV s H C b Pc As)
    (hg : g.method = m) (hn : As.length = n) (hsize : g.locals.size = nL) (hstack : g.stack = As.reverse ++ .ref b :: rest) (hW : 2 * g.monitorRoom + (rest.map fun v => v.category).sum ≤ 8) (hdg : decode cc g.pc = .ok (.invokevirtual index, 3)) (hf : cells + mc ≤ R.cells ∧ slots + ms ≤ R.slots) :
    va_Run p l e R s m args below meth c H locs cells slots mc ms g rest (Qc (Value.ref b :: As).toArray) free := by
  obtain ⟨⟨hrc, hrs, hfr, hlo, hws, hcw⟩, hcode, hini, hy, hlen, hl, hin, hse⟩ := cw
  have hK : Back l R p e below s args y 3 8 (PreOf R mc ms Pc) (PostOf Qc mc ms free) := va_backW (hh := hh) (bytes := bytes) (maxL := maxL) (ret := ret) hM hp.1 hrc hrs hfr hlo hws hcw (fun a' U hW => word_at hW (Or.inl (by first | rfl | simp [Cond.onTables, Cond.keeps, Cond.steady])) hini)
  obtain ⟨hx, hb, hml, ho, -⟩ := S
  obtain ⟨-, ⟨cellB, hcB, hoB, hclB⟩, hPc⟩ := hp
  intro T hT X
  obtain ⟨v, vm₁, ⟨U', l2, c2, s2⟩, hW₁, X', ⟨g', mk, t, L, e1, e2, hq, h1, hL, h2, h3⟩, st⟩ := vx_callVW X hx (C := C) (hh := hh) (bytes := bytes) (maxL := maxL) (ret := ret) ho hl hin hse hcode hy hK (by rw [hT]; exact hcB) hoB hclB hg (hsize.trans hml.symm) (argsL := As) (rest := rest) (fun sig h => hn.trans (hlen sig h)) hstack hW (by rw [hb]; exact hdg)
    (fun vm₁ hW₁ => ⟨hf.1, hf.2, hPc (T.setVm vm₁) hT hW₁⟩)
  dsimp only [Pt.U, Pt.locs, Pt.cells, Pt.slots] at X' e1 e2 h1 h2 h3 st
  subst h1; subst h2; subst h3
  exact ⟨v, (T.setVm vm₁).calling g' mk (Value.ref b :: As).toArray, t, U', L, hT, X', hL, e1, e2, hq, st⟩
section
variable {y : MethodName} {bytes cc : ByteArray} {maxL nL mc ms n index : Nat} {ret : Option FieldType} {ws : List Cond} {rm : Room} {Pc : Array Value → State → Prop} {Qc : Array Value → State → Outcome → State → Prop} {XC : String → State → State → Prop} {free : Addr → Prop} {Ts : List Cond} {own C : String} {b : Addr} {As rest : List Value} {g : JFrame}
theorem vx_runVX {hh : List (Nat × Nat × Nat × Nat)} (S : CallFix p m c cc nL s args Ts own) (hM : vx_Met l y ws rm Pc Qc XC mc ms free) (cw : vx_CVW R s args own C index y bytes maxL ret hh ws rm mc ms n) (hp : PreV s H C b Pc As)
    (hg : g.method = m) (hn : As.length = n) (hsize : g.locals.size = nL) (hstack : g.stack = As.reverse ++ .ref b :: rest) (hW : 2 * g.monitorRoom + (rest.map fun v => v.category).sum ≤ 8) (hdg : decode cc g.pc = .ok (.invokevirtual index, 3)) (hf : cells + mc ≤ R.cells ∧ slots + ms ≤ R.slots) :
    vx_Run p l e R s m args below meth c H locs cells slots mc ms g rest (Qc (Value.ref b :: As).toArray) XC free := by
  obtain ⟨⟨hrc, hrs, hfr, hlo, hws, hcw⟩, hcode, hini, hy, hlen, hl, hin, hse⟩ := cw
  have hK : vx_Back l R p e below s args y 3 8 (PreOf R mc ms Pc) (PostOf Qc mc ms free) (vx_Post XC mc ms free) := vx_backW (hh := hh) (bytes := bytes) (maxL := maxL) (ret := ret) hM hp.1 hrc hrs hfr hlo hws hcw (fun a' U hW => word_at hW (Or.inl (by first | rfl | simp [Cond.onTables, Cond.keeps, Cond.steady])) hini)
  obtain ⟨hx, hb, hml, ho, -⟩ := S
  obtain ⟨-, ⟨cellB, hcB, hoB, hclB⟩, hPc⟩ := hp
  intro T hT X
  rcases vx_callVX X hx (C := C) (hh := hh) (bytes := bytes) (maxL := maxL) (ret := ret) ho hl hin hse hcode hy hK (by rw [hT]; exact hcB) hoB hclB hg (hsize.trans hml.symm) (argsL := As) (rest := rest) (fun sig h => hn.trans (hlen sig h)) hstack hW (by rw [hb]; exact hdg)
    (fun vm₁ hW₁ => ⟨hf.1, hf.2, hPc (T.setVm vm₁) hT hW₁⟩) with ⟨v, vm₁, ⟨U', l2, c2, s2⟩, hW₁, X', ⟨g', mk, t, L, e1, e2, hq, h1, hL, h2, h3⟩, st⟩ | ⟨q, vm₁, ⟨U', l2, c2, s2⟩, hW₁, X', ⟨g', mk, t, L, E, ce, e1, e2, hq, hce, hcv, hcl, h1, hL, h2, h3⟩, st⟩
  · dsimp only [Pt.U, Pt.locs, Pt.cells, Pt.slots] at X' e1 e2 h1 h2 h3 st
    subst h1; subst h2; subst h3
    exact Or.inl ⟨v, (T.setVm vm₁).calling g' mk (Value.ref b :: As).toArray, t, U', L, hT, X', hL, e1, e2, hq, st⟩
  · dsimp only [Pt.U, Pt.locs, Pt.cells, Pt.slots] at X' e1 e2 h1 h2 h3 st hcl
    subst h1; subst h2; subst h3
    exact Or.inr ⟨q, (T.setVm vm₁).calling g' mk (Value.ref b :: As).toArray, t, U', L, E, ce, hT, X', hL, e1, e2, hq, hce, hcv, vx_cls hW₁ hcl, st⟩
theorem vx_runSX {hh : List (Nat × Nat × Nat × Nat)} (S : CallFix p m c cc nL s args Ts own) (hM : vx_Met l y ws rm Pc Qc XC mc ms free) (cw : vx_CSW R s args own index y bytes maxL ret hh ws rm mc ms n) (hp : PreS s H Pc As)
    (hg : g.method = m) (hn : As.length = n) (hsize : g.locals.size = nL) (hstack : g.stack = As.reverse ++ rest) (hW : 2 * g.monitorRoom + (rest.map fun v => v.category).sum ≤ 8) (hdg : decode cc g.pc = .ok (.invokestatic index, 3)) (hf : cells + mc ≤ R.cells ∧ slots + ms ≤ R.slots) :
    vx_Run p l e R s m args below meth c H locs cells slots mc ms g rest (Qc As.toArray) XC free := by
  obtain ⟨⟨hrc, hrs, hfr, hlo, hws, hcw⟩, hcode, hini, hy, hlen, hl, hstt⟩ := cw
  have hK : vx_Back l R p e below s args y 3 8 (PreOf R mc ms Pc) (PostOf Qc mc ms free) (vx_Post XC mc ms free) := vx_backW (hh := hh) (bytes := bytes) (maxL := maxL) (ret := ret) hM hp.1 hrc hrs hfr hlo hws hcw (fun a' U hW => word_at hW (Or.inl (by first | rfl | simp [Cond.onTables, Cond.keeps, Cond.steady])) hini)
  obtain ⟨hx, hb, hml, ho, -⟩ := S
  intro T hT X
  rcases vx_callSX X hx (hh := hh) (bytes := bytes) (maxL := maxL) (ret := ret) ho hl hstt hini hcode hy hK hg (hsize.trans hml.symm) (argsL := As) (rest := rest) (fun sig h => hn.trans (hlen sig h)) hstack hW (by rw [hb]; exact hdg)
    (fun vm₁ hW₁ => ⟨hf.1, hf.2, hp.2 (T.setVm vm₁) hT hW₁⟩) with ⟨v, vm₁, ⟨U', l2, c2, s2⟩, hW₁, X', ⟨g', mk, t, L, e1, e2, hq, h1, hL, h2, h3⟩, st⟩ | ⟨q, vm₁, ⟨U', l2, c2, s2⟩, hW₁, X', ⟨g', mk, t, L, E, ce, e1, e2, hq, hce, hcv, hcl, h1, hL, h2, h3⟩, st⟩
  · dsimp only [Pt.U, Pt.locs, Pt.cells, Pt.slots] at X' e1 e2 h1 h2 h3 st
    subst h1; subst h2; subst h3
    exact Or.inl ⟨v, (T.setVm vm₁).calling g' mk As.toArray, t, U', L, hT, X', hL, e1, e2, hq, st⟩
  · dsimp only [Pt.U, Pt.locs, Pt.cells, Pt.slots] at X' e1 e2 h1 h2 h3 st hcl
    subst h1; subst h2; subst h3
    exact Or.inr ⟨q, (T.setVm vm₁).calling g' mk As.toArray, t, U', L, E, ce, hT, X', hL, e1, e2, hq, hce, hcv, vx_cls hW₁ hcl, st⟩
end
end VXH
theorem vx_ofWH {l : Launch} {y : MethodName} {ws ws' : List Cond} {rm : Room} {Pc : Array Value → State → Prop} {Qc : Array Value → State → Outcome → State → Prop} {XC : String → State → State → Prop} {mc ms : Nat} {free : Addr → Prop} {cc : ByteArray} {maxL : Nat} {ret : Option FieldType} {hh : List (Nat × Nat × Nat × Nat)}
    (hy : plainName y.cls = true) (hw : ws = Cond.codeWith y cc maxL ret hh :: ws')
    (body : ∀ p e s m args below meth c s₁, BodyLoose p l y (headSpec ws rm) cc maxL ret e s m args below meth c s₁ → c.maxLocals = maxL → Pc args s →
      W p l e (headSpec ws rm).room s m args below meth c s.heap [] 0 0 (vx_MQ below Qc XC args s mc ms free) (entryFrame m args maxL)) : vx_Met l y ws rm Pc Qc XC mc ms free := by
  refine MetFree.of_bodyS (code := cc) (maxLocals := maxL) (ret := ret) hy ?_ ?_
  · intro args s m h hn
    obtain ⟨m9, meth, c, hn9, h1, h2, h3, h4, -, h5, h6, -⟩ := Cond.codeWith_spec (atoms_spec (ws := ws) h _ (by rw [hw]; exact List.mem_cons_self))
    cases hn.symm.trans hn9
    exact ⟨meth, c, h1, h2, h3, h4, h5, h6⟩
  · intro p e s m args below meth c s₁ B hml hP _
    have hh0 : s₁.heap = s.heap := by rw [B.state]; rfl
    obtain ⟨t, a1, o, b1, b2, b3⟩ := body p e s m args below meth c s₁ B hml hP s₁ hh0 (Stand.of_body B)
    exact ⟨t, o, a1, b1, b2, b3⟩
/-! ===== END ===== -/
end
section
/-! ===== what the machine holds of it ===== -/
/-- outside: the texts' cells and their rows of bytes, the primes, the script with its length and its ints, one more value -/
abbrev XT : Type := (Nat → Nat) × (Nat → Nat) × Nat × Nat × Nat × (Nat → Int32) × Value
abbrev AC : Type := ClassId × ClassId × ClassId × ClassId
def cq (X : XT) (B : Nat) (q : Nat × Nat × Nat) : Value :=
  if q.1 < 100 then .ref (B + q.2.2)
  else if q.1 = 100 then .ref (X.1 q.2.2)
  else if q.1 = 102 then .ref (X.2.1 q.2.2)
  else if q.1 = 101 then .ref X.2.2.1
  else if q.1 = 104 then .ref X.2.2.2.1
  else X.2.2.2.2.2.2
def cv (X : XT) (B : Nat) : AV → Value
  | .inl x => .int x
  | .inr (.inl x) => .long x
  | .inr (.inr none) => .null
  | .inr (.inr (some q)) => cq X B q
def okq (X : XT) (sh : List (Nat × Nat)) (q : Nat × Nat × Nat) : Prop :=
  if q.1 < 100 then sh[q.2.2]? = some (q.1, q.2.1)
  else if q.1 = 100 then q.2.2 < nStr
  else if q.1 = 102 then q.2.2 < nStr ∧ q.2.1 = strN.getD q.2.2 0
  else if q.1 = 101 then q.2.1 = 6
  else if q.1 = 104 then q.2.1 = X.2.2.2.2.1
  else True
def okv (X : XT) (sh : List (Nat × Nat)) : AV → Prop
  | .inr (.inr (some q)) => okq X sh q
  | _ => True
def fv (X : XT) (B : Nat) (mr : MR) (mi : MI) (ml : ML) (a ci k : Nat) : Value := match fk ci k with
  | 0 => .int (mi a k)
  | 1 => .long (ml a k)
  | 2 => cv X B (.inr (.inr (mr a k)))
  | 3 => .int (mi a k)
  | _ => .null
def cE (X : XT) (B : Nat) (aC : AC) (mr : MR) (mi : MI) (ml : ML) (a ro n : Nat) : va_E :=
  if ro = 0 then .inl (aC.1, n, .inl (mi a))
  else if ro = 1 then .inl (aC.2.1, n, .inr (.inl (ml a)))
  else if ro = 2 then .inl (aC.2.2.1, n, .inl (mi a))
  else if ro = 3 then .inl (aC.2.2.2, n, .inr (.inr (.inr (.inr (fun i => (mr a i).map (fun q => B + q.2.2))))))
  else .inr (ro - 10, (List.range (clN (ro - 10))).map (fv X B mr mi ml a (ro - 10)))
def KN (D : va_G) (aC : AC) (U : State) : Prop := va_K D clT [(aC.1, .int), (aC.2.1, .long), (aC.2.2.1, .byte), (aC.2.2.2, .array .long)] U
/-- the heap: B and what lies below is old; cell a of ours is at B + a; cell 0 is nobody's, its ints are the script's -/
def RH (X : XT) (D : va_G) (aC : AC) (B : Nat) (sh : List (Nat × Nat)) (c : Nat) (mr : MR) (mi : MI) (ml : ML) (H : Heap) : Prop :=
  H.size = B + c ∧ sh.length = c ∧ sh[0]? = some (99, 0) ∧ (∀ a ro n, sh[a]? = some (ro, n) → ro < 20 → va_at D clT (B + a, cE X B aC mr mi ml a ro n) H) ∧ (∀ a k q, mr a k = some q → okq X sh q) ∧ (∀ a n i q, sh[a]? = some (3, n) → mr a i = some q → q.1 < 100) ∧ (∀ j, j < X.2.2.2.2.1 → mi 0 j = X.2.2.2.2.2.1 j)
def arB (comp : ClassId) (x : Class) : Bool := match x.kind with
  | .array component _ => component == comp
  | _ => false
/-- the class of rows of rows of longs is the one over rows of longs -/
def aov (U : State) : Prop := ∃ (comp c : ClassId) (k : Class), U.vm.findClass (FieldType.array .long).toString = some comp ∧ U.vm.findClass ("[" ++ (FieldType.array .long).toString) = some c ∧ U.vm.classes.findIdx? (arB comp) = some c ∧ U.vm.classes[c]? = some k ∧ k.kind = .array comp (.array .long)
theorem aov.of {args : Array Value} {s : State} (h : (Cond.arrayOver (.array .long)).before args s = true) : aov s := by
  have h : (Cond.arrayOver (.array .long)).holds args s none s [] = true := h
  simp only [Cond.holds, Cond.value, beq_iff_eq] at h
  cases hc : s.vm.findClass (FieldType.array .long).toString with
  | none => simp [hc] at h
  | some comp =>
    simp only [hc, Option.bind_some, Option.bind_eq_some_iff, Option.map_eq_some_iff] at h
    obtain ⟨c, hi, k, hk, hb⟩ := h
    have hi : s.vm.classes.findIdx? (arB comp) = some c := hi
    obtain ⟨hlt, hp, -⟩ := Array.findIdx?_eq_some_iff_getElem.mp hi
    have hkk : s.vm.classes[c] = k := (Array.getElem?_eq_some_iff.mp hk).2
    rw [hkk] at hp
    unfold arB at hp
    cases hkind : k.kind with
    | array component ty =>
      rw [hkind] at hb hp
      simp at hb hp
      exact ⟨comp, c, k, hc, hb.2, hi, hk, by rw [hkind, hp, hb.1]⟩
    | _ => rw [hkind] at hb; simp at hb
theorem aov.use {args : Array Value} {s : State} (h : aov s) : (Cond.arrayOver (.array .long)).before args s = true := by
  obtain ⟨comp, c, k, h1, h2, h3, h4, h5⟩ := h
  show (Cond.arrayOver (.array .long)).holds args s none s [] = true
  simp only [Cond.holds, Cond.value]
  rw [h1, Option.bind_some]
  show (Option.bind (s.vm.classes.findIdx? (arB comp)) _ == some true) = true
  rw [h3, Option.bind_some, h4]
  simp [h5, h2]
theorem aov.moved {u U : State} (hvm : u.vm.Alike U.vm) (h : aov u) : aov U := by
  obtain ⟨comp, c, k, h1, h2, h3, h4, h5⟩ := h
  obtain ⟨k', h6, h7⟩ := hvm.2.2 _ _ h4
  refine ⟨comp, c, k', by rw [hvm.findClass]; exact h1, by rw [hvm.findClass]; exact h2, ?_, h6, by rw [h7]; exact h5⟩
  obtain ⟨hlt, hp, hq⟩ := Array.findIdx?_eq_some_iff_getElem.mp h3
  have key : ∀ (i : Nat) (h1 : i < u.vm.classes.size) (h2 : i < U.vm.classes.size), arB comp U.vm.classes[i] = arB comp u.vm.classes[i] := by
    intro i a1 a2
    obtain ⟨k2, e1, e2⟩ := hvm.2.2 i _ (Array.getElem?_eq_getElem a1)
    have e3 : U.vm.classes[i] = k2 := by
      rw [Array.getElem?_eq_getElem a2] at e1
      exact Option.some.inj e1
    rw [e3, e2]
    rfl
  have hsz := hvm.2.1
  refine Array.findIdx?_eq_some_iff_getElem.mpr ⟨by omega, ?_, fun j hj => ?_⟩
  · rw [key c hlt (by omega)]; exact hp
  · rw [key j (by omega) (by omega)]; exact hq j hj
def EX (X : XT) (B : Nat) (U : State) : Prop :=
  vk_S nStr strN strB X.1 X.2.1 (fun q => B < q) U U.heap ∧ (∀ q ∈ ldT, vk_R q.1 q.2.1 q.2.2.1 (X.1 q.2.2.2) U)
  ∧ va_Z "java/lang/String" "COMPACT_STRINGS" "Z" (.int 1) (fun q => B < q) U U.heap
  ∧ va_Z "WeighingPlates$Reader" "PRIMES" "[I" (.ref X.2.2.1) (fun q => B < q) U U.heap
  ∧ va_T .int X.2.2.1 6 (fun j => .int (prC j)) (fun q => B < q) U U.heap
  ∧ va_Z "jdk/internal/util/Preconditions" "SIOOBE_FORMATTER" "Ljava/util/function/BiFunction;" X.2.2.2.2.2.2 (fun q => B < q) U U.heap
  ∧ (X.2.2.2.2.2.2 = .null ∨ ∃ a, X.2.2.2.2.2.2 = .ref a)
  ∧ va_X X.2.2.2.1 X.2.2.2.2.1 X.2.2.2.2.2.1 U U.heap ∧ X.2.2.2.1 ≤ B ∧ B < U.heap.size
  ∧ (∀ q ∈ nestT, va_Nw (.methodLinkNest q.1 q.2.1 q.2.2 "WeighingPlates") U) ∧ aov U
  ∧ vx_Zq Bundle.tN "UNASSIGNED_STACK" Bundle.steD (fun q => B < q) U U.heap ∧ vx_Zq Bundle.tN "SUPPRESSED_SENTINEL" Bundle.listD (fun q => B < q) U U.heap
def wsy (y : Nat) : List Cond := Cond.code (mNm y) (mCd y) (mMx y) (mRt y) :: WT
def mLo (y : Nat) : Nat := match mKd y with
  | 8 => 478
  | _ => 38 * mDp y
def rmm (y mc ms : Nat) : Room := { frames := mDp y, cells := mc, slots := ms, locals := mLo y }
def CX (y : Nat) (p : Program) (S : State) (m : MethodId) (args : Array Value) (meth : Method) (cd : Code) (X : XT) (D : va_G) (aC : AC) (B : Nat) : Prop :=
  p.tables.exec = Jvm.exec ∧ cd.code = mCd y ∧ cd.maxLocals = mMx y ∧ meth.sig.returnType = mRt y ∧ meth.locks = false ∧ S.vm.findClass (mNm y).cls = some m.cls ∧ ((mNm y).name = "<init>" → meth.name = "<init>") ∧ (∀ w ∈ WT, w.before args S = true) ∧ KN D aC S ∧ EX X B S
def LVs (X : XT) (B : Nat) (sh : List (Nat × Nat)) (lsC : Array Slot) (n : Nat) (ls : eLS) : Prop :=
  lsC.size = n ∧ lv_wf lsC ∧ ∀ i v, lg ls i = some v → lsC[i]? = some (.val (cv X B v)) ∧ okv X sh v
def QC (X : XT) (D : va_G) (aC : AC) (B : Nat) (sh0 : List (Nat × Nat)) (Q : Option AV → HP) : Array Value → State → Outcome → State → Prop := fun _ st o t =>
  (∃ (r : Option AV) (c : Nat) (mr : MR) (mi : MI) (ml : ML) (sh : List (Nat × Nat)), o = .returned (r.map (cv X B)) ∧ Q r c mr mi ml ∧ RH X D aC B sh c mr mi ml t.heap ∧ sh0 <+: sh ∧ (∀ v, r = some v → okv X sh v)) ∧ va_F (fun q => B < q) st t
def PC (X : XT) (D : va_G) (aC : AC) (B : Nat) (sh : List (Nat × Nat)) (as : List AV) (c : Nat) (mr : MR) (mi : MI) (ml : ML) : Array Value → State → Prop := fun v U =>
  v = (as.map (cv X B)).toArray ∧ RH X D aC B sh c mr mi ml U.heap ∧ (∀ a ∈ as, okv X sh a) ∧ KN D aC U ∧ EX X B U
/-- what the end of a method must be -/
abbrev FT : Type := List Frame → Array Value → State → Nat → Nat → XT → va_G → AC → Nat → List (Nat × Nat) → State → Prop
/-- an answer with Q -/
def Zq (Q : Option AV → HP) : FT := fun below args S mc ms X D aC B sh0 => MQ below (QC X D aC B sh0 Q) args S mc ms (fun q => B < q)
/-- an answer with Q will do -/
def RetOK (Z : FT) (Q : Option AV → HP) : Prop := ∀ below args S mc ms X D aC B sh0 t, MQ below (QC X D aC B sh0 Q) args S mc ms (fun q => B < q) t → Z below args S mc ms X D aC B sh0 t
/-- method y from pc on, with k cells of s slots that it may still make, comes to an answer with Q -/
def At (y pc : Nat) (ls : eLS) (st : List AV) (k s : Nat) (Z : FT) : HP := fun c mr mi ml =>
  ∀ (l : Launch) (p : Program) (e : Env) (S : State) (m : MethodId) (args : Array Value) (below : List Frame) (meth : Method) (cd : Code) (H : Heap) (locs : List Loc) (cells slots mc ms : Nat) (lsC : Array Slot) (X : XT) (D : va_G) (aC : AC) (B : Nat) (sh0 sh : List (Nat × Nat)),
    l.flags = flags0 → CX y p S m args meth cd X D aC B → RH X D aC B sh c mr mi ml H → sh0 <+: sh → (∀ v ∈ st, okv X sh v) → LVs X B sh lsC (mMx y) ls → va_S (fun q => B < q) S.heap H locs → cells + k ≤ mc → slots + s ≤ ms →
    W p l e (rmm y mc ms) S m args below meth cd H locs cells slots (Z below args S mc ms X D aC B sh0) (F0 m pc lsC (st.map (cv X B)))
/-- method y, called with these -/
def Ok (y mc ms : Nat) (as : List AV) (Q : Option AV → HP) : HP := fun c mr mi ml =>
  ∀ (l : Launch) (X : XT) (D : va_G) (aC : AC) (B : Nat) (sh : List (Nat × Nat)), l.flags = flags0 → Met l (mNm y) (wsy y) (rmm y mc ms) (PC X D aC B sh as c mr mi ml) (QC X D aC B sh Q) mc ms (fun q => B < q)
end
section
/-! ===== soundness: locals, the heap, one instruction each ===== -/
theorem CX.ml {y : Nat} {p : Program} {S : State} {m : MethodId} {args : Array Value} {meth : Method} {cd : Code} {X : XT} {D : va_G} {aC : AC} {B : Nat} (h : CX y p S m args meth cd X D aC B) : cd.maxLocals = mMx y := h.2.2.1
theorem CX.rt {y : Nat} {p : Program} {S : State} {m : MethodId} {args : Array Value} {meth : Method} {cd : Code} {X : XT} {D : va_G} {aC : AC} {B : Nat} (h : CX y p S m args meth cd X D aC B) : meth.sig.returnType = mRt y := h.2.2.2.1
theorem CX.lk {y : Nat} {p : Program} {S : State} {m : MethodId} {args : Array Value} {meth : Method} {cd : Code} {X : XT} {D : va_G} {aC : AC} {B : Nat} (h : CX y p S m args meth cd X D aC B) : meth.locks = false := h.2.2.2.2.1
theorem CX.own {y : Nat} {p : Program} {S : State} {m : MethodId} {args : Array Value} {meth : Method} {cd : Code} {X : XT} {D : va_G} {aC : AC} {B : Nat} (h : CX y p S m args meth cd X D aC B) : S.vm.findClass (mNm y).cls = some m.cls := h.2.2.2.2.2.1
theorem CX.nam {y : Nat} {p : Program} {S : State} {m : MethodId} {args : Array Value} {meth : Method} {cd : Code} {X : XT} {D : va_G} {aC : AC} {B : Nat} (h : CX y p S m args meth cd X D aC B) : (mNm y).name = "<init>" → meth.name = "<init>" := h.2.2.2.2.2.2.1
theorem CX.wds {y : Nat} {p : Program} {S : State} {m : MethodId} {args : Array Value} {meth : Method} {cd : Code} {X : XT} {D : va_G} {aC : AC} {B : Nat} (h : CX y p S m args meth cd X D aC B) : ∀ w ∈ WT, w.before args S = true := h.2.2.2.2.2.2.2.1
theorem CX.kn {y : Nat} {p : Program} {S : State} {m : MethodId} {args : Array Value} {meth : Method} {cd : Code} {X : XT} {D : va_G} {aC : AC} {B : Nat} (h : CX y p S m args meth cd X D aC B) : KN D aC S := h.2.2.2.2.2.2.2.2.1
theorem CX.ext {y : Nat} {p : Program} {S : State} {m : MethodId} {args : Array Value} {meth : Method} {cd : Code} {X : XT} {D : va_G} {aC : AC} {B : Nat} (h : CX y p S m args meth cd X D aC B) : EX X B S := h.2.2.2.2.2.2.2.2.2
theorem EX.lds {X : XT} {B : Nat} {U : State} (h : EX X B U) : ∀ q ∈ ldT, vk_R q.1 q.2.1 q.2.2.1 (X.1 q.2.2.2) U := h.2.1
theorem EX.cs {X : XT} {B : Nat} {U : State} (h : EX X B U) : va_Z "java/lang/String" "COMPACT_STRINGS" "Z" (.int 1) (fun q => B < q) U U.heap := h.2.2.1
theorem EX.prz {X : XT} {B : Nat} {U : State} (h : EX X B U) : va_Z "WeighingPlates$Reader" "PRIMES" "[I" (.ref X.2.2.1) (fun q => B < q) U U.heap := h.2.2.2.1
theorem EX.prt {X : XT} {B : Nat} {U : State} (h : EX X B U) : va_T .int X.2.2.1 6 (fun j => .int (prC j)) (fun q => B < q) U U.heap := h.2.2.2.2.1
theorem EX.sf {X : XT} {B : Nat} {U : State} (h : EX X B U) : va_Z "jdk/internal/util/Preconditions" "SIOOBE_FORMATTER" "Ljava/util/function/BiFunction;" X.2.2.2.2.2.2 (fun q => B < q) U U.heap := h.2.2.2.2.2.1
theorem EX.fm {X : XT} {B : Nat} {U : State} (h : EX X B U) : X.2.2.2.2.2.2 = .null ∨ ∃ a, X.2.2.2.2.2.2 = .ref a := h.2.2.2.2.2.2.1
theorem EX.scr {X : XT} {B : Nat} {U : State} (h : EX X B U) : va_X X.2.2.2.1 X.2.2.2.2.1 X.2.2.2.2.2.1 U U.heap := h.2.2.2.2.2.2.2.1
theorem EX.scB {X : XT} {B : Nat} {U : State} (h : EX X B U) : X.2.2.2.1 ≤ B := h.2.2.2.2.2.2.2.2.1
theorem EX.bsz {X : XT} {B : Nat} {U : State} (h : EX X B U) : B < U.heap.size := h.2.2.2.2.2.2.2.2.2.1
theorem EX.nst {X : XT} {B : Nat} {U : State} (h : EX X B U) : ∀ q ∈ nestT, va_Nw (.methodLinkNest q.1 q.2.1 q.2.2 "WeighingPlates") U := h.2.2.2.2.2.2.2.2.2.2.1
theorem EX.ao {X : XT} {B : Nat} {U : State} (h : EX X B U) : aov U := h.2.2.2.2.2.2.2.2.2.2.2.1
theorem EX.tU {X : XT} {B : Nat} {U : State} (h : EX X B U) : vx_Zq Bundle.tN "UNASSIGNED_STACK" Bundle.steD (fun q => B < q) U U.heap := h.2.2.2.2.2.2.2.2.2.2.2.2.1
theorem EX.tN {X : XT} {B : Nat} {U : State} (h : EX X B U) : vx_Zq Bundle.tN "SUPPRESSED_SENTINEL" Bundle.listD (fun q => B < q) U U.heap := h.2.2.2.2.2.2.2.2.2.2.2.2.2
theorem av_cat {X : XT} {B : Nat} (hX : X.2.2.2.2.2.2 = .null ∨ ∃ a, X.2.2.2.2.2.2 = .ref a) (v : AV) : (cv X B v).category = catA v := by
  rcases v with x | x | q
  · rfl
  · rfl
  · cases q with
    | none => rfl
    | some q =>
      show (cq X B q).category = 1
      unfold cq
      split
      · rfl
      split
      · rfl
      split
      · rfl
      split
      · rfl
      split
      · rfl
      rcases hX with h | ⟨a, h⟩ <;> rw [h] <;> rfl
theorem catS_map {X : XT} {B : Nat} (hX : X.2.2.2.2.2.2 = .null ∨ ∃ a, X.2.2.2.2.2.2 = .ref a) (t : List AV) : ((t.map (cv X B)).map fun v => v.category).sum = catS t := by
  induction t with
  | nil => rfl
  | cons v t ih => simp only [List.map_cons, List.sum_cons, catS, av_cat hX, ih]
theorem tl_ok {P : AV → Prop} {a : AV} {t : List AV} (h : ∀ v ∈ a :: t, P v) : ∀ v ∈ t, P v := fun v hv => h v (List.mem_cons_of_mem _ hv)
theorem tl2_ok {P : AV → Prop} {a b : AV} {t : List AV} (h : ∀ v ∈ a :: b :: t, P v) : ∀ v ∈ t, P v := tl_ok (tl_ok h)
theorem tl3_ok {P : AV → Prop} {a b d : AV} {t : List AV} (h : ∀ v ∈ a :: b :: d :: t, P v) : ∀ v ∈ t, P v := tl_ok (tl2_ok h)
theorem cn_ok {P : AV → Prop} {a : AV} {t : List AV} (h1 : P a) (h : ∀ v ∈ t, P v) : ∀ v ∈ a :: t, P v := List.forall_mem_cons.mpr ⟨h1, h⟩
-- locals
theorem clrK_eq {β : Sort _} (x : Option AV) (K : Option AV → β) : clrK x K = K (clrK x id) := by
  rcases x with _ | x | x | x <;> rfl
theorem stoK_e0 (v : AV) : ∀ (ls : eLS) (i : Nat) (K : eLS → eLS), stoK ls i v K = K (stoK ls i v id)
  | [], _, _ => by unfold stoK; rfl
  | x :: r, 0, _ => by unfold stoK; rfl
  | x :: r, 1, K => by
    show clrK x (fun x' => stoK r 0 v (fun r' => K (x' :: r'))) = K (clrK x (fun x' => stoK r 0 v (fun r' => id (x' :: r'))))
    rw [clrK_eq, clrK_eq x (fun x' => stoK r 0 v (fun r' => id (x' :: r'))), stoK_e0 v r 0 (fun r' => K _), stoK_e0 v r 0 (fun r' => id (clrK x id :: r'))]
    rfl
  | x :: r, i + 2, K => by
    show stoK r (i + 1) v (fun r' => K (x :: r')) = K (stoK r (i + 1) v (fun r' => id (x :: r')))
    rw [stoK_e0 v r (i + 1) (fun r' => K _), stoK_e0 v r (i + 1) (fun r' => id (x :: r'))]
    rfl
theorem stoK_eq {β : Sort _} (v : AV) : ∀ (ls : eLS) (i : Nat) (K : eLS → β), stoK ls i v K = K (stoK ls i v id)
  | [], _, _ => by unfold stoK; rfl
  | x :: r, 0, _ => by unfold stoK; rfl
  | x :: r, 1, K => by
    show clrK x (fun x' => stoK r 0 v (fun r' => K (x' :: r'))) = K (clrK x (fun x' => stoK r 0 v (fun r' => id (x' :: r'))))
    rw [clrK_eq, clrK_eq x (fun x' => stoK r 0 v (fun r' => id (x' :: r'))), stoK_eq v r 0 (fun r' => K _), stoK_e0 v r 0 (fun r' => id (clrK x id :: r'))]
    rfl
  | x :: r, i + 2, K => by
    show stoK r (i + 1) v (fun r' => K (x :: r')) = K (stoK r (i + 1) v (fun r' => id (x :: r')))
    rw [stoK_eq v r (i + 1) (fun r' => K _), stoK_e0 v r (i + 1) (fun r' => id (x :: r'))]
    rfl
theorem clr_some {x : Option AV} {w : AV} (h : clrK x id = some w) : x = some w ∧ catA w = 1 := by
  rcases x with _ | x | x | x
  · cases h
  · cases h; exact ⟨rfl, rfl⟩
  · cases h
  · cases h; exact ⟨rfl, rfl⟩
theorem sto_lg (v : AV) : ∀ (ls : eLS) (i j : Nat) (w : AV), lg (stoK ls i v id) j = some w → (j = i ∧ w = v) ∨ (j ≠ i ∧ lg ls j = some w ∧ (j + 1 = i → catA w = 1))
  | [], i, j, w, h => by unfold stoK at h; cases h
  | x :: r, 0, j, w, h => by
    unfold stoK at h
    cases j with
    | zero => exact Or.inl ⟨rfl, (Option.some.inj h).symm⟩
    | succ j => exact Or.inr ⟨Nat.succ_ne_zero j, h, fun z => by omega⟩
  | x :: r, 1, j, w, h => by
    have e : stoK (x :: r) 1 v id = clrK x id :: stoK r 0 v id := by
      show clrK x (fun x' => stoK r 0 v (fun r' => id (x' :: r'))) = _
      rw [clrK_eq, stoK_eq]; rfl
    rw [e] at h
    cases j with
    | zero =>
      obtain ⟨h1, h2⟩ := clr_some (show clrK x id = some w from h)
      exact Or.inr ⟨by omega, h1, fun _ => h2⟩
    | succ j =>
      rcases sto_lg v r 0 j w h with ⟨h1, h2⟩ | ⟨h1, h2, h3⟩
      · exact Or.inl ⟨by omega, h2⟩
      · exact Or.inr ⟨by omega, h2, fun z => by omega⟩
  | x :: r, i + 2, j, w, h => by
    have e : stoK (x :: r) (i + 2) v id = x :: stoK r (i + 1) v id := by
      show stoK r (i + 1) v (fun r' => id (x :: r')) = _
      rw [stoK_eq]; rfl
    rw [e] at h
    cases j with
    | zero => exact Or.inr ⟨by omega, h, fun z => by omega⟩
    | succ j =>
      rcases sto_lg v r (i + 1) j w h with ⟨h1, h2⟩ | ⟨h1, h2, h3⟩
      · exact Or.inl ⟨by omega, h2⟩
      · exact Or.inr ⟨by omega, h2, fun z => h3 (by omega)⟩
theorem stoLK_1 {β : Sort _} (v : AV) (x : Option AV) (r : eLS) (K : eLS → β) : stoLK (x :: r) 1 v K = clrK x (fun x' => stoLK r 0 v (fun r' => K (x' :: r'))) := by cases r <;> rfl
theorem stoLK_2 {β : Sort _} (v : AV) (x : Option AV) (r : eLS) (i : Nat) (K : eLS → β) : stoLK (x :: r) (i + 2) v K = stoLK r (i + 1) v (fun r' => K (x :: r')) := by cases r <;> rfl
theorem stoLK_e0 (v : AV) : ∀ (ls : eLS) (i : Nat) (K : eLS → eLS), stoLK ls i v K = K (stoLK ls i v id)
  | [], i, _ => by cases i with
    | zero => rfl
    | succ i => cases i <;> rfl
  | [x], 0, _ => rfl
  | x :: x' :: r, 0, _ => rfl
  | x :: r, 1, K => by
    rw [stoLK_1 v x r K, stoLK_1 v x r id, clrK_eq, clrK_eq x (fun x' => stoLK r 0 v (fun r' => id (x' :: r'))), stoLK_e0 v r 0 (fun r' => K _), stoLK_e0 v r 0 (fun r' => id (clrK x id :: r'))]
    rfl
  | x :: r, i + 2, K => by
    rw [stoLK_2 v x r i K, stoLK_2 v x r i id, stoLK_e0 v r (i + 1) (fun r' => K _), stoLK_e0 v r (i + 1) (fun r' => id (x :: r'))]
    rfl
theorem stoLK_eq {β : Sort _} (v : AV) : ∀ (ls : eLS) (i : Nat) (K : eLS → β), stoLK ls i v K = K (stoLK ls i v id)
  | [], i, _ => by cases i with
    | zero => rfl
    | succ i => cases i <;> rfl
  | [x], 0, _ => rfl
  | x :: x' :: r, 0, _ => rfl
  | x :: r, 1, K => by
    rw [stoLK_1 v x r K, stoLK_1 v x r id, clrK_eq, clrK_eq x (fun x' => stoLK r 0 v (fun r' => id (x' :: r'))), stoLK_eq v r 0 (fun r' => K _), stoLK_e0 v r 0 (fun r' => id (clrK x id :: r'))]
    rfl
  | x :: r, i + 2, K => by
    rw [stoLK_2 v x r i K, stoLK_2 v x r i id, stoLK_eq v r (i + 1) (fun r' => K _), stoLK_e0 v r (i + 1) (fun r' => id (x :: r'))]
    rfl
theorem stoL_lg (v : AV) : ∀ (ls : eLS) (i j : Nat) (w : AV), lg (stoLK ls i v id) j = some w → (j = i ∧ w = v) ∨ (j ≠ i ∧ j ≠ i + 1 ∧ lg ls j = some w ∧ (j + 1 = i → catA w = 1))
  | [], i, j, w, h => by
    have e : stoLK [] i v id = [] := by cases i with
      | zero => rfl
      | succ i => cases i <;> rfl
    rw [e] at h; cases h
  | [x], 0, j, w, h => by cases h
  | x :: x' :: r, 0, j, w, h => by
    match j, h with
    | 0, h => exact Or.inl ⟨rfl, (Option.some.inj h).symm⟩
    | 1, h => cases h
    | j + 2, h => exact Or.inr ⟨by omega, by omega, h, fun z => by omega⟩
  | x :: r, 1, j, w, h => by
    have e : stoLK (x :: r) 1 v id = clrK x id :: stoLK r 0 v id := by
      have e0 : stoLK (x :: r) 1 v id = clrK x (fun x' => stoLK r 0 v (fun r' => id (x' :: r'))) := by cases r <;> rfl
      rw [e0, clrK_eq, stoLK_eq]; rfl
    rw [e] at h
    cases j with
    | zero =>
      obtain ⟨h1, h2⟩ := clr_some (show clrK x id = some w from h)
      exact Or.inr ⟨by omega, by omega, h1, fun _ => h2⟩
    | succ j =>
      rcases stoL_lg v r 0 j w h with ⟨h1, h2⟩ | ⟨h1, h4, h2, h3⟩
      · exact Or.inl ⟨by omega, h2⟩
      · exact Or.inr ⟨by omega, by omega, h2, fun z => by omega⟩
  | x :: r, i + 2, j, w, h => by
    have e : stoLK (x :: r) (i + 2) v id = x :: stoLK r (i + 1) v id := by
      have e0 : stoLK (x :: r) (i + 2) v id = stoLK r (i + 1) v (fun r' => id (x :: r')) := by cases r <;> rfl
      rw [e0, stoLK_eq]; rfl
    rw [e] at h
    cases j with
    | zero => exact Or.inr ⟨by omega, by omega, h, fun z => by omega⟩
    | succ j =>
      rcases stoL_lg v r (i + 1) j w h with ⟨h1, h2⟩ | ⟨h1, h4, h2, h3⟩
      · exact Or.inl ⟨by omega, h2⟩
      · exact Or.inr ⟨by omega, by omega, h2, fun z => h3 (by omega)⟩
def lvl (X : XT) (B : Nat) (ls : eLS) (n : Nat) : List (Nat × Value) := (List.range n).filterMap (fun j => (lg ls j).map (fun v => (j, cv X B v)))
theorem lvl_mem {X : XT} {B : Nat} {ls : eLS} {n j : Nat} {v : AV} (hj : j < n) (h : lg ls j = some v) : (j, cv X B v) ∈ lvl X B ls n := List.mem_filterMap.mpr ⟨j, List.mem_range.mpr hj, by rw [h]; rfl⟩
theorem lvl_has {X : XT} {B : Nat} {sh : List (Nat × Nat)} {lsC : Array Slot} {n : Nat} {ls : eLS} (h : LVs X B sh lsC n ls) : lv_has lsC n (lvl X B ls n) := by
  refine ⟨h.1, h.2.1, fun q hq => ?_⟩
  obtain ⟨j, -, hj⟩ := List.mem_filterMap.mp hq
  cases hl : lg ls j with
  | none => rw [hl] at hj; cases hj
  | some v =>
    rw [hl] at hj
    cases hj
    exact (h.2.2 j v hl).1
theorem lvs_lt {X : XT} {B : Nat} {sh : List (Nat × Nat)} {lsC : Array Slot} {n : Nat} {ls : eLS} (h : LVs X B sh lsC n ls) {j : Nat} {v : AV} (hj : lg ls j = some v) : j < n := by
  rw [← h.1]; exact lv_lt (h.2.2 j v hj).1
theorem lvs_sto {X : XT} {B : Nat} {sh : List (Nat × Nat)} {lsC ls' : Array Slot} {n : Nat} {ls : eLS} (hX : X.2.2.2.2.2.2 = .null ∨ ∃ a, X.2.2.2.2.2.2 = .ref a) (h : LVs X B sh lsC n ls) (i : Nat) {v : AV} (hv : okv X sh v)
    (h' : lv_has ls' n ((i, cv X B v) :: (lvl X B ls n).filter (fun q => !(q.1 == i) && !(q.1 + 1 == i && q.2.category == 2)))) : LVs X B sh ls' n (stoK ls i v id) := by
  refine ⟨h'.1, h'.2.1, fun j w hj => ?_⟩
  rcases sto_lg v ls i j w hj with ⟨rfl, rfl⟩ | ⟨h1, h2, h3⟩
  · exact ⟨h'.2.2 _ List.mem_cons_self, hv⟩
  · refine ⟨h'.2.2 (j, cv X B w) (List.mem_cons_of_mem _ (List.mem_filter.mpr ⟨lvl_mem (lvs_lt h h2) h2, ?_⟩)), (h.2.2 j w h2).2⟩
    show (!(j == i) && !(j + 1 == i && (cv X B w).category == 2)) = true
    rw [av_cat hX]
    by_cases z : j + 1 = i
    · simp [h1, h3 z]
    · simp [h1, z]
theorem lvs_stoL {X : XT} {B : Nat} {sh : List (Nat × Nat)} {lsC ls' : Array Slot} {n : Nat} {ls : eLS} (hX : X.2.2.2.2.2.2 = .null ∨ ∃ a, X.2.2.2.2.2.2 = .ref a) (h : LVs X B sh lsC n ls) (i : Nat) {v : AV} (hv : okv X sh v)
    (h' : lv_has ls' n ((i, cv X B v) :: (lvl X B ls n).filter (fun q => !(q.1 == i) && (!(q.1 == i + 1) && !(q.1 + 1 == i && q.2.category == 2))))) : LVs X B sh ls' n (stoLK ls i v id) := by
  refine ⟨h'.1, h'.2.1, fun j w hj => ?_⟩
  rcases stoL_lg v ls i j w hj with ⟨rfl, rfl⟩ | ⟨h1, h4, h2, h3⟩
  · exact ⟨h'.2.2 _ List.mem_cons_self, hv⟩
  · refine ⟨h'.2.2 (j, cv X B w) (List.mem_cons_of_mem _ (List.mem_filter.mpr ⟨lvl_mem (lvs_lt h h2) h2, ?_⟩)), (h.2.2 j w h2).2⟩
    show (!(j == i) && (!(j == i + 1) && !(j + 1 == i && (cv X B w).category == 2))) = true
    rw [av_cat hX]
    by_cases z : j + 1 = i
    · simp [h1, h4, h3 z]
    · simp [h1, h4, z]
theorem lvs_pre {X : XT} {B : Nat} {sh sh' : List (Nat × Nat)} {lsC : Array Slot} {n : Nat} {ls : eLS} (hs : ∀ v, okv X sh v → okv X sh' v) (h : LVs X B sh lsC n ls) : LVs X B sh' lsC n ls := ⟨h.1, h.2.1, fun i v hv => ⟨(h.2.2 i v hv).1, hs v (h.2.2 i v hv).2⟩⟩
-- the heap
theorem okv_pre {X : XT} {sh sh' : List (Nat × Nat)} (h : sh <+: sh') (v : AV) (hv : okv X sh v) : okv X sh' v := by
  rcases v with x | x | q
  · trivial
  · trivial
  · cases q with
    | none => trivial
    | some q =>
      show okq X sh' q
      have hv : okq X sh q := hv
      unfold okq at hv ⊢
      split
      · rename_i h1
        rw [if_pos h1] at hv
        obtain ⟨r, rfl⟩ := h
        rw [List.getElem?_append_left (List.getElem?_eq_some_iff.mp hv).1]
        exact hv
      · rename_i h1
        rw [if_neg h1] at hv
        exact hv
theorem okq_pre {X : XT} {sh sh' : List (Nat × Nat)} (h : sh <+: sh') (q : Nat × Nat × Nat) (hv : okq X sh q) : okq X sh' q := okv_pre h (.inr (.inr (some q))) hv
theorem cE_congr {X : XT} {B : Nat} {aC : AC} {mr mr' : MR} {mi mi' : MI} {ml ml' : ML} {a ro n : Nat} (h1 : mr' a = mr a) (h2 : mi' a = mi a) (h3 : ml' a = ml a) : cE X B aC mr' mi' ml' a ro n = cE X B aC mr mi ml a ro n := by
  have e : fv X B mr' mi' ml' a (ro - 10) = fv X B mr mi ml a (ro - 10) := by
    funext k; unfold fv; rw [h1, h2, h3]
  unfold cE; rw [h1, h2, h3, e]
theorem RH.upd {X : XT} {D : va_G} {aC : AC} {B : Nat} {sh : List (Nat × Nat)} {c : Nat} {mr mr' : MR} {mi mi' : MI} {ml ml' : ML} {H H1 : Heap} {a ro n : Nat} (h : RH X D aC B sh c mr mi ml H) (ha : sh[a]? = some (ro, n)) (hro : ro < 20) (h1 : H1.size = H.size) (h2 : ∀ q, q ≠ B + a → H1[q]? = H[q]?) (hb : ∀ b, b ≠ a → mr' b = mr b ∧ mi' b = mi b ∧ ml' b = ml b)
    (hat : va_at D clT (B + a, cE X B aC mr' mi' ml' a ro n) H1) (hmr : ∀ k q, mr' a k = some q → okq X sh q) (h3 : ro = 3 → ∀ i q, mr' a i = some q → q.1 < 100) : RH X D aC B sh c mr' mi' ml' H1 := by
  obtain ⟨r1, r2, r3, r4, r5, r6, r7⟩ := h
  have ha0 : a ≠ 0 := by
    intro z; subst z
    rw [r3] at ha
    cases ha
    omega
  refine ⟨h1.trans r1, r2, r3, fun b ro' n' hb' hro' => ?_, fun b k q hq => ?_, fun b n' i q hb' hq => ?_, fun j hj => ?_⟩
  · by_cases e : b = a
    · subst e
      rw [ha] at hb'
      cases hb'
      exact hat
    · obtain ⟨e1, e2, e3⟩ := hb b e
      rw [cE_congr e1 e2 e3]
      exact (r4 b ro' n' hb' hro').kept (h2 _ (by show B + b ≠ B + a; omega))
  · by_cases e : b = a
    · subst e; exact hmr k q hq
    · rw [(hb b e).1] at hq; exact r5 b k q hq
  · by_cases e : b = a
    · subst e
      rw [ha] at hb'
      cases hb'
      exact h3 rfl i q hq
    · rw [(hb b e).1] at hq; exact r6 b n' i q hb' hq
  · rw [(hb 0 (fun z => ha0 z.symm)).2.1]; exact r7 j hj
theorem RH.new {X : XT} {D : va_G} {aC : AC} {B : Nat} {sh : List (Nat × Nat)} {c : Nat} {mr : MR} {mi : MI} {ml : ML} {H H1 : Heap} {ro n : Nat} (h : RH X D aC B sh c mr mi ml H) (h1 : H1.size = H.size + 1) (h2 : ∀ q, q < H.size → H1[q]? = H[q]?)
    (hat : ro < 20 → va_at D clT (B + c, cE X B aC (z2 mr c none) (z2 mi c 0) (z2 ml c 0) c ro n) H1) : RH X D aC B (sh ++ [(ro, n)]) (c + 1) (z2 mr c none) (z2 mi c 0) (z2 ml c 0) H1 := by
  obtain ⟨r1, r2, r3, r4, r5, r6, r7⟩ := h
  have hp : sh <+: sh ++ [(ro, n)] := List.prefix_append _ _
  have hc0 : 0 < c := by rw [← r2]; exact (List.getElem?_eq_some_iff.mp r3).1
  have key : ∀ b x, (sh ++ [(ro, n)])[b]? = some x → (b ≠ c ∧ sh[b]? = some x) ∨ (b = c ∧ x = (ro, n)) := by
    intro b x hb
    by_cases hl : b < sh.length
    · rw [List.getElem?_append_left hl] at hb
      exact Or.inl ⟨by omega, hb⟩
    · rw [List.getElem?_append_right (by omega)] at hb
      have hz : b - sh.length < 1 := (List.getElem?_eq_some_iff.mp hb).1
      rw [show b - sh.length = 0 by omega] at hb
      exact Or.inr ⟨by omega, (Option.some.inj hb).symm⟩
  have zr : ∀ b, b ≠ c → z2 mr c none b = mr b := fun b hb => if_neg hb
  have zi : ∀ b, b ≠ c → z2 mi c 0 b = mi b := fun b hb => if_neg hb
  have zl : ∀ b, b ≠ c → z2 ml c 0 b = ml b := fun b hb => if_neg hb
  have zc : ∀ k, z2 mr c none c k = none := fun k => by unfold z2; rw [if_pos rfl]
  refine ⟨by rw [h1, r1]; omega, by rw [List.length_append, r2]; rfl, ?_, fun b ro' n' hb hro => ?_, fun b k q hq => ?_, fun b n' i q hb hq => ?_, fun j hj => ?_⟩
  · rw [List.getElem?_append_left (by rw [r2]; exact hc0)]; exact r3
  · rcases key b _ hb with ⟨e, hb⟩ | ⟨e, hx⟩
    · rw [cE_congr (zr b e) (zi b e) (zl b e)]
      have hv := r4 b ro' n' hb hro
      exact hv.kept (h2 _ hv.lt)
    · cases hx; subst e; exact hat hro
  · by_cases e : b = c
    · subst e; rw [zc] at hq; cases hq
    · rw [zr b e] at hq; exact okq_pre hp q (r5 b k q hq)
  · rcases key b _ hb with ⟨e, hb⟩ | ⟨e, hx⟩
    · rw [zr b e] at hq; exact r6 b n' i q hb hq
    · subst e; rw [zc] at hq; cases hq
  · rw [zi 0 (by omega)]; exact r7 j hj
/-- a cell of the heap, by its number -/
theorem RH.cell {X : XT} {D : va_G} {aC : AC} {B : Nat} {sh : List (Nat × Nat)} {c : Nat} {mr : MR} {mi : MI} {ml : ML} {H : Heap} {a ro n : Nat} (h : RH X D aC B sh c mr mi ml H) (hq : okq X sh (ro, n, a)) (hro : ro < 20) : sh[a]? = some (ro, n) ∧ va_P D clT [(B + a, cE X B aC mr mi ml a ro n)] H := by
  have e : sh[a]? = some (ro, n) := by
    have hq : okq X sh (ro, n, a) := hq
    unfold okq at hq
    rw [if_pos (show ro < 100 by omega)] at hq
    exact hq
  refine ⟨e, fun k q hk => ?_⟩
  cases k with
  | zero => cases hk; exact h.2.2.2.1 a ro n e hro
  | succ k => cases hk
theorem cq_in {X : XT} {B ro n a : Nat} (h : ro < 100) : cq X B (ro, n, a) = .ref (B + a) := if_pos h
end
section
/-! ===== one instruction each, over At ===== -/
theorem cq_ref {X : XT} {B : Nat} (hX : X.2.2.2.2.2.2 = .null ∨ ∃ a, X.2.2.2.2.2.2 = .ref a) (q : Nat × Nat × Nat) : (∃ a, cq X B q = .ref a) ∨ cq X B q = .null := by
  unfold cq
  split
  · exact Or.inl ⟨_, rfl⟩
  split
  · exact Or.inl ⟨_, rfl⟩
  split
  · exact Or.inl ⟨_, rfl⟩
  split
  · exact Or.inl ⟨_, rfl⟩
  split
  · exact Or.inl ⟨_, rfl⟩
  rcases hX with h | ⟨a, h⟩
  · exact Or.inr h
  · exact Or.inl ⟨a, h⟩
theorem at_iadd {y pc : Nat} {ls : eLS} {t : List AV} {k s : Nat} {Q : FT} {c : Nat} {mr : MR} {mi : MI} {ml : ML} {u w : Int32} (hd : decode (mCd y) pc = .ok (.iadd, 1))  (K : At y (pc + 1) ls (.inl (u + w) :: t) k s Q c mr mi ml) : At y pc ls (.inl w :: .inl u :: t) k s Q c mr mi ml := by
  intro l p e S m args below meth cd H locs cells slots mc ms lsC X D aC B sh0 sh hfl hC hR hsh hst hL hS hc hs
  exact lv_iadd hC.1 hC.2.1 hd  (K l p e S m args below meth cd H locs cells slots mc ms lsC X D aC B sh0 sh hfl hC hR hsh (cn_ok trivial (tl2_ok hst)) hL hS hc hs)
theorem at_isub {y pc : Nat} {ls : eLS} {t : List AV} {k s : Nat} {Q : FT} {c : Nat} {mr : MR} {mi : MI} {ml : ML} {u w : Int32} (hd : decode (mCd y) pc = .ok (.isub, 1))  (K : At y (pc + 1) ls (.inl (u - w) :: t) k s Q c mr mi ml) : At y pc ls (.inl w :: .inl u :: t) k s Q c mr mi ml := by
  intro l p e S m args below meth cd H locs cells slots mc ms lsC X D aC B sh0 sh hfl hC hR hsh hst hL hS hc hs
  exact lv_isub hC.1 hC.2.1 hd  (K l p e S m args below meth cd H locs cells slots mc ms lsC X D aC B sh0 sh hfl hC hR hsh (cn_ok trivial (tl2_ok hst)) hL hS hc hs)
theorem at_imul {y pc : Nat} {ls : eLS} {t : List AV} {k s : Nat} {Q : FT} {c : Nat} {mr : MR} {mi : MI} {ml : ML} {u w : Int32} (hd : decode (mCd y) pc = .ok (.imul, 1))  (K : At y (pc + 1) ls (.inl (u * w) :: t) k s Q c mr mi ml) : At y pc ls (.inl w :: .inl u :: t) k s Q c mr mi ml := by
  intro l p e S m args below meth cd H locs cells slots mc ms lsC X D aC B sh0 sh hfl hC hR hsh hst hL hS hc hs
  exact lv_imul hC.1 hC.2.1 hd  (K l p e S m args below meth cd H locs cells slots mc ms lsC X D aC B sh0 sh hfl hC hR hsh (cn_ok trivial (tl2_ok hst)) hL hS hc hs)
theorem at_iand {y pc : Nat} {ls : eLS} {t : List AV} {k s : Nat} {Q : FT} {c : Nat} {mr : MR} {mi : MI} {ml : ML} {u w : Int32} (hd : decode (mCd y) pc = .ok (.iand, 1))  (K : At y (pc + 1) ls (.inl (u &&& w) :: t) k s Q c mr mi ml) : At y pc ls (.inl w :: .inl u :: t) k s Q c mr mi ml := by
  intro l p e S m args below meth cd H locs cells slots mc ms lsC X D aC B sh0 sh hfl hC hR hsh hst hL hS hc hs
  exact lv_iand hC.1 hC.2.1 hd  (K l p e S m args below meth cd H locs cells slots mc ms lsC X D aC B sh0 sh hfl hC hR hsh (cn_ok trivial (tl2_ok hst)) hL hS hc hs)
theorem at_ior {y pc : Nat} {ls : eLS} {t : List AV} {k s : Nat} {Q : FT} {c : Nat} {mr : MR} {mi : MI} {ml : ML} {u w : Int32} (hd : decode (mCd y) pc = .ok (.ior, 1))  (K : At y (pc + 1) ls (.inl (u ||| w) :: t) k s Q c mr mi ml) : At y pc ls (.inl w :: .inl u :: t) k s Q c mr mi ml := by
  intro l p e S m args below meth cd H locs cells slots mc ms lsC X D aC B sh0 sh hfl hC hR hsh hst hL hS hc hs
  exact lv_ior hC.1 hC.2.1 hd  (K l p e S m args below meth cd H locs cells slots mc ms lsC X D aC B sh0 sh hfl hC hR hsh (cn_ok trivial (tl2_ok hst)) hL hS hc hs)
theorem at_ixor {y pc : Nat} {ls : eLS} {t : List AV} {k s : Nat} {Q : FT} {c : Nat} {mr : MR} {mi : MI} {ml : ML} {u w : Int32} (hd : decode (mCd y) pc = .ok (.ixor, 1))  (K : At y (pc + 1) ls (.inl (u ^^^ w) :: t) k s Q c mr mi ml) : At y pc ls (.inl w :: .inl u :: t) k s Q c mr mi ml := by
  intro l p e S m args below meth cd H locs cells slots mc ms lsC X D aC B sh0 sh hfl hC hR hsh hst hL hS hc hs
  exact lv_ixor hC.1 hC.2.1 hd  (K l p e S m args below meth cd H locs cells slots mc ms lsC X D aC B sh0 sh hfl hC hR hsh (cn_ok trivial (tl2_ok hst)) hL hS hc hs)
theorem at_ishl {y pc : Nat} {ls : eLS} {t : List AV} {k s : Nat} {Q : FT} {c : Nat} {mr : MR} {mi : MI} {ml : ML} {u w : Int32} (hd : decode (mCd y) pc = .ok (.ishl, 1))  (K : At y (pc + 1) ls (.inl (u <<< (w &&& 31)) :: t) k s Q c mr mi ml) : At y pc ls (.inl w :: .inl u :: t) k s Q c mr mi ml := by
  intro l p e S m args below meth cd H locs cells slots mc ms lsC X D aC B sh0 sh hfl hC hR hsh hst hL hS hc hs
  exact lv_ishl hC.1 hC.2.1 hd  (K l p e S m args below meth cd H locs cells slots mc ms lsC X D aC B sh0 sh hfl hC hR hsh (cn_ok trivial (tl2_ok hst)) hL hS hc hs)
theorem at_ishr {y pc : Nat} {ls : eLS} {t : List AV} {k s : Nat} {Q : FT} {c : Nat} {mr : MR} {mi : MI} {ml : ML} {u w : Int32} (hd : decode (mCd y) pc = .ok (.ishr, 1))  (K : At y (pc + 1) ls (.inl (u >>> (w &&& 31)) :: t) k s Q c mr mi ml) : At y pc ls (.inl w :: .inl u :: t) k s Q c mr mi ml := by
  intro l p e S m args below meth cd H locs cells slots mc ms lsC X D aC B sh0 sh hfl hC hR hsh hst hL hS hc hs
  exact lv_ishr hC.1 hC.2.1 hd  (K l p e S m args below meth cd H locs cells slots mc ms lsC X D aC B sh0 sh hfl hC hR hsh (cn_ok trivial (tl2_ok hst)) hL hS hc hs)
theorem at_idiv {y pc : Nat} {ls : eLS} {t : List AV} {k s : Nat} {Q : FT} {c : Nat} {mr : MR} {mi : MI} {ml : ML} {u w : Int32} (hd : decode (mCd y) pc = .ok (.idiv, 1)) (hne : ¬ w = 0) (K : At y (pc + 1) ls (.inl (u / w) :: t) k s Q c mr mi ml) : At y pc ls (.inl w :: .inl u :: t) k s Q c mr mi ml := by
  intro l p e S m args below meth cd H locs cells slots mc ms lsC X D aC B sh0 sh hfl hC hR hsh hst hL hS hc hs
  exact lv_idiv hC.1 hC.2.1 hd hne (K l p e S m args below meth cd H locs cells slots mc ms lsC X D aC B sh0 sh hfl hC hR hsh (cn_ok trivial (tl2_ok hst)) hL hS hc hs)
theorem at_irem {y pc : Nat} {ls : eLS} {t : List AV} {k s : Nat} {Q : FT} {c : Nat} {mr : MR} {mi : MI} {ml : ML} {u w : Int32} (hd : decode (mCd y) pc = .ok (.irem, 1)) (hne : ¬ w = 0) (K : At y (pc + 1) ls (.inl (u - u / w * w) :: t) k s Q c mr mi ml) : At y pc ls (.inl w :: .inl u :: t) k s Q c mr mi ml := by
  intro l p e S m args below meth cd H locs cells slots mc ms lsC X D aC B sh0 sh hfl hC hR hsh hst hL hS hc hs
  exact lv_irem hC.1 hC.2.1 hd hne (K l p e S m args below meth cd H locs cells slots mc ms lsC X D aC B sh0 sh hfl hC hR hsh (cn_ok trivial (tl2_ok hst)) hL hS hc hs)
theorem at_iushr {y pc : Nat} {ls : eLS} {t : List AV} {k s : Nat} {Q : FT} {c : Nat} {mr : MR} {mi : MI} {ml : ML} {u w : Int32} (hd : decode (mCd y) pc = .ok (.iushr, 1))  (K : At y (pc + 1) ls (.inl ((u.toUInt32 >>> (w.toUInt32 &&& Int32.toUInt32 31)).toInt32) :: t) k s Q c mr mi ml) : At y pc ls (.inl w :: .inl u :: t) k s Q c mr mi ml := by
  intro l p e S m args below meth cd H locs cells slots mc ms lsC X D aC B sh0 sh hfl hC hR hsh hst hL hS hc hs
  exact lv_iushr hC.1 hC.2.1 hd rfl (K l p e S m args below meth cd H locs cells slots mc ms lsC X D aC B sh0 sh hfl hC hR hsh (cn_ok trivial (tl2_ok hst)) hL hS hc hs)
theorem at_ineg {y pc : Nat} {ls : eLS} {t : List AV} {k s : Nat} {Q : FT} {c : Nat} {mr : MR} {mi : MI} {ml : ML} {u : Int32} (hd : decode (mCd y) pc = .ok (.ineg, 1))  (K : At y (pc + 1) ls (.inl (-u) :: t) k s Q c mr mi ml) : At y pc ls (.inl u :: t) k s Q c mr mi ml := by
  intro l p e S m args below meth cd H locs cells slots mc ms lsC X D aC B sh0 sh hfl hC hR hsh hst hL hS hc hs
  exact lv_ineg hC.1 hC.2.1 hd  (K l p e S m args below meth cd H locs cells slots mc ms lsC X D aC B sh0 sh hfl hC hR hsh (cn_ok trivial (tl_ok hst)) hL hS hc hs)
theorem at_ladd {y pc : Nat} {ls : eLS} {t : List AV} {k s : Nat} {Q : FT} {c : Nat} {mr : MR} {mi : MI} {ml : ML} {u w : Int64} (hd : decode (mCd y) pc = .ok (.ladd, 1))  (K : At y (pc + 1) ls (.inr (.inl (u + w)) :: t) k s Q c mr mi ml) : At y pc ls (.inr (.inl w) :: .inr (.inl u) :: t) k s Q c mr mi ml := by
  intro l p e S m args below meth cd H locs cells slots mc ms lsC X D aC B sh0 sh hfl hC hR hsh hst hL hS hc hs
  exact lv_ladd hC.1 hC.2.1 hd  (K l p e S m args below meth cd H locs cells slots mc ms lsC X D aC B sh0 sh hfl hC hR hsh (cn_ok trivial (tl2_ok hst)) hL hS hc hs)
theorem at_lsub {y pc : Nat} {ls : eLS} {t : List AV} {k s : Nat} {Q : FT} {c : Nat} {mr : MR} {mi : MI} {ml : ML} {u w : Int64} (hd : decode (mCd y) pc = .ok (.lsub, 1))  (K : At y (pc + 1) ls (.inr (.inl (u - w)) :: t) k s Q c mr mi ml) : At y pc ls (.inr (.inl w) :: .inr (.inl u) :: t) k s Q c mr mi ml := by
  intro l p e S m args below meth cd H locs cells slots mc ms lsC X D aC B sh0 sh hfl hC hR hsh hst hL hS hc hs
  exact lv_lsub hC.1 hC.2.1 hd  (K l p e S m args below meth cd H locs cells slots mc ms lsC X D aC B sh0 sh hfl hC hR hsh (cn_ok trivial (tl2_ok hst)) hL hS hc hs)
theorem at_lmul {y pc : Nat} {ls : eLS} {t : List AV} {k s : Nat} {Q : FT} {c : Nat} {mr : MR} {mi : MI} {ml : ML} {u w : Int64} (hd : decode (mCd y) pc = .ok (.lmul, 1))  (K : At y (pc + 1) ls (.inr (.inl (u * w)) :: t) k s Q c mr mi ml) : At y pc ls (.inr (.inl w) :: .inr (.inl u) :: t) k s Q c mr mi ml := by
  intro l p e S m args below meth cd H locs cells slots mc ms lsC X D aC B sh0 sh hfl hC hR hsh hst hL hS hc hs
  exact lv_lmul hC.1 hC.2.1 hd  (K l p e S m args below meth cd H locs cells slots mc ms lsC X D aC B sh0 sh hfl hC hR hsh (cn_ok trivial (tl2_ok hst)) hL hS hc hs)
theorem at_lor {y pc : Nat} {ls : eLS} {t : List AV} {k s : Nat} {Q : FT} {c : Nat} {mr : MR} {mi : MI} {ml : ML} {u w : Int64} (hd : decode (mCd y) pc = .ok (.lor, 1))  (K : At y (pc + 1) ls (.inr (.inl (u ||| w)) :: t) k s Q c mr mi ml) : At y pc ls (.inr (.inl w) :: .inr (.inl u) :: t) k s Q c mr mi ml := by
  intro l p e S m args below meth cd H locs cells slots mc ms lsC X D aC B sh0 sh hfl hC hR hsh hst hL hS hc hs
  exact lv_lor hC.1 hC.2.1 hd  (K l p e S m args below meth cd H locs cells slots mc ms lsC X D aC B sh0 sh hfl hC hR hsh (cn_ok trivial (tl2_ok hst)) hL hS hc hs)
theorem at_ldiv {y pc : Nat} {ls : eLS} {t : List AV} {k s : Nat} {Q : FT} {c : Nat} {mr : MR} {mi : MI} {ml : ML} {u w : Int64} (hd : decode (mCd y) pc = .ok (.ldiv, 1)) (hne : ¬ w = 0) (K : At y (pc + 1) ls (.inr (.inl (u / w)) :: t) k s Q c mr mi ml) : At y pc ls (.inr (.inl w) :: .inr (.inl u) :: t) k s Q c mr mi ml := by
  intro l p e S m args below meth cd H locs cells slots mc ms lsC X D aC B sh0 sh hfl hC hR hsh hst hL hS hc hs
  exact lv_ldiv hC.1 hC.2.1 hd hne (K l p e S m args below meth cd H locs cells slots mc ms lsC X D aC B sh0 sh hfl hC hR hsh (cn_ok trivial (tl2_ok hst)) hL hS hc hs)
theorem at_lrem {y pc : Nat} {ls : eLS} {t : List AV} {k s : Nat} {Q : FT} {c : Nat} {mr : MR} {mi : MI} {ml : ML} {u w : Int64} (hd : decode (mCd y) pc = .ok (.lrem, 1)) (hne : ¬ w = 0) (K : At y (pc + 1) ls (.inr (.inl (u - u / w * w)) :: t) k s Q c mr mi ml) : At y pc ls (.inr (.inl w) :: .inr (.inl u) :: t) k s Q c mr mi ml := by
  intro l p e S m args below meth cd H locs cells slots mc ms lsC X D aC B sh0 sh hfl hC hR hsh hst hL hS hc hs
  exact lv_lrem hC.1 hC.2.1 hd hne (K l p e S m args below meth cd H locs cells slots mc ms lsC X D aC B sh0 sh hfl hC hR hsh (cn_ok trivial (tl2_ok hst)) hL hS hc hs)
theorem at_lneg {y pc : Nat} {ls : eLS} {t : List AV} {k s : Nat} {Q : FT} {c : Nat} {mr : MR} {mi : MI} {ml : ML} {u : Int64} (hd : decode (mCd y) pc = .ok (.lneg, 1))  (K : At y (pc + 1) ls (.inr (.inl (-u)) :: t) k s Q c mr mi ml) : At y pc ls (.inr (.inl u) :: t) k s Q c mr mi ml := by
  intro l p e S m args below meth cd H locs cells slots mc ms lsC X D aC B sh0 sh hfl hC hR hsh hst hL hS hc hs
  exact lv_lneg hC.1 hC.2.1 hd  (K l p e S m args below meth cd H locs cells slots mc ms lsC X D aC B sh0 sh hfl hC hR hsh (cn_ok trivial (tl_ok hst)) hL hS hc hs)
theorem at_lshl {y pc : Nat} {ls : eLS} {t : List AV} {k s : Nat} {Q : FT} {c : Nat} {mr : MR} {mi : MI} {ml : ML} {u : Int64} {w : Int32} (hd : decode (mCd y) pc = .ok (.lshl, 1))  (K : At y (pc + 1) ls (.inr (.inl (u <<< (w.toInt64 &&& 63))) :: t) k s Q c mr mi ml) : At y pc ls (.inl w :: .inr (.inl u) :: t) k s Q c mr mi ml := by
  intro l p e S m args below meth cd H locs cells slots mc ms lsC X D aC B sh0 sh hfl hC hR hsh hst hL hS hc hs
  exact lv_lshl hC.1 hC.2.1 hd rfl (K l p e S m args below meth cd H locs cells slots mc ms lsC X D aC B sh0 sh hfl hC hR hsh (cn_ok trivial (tl2_ok hst)) hL hS hc hs)
theorem at_i2l {y pc : Nat} {ls : eLS} {t : List AV} {k s : Nat} {Q : FT} {c : Nat} {mr : MR} {mi : MI} {ml : ML} {u : Int32} (hd : decode (mCd y) pc = .ok (.i2l, 1))  (K : At y (pc + 1) ls (.inr (.inl (u.toInt64)) :: t) k s Q c mr mi ml) : At y pc ls (.inl u :: t) k s Q c mr mi ml := by
  intro l p e S m args below meth cd H locs cells slots mc ms lsC X D aC B sh0 sh hfl hC hR hsh hst hL hS hc hs
  exact lv_i2l hC.1 hC.2.1 hd rfl (K l p e S m args below meth cd H locs cells slots mc ms lsC X D aC B sh0 sh hfl hC hR hsh (cn_ok trivial (tl_ok hst)) hL hS hc hs)
theorem at_l2i {y pc : Nat} {ls : eLS} {t : List AV} {k s : Nat} {Q : FT} {c : Nat} {mr : MR} {mi : MI} {ml : ML} {u : Int64} (hd : decode (mCd y) pc = .ok (.l2i, 1))  (K : At y (pc + 1) ls (.inl (u.toInt32) :: t) k s Q c mr mi ml) : At y pc ls (.inr (.inl u) :: t) k s Q c mr mi ml := by
  intro l p e S m args below meth cd H locs cells slots mc ms lsC X D aC B sh0 sh hfl hC hR hsh hst hL hS hc hs
  exact lv_l2i hC.1 hC.2.1 hd rfl (K l p e S m args below meth cd H locs cells slots mc ms lsC X D aC B sh0 sh hfl hC hR hsh (cn_ok trivial (tl_ok hst)) hL hS hc hs)
theorem at_i2b {y pc : Nat} {ls : eLS} {t : List AV} {k s : Nat} {Q : FT} {c : Nat} {mr : MR} {mi : MI} {ml : ML} {u : Int32} (hd : decode (mCd y) pc = .ok (.i2b, 1))  (K : At y (pc + 1) ls (.inl (u.toInt8.toInt32) :: t) k s Q c mr mi ml) : At y pc ls (.inl u :: t) k s Q c mr mi ml := by
  intro l p e S m args below meth cd H locs cells slots mc ms lsC X D aC B sh0 sh hfl hC hR hsh hst hL hS hc hs
  exact lv_i2b hC.1 hC.2.1 hd rfl (K l p e S m args below meth cd H locs cells slots mc ms lsC X D aC B sh0 sh hfl hC hR hsh (cn_ok trivial (tl_ok hst)) hL hS hc hs)
theorem at_i2c {y pc : Nat} {ls : eLS} {t : List AV} {k s : Nat} {Q : FT} {c : Nat} {mr : MR} {mi : MI} {ml : ML} {u : Int32} (hd : decode (mCd y) pc = .ok (.i2c, 1))  (K : At y (pc + 1) ls (.inl ((u.toUInt32 % 65536).toInt32) :: t) k s Q c mr mi ml) : At y pc ls (.inl u :: t) k s Q c mr mi ml := by
  intro l p e S m args below meth cd H locs cells slots mc ms lsC X D aC B sh0 sh hfl hC hR hsh hst hL hS hc hs
  exact lv_i2c hC.1 hC.2.1 hd rfl (K l p e S m args below meth cd H locs cells slots mc ms lsC X D aC B sh0 sh hfl hC hR hsh (cn_ok trivial (tl_ok hst)) hL hS hc hs)
theorem at_lcmp {y pc : Nat} {ls : eLS} {t : List AV} {k s : Nat} {Q : FT} {c : Nat} {mr : MR} {mi : MI} {ml : ML} {u w : Int64} (hd : decode (mCd y) pc = .ok (.lcmp, 1))  (K : At y (pc + 1) ls (.inl (lg_cmp u w) :: t) k s Q c mr mi ml) : At y pc ls (.inr (.inl w) :: .inr (.inl u) :: t) k s Q c mr mi ml := by
  intro l p e S m args below meth cd H locs cells slots mc ms lsC X D aC B sh0 sh hfl hC hR hsh hst hL hS hc hs
  exact W.lcmp hC.1 hC.2.1 hd  (K l p e S m args below meth cd H locs cells slots mc ms lsC X D aC B sh0 sh hfl hC hR hsh (cn_ok trivial (tl2_ok hst)) hL hS hc hs)
theorem at_iconst {y pc : Nat} {ls : eLS} {t : List AV} {k s : Nat} {Q : FT} {c : Nat} {mr : MR} {mi : MI} {ml : ML} {n : Int} {w : Int32} (hd : decode (mCd y) pc = .ok (.iconst n, 1)) (hv : Int32.ofInt n = w) (K : At y (pc + 1) ls (.inl (w) :: t) k s Q c mr mi ml) : At y pc ls (t) k s Q c mr mi ml := by
  intro l p e S m args below meth cd H locs cells slots mc ms lsC X D aC B sh0 sh hfl hC hR hsh hst hL hS hc hs
  exact lv_iconst hC.1 hC.2.1 hd hv (K l p e S m args below meth cd H locs cells slots mc ms lsC X D aC B sh0 sh hfl hC hR hsh (cn_ok trivial hst) hL hS hc hs)
theorem at_bipush {y pc : Nat} {ls : eLS} {t : List AV} {k s : Nat} {Q : FT} {c : Nat} {mr : MR} {mi : MI} {ml : ML} {n : Int} {w : Int32} (hd : decode (mCd y) pc = .ok (.bipush n, 2)) (hv : (Int8.ofInt n).toInt32 = w) (K : At y (pc + 2) ls (.inl (w) :: t) k s Q c mr mi ml) : At y pc ls (t) k s Q c mr mi ml := by
  intro l p e S m args below meth cd H locs cells slots mc ms lsC X D aC B sh0 sh hfl hC hR hsh hst hL hS hc hs
  exact lv_bipush hC.1 hC.2.1 hd hv (K l p e S m args below meth cd H locs cells slots mc ms lsC X D aC B sh0 sh hfl hC hR hsh (cn_ok trivial hst) hL hS hc hs)
theorem at_sipush {y pc : Nat} {ls : eLS} {t : List AV} {k s : Nat} {Q : FT} {c : Nat} {mr : MR} {mi : MI} {ml : ML} {n : Int} {w : Int32} (hd : decode (mCd y) pc = .ok (.sipush n, 3)) (hv : (Int16.ofInt n).toInt32 = w) (K : At y (pc + 3) ls (.inl (w) :: t) k s Q c mr mi ml) : At y pc ls (t) k s Q c mr mi ml := by
  intro l p e S m args below meth cd H locs cells slots mc ms lsC X D aC B sh0 sh hfl hC hR hsh hst hL hS hc hs
  exact lv_sipush hC.1 hC.2.1 hd hv (K l p e S m args below meth cd H locs cells slots mc ms lsC X D aC B sh0 sh hfl hC hR hsh (cn_ok trivial hst) hL hS hc hs)
theorem at_lconst {y pc : Nat} {ls : eLS} {t : List AV} {k s : Nat} {Q : FT} {c : Nat} {mr : MR} {mi : MI} {ml : ML} {n : Fin 2} {w : Int64} (hd : decode (mCd y) pc = .ok (.lconst n, 1)) (hv : Int64.ofNat (n : Nat) = w) (K : At y (pc + 1) ls (.inr (.inl (w)) :: t) k s Q c mr mi ml) : At y pc ls (t) k s Q c mr mi ml := by
  intro l p e S m args below meth cd H locs cells slots mc ms lsC X D aC B sh0 sh hfl hC hR hsh hst hL hS hc hs
  exact lv_lconst hC.1 hC.2.1 hd hv (K l p e S m args below meth cd H locs cells slots mc ms lsC X D aC B sh0 sh hfl hC hR hsh (cn_ok trivial hst) hL hS hc hs)
theorem at_iload {y pc : Nat} {ls : eLS} {t : List AV} {k s : Nat} {Q : FT} {c : Nat} {mr : MR} {mi : MI} {ml : ML} {i : Nat} {x : Int32} (hd : decode (mCd y) pc = .ok (.iload i, 2)) (hl : lg ls i = some (.inl x)) (K : At y (pc + 2) ls (.inl (x) :: t) k s Q c mr mi ml) : At y pc ls (t) k s Q c mr mi ml := by
  intro l p e S m args below meth cd H locs cells slots mc ms lsC X D aC B sh0 sh hfl hC hR hsh hst hL hS hc hs
  exact lv_iload hC.1 hC.2.1 hd (hL.2.2 i _ hl).1 (K l p e S m args below meth cd H locs cells slots mc ms lsC X D aC B sh0 sh hfl hC hR hsh (cn_ok trivial hst) hL hS hc hs)
theorem at_iload_n {y pc : Nat} {ls : eLS} {t : List AV} {k s : Nat} {Q : FT} {c : Nat} {mr : MR} {mi : MI} {ml : ML} {i : Fin 4} {x : Int32} (hd : decode (mCd y) pc = .ok (.iload_n i, 1)) (hl : lg ls i.val = some (.inl x)) (K : At y (pc + 1) ls (.inl (x) :: t) k s Q c mr mi ml) : At y pc ls (t) k s Q c mr mi ml := by
  intro l p e S m args below meth cd H locs cells slots mc ms lsC X D aC B sh0 sh hfl hC hR hsh hst hL hS hc hs
  exact lv_iload_n hC.1 hC.2.1 hd rfl (hL.2.2 i.val _ hl).1 (K l p e S m args below meth cd H locs cells slots mc ms lsC X D aC B sh0 sh hfl hC hR hsh (cn_ok trivial hst) hL hS hc hs)
theorem at_lload {y pc : Nat} {ls : eLS} {t : List AV} {k s : Nat} {Q : FT} {c : Nat} {mr : MR} {mi : MI} {ml : ML} {i : Nat} {x : Int64} (hd : decode (mCd y) pc = .ok (.lload i, 2)) (hl : lg ls i = some (.inr (.inl x))) (K : At y (pc + 2) ls (.inr (.inl (x)) :: t) k s Q c mr mi ml) : At y pc ls (t) k s Q c mr mi ml := by
  intro l p e S m args below meth cd H locs cells slots mc ms lsC X D aC B sh0 sh hfl hC hR hsh hst hL hS hc hs
  exact lv_lload hC.1 hC.2.1 hd (hL.2.2 i _ hl).1 (K l p e S m args below meth cd H locs cells slots mc ms lsC X D aC B sh0 sh hfl hC hR hsh (cn_ok trivial hst) hL hS hc hs)
theorem at_lload_n {y pc : Nat} {ls : eLS} {t : List AV} {k s : Nat} {Q : FT} {c : Nat} {mr : MR} {mi : MI} {ml : ML} {i : Fin 4} {x : Int64} (hd : decode (mCd y) pc = .ok (.lload_n i, 1)) (hl : lg ls i.val = some (.inr (.inl x))) (K : At y (pc + 1) ls (.inr (.inl (x)) :: t) k s Q c mr mi ml) : At y pc ls (t) k s Q c mr mi ml := by
  intro l p e S m args below meth cd H locs cells slots mc ms lsC X D aC B sh0 sh hfl hC hR hsh hst hL hS hc hs
  exact lv_lload_n hC.1 hC.2.1 hd rfl (hL.2.2 i.val _ hl).1 (K l p e S m args below meth cd H locs cells slots mc ms lsC X D aC B sh0 sh hfl hC hR hsh (cn_ok trivial hst) hL hS hc hs)
theorem at_ldc {y pc : Nat} {ls : eLS} {t : List AV} {k s : Nat} {Q : FT} {c : Nat} {mr : MR} {mi : MI} {ml : ML} {n : Nat} {w : Int32} (hd : decode (mCd y) pc = .ok (.ldc n, 2)) (hw : Cond.constant (mNm y).cls n w ∈ WT) (K : At y (pc + 2) ls (.inl w :: t) k s Q c mr mi ml) : At y pc ls t k s Q c mr mi ml := by
  intro l p e S m args below meth cd H locs cells slots mc ms lsC X D aC B sh0 sh hfl hC hR hsh hst hL hS hc hs
  exact lv_ldc hC.1 hC.2.1 hC.own (hC.wds _ hw) hd (K l p e S m args below meth cd H locs cells slots mc ms lsC X D aC B sh0 sh hfl hC hR hsh (cn_ok trivial hst) hL hS hc hs)
theorem at_ldc_w {y pc : Nat} {ls : eLS} {t : List AV} {k s : Nat} {Q : FT} {c : Nat} {mr : MR} {mi : MI} {ml : ML} {n : Nat} {w : Int32} (hd : decode (mCd y) pc = .ok (.ldc_w n, 3)) (hw : Cond.constant (mNm y).cls n w ∈ WT) (K : At y (pc + 3) ls (.inl w :: t) k s Q c mr mi ml) : At y pc ls t k s Q c mr mi ml := by
  intro l p e S m args below meth cd H locs cells slots mc ms lsC X D aC B sh0 sh hfl hC hR hsh hst hL hS hc hs
  exact lv_ldcw hC.1 hC.2.1 hC.own (hC.wds _ hw) hd (K l p e S m args below meth cd H locs cells slots mc ms lsC X D aC B sh0 sh hfl hC hR hsh (cn_ok trivial hst) hL hS hc hs)
theorem at_ldc2 {y pc : Nat} {ls : eLS} {t : List AV} {k s : Nat} {Q : FT} {c : Nat} {mr : MR} {mi : MI} {ml : ML} {n : Nat} {w : Int64} (hd : decode (mCd y) pc = .ok (.ldc2_w n, 3)) (hw : Cond.constantLong (mNm y).cls n w ∈ WT) (K : At y (pc + 3) ls (.inr (.inl w) :: t) k s Q c mr mi ml) : At y pc ls t k s Q c mr mi ml := by
  intro l p e S m args below meth cd H locs cells slots mc ms lsC X D aC B sh0 sh hfl hC hR hsh hst hL hS hc hs
  exact lv_ldc2 hC.1 hC.2.1 hC.own (hC.wds _ hw) hd (K l p e S m args below meth cd H locs cells slots mc ms lsC X D aC B sh0 sh hfl hC hR hsh (cn_ok trivial hst) hL hS hc hs)
theorem at_ldcS {y pc : Nat} {ls : eLS} {t : List AV} {k s : Nat} {Q : FT} {c : Nat} {mr : MR} {mi : MI} {ml : ML} {n i : Nat} {tx : String} (hd : decode (mCd y) pc = .ok (.ldc n, 2)) (hw : ((mNm y).cls, n, tx, i) ∈ ldT) (hi : i < nStr) (K : At y (pc + 2) ls (.inr (.inr (some (100, 0, i))) :: t) k s Q c mr mi ml) : At y pc ls t k s Q c mr mi ml := by
  intro l p e S m args below meth cd H locs cells slots mc ms lsC X D aC B sh0 sh hfl hC hR hsh hst hL hS hc hs
  exact va_ldcS hC.1 hC.2.1 hC.own (hC.ext.lds _ hw) hd (K l p e S m args below meth cd H locs cells slots mc ms lsC X D aC B sh0 sh hfl hC hR hsh (cn_ok (show okq X sh (100, 0, i) from hi) hst) hL hS hc hs)
theorem at_aload {y pc : Nat} {ls : eLS} {t : List AV} {k s : Nat} {Q : FT} {c : Nat} {mr : MR} {mi : MI} {ml : ML} {i : Nat} {q : Nat × Nat × Nat} (hd : decode (mCd y) pc = .ok (.aload i, 2)) (hl : lg ls i = some (.inr (.inr (some q)))) (K : At y (pc + 2) ls (.inr (.inr (some q)) :: t) k s Q c mr mi ml) : At y pc ls t k s Q c mr mi ml := by
  intro l p e S m args below meth cd H locs cells slots mc ms lsC X D aC B sh0 sh hfl hC hR hsh hst hL hS hc hs
  obtain ⟨h1, h2⟩ := hL.2.2 i _ hl
  have K2 := K l p e S m args below meth cd H locs cells slots mc ms lsC X D aC B sh0 sh hfl hC hR hsh (cn_ok h2 hst) hL hS hc hs
  have hX := hC.ext.fm
  rcases cq_ref hX q with ⟨a, ee⟩ | ee
  · have h1 : lsC[i]? = some (.val (.ref a)) := by rw [h1]; exact congrArg (fun v => some (Slot.val v)) ee
    have K2 : W p l e (rmm y mc ms) S m args below meth cd H locs cells slots _ (F0 m (pc + 2) lsC (cq X B q :: t.map (cv X B))) := K2
    rw [ee] at K2
    exact lv_aload hC.1 hC.2.1 hd h1 K2
  · have h1 : lsC[i]? = some (.val .null) := by rw [h1]; exact congrArg (fun v => some (Slot.val v)) ee
    have K2 : W p l e (rmm y mc ms) S m args below meth cd H locs cells slots _ (F0 m (pc + 2) lsC (cq X B q :: t.map (cv X B))) := K2
    rw [ee] at K2
    exact lv_aloadN hC.1 hC.2.1 hd h1 K2
theorem at_aload_n {y pc : Nat} {ls : eLS} {t : List AV} {k s : Nat} {Q : FT} {c : Nat} {mr : MR} {mi : MI} {ml : ML} {i : Fin 4} {q : Nat × Nat × Nat} (hd : decode (mCd y) pc = .ok (.aload_n i, 1)) (hl : lg ls i.val = some (.inr (.inr (some q)))) (K : At y (pc + 1) ls (.inr (.inr (some q)) :: t) k s Q c mr mi ml) : At y pc ls t k s Q c mr mi ml := by
  intro l p e S m args below meth cd H locs cells slots mc ms lsC X D aC B sh0 sh hfl hC hR hsh hst hL hS hc hs
  obtain ⟨h1, h2⟩ := hL.2.2 i.val _ hl
  have K2 := K l p e S m args below meth cd H locs cells slots mc ms lsC X D aC B sh0 sh hfl hC hR hsh (cn_ok h2 hst) hL hS hc hs
  have hX := hC.ext.fm
  rcases cq_ref hX q with ⟨a, ee⟩ | ee
  · have h1 : lsC[i.val]? = some (.val (.ref a)) := by rw [h1]; exact congrArg (fun v => some (Slot.val v)) ee
    have K2 : W p l e (rmm y mc ms) S m args below meth cd H locs cells slots _ (F0 m (pc + 1) lsC (cq X B q :: t.map (cv X B))) := K2
    rw [ee] at K2
    exact lv_aload_n hC.1 hC.2.1 hd rfl h1 K2
  · have h1 : lsC[i.val]? = some (.val .null) := by rw [h1]; exact congrArg (fun v => some (Slot.val v)) ee
    have K2 : W p l e (rmm y mc ms) S m args below meth cd H locs cells slots _ (F0 m (pc + 1) lsC (cq X B q :: t.map (cv X B))) := K2
    rw [ee] at K2
    exact lv_aload_nN hC.1 hC.2.1 hd rfl h1 K2
theorem at_istore {y pc : Nat} {ls : eLS} {t : List AV} {k s : Nat} {Q : FT} {c : Nat} {mr : MR} {mi : MI} {ml : ML} {i : Nat} {x : Int32} (hd : decode (mCd y) pc = .ok (.istore i, 2)) (hi : i < mMx y) (K : At y (pc + 2) (stoK ls i (.inl x) id) t k s Q c mr mi ml) : At y pc ls (.inl x :: t) k s Q c mr mi ml := by
  intro l p e S m args below meth cd H locs cells slots mc ms lsC X D aC B sh0 sh hfl hC hR hsh hst hL hS hc hs
  refine lv_istore hC.1 hC.2.1 hd (lvl_has hL) hi rfl (fun ls1 h1 => ?_)
  exact K l p e S m args below meth cd H locs cells slots mc ms ls1 X D aC B sh0 sh hfl hC hR hsh (tl_ok hst) (lvs_sto hC.ext.fm hL i (v := .inl x) trivial h1) hS hc hs
theorem at_istore_n {y pc : Nat} {ls : eLS} {t : List AV} {k s : Nat} {Q : FT} {c : Nat} {mr : MR} {mi : MI} {ml : ML} {i : Fin 4} {x : Int32} (hd : decode (mCd y) pc = .ok (.istore_n i, 1)) (hi : i.val < mMx y) (K : At y (pc + 1) (stoK ls i.val (.inl x) id) t k s Q c mr mi ml) : At y pc ls (.inl x :: t) k s Q c mr mi ml := by
  intro l p e S m args below meth cd H locs cells slots mc ms lsC X D aC B sh0 sh hfl hC hR hsh hst hL hS hc hs
  refine lv_istore_n hC.1 hC.2.1 hd rfl (lvl_has hL) hi rfl (fun ls1 h1 => ?_)
  exact K l p e S m args below meth cd H locs cells slots mc ms ls1 X D aC B sh0 sh hfl hC hR hsh (tl_ok hst) (lvs_sto hC.ext.fm hL i.val (v := .inl x) trivial h1) hS hc hs
theorem at_lstore {y pc : Nat} {ls : eLS} {t : List AV} {k s : Nat} {Q : FT} {c : Nat} {mr : MR} {mi : MI} {ml : ML} {i : Nat} {x : Int64} (hd : decode (mCd y) pc = .ok (.lstore i, 2)) (hi : i + 1 < mMx y) (K : At y (pc + 2) (stoLK ls i (.inr (.inl x)) id) t k s Q c mr mi ml) : At y pc ls (.inr (.inl x) :: t) k s Q c mr mi ml := by
  intro l p e S m args below meth cd H locs cells slots mc ms lsC X D aC B sh0 sh hfl hC hR hsh hst hL hS hc hs
  refine lv_lstore hC.1 hC.2.1 hd (lvl_has hL) hi rfl (fun ls1 h1 => ?_)
  exact K l p e S m args below meth cd H locs cells slots mc ms ls1 X D aC B sh0 sh hfl hC hR hsh (tl_ok hst) (lvs_stoL hC.ext.fm hL i (v := .inr (.inl x)) trivial h1) hS hc hs
theorem at_lstore_n {y pc : Nat} {ls : eLS} {t : List AV} {k s : Nat} {Q : FT} {c : Nat} {mr : MR} {mi : MI} {ml : ML} {i : Fin 4} {x : Int64} (hd : decode (mCd y) pc = .ok (.lstore_n i, 1)) (hi : i.val + 1 < mMx y) (K : At y (pc + 1) (stoLK ls i.val (.inr (.inl x)) id) t k s Q c mr mi ml) : At y pc ls (.inr (.inl x) :: t) k s Q c mr mi ml := by
  intro l p e S m args below meth cd H locs cells slots mc ms lsC X D aC B sh0 sh hfl hC hR hsh hst hL hS hc hs
  refine lv_lstore_n hC.1 hC.2.1 hd rfl (lvl_has hL) hi rfl (fun ls1 h1 => ?_)
  exact K l p e S m args below meth cd H locs cells slots mc ms ls1 X D aC B sh0 sh hfl hC hR hsh (tl_ok hst) (lvs_stoL hC.ext.fm hL i.val (v := .inr (.inl x)) trivial h1) hS hc hs
theorem at_astore {y pc : Nat} {ls : eLS} {t : List AV} {k s : Nat} {Q : FT} {c : Nat} {mr : MR} {mi : MI} {ml : ML} {i : Nat} {q : Nat × Nat × Nat} (hd : decode (mCd y) pc = .ok (.astore i, 2)) (hi : i < mMx y) (K : At y (pc + 2) (stoK ls i (.inr (.inr (some q))) id) t k s Q c mr mi ml) : At y pc ls (.inr (.inr (some q)) :: t) k s Q c mr mi ml := by
  intro l p e S m args below meth cd H locs cells slots mc ms lsC X D aC B sh0 sh hfl hC hR hsh hst hL hS hc hs
  have hq := hst _ List.mem_cons_self
  have hX := hC.ext.fm
  have K2 : ∀ ls1, lv_has ls1 (mMx y) ((i, cq X B q) :: (lvl X B ls (mMx y)).filter (fun z => !(z.1 == i) && !(z.1 + 1 == i && z.2.category == 2))) → W p l e (rmm y mc ms) S m args below meth cd H locs cells slots (Q below args S mc ms X D aC B sh0) (F0 m (pc + 2) ls1 (t.map (cv X B))) := fun ls1 h1 => K l p e S m args below meth cd H locs cells slots mc ms ls1 X D aC B sh0 sh hfl hC hR hsh (tl_ok hst) (lvs_sto hX hL i (v := .inr (.inr (some q))) hq h1) hS hc hs
  show W p l e (rmm y mc ms) S m args below meth cd H locs cells slots _ (F0 m pc lsC (cq X B q :: t.map (cv X B)))
  rcases cq_ref hX q with ⟨a, ee⟩ | ee
  · rw [ee] at K2 ⊢; exact lv_astore hC.1 hC.2.1 hd (lvl_has hL) hi rfl K2
  · rw [ee] at K2 ⊢; exact lv_astoreN hC.1 hC.2.1 hd (lvl_has hL) hi rfl K2
theorem at_astore_n {y pc : Nat} {ls : eLS} {t : List AV} {k s : Nat} {Q : FT} {c : Nat} {mr : MR} {mi : MI} {ml : ML} {i : Fin 4} {q : Nat × Nat × Nat} (hd : decode (mCd y) pc = .ok (.astore_n i, 1)) (hi : i.val < mMx y) (K : At y (pc + 1) (stoK ls i.val (.inr (.inr (some q))) id) t k s Q c mr mi ml) : At y pc ls (.inr (.inr (some q)) :: t) k s Q c mr mi ml := by
  intro l p e S m args below meth cd H locs cells slots mc ms lsC X D aC B sh0 sh hfl hC hR hsh hst hL hS hc hs
  have hq := hst _ List.mem_cons_self
  have hX := hC.ext.fm
  have K2 : ∀ ls1, lv_has ls1 (mMx y) ((i.val, cq X B q) :: (lvl X B ls (mMx y)).filter (fun z => !(z.1 == i.val) && !(z.1 + 1 == i.val && z.2.category == 2))) → W p l e (rmm y mc ms) S m args below meth cd H locs cells slots (Q below args S mc ms X D aC B sh0) (F0 m (pc + 1) ls1 (t.map (cv X B))) := fun ls1 h1 => K l p e S m args below meth cd H locs cells slots mc ms ls1 X D aC B sh0 sh hfl hC hR hsh (tl_ok hst) (lvs_sto hX hL i.val (v := .inr (.inr (some q))) hq h1) hS hc hs
  show W p l e (rmm y mc ms) S m args below meth cd H locs cells slots _ (F0 m pc lsC (cq X B q :: t.map (cv X B)))
  rcases cq_ref hX q with ⟨a, ee⟩ | ee
  · rw [ee] at K2 ⊢; exact lv_astore_n hC.1 hC.2.1 hd rfl (lvl_has hL) hi rfl K2
  · rw [ee] at K2 ⊢; exact lv_astore_nN hC.1 hC.2.1 hd rfl (lvl_has hL) hi rfl K2
theorem at_iinc {y pc : Nat} {ls : eLS} {t : List AV} {k s : Nat} {Q : FT} {c : Nat} {mr : MR} {mi : MI} {ml : ML} {i : Nat} {n : Int} {x w : Int32} (hd : decode (mCd y) pc = .ok (.iinc i n, 3)) (hl : lg ls i = some (.inl x)) (hi : i < mMx y) (hn : Int32.ofInt n = w) (K : At y (pc + 3) (stoK ls i (.inl (x + w)) id) t k s Q c mr mi ml) : At y pc ls t k s Q c mr mi ml := by
  intro l p e S m args below meth cd H locs cells slots mc ms lsC X D aC B sh0 sh hfl hC hR hsh hst hL hS hc hs
  obtain ⟨kk, hk⟩ := List.getElem?_of_mem (lvl_mem (X := X) (B := B) hi hl)
  refine lv_iinc hC.1 hC.2.1 hd (lvl_has hL) hk (by rw [hn]) hi rfl (fun ls1 h1 => ?_)
  exact K l p e S m args below meth cd H locs cells slots mc ms ls1 X D aC B sh0 sh hfl hC hR hsh hst (lvs_sto hC.ext.fm hL i (v := .inl (x + w)) trivial h1) hS hc hs
theorem at_dup_i {y pc : Nat} {ls : eLS} {t : List AV} {k s : Nat} {Q : FT} {c : Nat} {mr : MR} {mi : MI} {ml : ML} {u : Int32} (hd : decode (mCd y) pc = .ok (.dup, 1))  (K : At y (pc + 1) ls (.inl (u) :: .inl (u) :: t) k s Q c mr mi ml) : At y pc ls (.inl u :: t) k s Q c mr mi ml := by
  intro l p e S m args below meth cd H locs cells slots mc ms lsC X D aC B sh0 sh hfl hC hR hsh hst hL hS hc hs
  exact lv_dup hC.1 hC.2.1 hd rfl (K l p e S m args below meth cd H locs cells slots mc ms lsC X D aC B sh0 sh hfl hC hR hsh (cn_ok trivial (cn_ok trivial (tl_ok hst))) hL hS hc hs)
theorem at_dup_q {y pc : Nat} {ls : eLS} {t : List AV} {k s : Nat} {Q : FT} {c : Nat} {mr : MR} {mi : MI} {ml : ML} {q : Option (Nat × Nat × Nat)} (hd : decode (mCd y) pc = .ok (.dup, 1)) (K : At y (pc + 1) ls (.inr (.inr q) :: .inr (.inr q) :: t) k s Q c mr mi ml) : At y pc ls (.inr (.inr q) :: t) k s Q c mr mi ml := by
  intro l p e S m args below meth cd H locs cells slots mc ms lsC X D aC B sh0 sh hfl hC hR hsh hst hL hS hc hs
  exact lv_dup hC.1 hC.2.1 hd (av_cat hC.ext.fm (.inr (.inr q))) (K l p e S m args below meth cd H locs cells slots mc ms lsC X D aC B sh0 sh hfl hC hR hsh (cn_ok (hst _ List.mem_cons_self) hst) hL hS hc hs)
theorem at_dup2_l {y pc : Nat} {ls : eLS} {t : List AV} {k s : Nat} {Q : FT} {c : Nat} {mr : MR} {mi : MI} {ml : ML} {u : Int64} (hd : decode (mCd y) pc = .ok (.dup2, 1))  (K : At y (pc + 1) ls (.inr (.inl (u)) :: .inr (.inl (u)) :: t) k s Q c mr mi ml) : At y pc ls (.inr (.inl u) :: t) k s Q c mr mi ml := by
  intro l p e S m args below meth cd H locs cells slots mc ms lsC X D aC B sh0 sh hfl hC hR hsh hst hL hS hc hs
  exact lv_dup2_2 hC.1 hC.2.1 hd rfl (K l p e S m args below meth cd H locs cells slots mc ms lsC X D aC B sh0 sh hfl hC hR hsh (cn_ok trivial (cn_ok trivial (tl_ok hst))) hL hS hc hs)
theorem at_dup2_ii {y pc : Nat} {ls : eLS} {t : List AV} {k s : Nat} {Q : FT} {c : Nat} {mr : MR} {mi : MI} {ml : ML} {u w : Int32} (hd : decode (mCd y) pc = .ok (.dup2, 1))  (K : At y (pc + 1) ls (.inl (w) :: .inl (u) :: .inl (w) :: .inl (u) :: t) k s Q c mr mi ml) : At y pc ls (.inl w :: .inl u :: t) k s Q c mr mi ml := by
  intro l p e S m args below meth cd H locs cells slots mc ms lsC X D aC B sh0 sh hfl hC hR hsh hst hL hS hc hs
  exact lv_dup2_11 hC.1 hC.2.1 hd rfl rfl (K l p e S m args below meth cd H locs cells slots mc ms lsC X D aC B sh0 sh hfl hC hR hsh (cn_ok trivial (cn_ok trivial (cn_ok trivial (cn_ok trivial (tl2_ok hst))))) hL hS hc hs)
theorem at_dup2_iq {y pc : Nat} {ls : eLS} {t : List AV} {k s : Nat} {Q : FT} {c : Nat} {mr : MR} {mi : MI} {ml : ML} {w : Int32} {q : Option (Nat × Nat × Nat)} (hd : decode (mCd y) pc = .ok (.dup2, 1)) (K : At y (pc + 1) ls (.inl w :: .inr (.inr q) :: .inl w :: .inr (.inr q) :: t) k s Q c mr mi ml) : At y pc ls (.inl w :: .inr (.inr q) :: t) k s Q c mr mi ml := by
  intro l p e S m args below meth cd H locs cells slots mc ms lsC X D aC B sh0 sh hfl hC hR hsh hst hL hS hc hs
  exact lv_dup2_11 hC.1 hC.2.1 hd rfl (av_cat hC.ext.fm (.inr (.inr q))) (K l p e S m args below meth cd H locs cells slots mc ms lsC X D aC B sh0 sh hfl hC hR hsh (cn_ok trivial (cn_ok (tl_ok hst _ List.mem_cons_self) hst)) hL hS hc hs)
theorem at_pop_i {y pc : Nat} {ls : eLS} {t : List AV} {k s : Nat} {Q : FT} {c : Nat} {mr : MR} {mi : MI} {ml : ML} {u : Int32} (hd : decode (mCd y) pc = .ok (.pop, 1))  (K : At y (pc + 1) ls (t) k s Q c mr mi ml) : At y pc ls (.inl u :: t) k s Q c mr mi ml := by
  intro l p e S m args below meth cd H locs cells slots mc ms lsC X D aC B sh0 sh hfl hC hR hsh hst hL hS hc hs
  exact lv_pop hC.1 hC.2.1 hd rfl (K l p e S m args below meth cd H locs cells slots mc ms lsC X D aC B sh0 sh hfl hC hR hsh (tl_ok hst) hL hS hc hs)
theorem at_pop_q {y pc : Nat} {ls : eLS} {t : List AV} {k s : Nat} {Q : FT} {c : Nat} {mr : MR} {mi : MI} {ml : ML} {q : Option (Nat × Nat × Nat)} (hd : decode (mCd y) pc = .ok (.pop, 1)) (K : At y (pc + 1) ls t k s Q c mr mi ml) : At y pc ls (.inr (.inr q) :: t) k s Q c mr mi ml := by
  intro l p e S m args below meth cd H locs cells slots mc ms lsC X D aC B sh0 sh hfl hC hR hsh hst hL hS hc hs
  exact lv_pop hC.1 hC.2.1 hd (av_cat hC.ext.fm (.inr (.inr q))) (K l p e S m args below meth cd H locs cells slots mc ms lsC X D aC B sh0 sh hfl hC hR hsh (tl_ok hst) hL hS hc hs)
theorem at_goto {y pc : Nat} {ls : eLS} {t : List AV} {k s : Nat} {Q : FT} {c : Nat} {mr : MR} {mi : MI} {ml : ML} {off : Int} {tgt : Nat} (hd : decode (mCd y) pc = .ok (.goto off, 3)) (ht : (pc : Int) + off = (tgt : Int)) (K : At y tgt ls t k s Q c mr mi ml) : At y pc ls t k s Q c mr mi ml := by
  intro l p e S m args below meth cd H locs cells slots mc ms lsC X D aC B sh0 sh hfl hC hR hsh hst hL hS hc hs
  exact lv_goto hC.1 hC.2.1 hd ht (K l p e S m args below meth cd H locs cells slots mc ms lsC X D aC B sh0 sh hfl hC hR hsh hst hL hS hc hs)
theorem at_if {y pc : Nat} {ls : eLS} {t : List AV} {k s : Nat} {Q : FT} {c : Nat} {mr : MR} {mi : MI} {ml : ML} {cnd : ClassFile.Cond} {x : Int32} {off : Int} {tgt : Nat} (hd : decode (mCd y) pc = .ok (.ifCond cnd off, 3)) (ht : (pc : Int) + off = (tgt : Int)) (K : brc cnd x 0 (At y tgt ls t k s Q c mr mi ml) (At y (pc + 3) ls t k s Q c mr mi ml)) : At y pc ls (.inl x :: t) k s Q c mr mi ml := by
  intro l p e S m args below meth cd H locs cells slots mc ms lsC X D aC B sh0 sh hfl hC hR hsh hst hL hS hc hs
  cases cnd
  · exact lv_if_eq hC.1 hC.2.1 hd ht (fun h => K.1 h l p e S m args below meth cd H locs cells slots mc ms lsC X D aC B sh0 sh hfl hC hR hsh (tl_ok hst) hL hS hc hs) (fun h => K.2 h l p e S m args below meth cd H locs cells slots mc ms lsC X D aC B sh0 sh hfl hC hR hsh (tl_ok hst) hL hS hc hs)
  · exact lv_if_ne hC.1 hC.2.1 hd ht (fun h => K.1 h l p e S m args below meth cd H locs cells slots mc ms lsC X D aC B sh0 sh hfl hC hR hsh (tl_ok hst) hL hS hc hs) (fun h => K.2 h l p e S m args below meth cd H locs cells slots mc ms lsC X D aC B sh0 sh hfl hC hR hsh (tl_ok hst) hL hS hc hs)
  · exact lv_if_lt hC.1 hC.2.1 hd ht (fun h => K.1 h l p e S m args below meth cd H locs cells slots mc ms lsC X D aC B sh0 sh hfl hC hR hsh (tl_ok hst) hL hS hc hs) (fun h => K.2 h l p e S m args below meth cd H locs cells slots mc ms lsC X D aC B sh0 sh hfl hC hR hsh (tl_ok hst) hL hS hc hs)
  · exact lv_if_ge hC.1 hC.2.1 hd ht (fun h => K.1 h l p e S m args below meth cd H locs cells slots mc ms lsC X D aC B sh0 sh hfl hC hR hsh (tl_ok hst) hL hS hc hs) (fun h => K.2 h l p e S m args below meth cd H locs cells slots mc ms lsC X D aC B sh0 sh hfl hC hR hsh (tl_ok hst) hL hS hc hs)
  · exact lv_if_gt hC.1 hC.2.1 hd ht (fun h => K.1 h l p e S m args below meth cd H locs cells slots mc ms lsC X D aC B sh0 sh hfl hC hR hsh (tl_ok hst) hL hS hc hs) (fun h => K.2 h l p e S m args below meth cd H locs cells slots mc ms lsC X D aC B sh0 sh hfl hC hR hsh (tl_ok hst) hL hS hc hs)
  · exact lv_if_le hC.1 hC.2.1 hd ht (fun h => K.1 h l p e S m args below meth cd H locs cells slots mc ms lsC X D aC B sh0 sh hfl hC hR hsh (tl_ok hst) hL hS hc hs) (fun h => K.2 h l p e S m args below meth cd H locs cells slots mc ms lsC X D aC B sh0 sh hfl hC hR hsh (tl_ok hst) hL hS hc hs)
theorem at_icmp {y pc : Nat} {ls : eLS} {t : List AV} {k s : Nat} {Q : FT} {c : Nat} {mr : MR} {mi : MI} {ml : ML} {cnd : ClassFile.Cond} {x w : Int32} {off : Int} {tgt : Nat} (hd : decode (mCd y) pc = .ok (.if_icmp cnd off, 3)) (ht : (pc : Int) + off = (tgt : Int)) (K : brc cnd x w (At y tgt ls t k s Q c mr mi ml) (At y (pc + 3) ls t k s Q c mr mi ml)) : At y pc ls (.inl w :: .inl x :: t) k s Q c mr mi ml := by
  intro l p e S m args below meth cd H locs cells slots mc ms lsC X D aC B sh0 sh hfl hC hR hsh hst hL hS hc hs
  cases cnd
  · exact lv_icmp_eq hC.1 hC.2.1 hd ht (fun h => K.1 h l p e S m args below meth cd H locs cells slots mc ms lsC X D aC B sh0 sh hfl hC hR hsh (tl2_ok hst) hL hS hc hs) (fun h => K.2 h l p e S m args below meth cd H locs cells slots mc ms lsC X D aC B sh0 sh hfl hC hR hsh (tl2_ok hst) hL hS hc hs)
  · exact lv_icmp_ne hC.1 hC.2.1 hd ht (fun h => K.1 h l p e S m args below meth cd H locs cells slots mc ms lsC X D aC B sh0 sh hfl hC hR hsh (tl2_ok hst) hL hS hc hs) (fun h => K.2 h l p e S m args below meth cd H locs cells slots mc ms lsC X D aC B sh0 sh hfl hC hR hsh (tl2_ok hst) hL hS hc hs)
  · exact lv_icmp_lt hC.1 hC.2.1 hd ht (fun h => K.1 h l p e S m args below meth cd H locs cells slots mc ms lsC X D aC B sh0 sh hfl hC hR hsh (tl2_ok hst) hL hS hc hs) (fun h => K.2 h l p e S m args below meth cd H locs cells slots mc ms lsC X D aC B sh0 sh hfl hC hR hsh (tl2_ok hst) hL hS hc hs)
  · exact lv_icmp_ge hC.1 hC.2.1 hd ht (fun h => K.1 h l p e S m args below meth cd H locs cells slots mc ms lsC X D aC B sh0 sh hfl hC hR hsh (tl2_ok hst) hL hS hc hs) (fun h => K.2 h l p e S m args below meth cd H locs cells slots mc ms lsC X D aC B sh0 sh hfl hC hR hsh (tl2_ok hst) hL hS hc hs)
  · exact lv_icmp_gt hC.1 hC.2.1 hd ht (fun h => K.1 h l p e S m args below meth cd H locs cells slots mc ms lsC X D aC B sh0 sh hfl hC hR hsh (tl2_ok hst) hL hS hc hs) (fun h => K.2 h l p e S m args below meth cd H locs cells slots mc ms lsC X D aC B sh0 sh hfl hC hR hsh (tl2_ok hst) hL hS hc hs)
  · exact lv_icmp_le hC.1 hC.2.1 hd ht (fun h => K.1 h l p e S m args below meth cd H locs cells slots mc ms lsC X D aC B sh0 sh hfl hC hR hsh (tl2_ok hst) hL hS hc hs) (fun h => K.2 h l p e S m args below meth cd H locs cells slots mc ms lsC X D aC B sh0 sh hfl hC hR hsh (tl2_ok hst) hL hS hc hs)
end
section
/-! ===== instructions on the heap ===== -/
theorem clOK_of {ci : Nat} {C : String} {T : u_T} {N : Nat} (h : clT[ci]? = some (C, T, N)) : ci < 10 ∧ (∀ w ∈ u_ws C T N, w ∈ WT) ∧ Cond.instantiable C N ∈ WT ∧ Cond.initialized C ∈ WT ∧ N = clN ci ∧ (∀ k, k < N → ftOK (fk ci k) (T k).2.2.1 = true) ∧ (∀ a, a < N → ∀ b, b < N → a ≠ b → (T a).2.1 ≠ (T b).2.1) := by
  have hci : ci < 10 := (List.getElem?_eq_some_iff.mp h).1
  have h1 := List.all_eq_true.mp clOK_all ci (List.mem_range.mpr hci)
  unfold clOK at h1
  rw [h] at h1
  simp only [Bool.and_eq_true, List.all_eq_true, decide_eq_true_eq, List.mem_range, Bool.or_eq_true, Nat.beq_eq_true_eq] at h1
  obtain ⟨⟨⟨⟨⟨⟨⟨h1, h2⟩, h3⟩, h4⟩, h5⟩, h6⟩, h7⟩, h8⟩ := h1
  refine ⟨hci, fun w hw => List.mem_filter.mpr (h1 w hw), List.mem_filter.mpr ⟨h2, h3⟩, List.mem_filter.mpr ⟨h4, h5⟩, Nat.eq_of_beq_eq_true h6, h7, fun a ha b hb hab => ?_⟩
  rcases h8 a ha b hb with e | e
  · exact absurd (Nat.eq_of_beq_eq_true e) hab
  · exact e
theorem ftOK_some {kd : Nat} {d : String} (h : ftOK kd d = true) : ∃ ty, parseFieldDescriptor d = some ty ∧ ((kd = 0 ∧ ty = .int) ∨ (kd = 1 ∧ ty = .long) ∨ (kd = 3 ∧ ty = .boolean) ∨ (kd = 2 ∧ ty.isReference = true)) := by
  unfold ftOK at h
  split at h
  · rename_i e; exact ⟨_, e, Or.inl ⟨rfl, rfl⟩⟩
  · rename_i e; exact ⟨_, e, Or.inr (Or.inl ⟨rfl, rfl⟩)⟩
  · rename_i e; exact ⟨_, e, Or.inr (Or.inr (Or.inl ⟨rfl, rfl⟩))⟩
  · rename_i ty e; exact ⟨ty, e, Or.inr (Or.inr (Or.inr ⟨rfl, h⟩))⟩
  · cases h
def tyF (T : u_T) (k : Nat) : FieldType := (parseFieldDescriptor (T k).2.2.1).getD .int
theorem tyF_ok {ci : Nat} {C : String} {T : u_T} {N : Nat} (h : clT[ci]? = some (C, T, N)) : ∀ k, k < N → parseFieldDescriptor (T k).2.2.1 = some (tyF T k) := by
  intro k hk
  obtain ⟨ty, e, -⟩ := ftOK_some ((clOK_of h).2.2.2.2.2.1 k hk)
  unfold tyF
  rw [e]; rfl
theorem cE_obj {X : XT} {B : Nat} {aC : AC} {mr : MR} {mi : MI} {ml : ML} {a x1 n : Nat} : cE X B aC mr mi ml a (x1 + 10) n = .inr (x1, (List.range (clN x1)).map (fv X B mr mi ml a x1)) := by
  unfold cE
  rw [if_neg (by omega), if_neg (by omega), if_neg (by omega), if_neg (by omega), Nat.add_sub_cancel]
theorem at_getf {y pc : Nat} {ls : eLS} {t : List AV} {k s : Nat} {Q : FT} {c : Nat} {mr : MR} {mi : MI} {ml : ML} {idx x1 x2 n a : Nat} {C : String} {T : u_T} {N : Nat} {v : AV} (hd : decode (mCd y) pc = .ok (.getfield idx, 3)) (hc : clT[x1]? = some (C, T, N)) (hx : x2 < N) (hw : Cond.fieldLink (mNm y).cls idx C (T x2).2.1 (T x2).2.2.1 ∈ WT) (hdc : (T x2).1 = C)
    (hv : (fk x1 x2 = 0 ∧ v = .inl (mi a x2)) ∨ (fk x1 x2 = 1 ∧ v = .inr (.inl (ml a x2))) ∨ (fk x1 x2 = 2 ∧ v = .inr (.inr (mr a x2))) ∨ (fk x1 x2 = 3 ∧ v = .inl (mi a x2)))
    (K : At y (pc + 3) ls (v :: t) k s Q c mr mi ml) : At y pc ls (.inr (.inr (some (x1 + 10, n, a))) :: t) k s Q c mr mi ml := by
  intro l p e S m args below meth cd H locs cells slots mc ms lsC X D aC B sh0 sh hfl hC hR hsh hst hL hS hc1 hs1
  obtain ⟨h10, hin, -, -, hN, -, -⟩ := clOK_of hc
  have hq : okq X sh (x1 + 10, n, a) := hst _ List.mem_cons_self
  obtain ⟨-, hP⟩ := hR.cell hq (by omega)
  rw [cE_obj] at hP
  have hfv : ((List.range (clN x1)).map (fv X B mr mi ml a x1))[x2]? = some (cv X B v) := by
    rw [List.getElem?_map, List.getElem?_range (by omega)]
    show some (fv X B mr mi ml a x1 x2) = _
    unfold fv
    rcases hv with ⟨e, rfl⟩ | ⟨e, rfl⟩ | ⟨e, rfl⟩ | ⟨e, rfl⟩ <;> rw [e] <;> rfl
  have hok : okv X sh v := by
    rcases hv with ⟨-, rfl⟩ | ⟨-, rfl⟩ | ⟨-, rfl⟩ | ⟨-, rfl⟩
    · trivial
    · trivial
    · show okv X sh (.inr (.inr (mr a x2)))
      cases e : mr a x2 with
      | none => trivial
      | some q => exact hR.2.2.2.2.1 a x2 q e
    · trivial
  have hcq : cv X B (.inr (.inr (some (x1 + 10, n, a)))) = .ref (B + a) := cq_in (by omega)
  show W p l e (rmm y mc ms) S m args below meth cd H locs cells slots _ (F0 m pc lsC (cv X B (.inr (.inr (some (x1 + 10, n, a)))) :: t.map (cv X B)))
  rw [hcq]
  exact va_get hC.1 hC.2.1 (Ts := WT) hC.wds hin hC.own hC.kn hP 0 rfl hc x2 hx (hC.wds _ hw) (by rw [hdc]; exact fun x h => h) hfv hd (K l p e S m args below meth cd H locs cells slots mc ms lsC X D aC B sh0 sh hfl hC hR hsh (cn_ok hok (tl_ok hst)) hL hS hc1 hs1)
section PUT
variable {p : Program} {l : Launch} {e : Env} {R : Room} {s : State} {m : MethodId} {args : Array Value} {below : List Frame} {meth : Method} {c : Code} {H : Heap} {locs : List Loc} {cells slots : Nat} {Q : State → Prop}
theorem putX {cc : ByteArray} {pc : Nat} {ls : Array Slot} {rest : List Value} {D : va_G} {cl : List vw_C} {a : Nat} {tys : List (ClassId × FieldType)} (hexec : p.tables.exec = Jvm.exec) (hb : c.code = cc) {own ref C : String} {T : u_T} {N ci index : Nat} {Ts : List Cond} (hts : ∀ w ∈ Ts, w.before args s = true) (hin : ∀ w ∈ u_ws C T N, w ∈ Ts) (ty0 : Nat → FieldType) (hty : ∀ k, k < N → parseFieldDescriptor (T k).2.2.1 = some (ty0 k)) (hnm : ∀ a, a < N → ∀ b, b < N → a ≠ b → (T a).2.1 ≠ (T b).2.1) (hown : s.vm.findClass own = some m.cls) (hK : va_K D cl tys s) {fs : List Value} (hat : va_at D cl (a, .inr (ci, fs)) H) (hc : cl[ci]? = some (C, T, N)) (k : Nat) (hk : k < N) (hlink : (Cond.fieldLink own index ref (T k).2.1 (T k).2.2.1).before args s = true)
    (hsame : ∀ x, s.fieldFound? (T k).1 (T k).2.1 (T k).2.2.1 = some x → s.fieldFound? ref (T k).2.1 (T k).2.2.1 = some x) (hfin : (T k).2.2.2 = true → meth.name = "<init>" ∧ (T k).1 = own) {ty : FieldType} {v : Value} (hd : parseFieldDescriptor (T k).2.2.1 = some ty) (hn : narrow ty v = v) (hfit : fits ty v = true) (hl : k < fs.length) (hdg : decode cc pc = .ok (.putfield index, 3))
    (kk : ∀ (H1 : Heap) (z : Nat), va_at D cl (a, .inr (ci, fs.set k v)) H1 → H1.size = H.size → (∀ q : Nat, q ≠ a → H1[q]? = H[q]?) → W p l e R s m args below meth c H1 (locs ++ [⟨a, z⟩]) cells slots Q (F0 m (pc + 3) ls rest)) : W p l e R s m args below meth c H locs cells slots Q (F0 m pc ls (v :: .ref a :: rest)) := by
  have hap := va_apart (own := own) hts hin ty0 hty hnm hK hc
  obtain ⟨r, h1, cell, q1, q2, q3, q4⟩ := hat
  have hr : r = (C, T, N) := Option.some.inj (h1.symm.trans hc)
  subst hr
  obtain ⟨hS, hfc, kC, hkC, hkind⟩ := hK.1 ci _ hc
  obtain ⟨cf, kf, fi, f, hi, hsl⟩ := hS k hk
  have hlay := hts _ (hin _ (u_in_lay hk))
  unfold u_lay at hlay
  have hst := (u_facts hfc hkC (u_lays hts hin hk) hi).1
  by_cases hf : (T k).2.2.2 = true
  · obtain ⟨hin2, hdecl⟩ := hfin hf
    rw [if_pos hf] at hlay
    have hcf : m.cls = cf := by
      obtain ⟨_, _, c', _, _, _, -, -, hf', -, -, -, hown2, -⟩ := Cond.laysFinal_spec hlay
      have e1 : c' = cf := by have := hi.symm.trans hf'; simp at this; exact this.1.symm
      rw [hdecl] at hown2
      rw [← e1]; exact Option.some.inj (hown.symm.trans hown2)
    have h6 := u_fits hfc hkC hkind (Or.inr hlay) hi hd hn hfit
    refine W.putFinK hexec hb hown hlink (hsame _ hi) hst hcf hin2 (by rw [q2]; exact h6) q1 q3 (by rw [hsl]; exact k2_hasslot (q4 k hk)) rfl rfl hdg fun H' e1 e2 e3 => ?_
    rw [hsl] at e1 ⊢
    exact kk H' _ ⟨_, hc, t_OB.to (V := updV (vp_V fs) k v) ⟨_, e1, q2, q3, t_set q4 hap hk v⟩ (fun j _ => vp_updV_set hl v j)⟩ e2 e3
  · rw [if_neg hf] at hlay
    have h6 := u_store hfc hkC hkind hlay hi hd hn hfit
    refine W.putK hexec hb (f := f) ⟨hown, hlink, ⟨_, _, _, hsame _ hi⟩, hst⟩ (by rw [q2]; exact h6) q1 q3 (by rw [hsl]; exact k2_hasslot (q4 k hk)) rfl rfl hdg fun H' e1 e2 e3 => ?_
    rw [hsl] at e1 ⊢
    exact kk H' _ ⟨_, hc, t_OB.to (V := updV (vp_V fs) k v) ⟨_, e1, q2, q3, t_set q4 hap hk v⟩ (fun j _ => vp_updV_set hl v j)⟩ e2 e3
end PUT
theorem map_set {α : Type} {f g : Nat → α} {n x : Nat} {w : α} (h1 : g x = w) (h2 : ∀ j, j ≠ x → g j = f j) : (List.range n).map g = ((List.range n).map f).set x w := by
  apply List.ext_getElem?
  intro j
  rw [List.getElem?_set, List.getElem?_map, List.getElem?_map, List.length_map, List.length_range]
  by_cases hj : j < n
  · rw [List.getElem?_range hj]
    by_cases e : x = j
    · subst e; rw [if_pos rfl, if_pos hj]; show some (g x) = _; rw [h1]
    · rw [if_neg e]; show some (g j) = some (f j); rw [h2 j (fun z => e z.symm)]
  · have e1 : (List.range n)[j]? = none := by rw [List.getElem?_eq_none_iff, List.length_range]; omega
    rw [e1]
    by_cases e : x = j
    · subst e; rw [if_pos rfl, if_neg hj]; rfl
    · rw [if_neg e]; rfl
theorem u2_s {α : Type} (f : Nat → Nat → α) (a k : Nat) (v : α) : u2 f a k v a k = v := by simp [u2]
theorem u2_k {α : Type} (f : Nat → Nat → α) (a : Nat) {k j : Nat} (v : α) (h : j ≠ k) : u2 f a k v a j = f a j := by simp [u2, h]
theorem u2_n {α : Type} (f : Nat → Nat → α) {a b : Nat} (k : Nat) (v : α) (h : b ≠ a) : u2 f a k v b = f b := if_neg h
theorem u2_a {α : Type} (f : Nat → Nat → α) (a k : Nat) (v : α) : u2 f a k v a = fun j => if j = k then v else f a j := if_pos rfl
theorem at_putf {y pc : Nat} {ls : eLS} {t : List AV} {k s : Nat} {Q : FT} {c : Nat} {mr mr' : MR} {mi mi' : MI} {ml ml' : ML} {idx x1 x2 n a : Nat} {C : String} {T : u_T} {N : Nat} {w : AV} (hd : decode (mCd y) pc = .ok (.putfield idx, 3)) (hc : clT[x1]? = some (C, T, N)) (hx : x2 < N) (hw : Cond.fieldLink (mNm y).cls idx C (T x2).2.1 (T x2).2.2.1 ∈ WT) (hdc : (T x2).1 = C) (hfin : (T x2).2.2.2 = true → (mNm y).name = "<init>" ∧ C = (mNm y).cls)
    (hu : ∀ X B j, fv X B mr' mi' ml' a x1 j = if j = x2 then cv X B w else fv X B mr mi ml a x1 j) (hot : ∀ b, b ≠ a → mr' b = mr b ∧ mi' b = mi b ∧ ml' b = ml b)
    (hmr : ∀ j q, mr' a j = some q → mr a j = some q ∨ w = .inr (.inr (some q))) (hft : ∀ v : Value, (∀ X : XT, ∀ B, (X.2.2.2.2.2.2 = .null ∨ ∃ a, X.2.2.2.2.2.2 = .ref a) → cv X B w = v → narrow (tyF T x2) v = v ∧ fits (tyF T x2) v = true))
    (K : At y (pc + 3) ls t k s Q c mr' mi' ml') : At y pc ls (w :: .inr (.inr (some (x1 + 10, n, a))) :: t) k s Q c mr mi ml := by
  intro l p e S m args below meth cd H locs cells slots mc ms lsC X D aC B sh0 sh hfl hC hR hsh hst hL hS hc1 hs1
  obtain ⟨h10, hin, -, -, hN, -, hnm⟩ := clOK_of hc
  have hq : okq X sh (x1 + 10, n, a) := tl_ok hst _ List.mem_cons_self
  have hwk : okv X sh w := hst _ List.mem_cons_self
  obtain ⟨hsa, hP⟩ := hR.cell hq (by omega)
  have hat := hP 0 _ rfl
  rw [cE_obj] at hat
  have hcq : cv X B (.inr (.inr (some (x1 + 10, n, a)))) = .ref (B + a) := cq_in (by omega)
  show W p l e (rmm y mc ms) S m args below meth cd H locs cells slots _ (F0 m pc lsC (cv X B w :: cv X B (.inr (.inr (some (x1 + 10, n, a)))) :: t.map (cv X B)))
  rw [hcq]
  obtain ⟨f1, f2⟩ := hft _ X B hC.ext.fm rfl
  refine putX hC.1 hC.2.1 (Ts := WT) hC.wds hin (tyF T) (tyF_ok hc) hnm hC.own hC.kn hat hc x2 hx (hC.wds _ hw) (by rw [hdc]; exact fun x h => h) (fun h => ?_) (tyF_ok hc x2 hx) f1 f2 (by simp; omega) hd (fun H1 z g1 g2 g3 => ?_)
  · obtain ⟨e1, e2⟩ := hfin h
    exact ⟨hC.nam e1, hdc.trans e2⟩
  · have hR1 : RH X D aC B sh c mr' mi' ml' H1 := by
      refine hR.upd hsa (by omega) g2 g3 hot ?_ (fun j q hj => ?_) (fun z => by omega)
      · rw [cE_obj, map_set (f := fv X B mr mi ml a x1) (w := cv X B w) (x := x2) (by rw [hu, if_pos rfl]) (fun j hj => by rw [hu, if_neg hj])]
        exact g1
      · rcases hmr j q hj with h | h
        · exact hR.2.2.2.2.1 a j q h
        · rw [h] at hwk; exact hwk
    have hBa : B < B + a := by
      rcases Nat.eq_zero_or_pos a with z | z
      · subst z
        have := hR.2.2.1
        rw [hsa] at this
        cases this
        omega
      · omega
    exact K l p e S m args below meth cd H1 _ cells slots mc ms lsC X D aC B sh0 sh hfl hC hR1 hsh (tl2_ok hst) hL (hS.put g2 g3 hBa) hc1 hs1
end
section
/-! ===== fields by kinds; arrays; new cells; what is outside ===== -/
theorem fv_u2i {X : XT} {B : Nat} {mr : MR} {mi : MI} {ml : ML} {a x1 x2 : Nat} {x : Int32} (hk : fk x1 x2 = 0 ∨ fk x1 x2 = 3) (j : Nat) : fv X B mr (u2 mi a x2 x) ml a x1 j = if j = x2 then .int x else fv X B mr mi ml a x1 j := by
  unfold fv
  by_cases e : j = x2
  · subst e; rw [if_pos rfl]; rcases hk with h | h <;> rw [h] <;> simp only [u2_s]
  · rw [if_neg e, u2_k _ _ _ e]
theorem fv_u2l {X : XT} {B : Nat} {mr : MR} {mi : MI} {ml : ML} {a x1 x2 : Nat} {x : Int64} (hk : fk x1 x2 = 1) (j : Nat) : fv X B mr mi (u2 ml a x2 x) a x1 j = if j = x2 then .long x else fv X B mr mi ml a x1 j := by
  unfold fv
  by_cases e : j = x2
  · subst e; rw [if_pos rfl, hk]; simp only [u2_s]
  · rw [if_neg e, u2_k _ _ _ e]
theorem fv_u2r {X : XT} {B : Nat} {mr : MR} {mi : MI} {ml : ML} {a x1 x2 : Nat} {x : Option (Nat × Nat × Nat)} (hk : fk x1 x2 = 2) (j : Nat) : fv X B (u2 mr a x2 x) mi ml a x1 j = if j = x2 then cv X B (.inr (.inr x)) else fv X B mr mi ml a x1 j := by
  unfold fv
  by_cases e : j = x2
  · subst e; rw [if_pos rfl, hk]; simp only [u2_s]
  · rw [if_neg e, u2_k _ _ _ e]
theorem tyF_kd {x1 x2 : Nat} {C : String} {T : u_T} {N : Nat} (hc : clT[x1]? = some (C, T, N)) (hx : x2 < N) : (fk x1 x2 = 0 ∧ tyF T x2 = .int) ∨ (fk x1 x2 = 1 ∧ tyF T x2 = .long) ∨ (fk x1 x2 = 3 ∧ tyF T x2 = .boolean) ∨ (fk x1 x2 = 2 ∧ (tyF T x2).isReference = true) := by
  obtain ⟨ty, e, h⟩ := ftOK_some ((clOK_of hc).2.2.2.2.2.1 x2 hx)
  have e2 : tyF T x2 = ty := by unfold tyF; rw [e]; rfl
  rw [e2]; exact h
theorem ref_fit {ty : FieldType} (h : ty.isReference = true) {v : Value} (hv : v = .null ∨ ∃ a, v = .ref a) : narrow ty v = v ∧ fits ty v = true := by
  cases ty <;> first | (cases h; done) | (rcases hv with rfl | ⟨a, rfl⟩ <;> exact ⟨rfl, rfl⟩)
theorem at_put {y pc : Nat} {ls : eLS} {t : List AV} {k s : Nat} {Q : FT} {c : Nat} {mr mr' : MR} {mi mi' : MI} {ml ml' : ML} {idx x1 x2 n a : Nat} {C : String} {T : u_T} {N : Nat} {w : AV} (hd : decode (mCd y) pc = .ok (.putfield idx, 3)) (hc : clT[x1]? = some (C, T, N)) (hx : x2 < N) (hw : Cond.fieldLink (mNm y).cls idx C (T x2).2.1 (T x2).2.2.1 ∈ WT) (hdc : (T x2).1 = C) (hfin : (T x2).2.2.2 = true → (mNm y).name = "<init>" ∧ C = (mNm y).cls)
    (hk : (fk x1 x2 = 0 ∧ ∃ x, w = .inl x ∧ mr' = mr ∧ mi' = u2 mi a x2 x ∧ ml' = ml) ∨ (fk x1 x2 = 1 ∧ ∃ x, w = .inr (.inl x) ∧ mr' = mr ∧ mi' = mi ∧ ml' = u2 ml a x2 x) ∨ (fk x1 x2 = 2 ∧ ∃ x, w = .inr (.inr x) ∧ mr' = u2 mr a x2 x ∧ mi' = mi ∧ ml' = ml) ∨ (fk x1 x2 = 3 ∧ ∃ x, w = .inl x ∧ (x = 0 ∨ x = 1) ∧ mr' = mr ∧ mi' = u2 mi a x2 x ∧ ml' = ml))
    (K : At y (pc + 3) ls t k s Q c mr' mi' ml') : At y pc ls (w :: .inr (.inr (some (x1 + 10, n, a))) :: t) k s Q c mr mi ml := by
  have hty := tyF_kd hc hx
  rcases hk with ⟨hk, x, rfl, rfl, rfl, rfl⟩ | ⟨hk, x, rfl, rfl, rfl, rfl⟩ | ⟨hk, x, rfl, rfl, rfl, rfl⟩ | ⟨hk, x, rfl, hx01, rfl, rfl, rfl⟩
  · refine at_putf hd hc hx hw hdc hfin (fun X B j => fv_u2i (Or.inl hk) j) (fun b hb => ⟨rfl, u2_n _ _ _ hb, rfl⟩) (fun j q h => Or.inl h) (fun v X B hX e => ?_) K
    rcases hty with ⟨-, z⟩ | ⟨z, -⟩ | ⟨z, -⟩ | ⟨z, -⟩
    · rw [z, ← e]; exact ⟨rfl, rfl⟩
    · omega
    · omega
    · omega
  · refine at_putf hd hc hx hw hdc hfin (fun X B j => fv_u2l hk j) (fun b hb => ⟨rfl, rfl, u2_n _ _ _ hb⟩) (fun j q h => Or.inl h) (fun v X B hX e => ?_) K
    rcases hty with ⟨z, -⟩ | ⟨-, z⟩ | ⟨z, -⟩ | ⟨z, -⟩
    · omega
    · rw [z, ← e]; exact ⟨rfl, rfl⟩
    · omega
    · omega
  · refine at_putf hd hc hx hw hdc hfin (fun X B j => fv_u2r hk j) (fun b hb => ⟨u2_n _ _ _ hb, rfl, rfl⟩) (fun j q h => ?_) (fun v X B hX e => ?_) K
    · by_cases z : j = x2
      · subst z; rw [u2_s] at h; exact Or.inr (by rw [h])
      · rw [u2_k _ _ _ z] at h; exact Or.inl h
    · rcases hty with ⟨z, -⟩ | ⟨z, -⟩ | ⟨z, -⟩ | ⟨-, z⟩
      · omega
      · omega
      · omega
      · rw [← e]
        refine ref_fit z ?_
        cases x with
        | none => exact Or.inl rfl
        | some q => rcases cq_ref (B := B) hX q with h | h
                    · exact Or.inr h
                    · exact Or.inl h
  · refine at_putf hd hc hx hw hdc hfin (fun X B j => fv_u2i (Or.inr hk) j) (fun b hb => ⟨rfl, u2_n _ _ _ hb, rfl⟩) (fun j q h => Or.inl h) (fun v X B hX e => ?_) K
    rcases hty with ⟨z, -⟩ | ⟨z, -⟩ | ⟨-, z⟩ | ⟨z, -⟩
    · omega
    · omega
    · rw [z, ← e]; rcases hx01 with rfl | rfl
      · exact (by decide : narrow .boolean (.int 0) = .int 0 ∧ fits .boolean (.int 0) = true)
      · exact (by decide : narrow .boolean (.int 1) = .int 1 ∧ fits .boolean (.int 1) = true)
    · omega
section ARR
variable {y pc : Nat} {ls : eLS} {t : List AV} {k s : Nat} {Q : FT} {c : Nat} {mr : MR} {mi : MI} {ml : ML}
theorem at_iald {n a : Nat} {i : Int32} (hd : decode (mCd y) pc = .ok (.iaload, 1)) (hi : vp_in i n) (K : At y (pc + 1) ls (.inl (mi a i.toNatClampNeg) :: t) k s Q c mr mi ml) : At y pc ls (.inl i :: .inr (.inr (some (0, n, a))) :: t) k s Q c mr mi ml := by
  intro l p e S m args below meth cd H locs cells slots mc ms lsC X D aC B sh0 sh hfl hC hR hsh hst hL hS hc1 hs1
  obtain ⟨-, hP⟩ := hR.cell (tl_ok hst _ List.mem_cons_self : okq X sh (0, n, a)) (by omega)
  exact va_iald hC.1 hC.2.1 hC.kn hP 0 0 rfl rfl hi hd (K l p e S m args below meth cd H locs cells slots mc ms lsC X D aC B sh0 sh hfl hC hR hsh (cn_ok trivial (tl2_ok hst)) hL hS hc1 hs1)
theorem at_bald {n a : Nat} {i : Int32} (hd : decode (mCd y) pc = .ok (.baload, 1)) (hi : vp_in i n) (K : At y (pc + 1) ls (.inl (mi a i.toNatClampNeg) :: t) k s Q c mr mi ml) : At y pc ls (.inl i :: .inr (.inr (some (2, n, a))) :: t) k s Q c mr mi ml := by
  intro l p e S m args below meth cd H locs cells slots mc ms lsC X D aC B sh0 sh hfl hC hR hsh hst hL hS hc1 hs1
  obtain ⟨-, hP⟩ := hR.cell (tl_ok hst _ List.mem_cons_self : okq X sh (2, n, a)) (by omega)
  exact va_bald hC.1 hC.2.1 hC.kn hP 0 2 rfl rfl hi hd (K l p e S m args below meth cd H locs cells slots mc ms lsC X D aC B sh0 sh hfl hC hR hsh (cn_ok trivial (tl2_ok hst)) hL hS hc1 hs1)
theorem at_lald {n a : Nat} {i : Int32} (hd : decode (mCd y) pc = .ok (.laload, 1)) (hi : vp_in i n) (K : At y (pc + 1) ls (.inr (.inl (ml a i.toNatClampNeg)) :: t) k s Q c mr mi ml) : At y pc ls (.inl i :: .inr (.inr (some (1, n, a))) :: t) k s Q c mr mi ml := by
  intro l p e S m args below meth cd H locs cells slots mc ms lsC X D aC B sh0 sh hfl hC hR hsh hst hL hS hc1 hs1
  obtain ⟨-, hP⟩ := hR.cell (tl_ok hst _ List.mem_cons_self : okq X sh (1, n, a)) (by omega)
  exact va_lald hC.1 hC.2.1 hC.kn hP 0 1 rfl rfl hi hd (K l p e S m args below meth cd H locs cells slots mc ms lsC X D aC B sh0 sh hfl hC hR hsh (cn_ok trivial (tl2_ok hst)) hL hS hc1 hs1)
theorem at_aald {n a : Nat} {i : Int32} (hd : decode (mCd y) pc = .ok (.aaload, 1)) (hi : vp_in i n) (K : At y (pc + 1) ls (.inr (.inr (mr a i.toNatClampNeg)) :: t) k s Q c mr mi ml) : At y pc ls (.inl i :: .inr (.inr (some (3, n, a))) :: t) k s Q c mr mi ml := by
  intro l p e S m args below meth cd H locs cells slots mc ms lsC X D aC B sh0 sh hfl hC hR hsh hst hL hS hc1 hs1
  obtain ⟨hsa, hP⟩ := hR.cell (tl_ok hst _ List.mem_cons_self : okq X sh (3, n, a)) (by omega)
  have hlt : i.toNatClampNeg < n := Nat.not_le.mp fun q => hi (Or.inr q)
  have hv : va_rf ((mr a i.toNatClampNeg).map (fun q => B + q.2.2)) = cv X B (.inr (.inr (mr a i.toNatClampNeg))) := by
    cases h : mr a i.toNatClampNeg with
    | none => rfl
    | some q => exact (cq_in (n := q.2.1) (hR.2.2.2.2.2.1 a n _ q hsa h)).symm
  have hok : okv X sh (.inr (.inr (mr a i.toNatClampNeg))) := by
    cases h : mr a i.toNatClampNeg with
    | none => trivial
    | some q => exact hR.2.2.2.2.1 a _ q h
  refine W.aald (v := cv X B (.inr (.inr (mr a i.toNatClampNeg)))) (ty := .array .long) hC.1 hC.2.1 (hP 0 _ rfl) ((hC.kn.2 3 _ rfl).1 n (fun j => va_rf ((mr a j).map (fun q => B + q.2.2)))) rfl (fun q => by cases q) ?_ ?_ rfl rfl hd (K l p e S m args below meth cd H locs cells slots mc ms lsC X D aC B sh0 sh hfl hC hR hsh (cn_ok hok (tl2_ok hst)) hL hS hc1 hs1)
  · show ¬ (i < 0 ∨ (arrV _ _ _).slots.size ≤ _); rw [arrV_size]; exact hi
  · show (arrV _ _ _).slots[_]? = _; rw [arrV_read _ _ hlt, hv]
theorem B_lt {X : XT} {D : va_G} {aC : AC} {B : Nat} {sh : List (Nat × Nat)} {c : Nat} {mr : MR} {mi : MI} {ml : ML} {H : Heap} {a ro n : Nat} (h : RH X D aC B sh c mr mi ml H) (ha : sh[a]? = some (ro, n)) (hro : ro < 20) : B < B + a := by
  rcases Nat.eq_zero_or_pos a with z | z
  · subst z
    have := h.2.2.1
    rw [ha] at this
    cases this
    omega
  · omega
theorem at_iast {n a : Nat} {i x : Int32} (hd : decode (mCd y) pc = .ok (.iastore, 1)) (hi : vp_in i n) (K : At y (pc + 1) ls t k s Q c mr (u2 mi a i.toNatClampNeg x) ml) : At y pc ls (.inl x :: .inl i :: .inr (.inr (some (0, n, a))) :: t) k s Q c mr mi ml := by
  intro l p e S m args below meth cd H locs cells slots mc ms lsC X D aC B sh0 sh hfl hC hR hsh hst hL hS hc1 hs1
  obtain ⟨hsa, hP⟩ := hR.cell (tl2_ok hst _ List.mem_cons_self : okq X sh (0, n, a)) (by omega)
  refine W.iast hC.1 hC.2.1 (hP 0 _ rfl) ((hC.kn.2 0 _ rfl).1 n (fun j => .int (mi a j))) (fun q => by cases q) (by show ¬ (i < 0 ∨ (arrV _ _ _).slots.size ≤ _); rw [arrV_size]; exact hi) rfl rfl hd fun H1 e1 z oq => ?_
  have hR1 : RH X D aC B sh c mr (u2 mi a i.toNatClampNeg x) ml H1 := by
    refine hR.upd hsa (by omega) z oq (fun b hb => ⟨rfl, u2_n _ _ _ hb, rfl⟩) ?_ (fun j q h => hR.2.2.2.2.1 a j q h) (fun h => by omega)
    show H1[B + a]? = some (vp_cell aC.1 (n, .inl (u2 mi a i.toNatClampNeg x a)))
    rw [e1]
    show some ((arrV aC.1 n (fun j => .int (mi a j))).setSlot i.toNatClampNeg (.int x)) = some (arrV aC.1 n (fun j => .int (u2 mi a i.toNatClampNeg x a j)))
    rw [arrV_store]
    congr 2
    funext j
    by_cases hj : j = i.toNatClampNeg
    · subst hj; simp [updV, u2_s]
    · simp [updV, hj, u2_k]
  exact K l p e S m args below meth cd H1 _ cells slots mc ms lsC X D aC B sh0 sh hfl hC hR1 hsh (tl3_ok hst) hL (hS.put z oq (B_lt hR hsa (by omega))) hc1 hs1
theorem at_bast {n a : Nat} {i x : Int32} (hd : decode (mCd y) pc = .ok (.bastore, 1)) (hi : vp_in i n) (K : At y (pc + 1) ls t k s Q c mr (u2 mi a i.toNatClampNeg (vp_nar .byte x)) ml) : At y pc ls (.inl x :: .inl i :: .inr (.inr (some (2, n, a))) :: t) k s Q c mr mi ml := by
  intro l p e S m args below meth cd H locs cells slots mc ms lsC X D aC B sh0 sh hfl hC hR hsh hst hL hS hc1 hs1
  obtain ⟨hsa, hP⟩ := hR.cell (tl2_ok hst _ List.mem_cons_self : okq X sh (2, n, a)) (by omega)
  refine W.bast hC.1 hC.2.1 (hP 0 _ rfl) ((hC.kn.2 2 _ rfl).1 n (fun j => .int (mi a j))) (fun q => by cases q) (by show ¬ (i < 0 ∨ (arrV _ _ _).slots.size ≤ _); rw [arrV_size]; exact hi) rfl rfl hd fun H1 e1 z oq => ?_
  have hR1 : RH X D aC B sh c mr (u2 mi a i.toNatClampNeg (vp_nar .byte x)) ml H1 := by
    refine hR.upd hsa (by omega) z oq (fun b hb => ⟨rfl, u2_n _ _ _ hb, rfl⟩) ?_ (fun j q h => hR.2.2.2.2.1 a j q h) (fun h => by omega)
    show H1[B + a]? = some (vp_cell aC.2.2.1 (n, .inl (u2 mi a i.toNatClampNeg (vp_nar .byte x) a)))
    rw [e1]
    show some ((arrV aC.2.2.1 n (fun j => .int (mi a j))).setSlot i.toNatClampNeg _) = some (arrV aC.2.2.1 n (fun j => .int (u2 mi a i.toNatClampNeg (vp_nar .byte x) a j)))
    rw [arrV_store]
    congr 2
    funext j
    by_cases hj : j = i.toNatClampNeg
    · subst hj; simp [updV, u2_s, vp_nar]; try rfl
    · simp [updV, hj, u2_k]
  exact K l p e S m args below meth cd H1 _ cells slots mc ms lsC X D aC B sh0 sh hfl hC hR1 hsh (tl3_ok hst) hL (hS.put z oq (B_lt hR hsa (by omega))) hc1 hs1
theorem at_last {n a : Nat} {i : Int32} {x : Int64} (hd : decode (mCd y) pc = .ok (.lastore, 1)) (hi : vp_in i n) (K : At y (pc + 1) ls t k s Q c mr mi (u2 ml a i.toNatClampNeg x)) : At y pc ls (.inr (.inl x) :: .inl i :: .inr (.inr (some (1, n, a))) :: t) k s Q c mr mi ml := by
  intro l p e S m args below meth cd H locs cells slots mc ms lsC X D aC B sh0 sh hfl hC hR hsh hst hL hS hc1 hs1
  obtain ⟨hsa, hP⟩ := hR.cell (tl2_ok hst _ List.mem_cons_self : okq X sh (1, n, a)) (by omega)
  refine W.last hC.1 hC.2.1 (hP 0 _ rfl) ((hC.kn.2 1 _ rfl).1 n (fun j => .long (ml a j))) (fun q => by cases q) (by show ¬ (i < 0 ∨ (arrV _ _ _).slots.size ≤ _); rw [arrV_size]; exact hi) rfl rfl hd fun H1 e1 z oq => ?_
  have hR1 : RH X D aC B sh c mr mi (u2 ml a i.toNatClampNeg x) H1 := by
    refine hR.upd hsa (by omega) z oq (fun b hb => ⟨rfl, rfl, u2_n _ _ _ hb⟩) ?_ (fun j q h => hR.2.2.2.2.1 a j q h) (fun h => by omega)
    show H1[B + a]? = some (vp_cell aC.2.1 (n, .inr (.inl (u2 ml a i.toNatClampNeg x a))))
    rw [e1]
    show some ((arrV aC.2.1 n (fun j => .long (ml a j))).setSlot i.toNatClampNeg (.long x)) = some (arrV aC.2.1 n (fun j => .long (u2 ml a i.toNatClampNeg x a j)))
    rw [arrV_store]
    congr 2
    funext j
    by_cases hj : j = i.toNatClampNeg
    · subst hj; simp [updV, u2_s]
    · simp [updV, hj, u2_k]
  exact K l p e S m args below meth cd H1 _ cells slots mc ms lsC X D aC B sh0 sh hfl hC hR1 hsh (tl3_ok hst) hL (hS.put z oq (B_lt hR hsa (by omega))) hc1 hs1
theorem at_alen {ro n a : Nat} (hro : arOK ro = true) (hd : decode (mCd y) pc = .ok (.arraylength, 1)) (K : At y (pc + 1) ls (.inl (nI n) :: t) k s Q c mr mi ml) : At y pc ls (.inr (.inr (some (ro, n, a))) :: t) k s Q c mr mi ml := by
  intro l p e S m args below meth cd H locs cells slots mc ms lsC X D aC B sh0 sh hfl hC hR hsh hst hL hS hc1 hs1
  have K2 := K l p e S m args below meth cd H locs cells slots mc ms lsC X D aC B sh0 sh hfl hC hR hsh (cn_ok trivial (tl_ok hst)) hL hS hc1 hs1
  have hq : okq X sh (ro, n, a) := hst _ List.mem_cons_self
  simp only [arOK, Bool.or_eq_true, Nat.blt_eq] at hro
  have hro : ((ro < 4 ∨ ro = 101) ∨ ro = 102) ∨ ro = 104 := hro.imp (fun h => h.imp (fun h => h.imp id Nat.eq_of_beq_eq_true) Nat.eq_of_beq_eq_true) Nat.eq_of_beq_eq_true
  rcases hro with ((h | h) | h) | h
  · obtain ⟨-, hP⟩ := hR.cell hq (by omega)
    have h4 : ro = 0 ∨ ro = 1 ∨ ro = 2 ∨ ro = 3 := by omega
    rcases h4 with rfl | rfl | rfl | rfl
    · exact va_alen hC.1 hC.2.1 hC.kn hP 0 0 rfl rfl rfl hd K2
    · exact va_alen hC.1 hC.2.1 hC.kn hP 0 1 rfl rfl rfl hd K2
    · exact va_alen hC.1 hC.2.1 hC.kn hP 0 2 rfl rfl rfl hd K2
    · exact va_alen hC.1 hC.2.1 hC.kn hP 0 3 rfl rfl rfl hd K2
  · subst h
    have hn : n = 6 := hq
    subst hn
    exact va_tlen hC.1 hC.2.1 hC.ext.prt hS rfl hd K2
  · subst h
    obtain ⟨ha, hn⟩ : a < nStr ∧ n = strN.getD a 0 := hq
    rw [hn] at K2
    exact va_tlen hC.1 hC.2.1 (hC.ext.1.1 a ha).2.2.2 hS rfl hd K2
  · subst h
    have hn : n = X.2.2.2.2.1 := hq
    rw [hn] at K2
    exact va_slen hC.1 hC.2.1 hC.ext.scr (Nat.lt_of_le_of_lt hC.ext.scB hC.ext.bsz) (Nat.not_lt.mpr hC.ext.scB) hS hd K2
theorem at_xald {n a : Nat} {i : Int32} (hd : decode (mCd y) pc = .ok (.iaload, 1)) (hi : vp_in i n) (K : At y (pc + 1) ls (.inl (mi 0 i.toNatClampNeg) :: t) k s Q c mr mi ml) : At y pc ls (.inl i :: .inr (.inr (some (104, n, a))) :: t) k s Q c mr mi ml := by
  intro l p e S m args below meth cd H locs cells slots mc ms lsC X D aC B sh0 sh hfl hC hR hsh hst hL hS hc1 hs1
  have K2 := K l p e S m args below meth cd H locs cells slots mc ms lsC X D aC B sh0 sh hfl hC hR hsh (cn_ok trivial (tl2_ok hst)) hL hS hc1 hs1
  have hn : n = X.2.2.2.2.1 := (tl_ok hst _ List.mem_cons_self : okq X sh (104, n, a))
  have hlt : i.toNatClampNeg < X.2.2.2.2.1 := by rw [← hn]; exact Nat.not_le.mp fun q => hi (Or.inr q)
  have e2 := hR.2.2.2.2.2.2 _ hlt
  rw [hn] at hi
  rw [e2] at K2
  exact va_sld hC.1 hC.2.1 hC.ext.scr (Nat.lt_of_le_of_lt hC.ext.scB hC.ext.bsz) (Nat.not_lt.mpr hC.ext.scB) hS hi hd K2
theorem at_pald {n a : Nat} {i : Int32} (hd : decode (mCd y) pc = .ok (.iaload, 1)) (hi : vp_in i n) (K : At y (pc + 1) ls (.inl (prC i.toNatClampNeg) :: t) k s Q c mr mi ml) : At y pc ls (.inl i :: .inr (.inr (some (101, n, a))) :: t) k s Q c mr mi ml := by
  intro l p e S m args below meth cd H locs cells slots mc ms lsC X D aC B sh0 sh hfl hC hR hsh hst hL hS hc1 hs1
  have hn : n = 6 := (tl_ok hst _ List.mem_cons_self : okq X sh (101, n, a))
  subst hn
  exact va_ti hC.1 hC.2.1 hC.ext.prt hS hi rfl hd (K l p e S m args below meth cd H locs cells slots mc ms lsC X D aC B sh0 sh hfl hC hR hsh (cn_ok trivial (tl2_ok hst)) hL hS hc1 hs1)
theorem at_sald {n a : Nat} {i : Int32} (hd : decode (mCd y) pc = .ok (.baload, 1)) (hi : vp_in i n) (K : At y (pc + 1) ls (.inl ((strB.getD a []).getD i.toNatClampNeg 0) :: t) k s Q c mr mi ml) : At y pc ls (.inl i :: .inr (.inr (some (102, n, a))) :: t) k s Q c mr mi ml := by
  intro l p e S m args below meth cd H locs cells slots mc ms lsC X D aC B sh0 sh hfl hC hR hsh hst hL hS hc1 hs1
  obtain ⟨ha, hn⟩ : a < nStr ∧ n = strN.getD a 0 := (tl_ok hst _ List.mem_cons_self : okq X sh (102, n, a))
  rw [hn] at hi
  exact va_tb hC.1 hC.2.1 (hC.ext.1.1 a ha).2.2.2 hS hi rfl hd (K l p e S m args below meth cd H locs cells slots mc ms lsC X D aC B sh0 sh hfl hC hR hsh (cn_ok trivial (tl2_ok hst)) hL hS hc1 hs1)
theorem at_sval {idx n a : Nat} (hd : decode (mCd y) pc = .ok (.getfield idx, 3)) (hw : Cond.fieldLink (mNm y).cls idx "java/lang/String" "value" "[B" ∈ WT) (K : At y (pc + 3) ls (.inr (.inr (some (102, strN.getD a 0, a))) :: t) k s Q c mr mi ml) : At y pc ls (.inr (.inr (some (100, n, a))) :: t) k s Q c mr mi ml := by
  intro l p e S m args below meth cd H locs cells slots mc ms lsC X D aC B sh0 sh hfl hC hR hsh hst hL hS hc1 hs1
  have ha : a < nStr := (hst _ List.mem_cons_self : okq X sh (100, n, a))
  exact vk_getf hC.1 hC.2.1 (hC.ext.1.1 a ha).2.2.1 hS hC.own (hC.wds _ hw) (fun x h => h) hd (K l p e S m args below meth cd H locs cells slots mc ms lsC X D aC B sh0 sh hfl hC hR hsh (cn_ok (show okq X sh (102, strN.getD a 0, a) from ⟨ha, rfl⟩) (tl_ok hst)) hL hS hc1 hs1)
theorem at_scod {idx n a : Nat} (hd : decode (mCd y) pc = .ok (.getfield idx, 3)) (hw : Cond.fieldLink (mNm y).cls idx "java/lang/String" "coder" "B" ∈ WT) (K : At y (pc + 3) ls (.inl 0 :: t) k s Q c mr mi ml) : At y pc ls (.inr (.inr (some (100, n, a))) :: t) k s Q c mr mi ml := by
  intro l p e S m args below meth cd H locs cells slots mc ms lsC X D aC B sh0 sh hfl hC hR hsh hst hL hS hc1 hs1
  have ha : a < nStr := (hst _ List.mem_cons_self : okq X sh (100, n, a))
  exact vk_getf hC.1 hC.2.1 (hC.ext.1.1 a ha).2.1 hS hC.own (hC.wds _ hw) (fun x h => h) hd (K l p e S m args below meth cd H locs cells slots mc ms lsC X D aC B sh0 sh hfl hC hR hsh (cn_ok trivial (tl_ok hst)) hL hS hc1 hs1)
theorem at_gs0 {idx : Nat} (hd : decode (mCd y) pc = .ok (.getstatic idx, 3)) (hw : Cond.fieldLink (mNm y).cls idx "java/lang/String" "COMPACT_STRINGS" "Z" ∈ WT) (K : At y (pc + 3) ls (.inl 1 :: t) k s Q c mr mi ml) : At y pc ls t k s Q c mr mi ml := by
  intro l p e S m args below meth cd H locs cells slots mc ms lsC X D aC B sh0 sh hfl hC hR hsh hst hL hS hc1 hs1
  exact va_gets hC.1 hC.2.1 hC.ext.cs hS hC.own (hC.wds _ hw) (fun x h => h) hd (K l p e S m args below meth cd H locs cells slots mc ms lsC X D aC B sh0 sh hfl hC hR hsh (cn_ok trivial hst) hL hS hc1 hs1)
theorem at_gs1 {idx : Nat} (hd : decode (mCd y) pc = .ok (.getstatic idx, 3)) (hw : Cond.fieldLink (mNm y).cls idx "WeighingPlates$Reader" "PRIMES" "[I" ∈ WT) (K : At y (pc + 3) ls (.inr (.inr (some (101, 6, 0))) :: t) k s Q c mr mi ml) : At y pc ls t k s Q c mr mi ml := by
  intro l p e S m args below meth cd H locs cells slots mc ms lsC X D aC B sh0 sh hfl hC hR hsh hst hL hS hc1 hs1
  exact va_gets hC.1 hC.2.1 hC.ext.prz hS hC.own (hC.wds _ hw) (fun x h => h) hd (K l p e S m args below meth cd H locs cells slots mc ms lsC X D aC B sh0 sh hfl hC hR hsh (cn_ok (show okq X sh (101, 6, 0) from rfl) hst) hL hS hc1 hs1)
theorem at_gs2 {idx : Nat} (hd : decode (mCd y) pc = .ok (.getstatic idx, 3)) (hw : Cond.fieldLink (mNm y).cls idx "jdk/internal/util/Preconditions" "SIOOBE_FORMATTER" "Ljava/util/function/BiFunction;" ∈ WT) (K : At y (pc + 3) ls (.inr (.inr (some (103, 0, 0))) :: t) k s Q c mr mi ml) : At y pc ls t k s Q c mr mi ml := by
  intro l p e S m args below meth cd H locs cells slots mc ms lsC X D aC B sh0 sh hfl hC hR hsh hst hL hS hc1 hs1
  exact va_gets hC.1 hC.2.1 hC.ext.sf hS hC.own (hC.wds _ hw) (fun x h => h) hd (K l p e S m args below meth cd H locs cells slots mc ms lsC X D aC B sh0 sh hfl hC hR hsh (cn_ok (show okq X sh (103, 0, 0) from trivial) hst) hL hS hc1 hs1)
end ARR
end
section
/-! ===== new cells, calls, answers, the entry ===== -/
section NEW
variable {y pc : Nat} {ls : eLS} {t : List AV} {k s : Nat} {Q : FT} {c : Nat} {mr : MR} {mi : MI} {ml : ML}
theorem vS_new {A : Nat → Prop} {H0 H H1 : Heap} {locs : List Loc} (hS : va_S A H0 H locs) (z1 : H1.size = H.size + 1) (o1 : ∀ q, q < H.size → H1[q]? = H[q]?) : va_S A H0 H1 locs :=
  ⟨Nat.le_trans hS.1 (by omega), fun q h1 h2 => (o1 q (Nat.lt_of_lt_of_le h1 hS.1)).trans (hS.2.1 q h1 h2), hS.2.2⟩
theorem at_new {idx x1 : Nat} {C : String} {T : u_T} {N : Nat} (hd : decode (mCd y) pc = .ok (.new idx, 3)) (hc : clT[x1]? = some (C, T, N)) (hw : Cond.classLink (mNm y).cls idx C ∈ WT) (hs : clN x1 ≤ s)
    (K : At y (pc + 3) ls (.inr (.inr (some (x1 + 10, 0, c))) :: t) k (s - clN x1) Q (c + 1) (z2 mr c none) (z2 mi c 0) (z2 ml c 0)) : At y pc ls t (k + 1) s Q c mr mi ml := by
  intro l p e S m args below meth cd H locs cells slots mc ms lsC X D aC B sh0 sh hfl hC hR hsh hst hL hS hc1 hs1
  obtain ⟨h10, hin, hins, hini, hN, -, -⟩ := clOK_of hc
  have hKn := hC.kn.1 x1 _ hc
  refine W.newcK hC.1 hC.2.1 hC.own (hC.wds _ hw) (hC.wds _ hins) (hC.wds _ hini) rfl hd (show cells + 1 ≤ mc by omega) (show slots + N ≤ ms by omega) hKn.2.1 rfl fun H1 kC hkC e1 z1 o1 => ?_
  have hp : sh <+: sh ++ [(x1 + 10, 0)] := List.prefix_append _ _
  have hR1 : RH X D aC B (sh ++ [(x1 + 10, 0)]) (c + 1) (z2 mr c none) (z2 mi c 0) (z2 ml c 0) H1 := by
    refine hR.new z1 o1 (fun _ => ?_)
    rw [cE_obj]
    rw [hR.1] at e1
    refine ⟨_, hc, (u_born (tyF T) hC.wds hin hKn hkC e1 (tyF_ok hc)).to (fun j hj => ?_)⟩
    have e2 : vp_V ((List.range (clN x1)).map (fv X B (z2 mr c none) (z2 mi c 0) (z2 ml c 0) c x1)) j = fv X B (z2 mr c none) (z2 mi c 0) (z2 ml c 0) c x1 j := by
      unfold vp_V
      rw [List.getD_eq_getElem?_getD, List.getElem?_map, List.getElem?_range (by omega)]; rfl
    rw [e2]
    unfold fv
    rcases tyF_kd hc hj with ⟨e3, e4⟩ | ⟨e3, e4⟩ | ⟨e3, e4⟩ | ⟨e3, e4⟩
    · rw [e3, e4]; simp [z2, defaultValue]
    · rw [e3, e4]; simp [z2, defaultValue]
    · rw [e3, e4]; simp [z2, defaultValue]
    · rw [e3]
      have e5 : defaultValue (tyF T j) = .null := by
        generalize tyF T j = ty at e4
        cases ty <;> first | rfl | (cases e4; done)
      rw [e5]; simp [z2, cv]
  have hcq : cv X B (.inr (.inr (some (x1 + 10, 0, c)))) = .ref H.size := by rw [hR.1]; exact cq_in (by omega)
  have K2 := K l p e S m args below meth cd H1 locs (cells + 1) (slots + N) mc ms lsC X D aC B sh0 _ hfl hC hR1 (hsh.trans hp) (cn_ok (show okq X (sh ++ [(x1 + 10, 0)]) (x1 + 10, 0, c) from (by
    unfold okq; rw [if_pos (show x1 + 10 < 100 by omega)]
    show (sh ++ [(x1 + 10, 0)])[c]? = _
    rw [← hR.2.1, List.getElem?_concat_length])) (fun v hv => okv_pre hp v (hst v hv))) (lvs_pre (okv_pre hp) hL) (vS_new hS z1 o1) (by omega) (by omega)
  have K2 : W p l e (rmm y mc ms) S m args below meth cd H1 locs (cells + 1) (slots + N) _ (F0 m (pc + 3) lsC (cv X B (.inr (.inr (some (x1 + 10, 0, c)))) :: t.map (cv X B))) := K2
  rw [hcq] at K2
  exact K2
theorem at_newa {aty : ArrayType} {ro n : Nat} (hd : decode (mCd y) pc = .ok (.newarray aty, 2)) (hro : (aty = .int ∧ ro = 0) ∨ (aty = .long ∧ ro = 1) ∨ (aty = .byte ∧ ro = 2)) (hn : n ≤ 65536) (hk : 1 ≤ k) (hs : n ≤ s)
    (K : At y (pc + 2) ls (.inr (.inr (some (ro, n, c))) :: t) (k - 1) (s - n) Q (c + 1) (z2 mr c none) (z2 mi c 0) (z2 ml c 0)) : At y pc ls (.inl (nI n) :: t) k s Q c mr mi ml := by
  intro l p e S m args below meth cd H locs cells slots mc ms lsC X D aC B sh0 sh hfl hC hR hsh hst hL hS hc1 hs1
  have hw : Cond.arrayClass (newarray.typeOf aty) ∈ WT := by
    rcases hro with ⟨rfl, -⟩ | ⟨rfl, -⟩ | ⟨rfl, -⟩
    · exact arr_words _ (by simp [newarray.typeOf])
    · exact arr_words _ (by simp [newarray.typeOf])
    · exact arr_words _ (by simp [newarray.typeOf])
  have hby : n * componentBytes (newarray.typeOf aty) ≤ 536870912 := by
    rcases hro with ⟨rfl, -⟩ | ⟨rfl, -⟩ | ⟨rfl, -⟩
    · show n * 4 ≤ _; omega
    · show n * 8 ≤ _; omega
    · show n * 1 ≤ _; omega
  have hro4 : ro < 4 := by rcases hro with ⟨-, rfl⟩ | ⟨-, rfl⟩ | ⟨-, rfl⟩ <;> omega
  refine va_newaK hC.1 hC.2.1 (hC.wds _ hw) rfl hd rfl (nI_pos (by omega)) (nI_clamp (by omega)) hby (show cells + 1 ≤ mc by omega) (show slots + n ≤ ms by omega) rfl fun H1 cA e1 z1 o1 hA hF => ?_
  have hp : sh <+: sh ++ [(ro, n)] := List.prefix_append _ _
  have hR1 : RH X D aC B (sh ++ [(ro, n)]) (c + 1) (z2 mr c none) (z2 mi c 0) (z2 ml c 0) H1 := by
    refine hR.new z1 o1 (fun _ => ?_)
    rw [hR.1] at e1
    rcases hro with ⟨rfl, rfl⟩ | ⟨rfl, rfl⟩ | ⟨rfl, rfl⟩
    · have e2 : cA = aC.1 := Option.some.inj (hF.symm.trans (hC.kn.2 0 _ rfl).2)
      subst e2
      show H1[B + c]? = some (vp_cell aC.1 (n, .inl (z2 mi c 0 c)))
      rw [e1, vp_cell_i]; simp [z2, newarray.typeOf, defaultValue]
    · have e2 : cA = aC.2.1 := Option.some.inj (hF.symm.trans (hC.kn.2 1 _ rfl).2)
      subst e2
      show H1[B + c]? = some (vp_cell aC.2.1 (n, .inr (.inl (z2 ml c 0 c))))
      rw [e1, vp_cell_l]; simp [z2, newarray.typeOf, defaultValue]
    · have e2 : cA = aC.2.2.1 := Option.some.inj (hF.symm.trans (hC.kn.2 2 _ rfl).2)
      subst e2
      show H1[B + c]? = some (vp_cell aC.2.2.1 (n, .inl (z2 mi c 0 c)))
      rw [e1, vp_cell_i]; simp [z2, newarray.typeOf, defaultValue]
  have hcq : cv X B (.inr (.inr (some (ro, n, c)))) = .ref H.size := by rw [hR.1]; exact cq_in (by omega)
  have K2 := K l p e S m args below meth cd H1 locs (cells + 1) (slots + n) mc ms lsC X D aC B sh0 _ hfl hC hR1 (hsh.trans hp) (cn_ok (show okq X (sh ++ [(ro, n)]) (ro, n, c) from (by
    unfold okq; rw [if_pos (show ro < 100 by omega)]
    show (sh ++ [(ro, n)])[c]? = _
    rw [← hR.2.1, List.getElem?_concat_length])) (fun v hv => okv_pre hp v (tl_ok hst v hv))) (lvs_pre (okv_pre hp) hL) (vS_new hS z1 o1) (by omega) (by omega)
  have K2 : W p l e (rmm y mc ms) S m args below meth cd H1 locs (cells + 1) (slots + n) _ (F0 m (pc + 2) lsC (cv X B (.inr (.inr (some (ro, n, c)))) :: t.map (cv X B))) := K2
  rw [hcq] at K2
  exact K2
end NEW
-- what is outside stays
theorem EX.same {X : XT} {B : Nat} {U V : State} (h : EX X B U) (hv : V.vm = U.vm) (hh : V.heap = U.heap) : EX X B V := by
  have ha : U.vm.Alike V.vm := by rw [hv]; exact Vm.Alike.refl U.vm
  refine ⟨by rw [hh]; exact h.1.moved ha, fun q hq => vk_R.same hv (h.lds q hq), by rw [hh]; exact h.cs.moved ha, by rw [hh]; exact h.prz.moved ha, by rw [hh]; exact h.prt.moved ha, by rw [hh]; exact h.sf.moved ha, h.fm, by rw [hh]; exact h.scr.moved ha, h.scB, by rw [hh]; exact h.bsz, fun q hq => va_Nw.same rfl hv.symm (h.nst q hq), h.ao.moved ha, by rw [hh]; exact h.tU.moved ha, by rw [hh]; exact h.tN.moved ha⟩
theorem EX.next {X : XT} {B : Nat} {S U : State} {H : Heap} {locs : List Loc} (h : EX X B S) (hS : va_S (fun q => B < q) S.heap H locs) (hh : U.heap = H) (hW : S.WarmedH U.vm) : EX X B U := by
  have ha : S.vm.Alike U.vm := hW.alike
  have hk : ∀ a : Nat, a < S.heap.size → ¬ B < a → H[a]? = S.heap[a]? := fun a h1 h2 => hS.2.1 a h1 h2
  refine ⟨by rw [hh]; exact (h.1.kept hk).moved ha, fun q hq => vk_R.warm hW (h.lds q hq), by rw [hh]; exact (h.cs.kept hk).moved ha, by rw [hh]; exact (h.prz.kept hk).moved ha, by rw [hh]; exact (h.prt.kept hk).moved ha, by rw [hh]; exact (h.sf.kept hk).moved ha, h.fm, ?_, h.scB, by rw [hh]; exact Nat.lt_of_lt_of_le h.bsz hS.1, fun q hq => va_Nw.warmM hW (h.nst q hq), h.ao.moved ha, by rw [hh]; exact (h.tU.kept hk).moved ha, by rw [hh]; exact (h.tN.kept hk).moved ha⟩
  rw [hh]
  exact (h.scr.kept (hS.2.1 _ (Nat.lt_of_le_of_lt h.scB h.bsz) (Nat.not_lt.mpr h.scB))).moved ha
theorem PC_blind {X : XT} {D : va_G} {aC : AC} {B : Nat} {sh : List (Nat × Nat)} {as : List AV} {c : Nat} {mr : MR} {mi : MI} {ml : ML} : FrameBlind (PC X D aC B sh as c mr mi ml) := fun a U g mk q =>
  ⟨q.1, q.2.1, q.2.2.1, va_K.moved (u := U) (U := U.calling g mk a) (Vm.Alike.refl U.vm) q.2.2.2.1, q.2.2.2.2.same rfl rfl⟩
-- what the checks say of a method
theorem mm_len : mm.length = 282 := by decide +kernel
theorem mget_ok {y : Nat} (hy : y < 282) : okT (mget y) = true := by
  have e : mget y ∈ mm := by
    unfold mget
    rw [List.getD_eq_getElem?_getD, List.getElem?_eq_getElem (by rw [mm_len]; exact hy)]
    exact List.getElem_mem _
  exact okT_all _ e
theorem dp_all : mm.all (fun M => Nat.beq M.2.2.2.2.2.2.2.1 8 || (Nat.ble M.2.2.2.2.2.1 11 && (!Nat.beq M.2.2.2.2.2.2.2.1 2 || M.2.2.2.1 == none))) = true := by decide +kernel
theorem mget_dp {y : Nat} (hy : y < 282) (hk : mKd y ≠ 8) : mDp y ≤ 11 ∧ (mKd y = 2 → mRt y = none) := by
  have e : mget y ∈ mm := by
    unfold mget
    rw [List.getD_eq_getElem?_getD, List.getElem?_eq_getElem (by rw [mm_len]; exact hy)]
    exact List.getElem_mem _
  have h := List.all_eq_true.mp dp_all _ e
  simp only [Bool.or_eq_true, Bool.and_eq_true, Bool.not_eq_true'] at h
  rcases h with h | ⟨h1, h2⟩
  · exact absurd (Nat.eq_of_beq_eq_true h) hk
  · refine ⟨Nat.le_of_ble_eq_true h1, fun z => ?_⟩
    rcases h2 with h2 | h2
    · have e2 : Nat.beq (mKd y) 2 = false := h2
      rw [z] at e2; cases e2
    · exact eq_of_beq h2
theorem okH_of {y : Nat} (hy : y < 282) : (∀ r ∈ mTb y, rwOK (mNm y).cls (mNm y).name (mCd y) (mMx y) r = true) ∧ chn (mTb y) = true ∧ (∃ r T, mTb y = r :: T ∧ r.1 = 0) ∧ plainName (mNm y).cls = true ∧ mMx y ≤ 19 ∧ (parseMethodDescriptor (mNm y).desc).map (fun d => d.parameters.length) = some (mNa y) ∧ (mNm y).cls ≠ "java/lang/invoke/MethodHandle" ∧ (mNm y).cls ≠ "java/lang/invoke/VarHandle"
    ∧ (mKd y = 0 → Cond.code (mNm y) (mCd y) (mMx y) (mRt y) ∈ WT ∧ Cond.initialized (mNm y).cls ∈ WT ∧ Cond.instanceMethod (mNm y) ∈ WT ∧ Cond.selects (mNm y).cls (mNm y) (mNm y) ∈ WT ∧ ((mCi y = 90 ∧ (mNm y).cls = "java/lang/String") ∨ ∃ T N, clT[mCi y]? = some ((mNm y).cls, T, N)))
    ∧ (mKd y = 1 → Cond.code (mNm y) (mCd y) (mMx y) (mRt y) ∈ WT ∧ Cond.initialized (mNm y).cls ∈ WT ∧ Cond.static (mNm y) ∈ WT)
    ∧ (mKd y = 2 → Cond.code (mNm y) (mCd y) (mMx y) (mRt y) ∈ WT ∧ Cond.initialized (mNm y).cls ∈ WT ∧ Cond.instanceMethod (mNm y) ∈ WT ∧ (mNm y).name = "<init>") := by
  have h := mget_ok hy
  unfold mNm mCd mMx mRt mTb mNa mKd mCi
  generalize mget y = M at h
  obtain ⟨nm, cd, mx, rt, T, dp, na, kd, ci, wc, wi, wa, wb⟩ := M
  unfold okT okH at h
  simp only [Bool.and_eq_true, decide_eq_true_eq, List.all_eq_true] at h
  obtain ⟨h0, ⟨⟨⟨⟨⟨⟨h1, h2⟩, h3⟩, h4⟩, h5⟩, h6⟩, h7⟩, h8⟩ := h
  refine ⟨h0, h1, ?_, h3, Nat.le_of_ble_eq_true h4, h5, h6, h7, fun z => ?_, fun z => ?_, fun z => ?_⟩
  · cases T with
    | nil => cases h2
    | cons r T => exact ⟨r, T, rfl, Nat.eq_of_beq_eq_true h2⟩
  · have z : kd = 0 := z
    subst z
    simp only [Bool.and_eq_true] at h8
    obtain ⟨⟨⟨⟨a1, a2⟩, a3⟩, a4⟩, a5⟩ := h8
    refine ⟨wAt_mem a1, wAt_mem a2, wAt_mem a3, wAt_mem a4, ?_⟩
    cases hb : Nat.beq ci 90 with
    | true =>
      rw [hb] at a5
      exact Or.inl ⟨Nat.eq_of_beq_eq_true hb, of_decide_eq_true a5⟩
    | false =>
      rw [hb] at a5
      simp only [cond_false] at a5
      split at a5
      · rename_i C T' N' e
        have := of_decide_eq_true a5
        exact Or.inr ⟨T', N', by show clT[ci]? = _; rw [e, this]⟩
      · cases a5
  · have z : kd = 1 := z
    subst z
    simp only [Bool.and_eq_true] at h8
    exact ⟨wAt_mem h8.1.1, wAt_mem h8.1.2, wAt_mem h8.2⟩
  · have z : kd = 2 := z
    subst z
    simp only [Bool.and_eq_true] at h8
    exact ⟨wAt_mem h8.1.1.1, wAt_mem h8.1.1.2, wAt_mem h8.1.2, of_decide_eq_true h8.2⟩
theorem WT_good {w : Cond} (h : w ∈ WT) : (w.onTables && w.keeps) = true ∨ ∃ ty, w = .arrayClass ty := good_of_word (List.mem_filter.mp h).2
theorem wsy_good {y : Nat} (h : Cond.code (mNm y) (mCd y) (mMx y) (mRt y) ∈ WT) : GoodIn WT (wsy y) := by
  intro w hw
  have hw : w ∈ WT := by
    rcases List.mem_cons.mp hw with rfl | hw
    · exact h
    · exact hw
  exact ⟨hw, WT_good hw⟩
theorem mLo_le {y y' : Nat} (hy' : y' < 282) (hk : mKd y' ≠ 8) (hm : mMx y' ≤ 19) (hd : mDp y' < mDp y) : mDp y' + 1 ≤ mDp y ∧ 8 + (mMx y' + 11) + mLo y' ≤ mLo y := by
  have h10 := (mget_dp hy' hk).1
  have e1 : mLo y' = 38 * mDp y' := by unfold mLo; split; exact absurd (by assumption) hk; rfl
  refine ⟨hd, ?_⟩
  rw [e1]
  unfold mLo
  split <;> omega
end
section
/-! ===== calls ===== -/
section CALL
variable {y pc : Nat} {ls : eLS} {t : List AV} {k s : Nat} {Q : FT} {Q0 : Option AV → HP} {c : Nat} {mr : MR} {mi : MI} {ml : ML}
theorem psh_map (X : XT) (B : Nat) (r : Option AV) (t : List AV) : (r.map (cv X B)).toList ++ t.map (cv X B) = (psh r t).map (cv X B) := by
  cases r <;> rfl
/-- behind a call -/
theorem at_run {y' mc' ms' : Nat} {Q1 : Option AV → HP} {A : Array Value} (hmc : mc' ≤ k) (hms : ms' ≤ s)
    (K : ∀ rv c' mr' mi' ml', Q1 rv c' mr' mi' ml' → At y (pc + 3) ls (psh rv t) (k - mc') (s - ms') Q c' mr' mi' ml')
    {l : Launch} {p : Program} {e : Env} {S : State} {m : MethodId} {args : Array Value} {below : List Frame} {meth : Method} {cd : Code} {H : Heap} {locs : List Loc} {cells slots mc ms : Nat} {lsC : Array Slot} {X : XT} {D : va_G} {aC : AC} {B : Nat} {sh0 sh : List (Nat × Nat)} {st0 : List Value}
    (hfl : l.flags = flags0) (hC : CX y p S m args meth cd X D aC B) (hsh : sh0 <+: sh) (hst : ∀ v ∈ t, okv X sh v) (hL : LVs X B sh lsC (mMx y) ls) (hS : va_S (fun q => B < q) S.heap H locs) (hc1 : cells + k ≤ mc) (hs1 : slots + s ≤ ms)
    (hr : va_Run p l e (rmm y mc ms) S m args below meth cd H locs cells slots mc' ms' (F0 m pc lsC st0) (t.map (cv X B)) (QC X D aC B sh Q1 A) (fun q => B < q)) :
    W p l e (rmm y mc ms) S m args below meth cd H locs cells slots (Q below args S mc ms X D aC B sh0) (F0 m pc lsC st0) := by
  intro T hT Xs
  obtain ⟨v, st₀, u, T', L, h0, X', hLo, e1, e2, ⟨⟨r, c', mr', mi', ml', sh', hv, hQ, hR', hp, hok⟩, hF⟩, st⟩ := hr T hT Xs
  have hv : v = r.map (cv X B) := Outcome.returned.inj hv
  have hS' : va_S (fun q => B < q) S.heap T'.heap (locs ++ L) := by
    obtain ⟨f1, f2⟩ := hF
    rw [h0] at f1 f2
    refine ⟨Nat.le_trans hS.1 (by rw [e1]; exact f1), fun q h1 h2 => ?_, fun q hq => ?_⟩
    · rw [e1, f2 q (Nat.lt_of_lt_of_le h1 hS.1) h2]; exact hS.2.1 q h1 h2
    · rcases List.mem_append.mp hq with h | h
      · exact hS.2.2 q h
      · exact hLo q h
  have hst' : ∀ v ∈ psh r t, okv X sh' v := by
    cases r with
    | none => exact fun v hv => okv_pre hp v (hst v hv)
    | some w => exact cn_ok (hok w rfl) (fun v hv => okv_pre hp v (hst v hv))
  have K2 := K r c' mr' mi' ml' hQ l p e S m args below meth cd T'.heap (locs ++ L) (cells + mc') (slots + ms') mc ms lsC X D aC B sh0 sh' hfl hC (by rw [e1]; exact hR') (hsh.trans hp) hst' (lvs_pre (okv_pre hp) hL) hS' (by omega) (by omega)
  obtain ⟨t2, a1, b1⟩ := K2 T' rfl X'
  rw [← psh_map, ← hv] at a1
  exact ⟨t2, st t2 a1, b1⟩
theorem pc_at {X : XT} {D : va_G} {aC : AC} {B : Nat} {sh : List (Nat × Nat)} {as : List AV} {p : Program} {S : State} {m : MethodId} {args : Array Value} {meth : Method} {cd : Code} {H : Heap} {locs : List Loc} (hC : CX y p S m args meth cd X D aC B) (hR : RH X D aC B sh c mr mi ml H) (hS : va_S (fun q => B < q) S.heap H locs) (hok : ∀ v ∈ as, okv X sh v) : ∀ U : State, U.heap = H → S.WarmedH U.vm → PC X D aC B sh as c mr mi ml (as.map (cv X B)).toArray U :=
  fun U hU hW => ⟨rfl, by rw [hU]; exact hR, hok, va_K.moved hW.alike hC.kn, hC.ext.next hS hU hW⟩
theorem as_ok {X : XT} {sh : List (Nat × Nat)} {as : List AV} (h : ∀ v ∈ as.reverse ++ t, okv X sh v) : (∀ v ∈ as, okv X sh v) ∧ ∀ v ∈ t, okv X sh v :=
  ⟨fun v hv => h v (List.mem_append_left _ (List.mem_reverse.mpr hv)), fun v hv => h v (List.mem_append_right _ hv)⟩
theorem callB {R : Room} {y' mc' ms' idx : Nat} {S : State} {args : Array Value} {own : String} (hy' : y' < 282) (hk : mKd y' ≠ 8) (hwd : ∀ w ∈ WT, w.before args S = true) (hcd : Cond.code (mNm y') (mCd y') (mMx y') (mRt y') ∈ WT) (hin : Cond.initialized (mNm y').cls ∈ WT) (hl : Cond.methodLink own idx (mNm y') ∈ WT) (hR : mDp y' + 1 ≤ R.frames ∧ 8 + (mMx y' + 11) + mLo y' ≤ R.locals) :
    CallB R S args own idx (mNm y') (mCd y') (mMx y') (mRt y') (wsy y') (rmm y' mc' ms') mc' ms' (mNa y') := by
  obtain ⟨-, -, -, -, -, hpar, hn1, hn2, -⟩ := okH_of hy'
  exact callB_of (mNa y') hwd (wsy_good hcd) rfl rfl rfl (hwd _ hin) (hwd _ hl) ⟨hn1, hn2, hpar⟩ hR
theorem at_callS {y' mc' ms' idx : Nat} {as : List AV} {Q1 : Option AV → HP} (hd : decode (mCd y) pc = .ok (.invokestatic idx, 3)) (hy' : y' < 282) (hk : mKd y' = 1) (hl : Cond.methodLink (mNm y).cls idx (mNm y') ∈ WT) (hdp : mDp y' < mDp y) (hcat : catS t ≤ 8) (hlen : as.length = mNa y') (O : Ok y' mc' ms' as Q1 c mr mi ml) (hmc : mc' ≤ k) (hms : ms' ≤ s)
    (K : ∀ rv c' mr' mi' ml', Q1 rv c' mr' mi' ml' → At y (pc + 3) ls (psh rv t) (k - mc') (s - ms') Q c' mr' mi' ml') : At y pc ls (as.reverse ++ t) k s Q c mr mi ml := by
  intro l p e S m args below meth cd H locs cells slots mc ms lsC X D aC B sh0 sh hfl hC hR hsh hst hL hS hc1 hs1
  obtain ⟨-, -, -, -, hmx, -, -, -, -, hs1', -⟩ := okH_of hy'
  obtain ⟨w1, w2, w3⟩ := hs1' hk
  obtain ⟨o1, o2⟩ := as_ok hst
  rw [List.map_append, List.map_reverse]
  refine at_run (y' := y') hmc hms K hfl hC hsh o2 hL hS hc1 hs1 (va_runS (As := as.map (cv X B)) (rest := t.map (cv X B)) (n := mNa y') ⟨hC.1, hC.2.1, hC.ml, hC.own, hC.wds⟩ (O l X D aC B sh hfl) ⟨callB hy' (by omega) hC.wds w1 w2 hl (mLo_le hy' (by omega) hmx hdp), hC.wds _ w3⟩ ⟨PC_blind, pc_at hC hR hS o1⟩ rfl (by rw [List.length_map]; exact hlen) hL.1 rfl (lv_room (by rw [catS_map hC.ext.fm]; exact hcat)) hd ⟨?_, ?_⟩)
  · show cells + mc' ≤ mc; omega
  · show slots + ms' ≤ ms; omega
theorem at_callV {y' mc' ms' idx n a : Nat} {as : List AV} {Q1 : Option AV → HP} (hd : decode (mCd y) pc = .ok (.invokevirtual idx, 3)) (hy' : y' < 282) (hk : mKd y' = 0) (hl : Cond.methodLink (mNm y).cls idx (mNm y') ∈ WT) (hdp : mDp y' < mDp y) (hcat : catS t ≤ 8) (hlen : as.length = mNa y') (O : Ok y' mc' ms' (.inr (.inr (some (mCi y' + 10, n, a))) :: as) Q1 c mr mi ml) (hmc : mc' ≤ k) (hms : ms' ≤ s)
    (K : ∀ rv c' mr' mi' ml', Q1 rv c' mr' mi' ml' → At y (pc + 3) ls (psh rv t) (k - mc') (s - ms') Q c' mr' mi' ml') : At y pc ls ((.inr (.inr (some (mCi y' + 10, n, a))) :: as).reverse ++ t) k s Q c mr mi ml := by
  intro l p e S m args below meth cd H locs cells slots mc ms lsC X D aC B sh0 sh hfl hC hR hsh hst hL hS hc1 hs1
  obtain ⟨-, -, -, -, hmx, -, -, -, hs0, -, -⟩ := okH_of hy'
  obtain ⟨w1, w2, w3, w4, w5⟩ := hs0 hk
  obtain ⟨o1, o2⟩ := as_ok hst
  have hrc : ∃ b, cv X B (.inr (.inr (some (mCi y' + 10, n, a)))) = .ref b ∧ ∃ cellB : Cell, H[b]? = some cellB ∧ cellB.vm.isStatics = false ∧ S.vm.findClass (mNm y').cls = some cellB.cls := by
    have hq : okq X sh (mCi y' + 10, n, a) := o1 _ List.mem_cons_self
    rcases w5 with ⟨e1, e2⟩ | ⟨T, N, e1⟩
    · rw [e1] at hq ⊢
      rw [e2]
      exact ⟨X.1 a, rfl, vk_recv hC.ext.1 (show a < nStr from hq) hS⟩
    · obtain ⟨h10, -⟩ := clOK_of e1
      refine ⟨B + a, cq_in (by omega), ?_⟩
      obtain ⟨-, hP⟩ := hR.cell hq (by omega)
      rw [cE_obj] at hP
      exact va_recv hC.kn hP e1 (q0 := 0) rfl
  obtain ⟨b, hb, hcell⟩ := hrc
  have hpc := pc_at hC hR hS o1
  rw [List.map_append, List.map_reverse]
  rw [List.map_cons, hb] at hpc ⊢
  rw [List.reverse_cons, List.append_assoc]
  refine at_run (y' := y') (A := (Value.ref b :: as.map (cv X B)).toArray) hmc hms K hfl hC hsh o2 hL hS hc1 hs1 (va_runV (C := (mNm y').cls) (b := b) (As := as.map (cv X B)) (rest := t.map (cv X B)) (n := mNa y') ⟨hC.1, hC.2.1, hC.ml, hC.own, hC.wds⟩ (O l X D aC B sh hfl) ⟨callB hy' (by omega) hC.wds w1 w2 hl (mLo_le hy' (by omega) hmx hdp), hC.wds _ w3, hC.wds _ w4⟩ ⟨PC_blind, hcell, hpc⟩ rfl (by rw [List.length_map]; exact hlen) hL.1 rfl (lv_room (by rw [catS_map hC.ext.fm]; exact hcat)) hd ⟨?_, ?_⟩)
  · show cells + mc' ≤ mc; omega
  · show slots + ms' ≤ ms; omega
theorem at_callI {y' mc' ms' idx n a ro : Nat} {as : List AV} {Q1 : Option AV → HP} (hd : decode (mCd y) pc = .ok (.invokespecial idx, 3)) (hy' : y' < 282) (hk : mKd y' = 2) (hro : ro < 100) (hl : Cond.methodLink (mNm y).cls idx (mNm y') ∈ WT ∨ ((mNm y).cls, idx, mNm y') ∈ nestT) (hdp : mDp y' < mDp y) (hcat : catS t ≤ 8) (hlen : as.length = mNa y') (O : Ok y' mc' ms' (.inr (.inr (some (ro, n, a))) :: as) Q1 c mr mi ml) (hmc : mc' ≤ k) (hms : ms' ≤ s)
    (K : ∀ rv c' mr' mi' ml', Q1 rv c' mr' mi' ml' → At y (pc + 3) ls (psh rv t) (k - mc') (s - ms') Q c' mr' mi' ml') : At y pc ls ((.inr (.inr (some (ro, n, a))) :: as).reverse ++ t) k s Q c mr mi ml := by
  intro l p e S m args below meth cd H locs cells slots mc ms lsC X D aC B sh0 sh hfl hC hR hsh hst hL hS hc1 hs1
  obtain ⟨-, -, -, -, hmx, hpar, hn1, hn2, -, -, hs2⟩ := okH_of hy'
  obtain ⟨w1, w2, w3, w4⟩ := hs2 hk
  obtain ⟨o1, o2⟩ := as_ok hst
  have hb : cv X B (.inr (.inr (some (ro, n, a)))) = .ref (B + a) := cq_in hro
  have hpc := pc_at hC hR hS o1
  have hrt := (mget_dp hy' (by omega)).2 hk
  rw [List.map_append, List.map_reverse]
  rw [List.map_cons, hb] at hpc ⊢
  rw [List.reverse_cons, List.append_assoc]
  have hf : cells + mc' ≤ (rmm y mc ms).cells ∧ slots + ms' ≤ (rmm y mc ms).slots := ⟨by show cells + mc' ≤ mc; omega, by show slots + ms' ≤ ms; omega⟩
  have hlo := mLo_le hy' (by omega) hmx hdp
  rcases hl with hl | hl
  · have hcb := callB (R := rmm y mc ms) (mc' := mc') (ms' := ms') hy' (by omega) hC.wds w1 w2 hl hlo
    rw [hrt] at hcb
    exact at_run (y' := y') (A := (Value.ref (B + a) :: as.map (cv X B)).toArray) hmc hms K hfl hC hsh o2 hL hS hc1 hs1 (va_runI (b := B + a) (As := as.map (cv X B)) (rest := t.map (cv X B)) (n := mNa y') ⟨hC.1, hC.2.1, hC.ml, hC.own, hC.wds⟩ (O l X D aC B sh hfl) ⟨hcb, w4, hC.wds _ w3⟩ ⟨PC_blind, hpc⟩ rfl (by rw [List.length_map]; exact hlen) hL.1 rfl (lv_room (by rw [catS_map hC.ext.fm]; exact hcat)) hd hf)
  · have hcn := va_cnB (R := rmm y mc ms) (mc := mc') (ms := ms') (rm := rmm y' mc' ms') (ws := wsy y') (mNa y') hC.wds (wsy_good w1) rfl rfl rfl (hC.ext.nst _ hl) (hC.wds _ w2) ⟨hn1, hn2, hpar⟩ hlo
    rw [hrt] at hcn
    exact at_run (y' := y') (A := (Value.ref (B + a) :: as.map (cv X B)).toArray) hmc hms K hfl hC hsh o2 hL hS hc1 hs1 (va_runIN (b := B + a) (As := as.map (cv X B)) (rest := t.map (cv X B)) (n := mNa y') ⟨hC.1, hC.2.1, hC.ml, hC.own, hC.wds⟩ (O l X D aC B sh hfl) ⟨hcn, w4, hC.wds _ w3⟩ ⟨PC_blind, hpc⟩ rfl (by rw [List.length_map]; exact hlen) hL.1 rfl (lv_room (by rw [catS_map hC.ext.fm]; exact hcat)) hd hf)
theorem obj_words : wAt 138 (.instanceMethod Lib.objectInit) = true ∧ wAt 139 (.code Lib.objectInit ⟨#[0xb1]⟩ 1 none) = true := by decide +kernel
theorem mLo_38 (hy : y < 282) (hdp : 1 ≤ mDp y) : 38 ≤ mLo y := by unfold mLo; split <;> omega
theorem at_obj {idx : Nat} {q : Nat × Nat × Nat} (hy : y < 282) (hdp : 1 ≤ mDp y) (hq : q.1 < 100) (hcat : catS t ≤ 8) (hd : decode (mCd y) pc = .ok (.invokespecial idx, 3)) (hl : Cond.methodLink (mNm y).cls idx Lib.objectInit ∈ WT) (K : At y (pc + 3) ls t k s Q c mr mi ml) : At y pc ls (.inr (.inr (some q)) :: t) k s Q c mr mi ml := by
  intro l p e S m args below meth cd H locs cells slots mc ms lsC X D aC B sh0 sh hfl hC hR hsh hst hL hS hc1 hs1
  have hb : cv X B (.inr (.inr (some q))) = .ref (B + q.2.2) := if_pos hq
  show W p l e (rmm y mc ms) S m args below meth cd H locs cells slots _ (F0 m pc lsC (cv X B (.inr (.inr (some q))) :: t.map (cv X B)))
  rw [hb]
  have h38 := mLo_38 hy hdp
  have hr : 2 * (F0 m pc lsC (Value.ref (B + q.2.2) :: t.map (cv X B))).monitorRoom + ((t.map (cv X B)).map fun v => v.category).sum ≤ 8 := lv_room (by rw [catS_map hC.ext.fm]; exact hcat)
  refine W.objInit hC.1 hC.2.1 hC.own (hC.wds _ hl) (hC.wds _ (wAt_mem obj_words.1)) (hC.wds _ (wAt_mem obj_words.2)) rfl (hL.1.trans hC.ml.symm) rfl hd (show 1 ≤ mDp y from hdp) ?_ (K l p e S m args below meth cd H locs cells slots mc ms lsC X D aC B sh0 sh hfl hC hR hsh (tl_ok hst) hL hS hc1 hs1)
  show _ ≤ mLo y
  omega
theorem math_words : (wAt 1063 (.code Lib.Math.max.name Lib.Math.max.code 2 (some .int)) && wAt 1062 (.static Lib.Math.max.name) && wAt 492 (.code Lib.Math.min.name Lib.Math.min.code 2 (some .int)) && wAt 491 (.static Lib.Math.min.name) && wAt 849 (.code Lib.MathLoose.abs_long.x Lib.MathLoose.abs_long.code 2 (some .long)) && wAt 848 (.static Lib.MathLoose.abs_long.x) && wAt 121 (.initialized "java/lang/Math")) = true := by decide +kernel
theorem at_mmax {idx : Nat} {u w : Int32} (hy : y < 282) (hdp : 1 ≤ mDp y) (hcat : catS t ≤ 8) (hd : decode (mCd y) pc = .ok (.invokestatic idx, 3)) (hl : Cond.methodLink (mNm y).cls idx Lib.Math.max.name ∈ WT) (K : At y (pc + 3) ls (.inl (if u < w then w else u) :: t) k s Q c mr mi ml) : At y pc ls (.inl w :: .inl u :: t) k s Q c mr mi ml := by
  intro l p e S m args below meth cd H locs cells slots mc ms lsC X D aC B sh0 sh hfl hC hR hsh hst hL hS hc1 hs1
  have hw := math_words
  simp only [Bool.and_eq_true] at hw
  have h38 := mLo_38 hy hdp
  exact va_mmax hC.1 hC.2.1 (hC.ml.trans hL.1.symm) hC.own (hC.wds _ hl) (hC.wds _ (wAt_mem hw.1.1.1.1.1.2)) (hC.wds _ (wAt_mem hw.2)) (hC.wds _ (wAt_mem hw.1.1.1.1.1.1)) (show 1 ≤ mDp y from hdp) (by rw [catS_map hC.ext.fm]; show _ ≤ mLo y; omega) (show cells ≤ mc by omega) (show slots ≤ ms by omega) hd (K l p e S m args below meth cd H locs cells slots mc ms lsC X D aC B sh0 sh hfl hC hR hsh (cn_ok trivial (tl2_ok hst)) hL hS hc1 hs1)
theorem at_mmin {idx : Nat} {u w : Int32} (hy : y < 282) (hdp : 1 ≤ mDp y) (hcat : catS t ≤ 8) (hd : decode (mCd y) pc = .ok (.invokestatic idx, 3)) (hl : Cond.methodLink (mNm y).cls idx Lib.Math.min.name ∈ WT) (K : At y (pc + 3) ls (.inl (if w < u then w else u) :: t) k s Q c mr mi ml) : At y pc ls (.inl w :: .inl u :: t) k s Q c mr mi ml := by
  intro l p e S m args below meth cd H locs cells slots mc ms lsC X D aC B sh0 sh hfl hC hR hsh hst hL hS hc1 hs1
  have hw := math_words
  simp only [Bool.and_eq_true] at hw
  have h38 := mLo_38 hy hdp
  exact va_mmin hC.1 hC.2.1 (hC.ml.trans hL.1.symm) hC.own (hC.wds _ hl) (hC.wds _ (wAt_mem hw.1.1.1.2)) (hC.wds _ (wAt_mem hw.2)) (hC.wds _ (wAt_mem hw.1.1.1.1.2)) (show 1 ≤ mDp y from hdp) (by rw [catS_map hC.ext.fm]; show _ ≤ mLo y; omega) (show cells ≤ mc by omega) (show slots ≤ ms by omega) hd (K l p e S m args below meth cd H locs cells slots mc ms lsC X D aC B sh0 sh hfl hC hR hsh (cn_ok trivial (tl2_ok hst)) hL hS hc1 hs1)
theorem at_mabs {idx : Nat} {u : Int64} (hy : y < 282) (hdp : 1 ≤ mDp y) (hcat : catS t ≤ 8) (hd : decode (mCd y) pc = .ok (.invokestatic idx, 3)) (hl : Cond.methodLink (mNm y).cls idx Lib.MathLoose.abs_long.x ∈ WT) (K : At y (pc + 3) ls (.inr (.inl (if 0 < u then u else -u)) :: t) k s Q c mr mi ml) : At y pc ls (.inr (.inl u) :: t) k s Q c mr mi ml := by
  intro l p e S m args below meth cd H locs cells slots mc ms lsC X D aC B sh0 sh hfl hC hR hsh hst hL hS hc1 hs1
  have hw := math_words
  simp only [Bool.and_eq_true] at hw
  have h38 := mLo_38 hy hdp
  exact va_mabs_long hC.1 hC.2.1 (hC.ml.trans hL.1.symm) hC.own (hC.wds _ hl) (hC.wds _ (wAt_mem hw.1.2)) (hC.wds _ (wAt_mem hw.2)) (hC.wds _ (wAt_mem hw.1.1.2)) (show 1 ≤ mDp y from hdp) (by rw [catS_map hC.ext.fm]; show _ ≤ mLo y; omega) (show cells ≤ mc by omega) (show slots ≤ ms by omega) hd (K l p e S m args below meth cd H locs cells slots mc ms lsC X D aC B sh0 sh hfl hC hR hsh (cn_ok trivial (tl_ok hst)) hL hS hc1 hs1)
-- answers
theorem W_mono {p : Program} {l : Launch} {e : Env} {R : Room} {S : State} {m : MethodId} {args : Array Value} {below : List Frame} {meth : Method} {cd : Code} {H : Heap} {locs : List Loc} {cells slots : Nat} {F F' : State → Prop} {g : JFrame} (h : ∀ t, F t → F' t) (w : W p l e R S m args below meth cd H locs cells slots F g) : W p l e R S m args below meth cd H locs cells slots F' g := fun T hT X => by
  obtain ⟨t, a, b⟩ := w T hT X
  exact ⟨t, a, h t b⟩
theorem at_iret {x : Int32} (hZ : RetOK Q Q0) (hd : decode (mCd y) pc = .ok (.ireturn, 1)) (hq : retK (mRt y) x (Q0 (some (.inl x)) c mr mi ml)) : At y pc ls [.inl x] k s Q c mr mi ml := by
  intro l p e S m args below meth cd H locs cells slots mc ms lsC X D aC B sh0 sh hfl hC hR hsh hst hL hS hc1 hs1
  refine W_mono (hZ below args S mc ms X D aC B sh0) ?_
  refine W.widen (k := mc) (n := ms) (by omega) (by omega) ?_
  have key : Q0 (some (.inl x)) c mr mi ml → ∀ u : State, u.heap = H → S.WarmedH u.vm → QC X D aC B sh0 Q0 args S (.returned (some (.int x))) u := fun hq u hu _ => ⟨⟨some (.inl x), c, mr, mi, ml, sh, rfl, hq, by rw [hu]; exact hR, hsh, fun v hv => by cases hv; trivial⟩, hS.F hu⟩
  unfold retK at hq
  split at hq
  · rename_i h
    exact W.iret hC.1 hC.2.1 (hC.rt.trans h) (key hq) (fun q hq => hS.2.2 q hq) hd hC.lk
  · rename_i h
    refine W.zret hC.1 hC.2.1 (hC.rt.trans h) ?_ (key hq.2) (fun q hq => hS.2.2 q hq) hd hC.lk
    rcases hq.1 with rfl | rfl <;> decide
  · rename_i ty _ _ h
    exact W.zret hC.1 hC.2.1 (hC.rt.trans h) hq.1 (key hq.2) (fun q hq => hS.2.2 q hq) hd hC.lk
  · exact hq.elim
theorem at_lret {x : Int64} (hZ : RetOK Q Q0) (hr : mRt y = some .long) (hd : decode (mCd y) pc = .ok (.lreturn, 1)) (hq : Q0 (some (.inr (.inl x))) c mr mi ml) : At y pc ls [.inr (.inl x)] k s Q c mr mi ml := by
  intro l p e S m args below meth cd H locs cells slots mc ms lsC X D aC B sh0 sh hfl hC hR hsh hst hL hS hc1 hs1
  refine W_mono (hZ below args S mc ms X D aC B sh0) ?_
  refine W.widen (k := mc) (n := ms) (by omega) (by omega) ?_
  exact W.lret hC.1 hC.2.1 (hC.rt.trans hr) (fun u hu _ => ⟨⟨some (.inr (.inl x)), c, mr, mi, ml, sh, rfl, hq, by rw [hu]; exact hR, hsh, fun v hv => by cases hv; trivial⟩, hS.F hu⟩) (fun q hq => hS.2.2 q hq) hd hC.lk
theorem at_vret (hZ : RetOK Q Q0) (hr : mRt y = none) (hd : decode (mCd y) pc = .ok (.return_, 1)) (hq : Q0 none c mr mi ml) : At y pc ls [] k s Q c mr mi ml := by
  intro l p e S m args below meth cd H locs cells slots mc ms lsC X D aC B sh0 sh hfl hC hR hsh hst hL hS hc1 hs1
  refine W_mono (hZ below args S mc ms X D aC B sh0) ?_
  refine W.widen (k := mc) (n := ms) (by omega) (by omega) ?_
  exact W.vret hC.1 hC.2.1 (hC.rt.trans hr) (fun u hu _ => ⟨⟨none, c, mr, mi, ml, sh, rfl, hq, by rw [hu]; exact hR, hsh, fun v hv => by cases hv⟩, hS.F hu⟩) (fun q hq => hS.2.2 q hq) hd hC.lk
end CALL
end
section
theorem brc_imp {cd : ClassFile.Cond} {x y : Int32} {J N J' N' : Prop} (hJ : J → J') (hN : N → N') (h : brc cd x y J N) : brc cd x y J' N' := by
  cases cd <;> exact ⟨fun z => hJ (h.1 z), fun z => hN (h.2 z)⟩
theorem retK_imp {rt : Option FieldType} {x : Int32} {K K' : Prop} (hK : K → K') (h : retK rt x K) : retK rt x K' := by
  cases rt with
  | none => exact h.elim
  | some ty => cases ty <;> first | exact hK h | exact ⟨h.1, hK h.2⟩
/-! ===== stretches of code ===== -/
def isObj (r : Row) : Bool := match r with
  | (_, .invokespecial _, _, _, x2, _, _, _) => Nat.beq x2 4
  | _ => false
def nxq (A : Nat → eLS → List AV → Nat → Nat → HP) (G : List Row → eLS → List AV → Nat → Nat → HP) (code : List Row) : eLS → List AV → Nat → Nat → HP := match code with
  | (pc, _, _, _, _, _, _, true) :: _ => A pc
  | _ => G code
def rcv (x2 y' : Nat) (as : List AV) : Bool := match x2 with
  | 1 => true
  | 0 => (match as with
    | .inr (.inr (some (ro, _, _))) :: _ => Nat.beq ro (mCi y' + 10)
    | _ => false)
  | _ => (match as with
    | .inr (.inr (some (ro, _, _))) :: _ => Nat.blt ro 100
    | _ => false)
/-- stretches of code: 'inl' are the methods that are walked where they are called -/
def wq (inl : Nat → Bool) : Nat → Nat → List Row → (Option AV → HP) → (Nat → eLS → List AV → Nat → Nat → HP) → List Row → eLS → List AV → Nat → Nat → HP
  | 0, _, _, _, _, _ => fun _ _ _ _ _ _ _ _ => False
  | _ + 1, _, _, _, _, [] => fun _ _ _ _ _ _ _ _ => False
  | f + 1, y, T, Q, A, r :: rest => fun ls st k s c mr mi ml =>
    bif isObj r then (match st with
      | .inr (.inr (some (ro, _, _))) :: t => bif (Nat.blt ro 100 && Nat.ble (catS t) 8) then nxq A (wq inl f y T Q A) rest ls t k s c mr mi ml else A r.1 ls st k s c mr mi ml
      | _ => A r.1 ls st k s c mr mi ml)
    else stp (mRt y) r ls st k s c mr mi ml
      (nxq A (wq inl f y T Q A) rest)
      (fun st' => nxq A (wq inl f y T Q A) (suf T r.2.2.2.1) ls st' k s c mr mi ml)
      (A r.1 ls st k s c mr mi ml)
      (fun rv => Q rv c mr mi ml)
      (popK (mNa r.2.2.2.1 + (bif Nat.beq r.2.2.2.2.1 1 then 0 else 1)) st [] (fun as t =>
          bif (Nat.ble (catS t) 8 && Nat.blt (mDp r.2.2.2.1) (mDp y) && Nat.blt r.2.2.2.2.1 4 && Nat.ble (catS as) (mMx r.2.2.2.1) && rcv r.2.2.2.2.1 r.2.2.2.1 as) then
            (bif inl r.2.2.2.1 then entK as (mMx r.2.2.2.1) (fun ls0 => wq inl f r.2.2.2.1 (mTb r.2.2.2.1) (fun rv => nxq A (wq inl f y T Q A) rest ls (psh rv t) k s) (fun _ _ _ _ _ _ _ _ _ => False) (mTb r.2.2.2.1) ls0 [] 0 0 c mr mi ml)
            else ∃ mc ms, mc ≤ k ∧ ms ≤ s ∧ Ok r.2.2.2.1 mc ms as (fun rv => nxq A (wq inl f y T Q A) rest ls (psh rv t) (k - mc) (s - ms)) c mr mi ml)
          else A r.1 ls st k s c mr mi ml) (A r.1 ls st k s c mr mi ml))
def rtCk (M : MT) : Bool := Nat.ble 1 M.2.2.2.2.2.1 && M.2.2.2.2.1.all (fun r => match r.2.1 with
  | .lreturn => decide (M.2.2.2.1 = some .long)
  | .return_ => decide (M.2.2.2.1 = none)
  | _ => true)
theorem rt_all : mm.all rtCk = true := by decide +kernel
theorem mget_rt {y : Nat} (hy : y < 282) : 1 ≤ mDp y ∧ ∀ r ∈ mTb y, (r.2.1 = .lreturn → mRt y = some .long) ∧ (r.2.1 = .return_ → mRt y = none) := by
  have e : mget y ∈ mm := by
    unfold mget
    rw [List.getD_eq_getElem?_getD, List.getElem?_eq_getElem (by rw [mm_len]; exact hy)]
    exact List.getElem_mem _
  have h := List.all_eq_true.mp rt_all _ e
  unfold rtCk at h
  simp only [Bool.and_eq_true, List.all_eq_true] at h
  refine ⟨Nat.le_of_ble_eq_true h.1, fun r hr => ?_⟩
  have h2 := h.2 r hr
  exact ⟨fun e => by rw [e] at h2; exact of_decide_eq_true h2, fun e => by rw [e] at h2; exact of_decide_eq_true h2⟩
theorem ld_str : ∀ q ∈ ldT, q.2.2.2 < nStr := by decide +kernel
theorem fCk_of {own : String} {idx x1 x2 x3 : Nat} (h : fCk own idx x1 x2 x3 = true) : ∃ C T N, clT[x1]? = some (C, T, N) ∧ x2 < N ∧ Cond.fieldLink own idx C (T x2).2.1 (T x2).2.2.1 ∈ WT ∧ (T x2).1 = C := by
  unfold fCk at h
  split at h
  · rename_i C T N e
    simp only [Bool.and_eq_true, decide_eq_true_eq] at h
    exact ⟨C, T, N, e, by simpa using h.1.1.1, wAt_mem h.1.1.2, h.1.2⟩
  · cases h
set_option maxHeartbeats 4000000 in
theorem stp_ok {y : Nat} (hy : y < 282) {r : Row} (hr : r ∈ mTb y) {ls : eLS} {st : List AV} {k s : Nat} {Q : FT} {Q0 : Option AV → HP} (hZ : RetOK Q Q0) {c : Nat} {mr : MR} {mi : MI} {ml : ML} {N : eLS → List AV → Nat → Nat → HP} {J : List AV → Prop} {A : Prop} {Rt : Option AV → Prop} {Cl : Prop} (h : stp (mRt y) r ls st k s c mr mi ml N J A Rt Cl) (hno : isObj r = false)
    (hN : ∀ ls st k s c mr mi ml, N ls st k s c mr mi ml → At y r.2.2.1 ls st k s Q c mr mi ml) (hJ : ∀ st', J st' → At y r.2.2.2.1 ls st' k s Q c mr mi ml) (hA : A → At y r.1 ls st k s Q c mr mi ml) (hRt : ∀ rv, Rt rv → Q0 rv c mr mi ml) (hCl : (∃ i, r.2.1 = .invokevirtual i ∨ r.2.1 = .invokestatic i ∨ r.2.1 = .invokespecial i) → Cl → At y r.1 ls st k s Q c mr mi ml) : At y r.1 ls st k s Q c mr mi ml := by
  have hw := (okH_of hy).1 r hr
  obtain ⟨hdp, hret⟩ := mget_rt hy
  replace hret := hret r hr
  obtain ⟨pc, ins, nx, x1, x2, x3, v, hh⟩ := r
  unfold rwOK at hw
  simp only [Bool.and_eq_true, decide_eq_true_eq] at hw
  obtain ⟨⟨hd, hnx⟩, hx⟩ := hw
  replace hnx := Nat.eq_of_beq_eq_true hnx
  dsimp only at hN hJ hA hCl hret ⊢
  cases ins
  case iload i =>
    simp only [rlen] at hd hnx
    subst hnx
    simp only [stp] at h
    split at h
    · rename_i x e; exact at_iload hd (by assumption) (hN _ _ _ _ _ _ _ _ h)
    · exact hA h
  case iload_n i =>
    simp only [rlen] at hd hnx
    subst hnx
    simp only [stp] at h
    split at h
    · rename_i x e; exact at_iload_n hd (by assumption) (hN _ _ _ _ _ _ _ _ h)
    · exact hA h
  case lload i =>
    simp only [rlen] at hd hnx
    subst hnx
    simp only [stp] at h
    split at h
    · rename_i x e; exact at_lload hd (by assumption) (hN _ _ _ _ _ _ _ _ h)
    · exact hA h
  case lload_n i =>
    simp only [rlen] at hd hnx
    subst hnx
    simp only [stp] at h
    split at h
    · rename_i x e; exact at_lload_n hd (by assumption) (hN _ _ _ _ _ _ _ _ h)
    · exact hA h
  case aload i =>
    simp only [rlen] at hd hnx
    subst hnx
    simp only [stp] at h
    split at h
    · rename_i x e; exact at_aload hd (by assumption) (hN _ _ _ _ _ _ _ _ h)
    · exact hA h
  case aload_n i =>
    simp only [rlen] at hd hnx
    subst hnx
    simp only [stp] at h
    split at h
    · rename_i x e; exact at_aload_n hd (by assumption) (hN _ _ _ _ _ _ _ _ h)
    · exact hA h
  case istore i =>
    simp only [rlen] at hd hnx
    subst hnx
    simp only [stp] at h
    split at h
    · rename_i x t; rw [stoK_eq] at h; exact at_istore hd (by simpa using hx) (hN _ _ _ _ _ _ _ _ h)
    · exact hA h
  case istore_n i =>
    simp only [rlen] at hd hnx
    subst hnx
    simp only [stp] at h
    split at h
    · rename_i x t; rw [stoK_eq] at h; exact at_istore_n hd (by simpa using hx) (hN _ _ _ _ _ _ _ _ h)
    · exact hA h
  case astore i =>
    simp only [rlen] at hd hnx
    subst hnx
    simp only [stp] at h
    split at h
    · rename_i x t; rw [stoK_eq] at h; exact at_astore hd (by simpa using hx) (hN _ _ _ _ _ _ _ _ h)
    · exact hA h
  case astore_n i =>
    simp only [rlen] at hd hnx
    subst hnx
    simp only [stp] at h
    split at h
    · rename_i x t; rw [stoK_eq] at h; exact at_astore_n hd (by simpa using hx) (hN _ _ _ _ _ _ _ _ h)
    · exact hA h
  case lstore i =>
    simp only [rlen] at hd hnx
    subst hnx
    simp only [stp] at h
    split at h
    · rename_i x t; rw [stoLK_eq] at h; exact at_lstore hd (by simpa using hx) (hN _ _ _ _ _ _ _ _ h)
    · exact hA h
  case lstore_n i =>
    simp only [rlen] at hd hnx
    subst hnx
    simp only [stp] at h
    split at h
    · rename_i x t; rw [stoLK_eq] at h; exact at_lstore_n hd (by simpa using hx) (hN _ _ _ _ _ _ _ _ h)
    · exact hA h
  case iconst n =>
    simp only [rlen] at hd hnx
    subst hnx
    simp only [stp] at h
    rw [cIK_eq] at h; exact at_iconst hd (by simpa using hx) (hN _ _ _ _ _ _ _ _ h)
  case bipush n =>
    simp only [rlen] at hd hnx
    subst hnx
    simp only [stp] at h
    rw [cIK_eq] at h; exact at_bipush hd (by simpa using hx) (hN _ _ _ _ _ _ _ _ h)
  case sipush n =>
    simp only [rlen] at hd hnx
    subst hnx
    simp only [stp] at h
    rw [cIK_eq] at h; exact at_sipush hd (by simpa using hx) (hN _ _ _ _ _ _ _ _ h)
  case lconst n =>
    simp only [rlen] at hd hnx
    subst hnx
    simp only [stp] at h
    rw [cLK_eq] at h; exact at_lconst hd (by simpa using hx) (hN _ _ _ _ _ _ _ _ h)
  case ldc n =>
    simp only [rlen] at hd hnx
    subst hnx
    simp only [stp] at h
    split at h
    · rw [cIK_eq] at h; exact at_ldc hd (wAt_mem hx) (hN _ _ _ _ _ _ _ _ h)
    · have hx : (match ldT[x2]? with
        | some (o, i, _, t) => decide (o = (mNm y).cls) && Nat.beq i n && Nat.beq t x1
        | none => false) = true := hx
      split at hx
      · rename_i o i tx t e
        simp only [Bool.and_eq_true, decide_eq_true_eq] at hx
        obtain ⟨⟨e1, e2⟩, e3⟩ := hx
        have e2 := Nat.eq_of_beq_eq_true e2
        have e3 := Nat.eq_of_beq_eq_true e3
        subst e1; subst e2; subst e3
        have hm := List.mem_of_getElem? e
        exact at_ldcS hd hm (ld_str _ hm) (hN _ _ _ _ _ _ _ _ h)
      · cases hx
    · exact hA h
  case ldc_w n =>
    simp only [rlen] at hd hnx
    subst hnx
    simp only [stp] at h
    split at h
    · rw [cIK_eq] at h; exact at_ldc_w hd (wAt_mem hx) (hN _ _ _ _ _ _ _ _ h)
    · exact hA h
  case ldc2_w n =>
    simp only [rlen] at hd hnx
    subst hnx
    simp only [stp] at h
    split at h
    · rw [cLK_eq] at h; exact at_ldc2 hd (wAt_mem hx) (hN _ _ _ _ _ _ _ _ h)
    · exact hA h
  case iinc i n =>
    simp only [rlen] at hd hnx
    subst hnx
    simp only [stp] at h
    split at h
    · rename_i x e; rw [cIK_eq, stoK_eq] at h; simp only [Bool.and_eq_true, decide_eq_true_eq] at hx; exact at_iinc hd e (by simpa using hx.1) hx.2 (hN _ _ _ _ _ _ _ _ h)
    · exact hA h
  case iadd =>
    simp only [rlen] at hd hnx
    subst hnx
    simp only [stp] at h
    split at h
    · rename_i a b t; exact at_iadd hd (hN _ _ _ _ _ _ _ _ h)
    · exact hA h
  case isub =>
    simp only [rlen] at hd hnx
    subst hnx
    simp only [stp] at h
    split at h
    · rename_i a b t; exact at_isub hd (hN _ _ _ _ _ _ _ _ h)
    · exact hA h
  case imul =>
    simp only [rlen] at hd hnx
    subst hnx
    simp only [stp] at h
    split at h
    · rename_i a b t; exact at_imul hd (hN _ _ _ _ _ _ _ _ h)
    · exact hA h
  case iand =>
    simp only [rlen] at hd hnx
    subst hnx
    simp only [stp] at h
    split at h
    · rename_i a b t; exact at_iand hd (hN _ _ _ _ _ _ _ _ h)
    · exact hA h
  case ior =>
    simp only [rlen] at hd hnx
    subst hnx
    simp only [stp] at h
    split at h
    · rename_i a b t; exact at_ior hd (hN _ _ _ _ _ _ _ _ h)
    · exact hA h
  case ixor =>
    simp only [rlen] at hd hnx
    subst hnx
    simp only [stp] at h
    split at h
    · rename_i a b t; exact at_ixor hd (hN _ _ _ _ _ _ _ _ h)
    · exact hA h
  case ishl =>
    simp only [rlen] at hd hnx
    subst hnx
    simp only [stp] at h
    split at h
    · rename_i a b t; exact at_ishl hd (hN _ _ _ _ _ _ _ _ h)
    · exact hA h
  case ishr =>
    simp only [rlen] at hd hnx
    subst hnx
    simp only [stp] at h
    split at h
    · rename_i a b t; exact at_ishr hd (hN _ _ _ _ _ _ _ _ h)
    · exact hA h
  case iushr =>
    simp only [rlen] at hd hnx
    subst hnx
    simp only [stp] at h
    split at h
    · rename_i a b t; exact at_iushr hd (hN _ _ _ _ _ _ _ _ h)
    · exact hA h
  case ladd =>
    simp only [rlen] at hd hnx
    subst hnx
    simp only [stp] at h
    split at h
    · rename_i a b t; exact at_ladd hd (hN _ _ _ _ _ _ _ _ h)
    · exact hA h
  case lsub =>
    simp only [rlen] at hd hnx
    subst hnx
    simp only [stp] at h
    split at h
    · rename_i a b t; exact at_lsub hd (hN _ _ _ _ _ _ _ _ h)
    · exact hA h
  case lmul =>
    simp only [rlen] at hd hnx
    subst hnx
    simp only [stp] at h
    split at h
    · rename_i a b t; exact at_lmul hd (hN _ _ _ _ _ _ _ _ h)
    · exact hA h
  case lor =>
    simp only [rlen] at hd hnx
    subst hnx
    simp only [stp] at h
    split at h
    · rename_i a b t; exact at_lor hd (hN _ _ _ _ _ _ _ _ h)
    · exact hA h
  case lcmp =>
    simp only [rlen] at hd hnx
    subst hnx
    simp only [stp] at h
    split at h
    · rename_i a b t; exact at_lcmp hd (hN _ _ _ _ _ _ _ _ h)
    · exact hA h
  case lshl =>
    simp only [rlen] at hd hnx
    subst hnx
    simp only [stp] at h
    split at h
    · rename_i a b t; exact at_lshl hd (hN _ _ _ _ _ _ _ _ h)
    · exact hA h
  case idiv =>
    simp only [rlen] at hd hnx
    subst hnx
    simp only [stp] at h
    split at h
    · rename_i a b t; exact at_idiv hd h.1 (hN _ _ _ _ _ _ _ _ h.2)
    · exact hA h
  case irem =>
    simp only [rlen] at hd hnx
    subst hnx
    simp only [stp] at h
    split at h
    · rename_i a b t; exact at_irem hd h.1 (hN _ _ _ _ _ _ _ _ h.2)
    · exact hA h
  case ldiv =>
    simp only [rlen] at hd hnx
    subst hnx
    simp only [stp] at h
    split at h
    · rename_i a b t; exact at_ldiv hd h.1 (hN _ _ _ _ _ _ _ _ h.2)
    · exact hA h
  case lrem =>
    simp only [rlen] at hd hnx
    subst hnx
    simp only [stp] at h
    split at h
    · rename_i a b t; exact at_lrem hd h.1 (hN _ _ _ _ _ _ _ _ h.2)
    · exact hA h
  case ineg =>
    simp only [rlen] at hd hnx
    subst hnx
    simp only [stp] at h
    split at h
    · rename_i a t; exact at_ineg hd (hN _ _ _ _ _ _ _ _ h)
    · exact hA h
  case lneg =>
    simp only [rlen] at hd hnx
    subst hnx
    simp only [stp] at h
    split at h
    · rename_i a t; exact at_lneg hd (hN _ _ _ _ _ _ _ _ h)
    · exact hA h
  case i2l =>
    simp only [rlen] at hd hnx
    subst hnx
    simp only [stp] at h
    split at h
    · rename_i a t; exact at_i2l hd (hN _ _ _ _ _ _ _ _ h)
    · exact hA h
  case l2i =>
    simp only [rlen] at hd hnx
    subst hnx
    simp only [stp] at h
    split at h
    · rename_i a t; exact at_l2i hd (hN _ _ _ _ _ _ _ _ h)
    · exact hA h
  case i2b =>
    simp only [rlen] at hd hnx
    subst hnx
    simp only [stp] at h
    split at h
    · rename_i a t; exact at_i2b hd (hN _ _ _ _ _ _ _ _ h)
    · exact hA h
  case i2c =>
    simp only [rlen] at hd hnx
    subst hnx
    simp only [stp] at h
    split at h
    · rename_i a t; exact at_i2c hd (hN _ _ _ _ _ _ _ _ h)
    · exact hA h
  case dup =>
    simp only [rlen] at hd hnx
    subst hnx
    simp only [stp] at h
    split at h
    · exact at_dup_i hd (hN _ _ _ _ _ _ _ _ h)
    · exact at_dup_q hd (hN _ _ _ _ _ _ _ _ h)
    · exact hA h
  case dup2 =>
    simp only [rlen] at hd hnx
    subst hnx
    simp only [stp] at h
    split at h
    · exact at_dup2_l hd (hN _ _ _ _ _ _ _ _ h)
    · exact at_dup2_ii hd (hN _ _ _ _ _ _ _ _ h)
    · exact at_dup2_iq hd (hN _ _ _ _ _ _ _ _ h)
    · exact hA h
  case pop =>
    simp only [rlen] at hd hnx
    subst hnx
    simp only [stp] at h
    split at h
    · exact at_pop_i hd (hN _ _ _ _ _ _ _ _ h)
    · exact at_pop_q hd (hN _ _ _ _ _ _ _ _ h)
    · exact hA h
  case goto off =>
    simp only [rlen] at hd hnx
    subst hnx
    simp only [stp] at h
    exact at_goto hd (by simpa using hx) (hJ _ h)
  case ifCond cnd off =>
    simp only [rlen] at hd hnx
    subst hnx
    simp only [stp] at h
    split at h
    · exact at_if hd (by simpa using hx) (brc_imp (hJ _) (hN _ _ _ _ _ _ _ _) h)
    · exact hA h
  case if_icmp cnd off =>
    simp only [rlen] at hd hnx
    subst hnx
    simp only [stp] at h
    split at h
    · exact at_icmp hd (by simpa using hx) (brc_imp (hJ _) (hN _ _ _ _ _ _ _ _) h)
    · exact hA h
  case getfield idx =>
    simp only [rlen] at hd hnx
    subst hnx
    simp only [stp] at h
    split at h
    · rename_i ro n a t
      cases h90 : Nat.beq x1 90 with
      | true =>
        rw [h90] at h hx
        simp only [cond_true] at h hx
        cases h100 : Nat.beq ro 100 with
        | true =>
          rw [h100] at h
          simp only [cond_true] at h
          have e := Nat.eq_of_beq_eq_true h100
          subst e
          split at h
          · exact at_sval hd (wAt_mem hx) (hN _ _ _ _ _ _ _ _ h)
          · exact at_scod hd (wAt_mem hx) (hN _ _ _ _ _ _ _ _ h)
          · exact hA h
        | false => rw [h100] at h; exact hA h
      | false =>
        rw [h90] at h hx
        simp only [cond_false] at h hx
        cases hro : Nat.beq ro (x1 + 10) with
        | true =>
          rw [hro] at h
          simp only [cond_true] at h
          have e := Nat.eq_of_beq_eq_true hro
          subst e
          have hx : fCk (mNm y).cls idx x1 x2 x3 = true ∨ x1 = 99 := by
            rcases (Bool.or_eq_true _ _).mp hx with z | z
            · exact Or.inr (Nat.eq_of_beq_eq_true z)
            · exact Or.inl z
          rcases hx with hx | hx
          · obtain ⟨C, T, M, e1, e2, e3, e4⟩ := fCk_of hx
            split at h
            · exact at_getf hd e1 e2 e3 e4 (Or.inl ⟨by assumption, rfl⟩) (hN _ _ _ _ _ _ _ _ h)
            · exact at_getf hd e1 e2 e3 e4 (Or.inr (Or.inl ⟨by assumption, rfl⟩)) (hN _ _ _ _ _ _ _ _ h)
            · exact at_getf hd e1 e2 e3 e4 (Or.inr (Or.inr (Or.inl ⟨by assumption, rfl⟩))) (hN _ _ _ _ _ _ _ _ h)
            · exact at_getf hd e1 e2 e3 e4 (Or.inr (Or.inr (Or.inr ⟨by assumption, rfl⟩))) (hN _ _ _ _ _ _ _ _ h)
            · exact hA h
          · subst hx
            have e9 : fk 99 x2 = 9 := by simp [fk, fkT]
            rw [e9] at h
            exact hA h
        | false => rw [hro] at h; exact hA h
    · exact hA h
  case putfield idx =>
    simp only [rlen] at hd hnx
    subst hnx
    simp only [stp] at h
    split at h
    · rename_i w ro n a t
      cases hro : Nat.beq ro (x1 + 10) with
      | true =>
        rw [hro] at h
        simp only [cond_true] at h
        have e := Nat.eq_of_beq_eq_true hro
        subst e
        simp only [Bool.and_eq_true, Bool.or_eq_true, Bool.not_eq_true', decide_eq_true_eq] at hx
        obtain ⟨hx, hf⟩ := hx
        obtain ⟨C, T, M, e1, e2, e3, e4⟩ := fCk_of hx
        have hfin : (T x2).2.2.2 = true → (mNm y).name = "<init>" ∧ C = (mNm y).cls := by
          intro z
          unfold fFin at hf
          rw [e1] at hf
          dsimp only at hf
          rw [z] at hf
          rcases hf with hf | hf
          · cases hf
          · simpa using hf
        split at h
        · exact at_put hd e1 e2 e3 e4 hfin (Or.inl ⟨by assumption, _, rfl, rfl, rfl, rfl⟩) (hN _ _ _ _ _ _ _ _ h)
        · exact at_put hd e1 e2 e3 e4 hfin (Or.inr (Or.inl ⟨by assumption, _, rfl, rfl, rfl, rfl⟩)) (hN _ _ _ _ _ _ _ _ h)
        · exact at_put hd e1 e2 e3 e4 hfin (Or.inr (Or.inr (Or.inl ⟨by assumption, _, rfl, rfl, rfl, rfl⟩))) (hN _ _ _ _ _ _ _ _ h)
        · exact at_put hd e1 e2 e3 e4 hfin (Or.inr (Or.inr (Or.inr ⟨by assumption, _, rfl, h.1, rfl, rfl, rfl⟩))) (hN _ _ _ _ _ _ _ _ h.2)
        · exact hA h
      | false => rw [hro] at h; exact hA h
    · exact hA h
  case iaload =>
    simp only [rlen] at hd hnx
    subst hnx
    simp only [stp] at h
    split at h
    · rename_i i ro n a t
      cases h0 : Nat.beq ro 0 with
      | true =>
        rw [h0] at h
        have e := Nat.eq_of_beq_eq_true h0
        subst e
        exact at_iald hd h.1 (hN _ _ _ _ _ _ _ _ h.2)
      | false =>
        rw [h0] at h
        simp only [cond_false] at h
        cases h104 : Nat.beq ro 104 with
        | true =>
          rw [h104] at h
          have e := Nat.eq_of_beq_eq_true h104
          subst e
          exact at_xald hd h.1 (hN _ _ _ _ _ _ _ _ h.2)
        | false =>
          rw [h104] at h
          simp only [cond_false] at h
          cases h101 : Nat.beq ro 101 with
          | true =>
            rw [h101] at h
            have e := Nat.eq_of_beq_eq_true h101
            subst e
            exact at_pald hd h.1 (hN _ _ _ _ _ _ _ _ h.2)
          | false =>
            rw [h101] at h
            simp only [cond_false] at h
            exact hA h
    · exact hA h
  case baload =>
    simp only [rlen] at hd hnx
    subst hnx
    simp only [stp] at h
    split at h
    · rename_i i ro n a t
      cases h2 : Nat.beq ro 2 with
      | true =>
        rw [h2] at h
        have e := Nat.eq_of_beq_eq_true h2
        subst e
        exact at_bald hd h.1 (hN _ _ _ _ _ _ _ _ h.2)
      | false =>
        rw [h2] at h
        simp only [cond_false] at h
        cases h102 : Nat.beq ro 102 with
        | true =>
          rw [h102] at h
          have e := Nat.eq_of_beq_eq_true h102
          subst e
          exact at_sald hd h.1 (hN _ _ _ _ _ _ _ _ h.2)
        | false =>
          rw [h102] at h
          simp only [cond_false] at h
          exact hA h
    · exact hA h
  case laload =>
    simp only [rlen] at hd hnx
    subst hnx
    simp only [stp] at h
    split at h
    · rename_i i ro n a t
      cases h1 : Nat.beq ro 1 with
      | true =>
        rw [h1] at h
        have e := Nat.eq_of_beq_eq_true h1
        subst e
        exact at_lald hd h.1 (hN _ _ _ _ _ _ _ _ h.2)
      | false =>
        rw [h1] at h
        simp only [cond_false] at h
        exact hA h
    · exact hA h
  case aaload =>
    simp only [rlen] at hd hnx
    subst hnx
    simp only [stp] at h
    split at h
    · rename_i i ro n a t
      cases h3 : Nat.beq ro 3 with
      | true =>
        rw [h3] at h
        have e := Nat.eq_of_beq_eq_true h3
        subst e
        obtain ⟨h1, q, hq, h⟩ := h
        exact at_aald hd h1 (by rw [hq]; exact hN _ _ _ _ _ _ _ _ h)
      | false => rw [h3] at h; exact hA h
    · exact hA h
  case iastore =>
    simp only [rlen] at hd hnx
    subst hnx
    simp only [stp] at h
    split at h
    · rename_i x i ro n a t
      cases h0 : Nat.beq ro 0 with
      | true =>
        rw [h0] at h
        have e := Nat.eq_of_beq_eq_true h0
        subst e
        exact at_iast hd h.1 (hN _ _ _ _ _ _ _ _ h.2)
      | false =>
        rw [h0] at h
        simp only [cond_false] at h
        exact hA h
    · exact hA h
  case bastore =>
    simp only [rlen] at hd hnx
    subst hnx
    simp only [stp] at h
    split at h
    · rename_i x i ro n a t
      cases h2 : Nat.beq ro 2 with
      | true =>
        rw [h2] at h
        have e := Nat.eq_of_beq_eq_true h2
        subst e
        exact at_bast hd h.1 (hN _ _ _ _ _ _ _ _ h.2)
      | false =>
        rw [h2] at h
        simp only [cond_false] at h
        exact hA h
    · exact hA h
  case lastore =>
    simp only [rlen] at hd hnx
    subst hnx
    simp only [stp] at h
    split at h
    · rename_i x i ro n a t
      cases h1 : Nat.beq ro 1 with
      | true =>
        rw [h1] at h
        have e := Nat.eq_of_beq_eq_true h1
        subst e
        exact at_last hd h.1 (hN _ _ _ _ _ _ _ _ h.2)
      | false =>
        rw [h1] at h
        simp only [cond_false] at h
        exact hA h
    · exact hA h
  case arraylength =>
    simp only [rlen] at hd hnx
    subst hnx
    simp only [stp] at h
    split at h
    · rename_i ro n a t
      cases ha : arOK ro with
      | true => rw [ha] at h; exact at_alen ha hd (hN _ _ _ _ _ _ _ _ h)
      | false => rw [ha] at h; exact hA h
    · exact hA h
  case getstatic idx =>
    simp only [rlen] at hd hnx
    subst hnx
    simp only [stp] at h
    split at h
    · exact at_gs0 hd (wAt_mem hx) (hN _ _ _ _ _ _ _ _ h)
    · exact at_gs1 hd (wAt_mem hx) (hN _ _ _ _ _ _ _ _ h)
    · exact at_gs2 hd (wAt_mem hx) (hN _ _ _ _ _ _ _ _ h)
    · exact hA h
  case new idx =>
    simp only [rlen] at hd hnx
    subst hnx
    simp only [stp] at h
    split at h
    · exact hA h
    · rename_i k'
      cases hb : (Nat.blt x1 10 && Nat.ble (clN x1) s) with
      | true =>
        rw [hb] at h
        simp only [cond_true] at h
        simp only [Bool.and_eq_true] at hb
        have h10 : x1 < 10 := by simpa using hb.1
        rcases (Bool.or_eq_true _ _).mp hx with z | z
        · have := Nat.eq_of_beq_eq_true z; omega
        · split at z
          · rename_i C T M e1
            exact at_new hd e1 (wAt_mem z) (Nat.le_of_ble_eq_true hb.2) (hN _ _ _ _ _ _ _ _ h)
          · cases z
      | false => rw [hb] at h; exact hA h
  case newarray ty =>
    simp only [rlen] at hd hnx
    subst hnx
    simp only [stp] at h
    split at h
    · rename_i n t
      obtain ⟨m, e1, e2, e3, e4, h⟩ := h
      subst e1
      split at h
      · exact at_newa hd (Or.inl ⟨rfl, rfl⟩) e2 e3 e4 (hN _ _ _ _ _ _ _ _ h)
      · exact at_newa hd (Or.inr (Or.inl ⟨rfl, rfl⟩)) e2 e3 e4 (hN _ _ _ _ _ _ _ _ h)
      · exact at_newa hd (Or.inr (Or.inr ⟨rfl, rfl⟩)) e2 e3 e4 (hN _ _ _ _ _ _ _ _ h)
      · exact h.elim
    · exact hA h
  case invokevirtual idx =>
    simp only [rlen] at hd hnx
    subst hnx
    simp only [stp] at h
    exact hCl ⟨idx, Or.inl rfl⟩ h
  case invokestatic idx =>
    simp only [rlen] at hd hnx
    subst hnx
    simp only [stp] at h
    split at h
    · have hx : Cond.methodLink (mNm y).cls idx Lib.Math.max.name ∈ WT := wAt_mem (by simpa using hx)
      split at h
      · rename_i w u t
        cases hb : Nat.ble (catS t) 8 with
        | true => rw [hb] at h; exact at_mmax hy hdp (Nat.le_of_ble_eq_true hb) hd hx (hN _ _ _ _ _ _ _ _ h)
        | false => rw [hb] at h; exact hA h
      · exact hA h
    · have hx : Cond.methodLink (mNm y).cls idx Lib.Math.min.name ∈ WT := wAt_mem (by simpa using hx)
      split at h
      · rename_i w u t
        cases hb : Nat.ble (catS t) 8 with
        | true => rw [hb] at h; exact at_mmin hy hdp (Nat.le_of_ble_eq_true hb) hd hx (hN _ _ _ _ _ _ _ _ h)
        | false => rw [hb] at h; exact hA h
      · exact hA h
    · have hx : Cond.methodLink (mNm y).cls idx Lib.MathLoose.abs_long.x ∈ WT := wAt_mem (by simpa using hx)
      split at h
      · rename_i u t
        cases hb : Nat.ble (catS t) 8 with
        | true => rw [hb] at h; exact at_mabs hy hdp (Nat.le_of_ble_eq_true hb) hd hx (hN _ _ _ _ _ _ _ _ h)
        | false => rw [hb] at h; exact hA h
      · exact hA h
    · exact hCl ⟨idx, Or.inr (Or.inl rfl)⟩ h
  case invokespecial idx =>
    simp only [rlen] at hd hnx
    subst hnx
    simp only [stp] at h
    have e4 : Nat.beq x2 4 = false := hno
    rw [e4] at h
    exact hCl ⟨idx, Or.inr (Or.inr rfl)⟩ h
  case ireturn =>
    simp only [rlen] at hd hnx
    subst hnx
    simp only [stp] at h
    split at h
    · exact at_iret hZ hd (retK_imp (hRt _) h)
    · exact hA h
  case lreturn =>
    simp only [rlen] at hd hnx
    subst hnx
    simp only [stp] at h
    split at h
    · exact at_lret hZ (hret.1 rfl) hd (hRt _ h)
    · exact hA h
  case return_ =>
    simp only [rlen] at hd hnx
    subst hnx
    simp only [stp] at h
    split at h
    · exact at_vret hZ (hret.2 rfl) hd (hRt _ h)
    · exact hA h
  all_goals exact hA h
end
section
/-! ===== stretches of code are sound; the entry ===== -/
theorem nb_ne {a b : Nat} (h : a ≠ b) : Nat.beq a b = false := by
  cases e : Nat.beq a b with
  | false => rfl
  | true => exact absurd (Nat.eq_of_beq_eq_true e) h
theorem popK_spec {K : List AV → List AV → Prop} {z : Prop} : ∀ (n : Nat) (st acc : List AV), popK n st acc K z → (∃ as t, as.length = n ∧ st = as ++ t ∧ K (as.reverse ++ acc) t) ∨ z
  | 0, st, acc, h => Or.inl ⟨[], st, rfl, rfl, h⟩
  | n + 1, [], acc, h => Or.inr h
  | n + 1, v :: st, acc, h => by
    rcases popK_spec n st (v :: acc) h with ⟨as, t, h1, h2, h3⟩ | h
    · refine Or.inl ⟨v :: as, t, by rw [List.length_cons, h1], by rw [h2]; rfl, ?_⟩
      rw [List.reverse_cons, List.append_assoc]; exact h3
    · exact Or.inr h
theorem suf_spec : ∀ (T : List Row) (pc : Nat), suf T pc = [] ∨ ∃ r l, suf T pc = r :: l ∧ r.1 = pc ∧ (r :: l) <:+ T
  | [], pc => Or.inl rfl
  | r :: l, pc => by
    cases h : Nat.beq r.1 pc with
    | true => exact Or.inr ⟨r, l, by unfold suf; rw [h]; rfl, Nat.eq_of_beq_eq_true h, List.suffix_refl _⟩
    | false =>
      have e : suf (r :: l) pc = suf l pc := by show (bif Nat.beq r.1 pc then _ else _) = _; rw [h]; rfl
      rw [e]
      rcases suf_spec l pc with h1 | ⟨r', l', h1, h2, h3⟩
      · exact Or.inl h1
      · exact Or.inr ⟨r', l', h1, h2, h3.trans (List.suffix_cons r l)⟩
theorem chn_tail : ∀ (r : Row) (T : List Row), chn (r :: T) = true → chn T = true
  | _, [], _ => rfl
  | r, b :: l, h => by unfold chn at h; simp only [Bool.and_eq_true] at h; exact h.2
theorem chn_suf {r r' : Row} {l : List Row} : ∀ (T : List Row), chn T = true → (r :: r' :: l) <:+ T → r.2.2.1 = r'.1
  | [], _, h => by simp at h
  | x :: T, hc, h => by
    rcases List.suffix_cons_iff.mp h with e | e
    · rw [← e] at hc
      unfold chn at hc
      simp only [Bool.and_eq_true] at hc
      exact Nat.eq_of_beq_eq_true hc.1
    · exact chn_suf T (chn_tail x T hc) e
theorem nxq_ok {y : Nat} {Q : FT} {A : Nat → eLS → List AV → Nat → Nat → HP} {G : List Row → eLS → List AV → Nat → Nat → HP} {code : List Row} {pc : Nat} {ls : eLS} {st : List AV} {k s c : Nat} {mr : MR} {mi : MI} {ml : ML}
    (hA : ∀ pc ls st k s c mr mi ml, A pc ls st k s c mr mi ml → At y pc ls st k s Q c mr mi ml) (hG : G code ls st k s c mr mi ml → ∃ r rest, code = r :: rest ∧ At y r.1 ls st k s Q c mr mi ml) (hpc : ∀ r rest, code = r :: rest → r.1 = pc) (h : nxq A G code ls st k s c mr mi ml) : At y pc ls st k s Q c mr mi ml := by
  have key : G code ls st k s c mr mi ml → At y pc ls st k s Q c mr mi ml := fun h => by
    obtain ⟨r, rest, e, h1⟩ := hG h
    rw [← hpc r rest e]; exact h1
  match code, hpc, key, h with
  | [], _, key, h => exact key h
  | (pc', _, _, _, _, _, _, true) :: l, hpc, _, h =>
    have e := hpc _ _ rfl
    rw [← e]
    exact hA _ _ _ _ _ _ _ _ _ h
  | (pc', _, _, _, _, _, _, false) :: l, _, key, h => exact key h
-- the entry
theorem lg_sl_len (X : XT) (B : Nat) (hX : X.2.2.2.2.2.2 = .null ∨ ∃ a, X.2.2.2.2.2.2 = .ref a) (as : List AV) : (lg_sl (as.map (cv X B))).length = catS as := by
  induction as with
  | nil => rfl
  | cons v as ih =>
    show (List.flatMap _ (cv X B v :: as.map (cv X B))).length = _
    rw [List.flatMap_cons, List.length_append]
    show (if (cv X B v).category = 2 then [Slot.val (cv X B v), .second] else [.val (cv X B v)]).length + (lg_sl (as.map (cv X B))).length = catA v + catS as
    rw [ih, av_cat hX]
    rcases v with x | x | q <;> rfl
theorem entK_e0 : ∀ (as : List AV) (n : Nat) (K : eLS → eLS), entK as n K = K (entK as n id)
  | [], n, K => rfl
  | .inl x :: r, n, K => by
    show entK r (n - 1) (fun l => K (some (.inl x) :: l)) = K (entK r (n - 1) (fun l => id (some (.inl x) :: l)))
    rw [entK_e0 r (n - 1) (fun l => K (some (.inl x) :: l)), entK_e0 r (n - 1) (fun l => id (some (.inl x) :: l))]; rfl
  | .inr (.inl x) :: r, n, K => by
    show entK r (n - 2) (fun l => K (some (.inr (.inl x)) :: none :: l)) = K (entK r (n - 2) (fun l => id (some (.inr (.inl x)) :: none :: l)))
    rw [entK_e0 r (n - 2) (fun l => K (some (.inr (.inl x)) :: none :: l)), entK_e0 r (n - 2) (fun l => id (some (.inr (.inl x)) :: none :: l))]; rfl
  | .inr (.inr q) :: r, n, K => by
    show entK r (n - 1) (fun l => K (some (.inr (.inr q)) :: l)) = K (entK r (n - 1) (fun l => id (some (.inr (.inr q)) :: l)))
    rw [entK_e0 r (n - 1) (fun l => K (some (.inr (.inr q)) :: l)), entK_e0 r (n - 1) (fun l => id (some (.inr (.inr q)) :: l))]; rfl
theorem entK_eq {β : Sort _} : ∀ (as : List AV) (n : Nat) (K : eLS → β), entK as n K = K (entK as n id)
  | [], n, K => rfl
  | .inl x :: r, n, K => by
    show entK r (n - 1) (fun l => K (some (.inl x) :: l)) = K (entK r (n - 1) (fun l => id (some (.inl x) :: l)))
    rw [entK_eq r (n - 1) (fun l => K (some (.inl x) :: l)), entK_e0 r (n - 1) (fun l => id (some (.inl x) :: l))]; rfl
  | .inr (.inl x) :: r, n, K => by
    show entK r (n - 2) (fun l => K (some (.inr (.inl x)) :: none :: l)) = K (entK r (n - 2) (fun l => id (some (.inr (.inl x)) :: none :: l)))
    rw [entK_eq r (n - 2) (fun l => K (some (.inr (.inl x)) :: none :: l)), entK_e0 r (n - 2) (fun l => id (some (.inr (.inl x)) :: none :: l))]; rfl
  | .inr (.inr q) :: r, n, K => by
    show entK r (n - 1) (fun l => K (some (.inr (.inr q)) :: l)) = K (entK r (n - 1) (fun l => id (some (.inr (.inr q)) :: l)))
    rw [entK_eq r (n - 1) (fun l => K (some (.inr (.inr q)) :: l)), entK_e0 r (n - 1) (fun l => id (some (.inr (.inr q)) :: l))]; rfl
theorem lg_rep : ∀ (n i : Nat), lg (List.replicate n none) i = none
  | 0, i => rfl
  | n + 1, 0 => rfl
  | n + 1, i + 1 => lg_rep n i
theorem ent_lg (X : XT) (B : Nat) (hX : X.2.2.2.2.2.2 = .null ∨ ∃ a, X.2.2.2.2.2.2 = .ref a) : ∀ (as : List AV) (n off i : Nat) (v : AV), lg (entK as n id) i = some v → (off + i, cv X B v) ∈ lv_args off (as.map (cv X B)) ∧ v ∈ as
  | [], n, off, i, v, h => by
    have e : entK [] n id = (List.replicate n none : eLS) := rfl
    rw [e, lg_rep] at h; cases h
  | w :: r, n, off, i, v, h => by
    have ec : (cv X B w).category = catA w := av_cat hX w
    have tail : ∀ d j, catA w = d → lg (entK r (n - d) id) j = some v → (off + (j + d), cv X B v) ∈ lv_args off ((w :: r).map (cv X B)) ∧ v ∈ w :: r := by
      intro d j hd hj
      obtain ⟨h1, h2⟩ := ent_lg X B hX r (n - d) (off + d) j v hj
      refine ⟨?_, List.mem_cons_of_mem _ h2⟩
      show _ ∈ (off, cv X B w) :: lv_args (if (cv X B w).category = 2 then off + 2 else off + 1) (r.map (cv X B))
      refine List.mem_cons_of_mem _ ?_
      have e2 : (if (cv X B w).category = 2 then off + 2 else off + 1) = off + d := by
        rw [ec, hd]
        rcases w with x | x | q
        · cases hd; rfl
        · cases hd; rfl
        · cases hd; rfl
      rw [e2, show off + (j + d) = off + d + j by omega]
      exact h1
    have here : v = w → (off + 0, cv X B v) ∈ lv_args off ((w :: r).map (cv X B)) ∧ v ∈ w :: r := fun e => by subst e; exact ⟨List.mem_cons_self, List.mem_cons_self⟩
    rcases w with x | x | q
    · have e : entK (.inl x :: r) n id = (some (.inl x) :: entK r (n - 1) id : eLS) := by
        show entK r (n - 1) (fun l => id (some (.inl x) :: l)) = _
        rw [entK_eq]; rfl
      rw [e] at h
      cases i with
      | zero => exact here (Option.some.inj h).symm
      | succ i => exact tail 1 i rfl h
    · have e : entK (.inr (.inl x) :: r) n id = (some (.inr (.inl x)) :: none :: entK r (n - 2) id : eLS) := by
        show entK r (n - 2) (fun l => id (some (.inr (.inl x)) :: none :: l)) = _
        rw [entK_eq]; rfl
      rw [e] at h
      match i, h with
      | 0, h => exact here (Option.some.inj h).symm
      | 1, h => cases h
      | i + 2, h => exact tail 2 i rfl h
    · have e : entK (.inr (.inr q) :: r) n id = (some (.inr (.inr q)) :: entK r (n - 1) id : eLS) := by
        show entK r (n - 1) (fun l => id (some (.inr (.inr q)) :: l)) = _
        rw [entK_eq]; rfl
      rw [e] at h
      cases i with
      | zero => exact here (Option.some.inj h).symm
      | succ i => exact tail 1 i rfl h
theorem lvs_entry {X : XT} {B : Nat} {sh : List (Nat × Nat)} (hX : X.2.2.2.2.2.2 = .null ∨ ∃ a, X.2.2.2.2.2.2 = .ref a) {as : List AV} {n : Nat} (hn : catS as ≤ n) (hok : ∀ v ∈ as, okv X sh v) : LVs X B sh ((lg_sl (as.map (cv X B)) ++ List.replicate (n - (lg_sl (as.map (cv X B))).length) Slot.unset).toArray) n (entK as n id) := by
  have h := lv_entry (as.map (cv X B)) (n := n) (by rw [lg_sl_len X B hX]; exact hn)
  refine ⟨h.1, h.2.1, fun i v hv => ?_⟩
  obtain ⟨h1, h2⟩ := ent_lg X B hX as n 0 i v hv
  rw [Nat.zero_add] at h1
  exact ⟨h.2.2 _ h1, hok v h2⟩
theorem ok_at {y mc ms : Nat} {as : List AV} {Q : Option AV → HP} {c : Nat} {mr : MR} {mi : MI} {ml : ML} (hy : y < 282) (hn : catS as ≤ mMx y) (K : At y 0 (entK as (mMx y) id) [] mc ms (Zq Q) c mr mi ml) : Ok y mc ms as Q c mr mi ml := by
  intro l X D aC B sh hfl
  obtain ⟨-, -, -, hpl, -⟩ := okH_of hy
  refine Met.ofW (cc := mCd y) (maxL := mMx y) (ret := mRt y) hpl rfl ?_
  intro p e S m args below meth cd s₁ Bd hml hv
  obtain ⟨rfl, hR, hok, hK, hE⟩ := hv
  have hts := atoms_spec (ws := wsy y) Bd.pre
  have hC : CX y p S m (as.map (cv X B)).toArray meth cd X D aC B := ⟨Bd.exec, Bd.bytes, hml, Bd.returns, Bd.notSynchronized, findClass_of_methodNamed Bd.named, fun hn => (name_of_methodNamed Bd.named Bd.method).1.trans hn, fun w hw => hts w (List.mem_cons_of_mem _ hw), hK, hE⟩
  rw [lg_entry_eq]
  exact K l p e S m _ below meth cd S.heap [] 0 0 mc ms _ X D aC B sh sh hfl hC hR (List.prefix_refl _) (fun v hv => by cases hv) (lvs_entry hE.fm hn hok) va_S.rf (by omega) (by omega)
theorem wq_ok (inl : Nat → Bool) : ∀ (f y : Nat) (Q : Option AV → HP) (Z : FT) (A : Nat → eLS → List AV → Nat → Nat → HP) (code : List Row) (ls : eLS) (st : List AV) (k s c : Nat) (mr : MR) (mi : MI) (ml : ML), y < 282 → RetOK Z Q → code <:+ mTb y → (∀ pc ls st k s c mr mi ml, A pc ls st k s c mr mi ml → At y pc ls st k s Z c mr mi ml) → wq inl f y (mTb y) Q A code ls st k s c mr mi ml → ∃ r rest, code = r :: rest ∧ At y r.1 ls st k s Z c mr mi ml
  | 0, y, Q, Z, A, code, ls, st, k, s, c, mr, mi, ml, hy, hZ, hs, hA, h => h.elim
  | f + 1, y, Q, Z, A, [], ls, st, k, s, c, mr, mi, ml, hy, hZ, hs, hA, h => h.elim
  | f + 1, y, Q, Z, A, r :: rest, ls, st, k, s, c, mr, mi, ml, hy, hZ, hsf, hA, h => by
    refine ⟨r, rest, rfl, ?_⟩
    have hr : r ∈ mTb y := hsf.subset List.mem_cons_self
    have hrs : rest <:+ mTb y := (List.suffix_cons r rest).trans hsf
    have hch := (okH_of hy).2.1
    have hnx : ∀ r' rest', rest = r' :: rest' → r'.1 = r.2.2.1 := fun r' rest' e => by
      subst e; exact (chn_suf _ hch hsf).symm
    have hN : ∀ ls st k s c mr mi ml, nxq A (wq inl f y (mTb y) Q A) rest ls st k s c mr mi ml → At y r.2.2.1 ls st k s Z c mr mi ml := fun ls st k s c mr mi ml h =>
      nxq_ok hA (wq_ok inl f y Q Z A rest ls st k s c mr mi ml hy hZ hrs hA) hnx h
    have hw := (okH_of hy).1 r hr
    obtain ⟨hdp, -⟩ := mget_rt hy
    unfold wq at h
    cases hob : isObj r with
    | true =>
      rw [hob] at h
      simp only [cond_true] at h
      obtain ⟨pc, ins, nx, x1, x2, x3, v, hh⟩ := r
      cases ins
      case invokespecial idx =>
        have e4 : x2 = 4 := Nat.eq_of_beq_eq_true hob
        subst e4
        unfold rwOK at hw
        simp only [Bool.and_eq_true, decide_eq_true_eq, rlen] at hw
        obtain ⟨⟨hd, hnx0⟩, hx⟩ := hw
        have e3 := Nat.eq_of_beq_eq_true hnx0
        have hl : Cond.methodLink (mNm y).cls idx Lib.objectInit ∈ WT := wAt_mem (by simpa using hx)
        dsimp only at hN hnx ⊢
        subst e3
        split at h
        · rename_i ro n a t
          cases hb : (Nat.blt ro 100 && Nat.ble (catS t) 8) with
          | true =>
            rw [hb] at h
            simp only [Bool.and_eq_true] at hb
            exact at_obj hy hdp (q := (ro, n, a)) (by simpa using hb.1) (Nat.le_of_ble_eq_true hb.2) (of_decide_eq_true hd) hl (hN _ _ _ _ _ _ _ _ h)
          | false => rw [hb] at h; exact hA _ _ _ _ _ _ _ _ _ h
        · exact hA _ _ _ _ _ _ _ _ _ h
      all_goals exact absurd hob (by simp [isObj])
    | false =>
      rw [hob] at h
      simp only [cond_false] at h
      refine stp_ok hy hr hZ h hob hN (fun st' hj => ?_) (fun ha => hA _ _ _ _ _ _ _ _ _ ha) (fun rv hq => hq) (fun hinv hcl => ?_)
      · refine nxq_ok hA (fun hg => ?_) (fun r' rest' e => ?_) hj
        · rcases suf_spec (mTb y) r.2.2.2.1 with e | ⟨r', l', e, -, hsf'⟩
          · rw [e] at hg
            cases f with
            | zero => exact hg.elim
            | succ f => exact hg.elim
          · rw [e] at hg ⊢
            exact wq_ok inl f y Q Z A (r' :: l') ls st' k s c mr mi ml hy hZ hsf' hA hg
        · rcases suf_spec (mTb y) r.2.2.2.1 with e' | ⟨r'', l', e', h1, -⟩
          · rw [e'] at e; cases e
          · rw [e'] at e; cases e; exact h1
      · rcases popK_spec _ _ _ hcl with ⟨as, t, h1, h2, h3⟩ | h3
        · rw [List.append_nil] at h3
          generalize hb : (Nat.ble (catS t) 8 && Nat.blt (mDp r.2.2.2.1) (mDp y) && Nat.blt r.2.2.2.2.1 4 && Nat.ble (catS as.reverse) (mMx r.2.2.2.1) && rcv r.2.2.2.2.1 r.2.2.2.1 as.reverse) = b at h3
          cases b with
          | false => exact hA _ _ _ _ _ _ _ _ _ h3
          | true =>
            simp only [cond_true] at h3
            simp only [Bool.and_eq_true] at hb
            obtain ⟨⟨⟨⟨b1, b2⟩, b3⟩, b4⟩, b5⟩ := hb
            replace b1 := Nat.le_of_ble_eq_true b1
            replace b2 : mDp r.2.2.2.1 < mDp y := by simpa using b2
            replace b3 : r.2.2.2.2.1 < 4 := by simpa using b3
            replace b4 := Nat.le_of_ble_eq_true b4
            have key : r.2.2.2.1 < 282 → ∃ mc ms, mc ≤ k ∧ ms ≤ s ∧ Ok r.2.2.2.1 mc ms as.reverse (fun rv => nxq A (wq inl f y (mTb y) Q A) rest ls (psh rv t) (k - mc) (s - ms)) c mr mi ml := by
              intro hy'
              cases hi : inl r.2.2.2.1 with
              | false => rw [hi] at h3; exact h3
              | true =>
                rw [hi] at h3
                simp only [cond_true] at h3
                refine ⟨0, 0, Nat.zero_le _, Nat.zero_le _, ok_at hy' b4 ?_⟩
                rw [entK_eq] at h3
                obtain ⟨r', l', e, hat⟩ := wq_ok inl f r.2.2.2.1 _ (Zq _) _ (mTb r.2.2.2.1) _ _ _ _ _ _ _ _ hy' (fun _ _ _ _ _ _ _ _ _ _ _ z => z) (List.suffix_refl _) (fun _ _ _ _ _ _ _ _ _ z => z.elim) h3
                obtain ⟨r0, T0, e0, hz⟩ := (okH_of hy').2.2.1
                rw [e0] at e
                cases e
                rw [hz] at hat
                exact hat
            obtain ⟨pc, ins, nx, x1, x2, x3, v, hh⟩ := r
            dsimp only at h1 b2 b3 b4 b5 key hN hinv ⊢
            unfold rwOK at hw
            simp only [Bool.and_eq_true, decide_eq_true_eq] at hw
            obtain ⟨⟨hd, hnx0⟩, hx⟩ := hw
            replace hnx0 := Nat.eq_of_beq_eq_true hnx0
            have n9 : Nat.beq x2 9 = false := nb_ne (by omega)
            have est : st = as.reverse.reverse ++ t := by rw [List.reverse_reverse]; exact h2
            obtain ⟨idx, hin⟩ := hinv
            rcases hin with e | e | e
            · subst e
              simp only [rlen] at hd hnx0
              subst hnx0
              dsimp only at hx
              rw [n9] at hx
              simp only [Bool.false_or, Bool.and_eq_true] at hx
              obtain ⟨⟨⟨c1, c2⟩, c3⟩, c4⟩ := hx
              have c1 := Nat.eq_of_beq_eq_true c1
              subst c1
              have c2 : x1 < 282 := by simpa using c2
              obtain ⟨mc, ms, k1, k2, O⟩ := key c2
              unfold rcv at b5
              split at b5
              · rename_i h0; cases h0
              · split at b5
                · rename_i ro n a as' e5
                  have e6 := Nat.eq_of_beq_eq_true b5
                  subst e6
                  rw [est, e5]
                  rw [e5] at O
                  have hlen : as'.length = mNa x1 := by
                    have e7 := congrArg List.length e5
                    rw [List.length_reverse, h1, List.length_cons] at e7
                    have e8 : mNa x1 + (bif Nat.beq 0 1 then 0 else 1) = mNa x1 + 1 := rfl
                    rw [e8] at e7
                    omega
                  exact at_callV hd c2 (Nat.eq_of_beq_eq_true c3) (wAt_mem c4) b2 b1 hlen O k1 k2 (fun rv c' mr' mi' ml' hq => hN _ _ _ _ _ _ _ _ hq)
                · cases b5
              · rename_i h0; exact absurd rfl h0
            · subst e
              simp only [rlen] at hd hnx0
              subst hnx0
              dsimp only at hx
              have n5 : Nat.beq x2 5 = false := nb_ne (by omega)
              have n6 : Nat.beq x2 6 = false := nb_ne (by omega)
              have n7 : Nat.beq x2 7 = false := nb_ne (by omega)
              rw [n9, n5, n6, n7] at hx
              simp only [Bool.false_or, Bool.false_and, Bool.and_eq_true] at hx
              obtain ⟨⟨⟨c1, c2⟩, c3⟩, c4⟩ := hx
              have c1 := Nat.eq_of_beq_eq_true c1
              subst c1
              have c2 : x1 < 282 := by simpa using c2
              obtain ⟨mc, ms, k1, k2, O⟩ := key c2
              rw [est]
              have e8 : mNa x1 + (bif Nat.beq 1 1 then 0 else 1) = mNa x1 := rfl
              rw [e8] at h1
              exact at_callS hd c2 (Nat.eq_of_beq_eq_true c3) (wAt_mem c4) b2 b1 (by rw [List.length_reverse]; exact h1) O k1 k2 (fun rv c' mr' mi' ml' hq => hN _ _ _ _ _ _ _ _ hq)
            · subst e
              simp only [rlen] at hd hnx0
              subst hnx0
              dsimp only at hx
              have n4 : Nat.beq x2 4 = false := nb_ne (by omega)
              rw [n9, n4] at hx
              simp only [Bool.false_or, Bool.false_and, Bool.or_eq_true, Bool.and_eq_true, decide_eq_true_eq] at hx
              have hx : (x2 = 2 ∨ x2 = 3) ∧ x1 < 282 ∧ mKd x1 = 2 ∧ (Cond.methodLink (mNm y).cls idx (mNm x1) ∈ WT ∨ ((mNm y).cls, idx, mNm x1) ∈ nestT) := by
                rcases hx with ⟨⟨⟨c1, c2⟩, c3⟩, c4⟩ | ⟨⟨⟨c1, c2⟩, c3⟩, c4⟩
                · exact ⟨Or.inl (Nat.eq_of_beq_eq_true c1), by simpa using c2, Nat.eq_of_beq_eq_true c3, Or.inl (wAt_mem c4)⟩
                · exact ⟨Or.inr (Nat.eq_of_beq_eq_true c1), by simpa using c2, Nat.eq_of_beq_eq_true c3, Or.inr (List.mem_of_getElem? c4)⟩
              obtain ⟨c1, c2, c3, c4⟩ := hx
              obtain ⟨mc, ms, k1, k2, O⟩ := key c2
              have e9 : mNa x1 + (bif Nat.beq x2 1 then 0 else 1) = mNa x1 + 1 := by rcases c1 with rfl | rfl <;> rfl
              rw [e9] at h1
              have b5 : ∃ ro n a as', as.reverse = .inr (.inr (some (ro, n, a))) :: as' ∧ ro < 100 := by
                unfold rcv at b5
                split at b5
                · omega
                · omega
                · split at b5
                  · rename_i ro n a as' e5
                    exact ⟨ro, n, a, as', e5, by simpa using b5⟩
                  · cases b5
              obtain ⟨ro, n, a, as', e5, e6⟩ := b5
              rw [est, e5]
              rw [e5] at O
              have hlen : as'.length = mNa x1 := by
                have e7 := congrArg List.length e5
                rw [List.length_reverse, h1, List.length_cons] at e7
                omega
              exact at_callI hd c2 c3 e6 c4 b2 b1 hlen O k1 k2 (fun rv c' mr' mi' ml' hq => hN _ _ _ _ _ _ _ _ hq)
        · exact hA _ _ _ _ _ _ _ _ _ h3
/-- a method walked from its entry -/
theorem ok_wq (inl : Nat → Bool) (f : Nat) {y mc ms : Nat} {as : List AV} {Q : Option AV → HP} {c : Nat} {mr : MR} {mi : MI} {ml : ML} (hy : Nat.blt y 282 = true) (hn : Nat.ble (catS as) (mMx y) = true)
    (h : entK as (mMx y) (fun ls0 => wq inl f y (mTb y) Q (fun pc ls st k s => At y pc ls st k s (Zq Q)) (mTb y) ls0 [] mc ms c mr mi ml)) : Ok y mc ms as Q c mr mi ml := by
  have hy : y < 282 := by simpa using hy
  refine ok_at hy (Nat.le_of_ble_eq_true hn) ?_
  rw [entK_eq] at h
  obtain ⟨r', l', e, hat⟩ := wq_ok inl f y _ (Zq Q) _ (mTb y) _ _ _ _ _ _ _ _ hy (fun _ _ _ _ _ _ _ _ _ _ _ z => z) (List.suffix_refl _) (fun _ _ _ _ _ _ _ _ _ z => z) h
  obtain ⟨r0, T0, e0, hz⟩ := (okH_of hy).2.2.1
  rw [e0] at e
  cases e
  rw [hz] at hat
  exact hat
/-- a method walked from a place in it -/
theorem at_wqZ (inl : Nat → Bool) (f : Nat) {y pc : Nat} {ls : eLS} {st : List AV} {k s : Nat} {Z : FT} {Q : Option AV → HP} {c : Nat} {mr : MR} {mi : MI} {ml : ML} (hZ : RetOK Z Q) (hy : Nat.blt y 282 = true)
    (h : wq inl f y (mTb y) Q (fun pc ls st k s => At y pc ls st k s Z) (suf (mTb y) pc) ls st k s c mr mi ml) : At y pc ls st k s Z c mr mi ml := by
  have hy : y < 282 := by simpa using hy
  rcases suf_spec (mTb y) pc with e | ⟨r, l, e, h1, h2⟩
  · rw [e] at h
    cases f <;> exact h.elim
  · rw [e] at h
    obtain ⟨r', l', e', hat⟩ := wq_ok inl f y _ Z _ (r :: l) _ _ _ _ _ _ _ _ hy hZ h2 (fun _ _ _ _ _ _ _ _ _ z => z) h
    cases e'
    rw [h1] at hat
    exact hat
theorem at_wq (inl : Nat → Bool) (f : Nat) {y pc : Nat} {ls : eLS} {st : List AV} {k s : Nat} {Q : Option AV → HP} {c : Nat} {mr : MR} {mi : MI} {ml : ML} (hy : Nat.blt y 282 = true)
    (h : wq inl f y (mTb y) Q (fun pc ls st k s => At y pc ls st k s (Zq Q)) (suf (mTb y) pc) ls st k s c mr mi ml) : At y pc ls st k s (Zq Q) c mr mi ml :=
  at_wqZ inl f (fun _ _ _ _ _ _ _ _ _ _ _ z => z) hy h
theorem Ok.mono {y mc ms : Nat} {as : List AV} {Q Q' : Option AV → HP} {c : Nat} {mr : MR} {mi : MI} {ml : ML} (h : Ok y mc ms as Q c mr mi ml) (hq : ∀ r c mr mi ml, Q r c mr mi ml → Q' r c mr mi ml) : Ok y mc ms as Q' c mr mi ml := by
  intro l X D aC B sh hfl
  refine MetFree.mono (h l X D aC B sh hfl) (fun _ _ z => z) (fun _ _ _ _ _ z => z) (fun a st o t hP ⟨⟨⟨r, c, mr, mi, ml, sh', h1, h2, h3⟩, h4⟩, h5⟩ => ⟨⟨⟨r, c, mr, mi, ml, sh', h1, hq _ _ _ _ _ h2, h3⟩, h4⟩, h5⟩)
end
section
/-! ===== determinants by rows, over lists of columns ===== -/
def lap (v : Nat → Int) : List Nat → (List Nat → Int) → Int
  | [], _ => 0
  | p :: r, f => v p * f r - lap v r (fun l => f (p :: l))
def dt : List (Nat → Int) → List Nat → Int
  | [], [] => 1
  | [], _ :: _ => 0
  | v :: vs, ps => lap v ps (dt vs)
theorem lap_lin (v : Nat → Int) (a b : Int) : ∀ (r : List Nat) (f g : List Nat → Int), lap v r (fun l => a * f l + b * g l) = a * lap v r f + b * lap v r g
  | [], f, g => by simp [lap]
  | p :: r, f, g => by
    simp only [lap]
    rw [lap_lin v a b r (fun l => f (p :: l)) (fun l => g (p :: l))]
    simp only [Int.mul_add, Int.mul_sub, Int.mul_left_comm (v p)]
    omega
theorem lap_neg (v : Nat → Int) (r : List Nat) (f : List Nat → Int) : lap v r (fun l => - f l) = - lap v r f := by
  have h := lap_lin v (-1) 0 r f f
  simp only [Int.zero_mul, Int.add_zero, Int.neg_mul, Int.one_mul] at h
  exact h
theorem lap_vlin (v w : Nat → Int) (a b : Int) : ∀ (r : List Nat) (f : List Nat → Int), lap (fun q => a * v q + b * w q) r f = a * lap v r f + b * lap w r f
  | [], f => by simp [lap]
  | p :: r, f => by
    simp only [lap]
    rw [lap_vlin v w a b r (fun l => f (p :: l))]
    simp only [Int.mul_sub, Int.add_mul, Int.mul_assoc]
    omega
def AS (f : List Nat → Int) : Prop := ∀ l1 a b l2, f (l1 ++ a :: b :: l2) = - f (l1 ++ b :: a :: l2)
theorem AS_cons {f : List Nat → Int} (h : AS f) (p : Nat) : AS (fun l => f (p :: l)) := fun l1 a b l2 => h (p :: l1) a b l2
theorem AS_lap (v : Nat → Int) : ∀ (l1 : List Nat) (f : List Nat → Int), AS f → ∀ a b l2, lap v (l1 ++ a :: b :: l2) f = - lap v (l1 ++ b :: a :: l2) f
  | [], f, h, a, b, l2 => by
    show v a * f (b :: l2) - (v b * f (a :: l2) - lap v l2 (fun l => f (a :: b :: l))) = -(v b * f (a :: l2) - (v a * f (b :: l2) - lap v l2 (fun l => f (b :: a :: l))))
    have e : (fun l => f (a :: b :: l)) = fun l => - f (b :: a :: l) := funext fun l => h [] a b l
    rw [e, lap_neg]
    omega
  | p :: l1, f, h, a, b, l2 => by
    show v p * f (l1 ++ a :: b :: l2) - lap v (l1 ++ a :: b :: l2) (fun l => f (p :: l)) = -(v p * f (l1 ++ b :: a :: l2) - lap v (l1 ++ b :: a :: l2) (fun l => f (p :: l)))
    rw [AS_lap v l1 _ (AS_cons h p) a b l2, h l1 a b l2, Int.mul_neg]
    omega
theorem AS_dt : ∀ vs : List (Nat → Int), AS (dt vs)
  | [] => fun l1 a b l2 => by cases l1 <;> rfl
  | v :: vs => fun l1 a b l2 => AS_lap v l1 (dt vs) (AS_dt vs) a b l2
theorem AS_zero {f : List Nat → Int} (h : AS f) (c : Nat) (l3 : List Nat) : ∀ (l2 l1 : List Nat), f (l1 ++ c :: (l2 ++ c :: l3)) = 0
  | [], l1 => by
    have := h l1 c c l3
    show f (l1 ++ c :: c :: l3) = 0
    omega
  | x :: l2, l1 => by
    show f (l1 ++ c :: x :: (l2 ++ c :: l3)) = 0
    rw [h l1 c x (l2 ++ c :: l3)]
    have := AS_zero h c l3 l2 (l1 ++ [x])
    rw [List.append_assoc] at this
    show -(f (l1 ++ x :: c :: (l2 ++ c :: l3))) = 0
    have e : f (l1 ++ x :: c :: (l2 ++ c :: l3)) = 0 := this
    rw [e]; rfl
theorem AS_head {f : List Nat → Int} (h : AS f) {c : Nat} {l : List Nat} (hc : c ∈ l) : f (c :: l) = 0 := by
  obtain ⟨l2, l3, rfl⟩ := List.append_of_mem hc
  exact AS_zero h c l3 l2 []
theorem AS_mid {f : List Nat → Int} (h : AS f) {c : Nat} {l1 l2 : List Nat} (hc : c ∈ l1 ∨ c ∈ l2) : f (l1 ++ c :: l2) = 0 := by
  rcases hc with hc | hc
  · obtain ⟨m1, m2, rfl⟩ := List.append_of_mem hc
    rw [List.append_assoc]
    exact AS_zero h c l2 m2 m1
  · obtain ⟨m1, m2, rfl⟩ := List.append_of_mem hc
    exact AS_zero h c m2 m1 l1
/-- a sum of multiples of rows -/
def Sp : List (Nat → Int) → (Nat → Int) → Prop
  | [], G => ∀ c, G c = 0
  | v :: vs, G => ∃ (a : Int) (G' : Nat → Int), Sp vs G' ∧ ∀ c, G c = a * v c + G' c
theorem Sp_zero : ∀ vs : List (Nat → Int), Sp vs (fun _ => 0)
  | [] => fun _ => rfl
  | v :: vs => ⟨0, _, Sp_zero vs, fun c => by simp⟩
theorem Sp_lin (a b : Int) : ∀ (vs : List (Nat → Int)) {G K : Nat → Int}, Sp vs G → Sp vs K → Sp vs (fun c => a * G c + b * K c)
  | [], G, K, h, k => fun c => by
      show a * G c + b * K c = 0
      rw [h c, k c]; simp
  | v :: vs, G, K, ⟨x, G', hG, eG⟩, ⟨y, K', hK, eK⟩ => ⟨a * x + b * y, _, Sp_lin a b vs hG hK, fun c => by
      show a * G c + b * K c = (a * x + b * y) * v c + (a * G' c + b * K' c)
      rw [eG, eK]
      simp only [Int.mul_add, Int.add_mul, Int.mul_assoc]
      omega⟩
theorem Sp_up {vs : List (Nat → Int)} {G : Nat → Int} (v : Nat → Int) (h : Sp vs G) : Sp (v :: vs) G := ⟨0, G, h, fun c => by simp⟩
theorem Sp_self (v : Nat → Int) (vs : List (Nat → Int)) : Sp (v :: vs) v := ⟨1, _, Sp_zero vs, fun c => by simp⟩
theorem Sp_lap (v : Nat → Int) (vs : List (Nat → Int)) : ∀ (r : List Nat) (f : Nat → List Nat → Int), (∀ l, Sp vs (fun c => f c l)) → Sp vs (fun c => lap v r (f c))
  | [], f, h => Sp_zero vs
  | p :: r, f, h => by
    have h2 := Sp_lin (v p) (-1) vs (h r) (Sp_lap v vs r (fun c l => f c (p :: l)) (fun l => h (p :: l)))
    have e : (fun c => lap v (p :: r) (f c)) = fun c => v p * f c r + -1 * lap v r (fun l => f c (p :: l)) := funext fun c => by simp only [lap]; omega
    rw [e]; exact h2
theorem Sp_lap2 (v : Nat → Int) (vs : List (Nat → Int)) (l2 : List Nat) : ∀ (l1 : List Nat) (f : List Nat → Int), (∀ m1 m2, Sp vs (fun c => f (m1 ++ c :: m2))) → Sp (v :: vs) (fun c => lap v (l1 ++ c :: l2) f)
  | [], f, h => by
    have h2 := Sp_lin (f l2) (-1) (v :: vs) (Sp_self v vs) (Sp_up v (Sp_lap v vs l2 (fun c l => f (c :: l)) (fun l => h [] l)))
    have e : (fun c => lap v ([] ++ c :: l2) f) = fun c => f l2 * v c + -1 * lap v l2 (fun l => f (c :: l)) := funext fun c => by
      show v c * f l2 - lap v l2 (fun l => f (c :: l)) = _
      rw [Int.mul_comm]; omega
    rw [e]; exact h2
  | p :: l1, f, h => by
    have h2 := Sp_lin (v p) (-1) (v :: vs) (Sp_up v (h l1 l2)) (Sp_lap2 v vs l2 l1 (fun l => f (p :: l)) (fun m1 m2 => h (p :: m1) m2))
    have e : (fun c => lap v (p :: l1 ++ c :: l2) f) = fun c => v p * f (l1 ++ c :: l2) + -1 * lap v (l1 ++ c :: l2) (fun l => f (p :: l)) := funext fun c => by
      show v p * f (l1 ++ c :: l2) - lap v (l1 ++ c :: l2) (fun l => f (p :: l)) = _
      omega
    rw [e]; exact h2
theorem Sp_dt : ∀ (vs : List (Nat → Int)) (l1 l2 : List Nat), Sp vs (fun c => dt vs (l1 ++ c :: l2))
  | [], l1, l2 => fun c => by cases l1 <;> rfl
  | v :: vs, l1, l2 => Sp_lap2 v vs l2 l1 (dt vs) (fun m1 m2 => Sp_dt vs m1 m2)
/-- rows with their pivots, the latest first -/
def Piv : List (Nat → Int) → List Nat → Prop
  | [], [] => True
  | v :: vs, p :: ps => Piv vs ps ∧ dt (v :: vs) (p :: ps) ≠ 0
  | _, _ => False
theorem Piv_ne : ∀ {vs : List (Nat → Int)} {ps : List Nat}, Piv vs ps → dt vs ps ≠ 0
  | [], [], _ => by decide
  | v :: vs, p :: ps, h => h.2
theorem Piv_uniq : ∀ {vs : List (Nat → Int)} {ps : List Nat} {G : Nat → Int}, Piv vs ps → Sp vs G → (∀ q ∈ ps, G q = 0) → ∀ c, G c = 0
  | [], [], G, _, h, _ => h
  | v :: vs, p :: ps, G, hp, ⟨a, G', hG, eG⟩, hz => by
    have hS : dt vs ps ≠ 0 := Piv_ne hp.1
    have eV : ∀ c, dt (v :: vs) (c :: ps) = v c * dt vs ps - lap v ps (fun l => dt vs (c :: l)) := fun c => rfl
    have hW : Sp vs (fun c => lap v ps (fun l => dt vs (c :: l))) := Sp_lap v vs ps (fun c l => dt vs (c :: l)) (fun l => Sp_dt vs [] l)
    have hE := Piv_uniq hp.1 (Sp_lin (dt vs ps) a vs hG hW) (fun q hq => by
      have h1 := eV q
      rw [AS_head (AS_dt (v :: vs)) hq] at h1
      have h2 := hz q (List.mem_cons_of_mem _ hq)
      rw [eG] at h2
      have e3 : G' q = -(a * v q) := by omega
      have e4 : lap v ps (fun l => dt vs (q :: l)) = v q * dt vs ps := by omega
      show dt vs ps * G' q + a * lap v ps (fun l => dt vs (q :: l)) = 0
      rw [e3, e4, Int.mul_neg, Int.mul_comm (dt vs ps), Int.mul_assoc]
      omega)
    have ha : a = 0 := by
      have h1 := hE p
      have h2 := hz p List.mem_cons_self
      rw [eG] at h2
      have h3 := eV p
      have e3 : G' p = -(a * v p) := by omega
      have e4 : lap v ps (fun l => dt vs (p :: l)) = v p * dt vs ps - dt (v :: vs) (p :: ps) := by omega
      have h1 : dt vs ps * G' p + a * lap v ps (fun l => dt vs (p :: l)) = 0 := h1
      rw [e3, e4, Int.mul_neg, Int.mul_sub, Int.mul_comm (dt vs ps), Int.mul_assoc] at h1
      have h5 : a * dt (v :: vs) (p :: ps) = 0 := by omega
      rcases Int.mul_eq_zero.mp h5 with h | h
      · exact h
      · exact absurd h hp.2
    intro c
    have h1 : dt vs ps * G' c + a * lap v ps (fun l => dt vs (c :: l)) = 0 := hE c
    rw [ha] at h1
    rw [eG, ha]
    have h2 : dt vs ps * G' c = 0 := by omega
    rcases Int.mul_eq_zero.mp h2 with h | h
    · exact absurd h hS
    · omega
/-- what comes out of a row ahead when a new pivot is taken out of it -/
theorem dt_syl {v : Nat → Int} {vs : List (Nat → Int)} {p q : Nat} {l1 l2 : List Nat} (h : Piv (v :: vs) (p :: (l1 ++ q :: l2))) (c : Nat) :
    dt vs (l1 ++ q :: l2) * dt (v :: vs) (p :: (l1 ++ c :: l2)) = dt (v :: vs) (p :: (l1 ++ q :: l2)) * dt vs (l1 ++ c :: l2) - dt vs (l1 ++ p :: l2) * dt (v :: vs) (c :: (l1 ++ q :: l2)) := by
  have a1 := AS_dt (v :: vs)
  have a0 := AS_dt vs
  have h1 : Sp (v :: vs) (fun c => dt (v :: vs) (p :: (l1 ++ c :: l2))) := Sp_dt (v :: vs) (p :: l1) l2
  have h2 : Sp (v :: vs) (fun c => dt vs (l1 ++ c :: l2)) := Sp_up v (Sp_dt vs l1 l2)
  have h3 : Sp (v :: vs) (fun c => dt (v :: vs) (c :: (l1 ++ q :: l2))) := Sp_dt (v :: vs) [] (l1 ++ q :: l2)
  have h4 := Sp_lin 1 1 _ (Sp_lin (dt vs (l1 ++ q :: l2)) (-(dt (v :: vs) (p :: (l1 ++ q :: l2)))) _ h1 h2) (Sp_lin (dt vs (l1 ++ p :: l2)) 0 _ h3 h3)
  have h5 := Piv_uniq h h4 (fun x hx => by
    show 1 * (dt vs (l1 ++ q :: l2) * dt (v :: vs) (p :: (l1 ++ x :: l2)) + -(dt (v :: vs) (p :: (l1 ++ q :: l2))) * dt vs (l1 ++ x :: l2)) + 1 * (dt vs (l1 ++ p :: l2) * dt (v :: vs) (x :: (l1 ++ q :: l2)) + 0 * dt (v :: vs) (x :: (l1 ++ q :: l2))) = 0
    rw [Int.zero_mul, Int.neg_mul]
    rcases List.mem_cons.mp hx with rfl | hx
    · have e1 : dt (v :: vs) (x :: (l1 ++ x :: l2)) = 0 := AS_zero a1 x l2 l1 []
      rw [e1, Int.mul_comm (dt vs (l1 ++ x :: l2))]
      omega
    · have e3 : dt (v :: vs) (x :: (l1 ++ q :: l2)) = 0 := AS_head a1 hx
      rw [e3]
      by_cases hxq : x = q
      · subst hxq
        rw [Int.mul_comm (dt vs (l1 ++ x :: l2))]
        omega
      · have hm : x ∈ l1 ∨ x ∈ l2 := by
          rcases List.mem_append.mp hx with h | h
          · exact Or.inl h
          · rcases List.mem_cons.mp h with h | h
            · exact absurd h hxq
            · exact Or.inr h
        have e1 : dt (v :: vs) ((p :: l1) ++ x :: l2) = 0 := AS_mid a1 (hm.imp (List.mem_cons_of_mem _) id)
        have e1 : dt (v :: vs) (p :: (l1 ++ x :: l2)) = 0 := e1
        rw [e1, AS_mid a0 hm]
        omega) c
  have h5 : 1 * (dt vs (l1 ++ q :: l2) * dt (v :: vs) (p :: (l1 ++ c :: l2)) + -(dt (v :: vs) (p :: (l1 ++ q :: l2))) * dt vs (l1 ++ c :: l2)) + 1 * (dt vs (l1 ++ p :: l2) * dt (v :: vs) (c :: (l1 ++ q :: l2)) + 0 * dt (v :: vs) (c :: (l1 ++ q :: l2))) = 0 := h5
  rw [Int.zero_mul, Int.neg_mul] at h5
  omega
-- bounds
theorem lap_bd {b : Nat} : ∀ (r : List Nat) (u : Nat → Int) (g : List Nat → Int), (∀ q, (u q).natAbs ≤ 1) → (∀ l, l.length + 1 = r.length → (g l).natAbs ≤ b) → (lap u r g).natAbs ≤ r.length * b
  | [], u, g, hu, hg => by simp [lap]
  | p :: r, u, g, hu, hg => by
    have h1 := lap_bd r u (fun l => g (p :: l)) hu (fun l hl => hg (p :: l) (by simp; omega))
    have h2 := hg r rfl
    have h3 := hu p
    show (u p * g r - lap u r (fun l => g (p :: l))).natAbs ≤ (r.length + 1) * b
    have h4 : (u p * g r).natAbs ≤ b := by
      rw [Int.natAbs_mul]
      calc (u p).natAbs * (g r).natAbs ≤ 1 * b := Nat.mul_le_mul h3 h2
        _ = b := Nat.one_mul b
    rw [Nat.add_mul, Nat.one_mul]
    omega
theorem lap2_bd {b : Nat} {v w : Nat → Int} (hv : ∀ q, v q = 0 ∨ v q = 1) (hw : ∀ q, w q = 0 ∨ w q = 1) : ∀ (r : List Nat) (g : List Nat → Int), (∀ l, l.length + 2 = r.length → (g l).natAbs ≤ b) → (lap v r (fun l => lap w l g)).natAbs ≤ r.length * (r.length - 1) / 2 * b
  | [], g, hg => by simp [lap]
  | p :: r, g, hg => by
    have h1 := lap2_bd hv hw r (fun l => g (p :: l)) (fun l hl => hg (p :: l) (by simp; omega))
    have h2 := lap_bd (b := b) r (fun q => v p * w q + -(w p) * v q) g (fun q => by
      rcases hv p with e1 | e1 <;> rcases hv q with e2 | e2 <;> rcases hw p with e3 | e3 <;> rcases hw q with e4 | e4 <;> rw [e1, e2, e3, e4] <;> decide) (fun l hl => hg l (by simp; omega))
    rw [lap_vlin, Int.neg_mul] at h2
    have e : lap v (p :: r) (fun l => lap w l g) = (v p * lap w r g + -(w p * lap v r g)) + lap v r (fun l => lap w l (fun l' => g (p :: l'))) := by
      show v p * lap w r g - lap v r (fun l => w p * g l - lap w l (fun l' => g (p :: l'))) = _
      have e2 : (fun l => w p * g l - lap w l (fun l' => g (p :: l'))) = fun l => w p * g l + (-1) * lap w l (fun l' => g (p :: l')) := funext fun l => by omega
      rw [e2, lap_lin]
      omega
    rw [e]
    have h3 : (r.length + 1) * (r.length + 1 - 1) / 2 * b = r.length * b + r.length * (r.length - 1) / 2 * b := by
      rw [← Nat.add_mul]
      congr 1
      rw [Nat.add_sub_cancel]
      cases hr : r.length with
      | zero => rfl
      | succ n =>
        rw [Nat.add_sub_cancel]
        have e3 : (n + 1 + 1) * (n + 1) = (n + 1) * n + (n + 1) * 2 := by rw [← Nat.mul_add, Nat.mul_comm]
        rw [e3, Nat.add_mul_div_right _ _ (by decide)]
        omega
    show _ ≤ (r.length + 1) * (r.length + 1 - 1) / 2 * b
    rw [h3]
    omega
def bb : Nat → Nat
  | 0 => 1
  | 1 => 1
  | n + 2 => (n + 2) * (n + 1) / 2 * bb n
theorem dt_bd : ∀ (vs : List (Nat → Int)) (ps : List Nat), (∀ v ∈ vs, ∀ q, v q = 0 ∨ v q = 1) → ps.length = vs.length → (dt vs ps).natAbs ≤ bb vs.length
  | [], [], _, _ => by decide
  | [v], [p], h, _ => by
    show (v p * 1 - 0).natAbs ≤ 1
    rcases h v List.mem_cons_self p with e | e <;> rw [e] <;> decide
  | v :: w :: vs, ps, h, hl => by
    have h1 := lap2_bd (b := bb vs.length) (h v List.mem_cons_self) (h w (List.mem_cons_of_mem _ List.mem_cons_self)) ps (dt vs) (fun l hl' => dt_bd vs l (fun u hu => h u (List.mem_cons_of_mem _ (List.mem_cons_of_mem _ hu))) (by simp at hl; omega))
    rw [hl] at h1
    exact h1
theorem bb_mono : ∀ n, n ≤ 12 → bb n ≤ 7484400 := by decide
-- the new row
def sumZ (f : Nat → Int) : Nat → Int
  | 0 => 0
  | n + 1 => sumZ f n + f n
theorem sumZ_head (f : Nat → Int) : ∀ n, sumZ f (n + 1) = f 0 + sumZ (fun i => f (i + 1)) n
  | 0 => by simp [sumZ]
  | n + 1 => by
    show sumZ f (n + 1) + f (n + 1) = f 0 + (sumZ (fun i => f (i + 1)) n + f (n + 1))
    rw [sumZ_head f n]; omega
theorem lap_move {c : Nat} (v : Nat → Int) : ∀ (ps : List Nat) (f : List Nat → Int), AS f → lap v ps (fun l => f (c :: l)) = sumZ (fun h => v (ps.getD h 0) * f (ps.set h c)) ps.length
  | [], f, h => rfl
  | p :: r, f, h => by
    show v p * f (c :: r) - lap v r (fun l => f (c :: p :: l)) = _
    rw [List.length_cons, sumZ_head]
    have e : (fun l => f (c :: p :: l)) = fun l => -(f (p :: c :: l)) := funext fun l => h [] c p l
    rw [e, lap_neg, lap_move v r (fun l => f (p :: l)) (AS_cons h p)]
    show _ = v p * f (c :: r) + sumZ (fun i => v (r.getD i 0) * f (p :: r.set i c)) r.length
    omega
theorem dt_new (v : Nat → Int) (vs : List (Nat → Int)) (ps : List Nat) (c : Nat) : dt (v :: vs) (c :: ps) = v c * dt vs ps - sumZ (fun h => v (ps.getD h 0) * dt vs (ps.set h c)) ps.length := by
  show v c * dt vs ps - lap v ps (fun l => dt vs (c :: l)) = _
  rw [lap_move v ps (dt vs) (AS_dt vs)]
end
section
/-! ===== numbers: ints and longs as whole numbers ===== -/
def zI (z : Int) : Int32 := Int32.ofInt z
def zL (z : Int) : Int64 := Int64.ofInt z
theorem nI_z (n : Nat) : nI n = zI n := rfl
theorem lN_z (n : Nat) : lN n = zL n := rfl
theorem zI_add (a b : Int) : zI a + zI b = zI (a + b) := (Int32.ofInt_add a b).symm
theorem zI_sub (a b : Int) : zI a - zI b = zI (a - b) := (Int32.ofInt_sub a b).symm
theorem zI_mul (a b : Int) : zI a * zI b = zI (a * b) := (Int32.ofInt_mul a b).symm
theorem zI_neg (a : Int) : -zI a = zI (-a) := (Int32.ofInt_neg a).symm
theorem zL_add (a b : Int) : zL a + zL b = zL (a + b) := (Int64.ofInt_add a b).symm
theorem zL_sub (a b : Int) : zL a - zL b = zL (a - b) := (Int64.ofInt_sub a b).symm
theorem zL_mul (a b : Int) : zL a * zL b = zL (a * b) := (Int64.ofInt_mul a b).symm
theorem zL_neg (a : Int) : -zL a = zL (-a) := (Int64.ofInt_neg a).symm
abbrev iR (z : Int) : Prop := -2147483648 ≤ z ∧ z < 2147483648
abbrev lR (z : Int) : Prop := -9223372036854775808 ≤ z ∧ z < 9223372036854775808
theorem zI_toInt {z : Int} (h : iR z) : (zI z).toInt = z := Int32.toInt_ofInt_of_le h.1 h.2
theorem zL_toInt {z : Int} (h : lR z) : (zL z).toInt = z := Int64.toInt_ofInt_of_le h.1 h.2
theorem zI_of (x : Int32) : x = zI x.toInt := (Int32.ofInt_toInt x).symm
theorem zL_of (x : Int64) : x = zL x.toInt := (Int64.ofInt_toInt x).symm
theorem iR_toInt (x : Int32) : iR x.toInt := ⟨Int32.le_toInt x, Int32.toInt_lt x⟩
theorem lR_toInt (x : Int64) : lR x.toInt := ⟨Int64.le_toInt x, Int64.toInt_lt x⟩
theorem zI_eq {a b : Int} (ha : iR a) (hb : iR b) : zI a = zI b ↔ a = b := ⟨fun h => by rw [← zI_toInt ha, ← zI_toInt hb, h], fun h => by rw [h]⟩
theorem zI_lt {a b : Int} (ha : iR a) (hb : iR b) : zI a < zI b ↔ a < b := by rw [Int32.lt_iff_toInt_lt, zI_toInt ha, zI_toInt hb]
theorem zI_le {a b : Int} (ha : iR a) (hb : iR b) : zI a ≤ zI b ↔ a ≤ b := by rw [Int32.le_iff_toInt_le, zI_toInt ha, zI_toInt hb]
theorem zL_eq {a b : Int} (ha : lR a) (hb : lR b) : zL a = zL b ↔ a = b := ⟨fun h => by rw [← zL_toInt ha, ← zL_toInt hb, h], fun h => by rw [h]⟩
theorem zL_lt {a b : Int} (ha : lR a) (hb : lR b) : zL a < zL b ↔ a < b := by rw [Int64.lt_iff_toInt_lt, zL_toInt ha, zL_toInt hb]
theorem zL_le {a b : Int} (ha : lR a) (hb : lR b) : zL a ≤ zL b ↔ a ≤ b := by rw [Int64.le_iff_toInt_le, zL_toInt ha, zL_toInt hb]
theorem zI_l {z : Int} (h : iR z) : (zI z).toInt64 = zL z := by
  rw [← Int64.ofInt_int32ToInt, zI_toInt h]; rfl
theorem zL_i (z : Int) : (zL z).toInt32 = zI z := by
  apply Int32.toInt_inj.mp
  simp [zL, zI]
theorem zI0 : (0 : Int32) = zI 0 := rfl
theorem zI1 : (1 : Int32) = zI 1 := rfl
theorem zL0 : (0 : Int64) = zL 0 := rfl
theorem zI_cl {z : Int} (h0 : 0 ≤ z) (h : z < 2147483648) : (zI z).toNatClampNeg = z.toNat := by
  show (zI z).toInt.toNat = _
  rw [zI_toInt ⟨by omega, h⟩]
theorem vp_zI {z : Int} {n : Nat} (h0 : 0 ≤ z) (h : z < n) (hn : n < 2147483648) : vp_in (zI z) n := by
  rw [vp_in_iff, zI_toInt ⟨by omega, by omega⟩]; exact ⟨h0, h⟩
end
section
/-! ===== the cells, what they refer to; the state in whole numbers ===== -/
def MRt : List (List (Option (Nat × Nat × Nat))) := [[],
  [some (11, 0, 2), some (12, 0, 4), some (14, 0, 11), some (15, 0, 17), some (16, 0, 19), some (17, 0, 35), some (18, 0, 39), none],
  [some (0, 800, 3)],
  [],
  [none, none, none, none],
  [none, none, none, none, none, none, none, none, some (0, 31, 6), some (0, 31, 7), some (0, 31, 8), some (0, 12, 9)],
  [],
  [],
  [],
  [],
  [],
  [none, none, none, none, none, some (0, 20, 12), some (0, 20, 13), some (0, 31, 14), some (0, 31, 15), some (1, 31, 16)],
  [],
  [],
  [],
  [],
  [],
  [some (0, 31, 18)],
  [],
  [none, none, none, some (0, 31, 20), some (3, 12, 21), some (0, 12, 34)],
  [],
  [some (1, 43, 22), some (1, 43, 23), some (1, 43, 24), some (1, 43, 25), some (1, 43, 26), some (1, 43, 27), some (1, 43, 28), some (1, 43, 29), some (1, 43, 30), some (1, 43, 31), some (1, 43, 32), some (1, 43, 33)],
  [],
  [],
  [],
  [],
  [],
  [],
  [],
  [],
  [],
  [],
  [],
  [],
  [],
  [none, none, some (0, 12, 36), some (0, 156, 37), none],
  [],
  [],
  [],
  [none, some (0, 10, 40), some (0, 10, 41), some (0, 10, 42)],
  [],
  [],
  [],
  [none, none, none, none, none, none, none, none, some (0, 31, 44), some (0, 31, 45), some (0, 31, 46), some (0, 12, 47)],
  [],
  [],
  [],
  [],
  [none, none, none, none, none, none, none, none, none, none, some (0, 31, 49), some (0, 31, 50), some (0, 12, 51), none, none, none, none, none, none, none, none, none, none, none, some (0, 31, 52), some (0, 12, 53), none, some (0, 63, 54), some (0, 63, 55), some (0, 630, 56), none, some (2, 800, 57), none, none, none, none, none, none, none, none, some (0, 20, 58), some (0, 20, 59), some (0, 31, 60), none, none, none, none, some (1, 31, 61), some (1, 528, 62), some (1, 528, 63), some (0, 12, 64), none, none, some (0, 49152, 65)],
  [],
  [],
  [],
  [],
  [],
  [],
  [],
  [],
  [],
  [],
  [],
  [],
  [],
  [],
  [],
  [],
  [],
  []]
def MR0 : MR := fun a k => (MRt.getD a []).getD k none
/-- references: the bench in use, the reader's draft, the reader's bytes, the tour's row -/
def MRc (nb db : Nat) (by_ rs : Option (Nat × Nat × Nat)) : MR := u2 (u2 (u2 (u2 MR0 1 7 (some (13, 0, nb))) 4 2 (some (13, 0, db))) 4 3 by_) 35 4 rs
/-- methods that are walked where they are called -/
def inlL : List Nat := [m_w_settle, m_w_haveBench, m_bn_has, m_bn_hasMask, m_bn_isSet, m_bn_isLost, m_bn_order, m_bn_orderSquared, m_bn_half, m_bn_shutterOf, m_bn_setShutter, m_mt_tells, m_mt_times, m_ra_isWhole, m_sg_forget, m_sg_startAnew, m_ac_clear, m_tp_hasRoom, m_rd_fail, m_r_refused, m_r_refusedLong, m_r_good, m_r_in, m_r_part, m_r_flaw, m_r_refusedLow, m_r_ends, m_r_plain, m_r_byteAt, m_js_length, m_js_charAt, m_js_coder, m_js_isLatin1, m_js_checkIndex, m_jl_charAt, m_jp_checkIndex]
def inlT (y : Nat) : Bool := inlL.elem y
/-- the state in whole numbers. 0: 0 ready, 1 trouble, 2 fault, 3 its place, 4 bytes of the tape, 5 N, 6 kind, 7 dark, 8 top, 9 masks, 10 lost (bits), 11 logged, 12 scanned, 13 beams, 14 blinded, 15 acts kept;
1 lights, 2 shutters, 3 noises, 4 masks (bits), 5 the log's sets and 6 reads, the latest first, 7 readings, 8 the tape, 9 acts' sorts, 10 numbers, 11 what was before, the oldest first -/
abbrev SG : Type := Nat → Nat → Int
/-- bits that hold -/
def bitsOf (f : Nat → Bool) : Nat → Nat
  | 0 => 0
  | n + 1 => bitsOf f n + (if f n then 2 ^ n else 0)
/-- how many bits -/
def pcN : Nat → Nat → Nat
  | 0, _ => 0
  | k + 1, n => n % 2 + pcN k (n / 2)
/-- a plate's cell -/
def plB (kd N i j : Nat) : Bool := match kd with
  | 0 => pcN 10 ((i + 1) &&& (j + 1)) % 2 == 1
  | _ => (i + j) % N == 0 || (List.range N).any (fun k => 0 < k && k * k % N == (i + j) % N)
def plN (kd N i : Nat) : Nat := bitsOf (plB kd N i) N
/-- benches that there are -/
def bnOK (kd N : Nat) : Bool := (kd == 0 && (N == 3 || N == 7 || N == 15 || N == 31)) || (kd == 1 && (N == 3 || N == 7 || N == 11 || N == 19 || N == 23 || N == 31))
def opB (σ : SG) : Nat := bitsOf (fun j => σ 2 j == 1) (σ 0 5).toNat
def shB (σ : SG) : Nat := bitsOf (fun j => σ 2 j == 2) (σ 0 5).toNat
/-- what holds of every state -/
def WF (σ : SG) : Prop :=
  ((σ 0 0 = 0 ∧ σ 0 5 = 0 ∧ σ 0 9 = 0 ∧ σ 0 10 = 0 ∧ σ 0 11 = 0 ∧ σ 0 12 = 0 ∧ σ 0 15 = 0) ∨ (σ 0 0 = 1 ∧ bnOK (σ 0 6).toNat (σ 0 5).toNat = true ∧ 0 ≤ σ 0 5 ∧ 0 ≤ σ 0 6 ∧ 0 ≤ σ 0 9 ∧ σ 0 9 ≤ 12))
  ∧ (0 ≤ σ 0 7 ∧ σ 0 7 ≤ 999) ∧ (0 ≤ σ 0 8 ∧ σ 0 8 ≤ 999999) ∧ (0 ≤ σ 0 10 ∧ σ 0 10 < 2 ^ (σ 0 5).toNat) ∧ (0 ≤ σ 0 11 ∧ σ 0 11 ≤ 20) ∧ (σ 0 12 = 0 ∨ σ 0 12 = 1) ∧ (0 ≤ σ 0 15 ∧ σ 0 15 ≤ 10) ∧ (0 ≤ σ 0 4 ∧ σ 0 4 ≤ 800) ∧ (0 ≤ σ 0 1 ∧ σ 0 1 ≤ 5)
  ∧ (∀ j, 0 ≤ σ 1 j ∧ σ 1 j ≤ 9999) ∧ (∀ j, σ 2 j = 0 ∨ σ 2 j = 1 ∨ σ 2 j = 2) ∧ (∀ i, -99 ≤ σ 3 i ∧ σ 3 i ≤ 99) ∧ (∀ i : Nat, (i : Int) < σ 0 9 → 0 < σ 4 i ∧ σ 4 i < 2 ^ (σ 0 5).toNat) ∧ (∀ k, 0 ≤ σ 8 k ∧ σ 8 k ≤ 255)
/-- the class: its numbers -/
def RCs (σ : SG) (mi : MI) : Prop :=
  mi 1 8 = zI (σ 0 0) ∧ mi 1 9 = zI (σ 0 1) ∧ mi 1 10 = zI (σ 0 2) ∧ (σ 0 1 = 4 → mi 1 11 = zI (σ 0 3)) ∧ mi 2 1 = zI (σ 0 4) ∧ (∀ k : Nat, (k : Int) < σ 0 4 → mi 3 k = zI (σ 8 k))
  ∧ mi 11 0 = zI (σ 0 13) ∧ mi 11 1 = zI (σ 0 14) ∧ mi 11 2 = zI (σ 0 11) ∧ mi 11 3 = zI (σ 0 12) ∧ mi 39 0 = zI (σ 0 15)
/-- the class: its bench -/
def RCb (σ : SG) (nb : Nat) (mi : MI) : Prop :=
  mi nb 0 = zI (σ 0 5) ∧ mi nb 1 = zI (σ 0 6) ∧ mi nb 2 = zI (σ 0 7) ∧ mi nb 3 = zI (σ 0 8) ∧ mi nb 4 = zI (σ 0 9) ∧ mi nb 5 = nI (opB σ) ∧ mi nb 6 = nI (shB σ) ∧ mi nb 7 = zI (σ 0 10)
  ∧ (∀ i : Nat, (i : Int) < σ 0 5 → mi (nb + 1) i = nI (plN (σ 0 6).toNat (σ 0 5).toNat i)) ∧ (∀ i : Nat, (i : Int) < σ 0 5 → mi (nb + 2) i = zI (σ 1 i)) ∧ (∀ i : Nat, (i : Int) < σ 0 5 → mi (nb + 3) i = zI (σ 3 i)) ∧ (∀ i : Nat, (i : Int) < σ 0 9 → mi (nb + 4) i = zI (σ 4 i))
/-- the class: its log -/
def RCl (σ : SG) (mi : MI) : Prop := ∀ i : Nat, (i : Int) < σ 0 11 → mi 12 i = zI (σ 5 i) ∧ mi 13 i = zI (σ 6 i)
/-- cells of the class stay, but those of a list -/
def same (L : List Nat) (mi mi' : MI) : Prop := ∀ a, a ∉ L → mi' a = mi a
/-- the reference: its numbers -/
def RMs (σ : SG) (mi : MI) : Prop :=
  mi 48 1 = zI (σ 0 1) ∧ mi 48 2 = (if σ 0 1 = 4 then zI (σ 0 3) else zI (-1)) ∧ mi 48 5 = zI (σ 0 5) ∧ mi 48 9 = zI (σ 0 9) ∧ mi 48 26 = zI (σ 0 0) ∧ mi 48 30 = zI (σ 0 15) ∧ mi 48 32 = zI (σ 0 4) ∧ mi 48 38 = zI (σ 0 2) ∧ mi 48 43 = zI (σ 0 11) ∧ mi 48 44 = zI (σ 0 13) ∧ mi 48 45 = zI (σ 0 14) ∧ mi 48 46 = zI (σ 0 12)
  ∧ (∀ k : Nat, (k : Int) < σ 0 4 → mi 57 k = (zI (σ 8 k)).toInt8.toInt32) ∧ (σ 0 0 = 1 → mi 48 6 = zI (σ 0 6) ∧ mi 48 7 = zI (σ 0 7) ∧ mi 48 8 = zI (σ 0 8)) ∧ mi 54 62 = zI (σ 0 10)
/-- the reference: its bench -/
def RMb (σ : SG) (mi : MI) : Prop :=
  (∀ i : Nat, (i : Int) < σ 0 5 → mi 49 i = nI (plN (σ 0 6).toNat (σ 0 5).toNat i)) ∧ (∀ i : Nat, (i : Int) < σ 0 5 → mi 54 i = zI (σ 1 i)) ∧ (∀ i : Nat, (i : Int) < σ 0 5 → mi 54 (31 + i) = zI (σ 2 i)) ∧ (∀ i : Nat, (i : Int) < σ 0 5 → mi 50 i = zI (σ 3 i)) ∧ (∀ i : Nat, (i : Int) < σ 0 9 → mi 51 i = zI (σ 4 i))
end
section
/-! ===== small methods ===== -/
theorem u2_ne2 {α : Type} (f : Nat → Nat → α) {a k b j : Nat} (v : α) (h : b ≠ a ∨ j ≠ k) : u2 f a k v b j = f b j := by
  rcases h with h | h
  · rw [u2_n f k v h]
  · by_cases e : b = a
    · subst e; exact u2_k f b v h
    · rw [u2_n f k v e]
theorem wf_n {σ : SG} (h : WF σ) : ∃ n : Nat, σ 0 5 = n ∧ n ≤ 31 := by
  obtain ⟨h, -⟩ := h
  rcases h with ⟨-, h, -⟩ | ⟨-, h, h2, -⟩
  · exact ⟨0, h, by omega⟩
  · refine ⟨(σ 0 5).toNat, by omega, ?_⟩
    generalize (σ 0 5).toNat = n at h
    generalize (σ 0 6).toNat = k at h
    simp only [bnOK, Bool.or_eq_true, Bool.and_eq_true, beq_iff_eq] at h
    omega
theorem RCs_why {σ : SG} {mi : MI} (h : RCs σ mi) {w : Int} (hw : w ≠ 4) : RCs (u2 σ 0 1 w) (u2 mi 1 9 (zI w)) := by
  obtain ⟨h1, h2, h3, h4, h5, h6, h7, h8, h9, h10, h11⟩ := h
  exact ⟨h1, by simp [u2], h3, fun z => absurd (by simpa [u2] using z) hw, h5, h6, h7, h8, h9, h10, h11⟩
theorem RCb_why {σ : SG} {nb : Nat} {mi : MI} (hb : nb = 43 ∨ nb = 5) (h : RCb σ nb mi) {w : Int} {x : Int32} : RCb (u2 σ 0 1 w) nb (u2 mi 1 9 x) := by
  rcases hb with rfl | rfl <;> exact h
/-- a colour, a plate, that there is -/
def InN (σ : SG) (j : Int32) : Prop := σ 0 0 = 1 ∧ 0 ≤ j.toInt ∧ j.toInt < σ 0 5
theorem InN.nat {σ : SG} {j : Int32} (h : InN σ j) (hW : WF σ) : ∃ i : Nat, j = nI i ∧ (i : Int) < σ 0 5 ∧ i < 31 := by
  obtain ⟨n, hn, h31⟩ := wf_n hW
  obtain ⟨-, h1, h2⟩ := h
  refine ⟨j.toInt.toNat, ?_, by omega, by omega⟩
  rw [nI_z, show ((j.toInt.toNat : Nat) : Int) = j.toInt by omega]
  exact zI_of j
theorem rd_01 {σ : SG} (hW : WF σ) : σ 0 0 = 0 ∨ σ 0 0 = 1 := by
  rcases hW.1 with h | h
  · exact Or.inl h.1
  · exact Or.inr h.1
theorem k_haveOne {nb db : Nat} (hb : nb = 43 ∧ db = 5 ∨ nb = 5 ∧ db = 43) {by_ rs : Option (Nat × Nat × Nat)} {c : Nat} {σ : SG} {mi : MI} {ml : ML} {j : Int32} {Q : Option AV → HP} (hW : WF σ) (hs : RCs σ mi) (hB : σ 0 0 = 1 → RCb σ nb mi)
    (h1 : InN σ j → Q (some (vI 1)) c (MRc nb db by_ rs) (u2 mi 1 9 (zI 0)) ml) (h0 : ¬ InN σ j → Q (some (vI 0)) c (MRc nb db by_ rs) (u2 mi 1 9 (zI 1)) ml) : Ok m_w_haveOne 0 0 [vR 10 0 1, vI j] Q c (MRc nb db by_ rs) mi ml := by
  obtain ⟨n, hn, hn31⟩ := wf_n hW
  have h8 := hs.1
  have hr : σ 0 0 = 1 → mi nb 0 = nI n := fun z => by rw [(hB z).1, hn]; rfl
  rcases hb with ⟨rfl, rfl⟩ | ⟨rfl, rfl⟩
  all_goals
    refine ok_wq inlT 200 rfl rfl ?_
    refine ⟨fun g1 => ?_, fun g1 => ?_⟩
    · repeat' (first | (refine ⟨fun h => ?_, fun h => ?_⟩ <;> first | exact absurd h (by decide) | skip) | refine ⟨Or.inl rfl, ?_⟩ | refine ⟨Or.inr rfl, ?_⟩ | fail)
      refine h0 (fun z => ?_)
      rw [h8, z.1] at g1
      exact absurd g1 (by decide)
    · have hz : σ 0 0 = 1 := by
        rcases rd_01 hW with z | z
        · rw [h8, z] at g1; exact absurd rfl g1
        · exact z
      refine ⟨fun g2 => ?_, fun g2 => ?_⟩
      · repeat' (first | (refine ⟨fun h => ?_, fun h => ?_⟩ <;> first | exact absurd h (by decide) | skip) | refine ⟨Or.inl rfl, ?_⟩ | refine ⟨Or.inr rfl, ?_⟩ | fail)
        refine h0 (fun z => ?_)
        rw [Int32.lt_iff_toInt_lt] at g2
        exact absurd z.2.1 (by simpa using g2)
      · refine ⟨fun g3 => ?_, fun g3 => ?_⟩
        · repeat' (first | (refine ⟨fun h => ?_, fun h => ?_⟩ <;> first | exact absurd h (by decide) | skip) | refine ⟨Or.inl rfl, ?_⟩ | refine ⟨Or.inr rfl, ?_⟩ | fail)
          refine h0 (fun z => ?_)
          have g3 : mi _ 0 ≤ j := g3
          rw [hr hz, Int32.le_iff_toInt_le, nI_z, zI_toInt ⟨by omega, by omega⟩] at g3
          have := z.2.2
          omega
        · repeat' (first | (refine ⟨fun h => ?_, fun h => ?_⟩ <;> first | exact absurd h (by decide) | skip) | refine ⟨Or.inl rfl, ?_⟩ | refine ⟨Or.inr rfl, ?_⟩ | fail)
          refine h1 ⟨hz, ?_, ?_⟩
          · rw [Int32.lt_iff_toInt_lt] at g2
            simpa using g2
          · have g3 : ¬ mi _ 0 ≤ j := g3
            rw [hr hz, Int32.le_iff_toInt_le, nI_z, zI_toInt ⟨by omega, by omega⟩] at g3
            omega
theorem k_isOne {mr : MR} {c : Nat} {σ : SG} {mi : MI} {ml : ML} {j : Int32} {Q : Option AV → HP} (hW : WF σ) (hs : RMs σ mi)
    (h1 : InN σ j → Q (some (vI 1)) c mr mi ml) (h0 : ¬ InN σ j → Q (some (vI 0)) c mr mi ml) : Ok m_r_isOne 0 0 [vR 19 0 48, vI j] Q c mr mi ml := by
  obtain ⟨n, hn, hn31⟩ := wf_n hW
  have h26 : mi 48 26 = zI (σ 0 0) := hs.2.2.2.2.1
  have h5 : mi 48 5 = nI n := by rw [hs.2.2.1, hn]; rfl
  refine ok_wq inlT 200 rfl rfl ?_
  refine ⟨fun g1 => ?_, fun g1 => ?_⟩
  · repeat' (first | (refine ⟨fun h => ?_, fun h => ?_⟩ <;> first | exact absurd h (by decide) | skip) | refine ⟨Or.inl rfl, ?_⟩ | refine ⟨Or.inr rfl, ?_⟩ | fail)
    refine h0 (fun z => ?_)
    rw [h26, z.1] at g1
    exact absurd g1 (by decide)
  · have hz : σ 0 0 = 1 := by
      rcases rd_01 hW with z | z
      · rw [h26, z] at g1; exact absurd rfl g1
      · exact z
    refine ⟨fun g2 => ?_, fun g2 => ?_⟩
    · repeat' (first | (refine ⟨fun h => ?_, fun h => ?_⟩ <;> first | exact absurd h (by decide) | skip) | refine ⟨Or.inl rfl, ?_⟩ | refine ⟨Or.inr rfl, ?_⟩ | fail)
      refine h0 (fun z => ?_)
      rw [Int32.lt_iff_toInt_lt] at g2
      exact absurd z.2.1 (by simpa using g2)
    · refine ⟨fun g3 => ?_, fun g3 => ?_⟩
      · repeat' (first | (refine ⟨fun h => ?_, fun h => ?_⟩ <;> first | exact absurd h (by decide) | skip) | refine ⟨Or.inl rfl, ?_⟩ | refine ⟨Or.inr rfl, ?_⟩ | fail)
        refine h0 (fun z => ?_)
        rw [h5, Int32.le_iff_toInt_le, nI_z, zI_toInt ⟨by omega, by omega⟩] at g3
        have := z.2.2
        omega
      · repeat' (first | (refine ⟨fun h => ?_, fun h => ?_⟩ <;> first | exact absurd h (by decide) | skip) | refine ⟨Or.inl rfl, ?_⟩ | refine ⟨Or.inr rfl, ?_⟩ | fail)
        refine h1 ⟨hz, ?_, ?_⟩
        · rw [Int32.lt_iff_toInt_lt] at g2
          simpa using g2
        · rw [h5, Int32.le_iff_toInt_le, nI_z, zI_toInt ⟨by omega, by omega⟩] at g3
          omega
end
section
/-! ===== bits; small methods ===== -/
theorem bitsOf_lt (f : Nat → Bool) : ∀ n, bitsOf f n < 2 ^ n
  | 0 => by show 0 < 1; decide
  | n + 1 => by
    have := bitsOf_lt f n
    show bitsOf f n + (if f n then 2 ^ n else 0) < 2 ^ (n + 1)
    rw [Nat.pow_succ]
    split <;> omega
theorem bitsOf_at (f : Nat → Bool) {j : Nat} : ∀ n, j < n → bitsOf f n / 2 ^ j % 2 = if f j then 1 else 0
  | 0, h => by omega
  | n + 1, h => by
    show (bitsOf f n + (if f n then 2 ^ n else 0)) / 2 ^ j % 2 = _
    have hl := bitsOf_lt f n
    by_cases e : j = n
    · subst e
      cases hf : f j with
      | true =>
        rw [if_pos rfl, if_pos rfl, Nat.add_div_right _ (Nat.two_pow_pos j), Nat.div_eq_of_lt hl]
      | false =>
        simp only [Bool.false_eq_true, if_false, Nat.add_zero]
        rw [Nat.div_eq_of_lt hl]
    · rw [← bitsOf_at f n (by omega)]
      cases hf : f n with
      | true =>
        simp only [if_true]
        have e2 : 2 ^ n = 2 ^ j * (2 * 2 ^ (n - j - 1)) := by
          rw [← Nat.pow_succ', ← Nat.pow_add]; congr 1; omega
        rw [e2, Nat.add_mul_div_left _ _ (Nat.two_pow_pos j), Nat.add_mul_mod_self_left]
      | false => simp
theorem sh_am : ∀ j, j < 32 → ((nI j &&& 31).toBitVec.smod 32).toNat = j := by decide +kernel
theorem shl_am : ∀ j, j < 32 → ((nI j &&& 31 : Int32).toBitVec.smod 32).toNat = j := sh_am
theorem bit_at {b j : Nat} (hb : b < 2 ^ 31) (hj : j < 32) : (nI b >>> (nI j &&& 31)) &&& nI 1 = nI (b / 2 ^ j % 2) := by
  rw [pk_shrN hb _ j (sh_am j hj)]
  have h1 : b / 2 ^ j < 2 ^ 32 := Nat.lt_of_le_of_lt (Nat.div_le_self _ _) (Nat.lt_trans hb (by decide))
  exact pk_andN h1 (m := nI 1) 1 (by decide)
theorem p31 {n : Nat} (h : n ≤ 31) : 2 ^ n ≤ 2 ^ 31 := Nat.pow_le_pow_right (by decide) h
/-- a number of the script's, where the state has such a colour -/
def inN (σ : SG) (j : Int32) : Bool := decide (σ 0 0 = 1 ∧ 0 ≤ j.toInt ∧ j.toInt < σ 0 5)
theorem inN_t {σ : SG} {j : Int32} (h : InN σ j) : inN σ j = true := decide_eq_true h
theorem inN_f {σ : SG} {j : Int32} (h : ¬ InN σ j) : inN σ j = false := decide_eq_false h
/-- the class answers, and tells its trouble, nothing else -/
def EW (r0 : AV) (w c : Nat) (mr : MR) (mi : MI) (ml : ML) : Option AV → HP := fun r c' mr' mi' ml' => r = some r0 ∧ c' = c ∧ mr' = mr ∧ mi' = u2 mi 1 9 (nI w) ∧ ml' = ml
/-- the reference likewise -/
def T3 (mi : MI) (w : Nat) : MI := u2 (u2 (u2 mi 48 0 (nI 0)) 48 1 (nI w)) 48 2 (-(nI 1))
def ER (r0 : AV) (w c : Nat) (mr : MR) (mi : MI) (ml : ML) : Option AV → HP := fun r c' mr' mi' ml' => r = some r0 ∧ c' = c ∧ mr' = mr ∧ mi' = T3 mi w ∧ ml' = ml
theorem RMs_th {σ : SG} {mi : MI} (h : RMs σ mi) (x : Int32) : RMs σ (u2 mi 48 0 x) := h
theorem in31 {i : Nat} (h : i < 31) : vp_in (nI i) 31 := vp_in_nI h (by decide)
theorem cl31 {i : Nat} (h : i < 31) : (nI i).toNatClampNeg = i := nI_clamp (by omega)
theorem ti31 {i : Nat} (h : i < 31) : (nI i).toInt.toNat = i := by rw [nI_toInt (by omega)]; rfl
def sp_plate (σ : SG) (j : Int32) : Int32 × Nat := bif inN σ j then ((nI (plN (σ 0 6).toNat (σ 0 5).toNat j.toInt.toNat)), 0) else (-(nI 1), 1)
theorem cw_plate {nb db : Nat} (hb : nb = 43 ∧ db = 5 ∨ nb = 5 ∧ db = 43) {by_ rs : Option (Nat × Nat × Nat)} {c : Nat} {σ : SG} {mi : MI} {ml : ML} {j : Int32} (hW : WF σ) (hs : RCs σ mi) (hB : σ 0 0 = 1 → RCb σ nb mi) : Ok m_w_plate 0 0 [vR 10 0 1, vI j] (EW (vI (sp_plate σ j).1) (sp_plate σ j).2 c (MRc nb db by_ rs) mi ml) c (MRc nb db by_ rs) mi ml := by
  refine ok_wq inlT 200 rfl rfl ?_
  refine ⟨0, 0, Nat.zero_le _, Nat.zero_le _, k_haveOne hb hW hs hB (fun hin => ?_) (fun hout => ?_)⟩
  · obtain ⟨i, rfl, hi, h31⟩ := hin.nat hW
    have hBn := hB hin.1
    rcases hb with ⟨rfl, rfl⟩ | ⟨rfl, rfl⟩
    all_goals
      repeat' (first | (refine ⟨fun h => ?_, fun h => ?_⟩ <;> first | exact absurd h (by decide) | skip) | refine ⟨Or.inl rfl, ?_⟩ | refine ⟨Or.inr rfl, ?_⟩ | fail)
      refine ⟨in31 h31, ?_⟩
      unfold EW sp_plate
      rw [inN_t hin, cl31 h31]
      refine ⟨?_, rfl, rfl, rfl, rfl⟩
      have e := hBn.2.2.2.2.2.2.2.2.1 i hi
      show some (vI (mi _ i)) = some (vI (nI (plN (σ 0 6).toNat (σ 0 5).toNat (nI i).toInt.toNat)))
      rw [ti31 h31]
      exact congrArg (fun x => some (vI x)) e
  · repeat' (first | (refine ⟨fun h => ?_, fun h => ?_⟩ <;> first | exact absurd h (by decide) | skip) | refine ⟨Or.inl rfl, ?_⟩ | refine ⟨Or.inr rfl, ?_⟩ | fail)
    unfold EW sp_plate
    rw [inN_f hout]
    exact ⟨rfl, rfl, rfl, rfl, rfl⟩
theorem cr_plate {nb db : Nat} {by_ rs : Option (Nat × Nat × Nat)} {c : Nat} {σ : SG} {mi : MI} {ml : ML} {j : Int32} (hW : WF σ) (hs : RMs σ mi) (hB : RMb σ mi) : Ok m_r_plate 0 0 [vR 19 0 48, vI j] (ER (vI (sp_plate σ j).1) (sp_plate σ j).2 c (MRc nb db by_ rs) mi ml) c (MRc nb db by_ rs) mi ml := by
  refine ok_wq inlT 200 rfl rfl ?_
  refine ⟨0, 0, Nat.zero_le _, Nat.zero_le _, k_isOne hW (RMs_th hs _) (fun hin => ?_) (fun hout => ?_)⟩
  · obtain ⟨i, rfl, hi, h31⟩ := hin.nat hW
    repeat' (first | (refine ⟨fun h => ?_, fun h => ?_⟩ <;> first | exact absurd h (by decide) | skip) | refine ⟨Or.inl rfl, ?_⟩ | refine ⟨Or.inr rfl, ?_⟩ | fail)
    refine ⟨in31 h31, ?_⟩
    unfold ER sp_plate
    rw [inN_t hin, cl31 h31]
    refine ⟨?_, rfl, rfl, rfl, rfl⟩
    have e := hB.1 i hi
    show some (vI (mi 49 i)) = some (vI (nI (plN (σ 0 6).toNat (σ 0 5).toNat (nI i).toInt.toNat)))
    rw [ti31 h31]
    exact congrArg (fun x => some (vI x)) e
  · repeat' (first | (refine ⟨fun h => ?_, fun h => ?_⟩ <;> first | exact absurd h (by decide) | skip) | refine ⟨Or.inl rfl, ?_⟩ | refine ⟨Or.inr rfl, ?_⟩ | fail)
    unfold ER sp_plate
    rw [inN_f hout]
    exact ⟨rfl, rfl, rfl, rfl, rfl⟩
def sp_light (σ : SG) (j : Int32) : Int32 × Nat := bif inN σ j then ((zI (σ 1 j.toInt.toNat)), 0) else (-(nI 1), 1)
theorem cw_light {nb db : Nat} (hb : nb = 43 ∧ db = 5 ∨ nb = 5 ∧ db = 43) {by_ rs : Option (Nat × Nat × Nat)} {c : Nat} {σ : SG} {mi : MI} {ml : ML} {j : Int32} (hW : WF σ) (hs : RCs σ mi) (hB : σ 0 0 = 1 → RCb σ nb mi) : Ok m_w_light 0 0 [vR 10 0 1, vI j] (EW (vI (sp_light σ j).1) (sp_light σ j).2 c (MRc nb db by_ rs) mi ml) c (MRc nb db by_ rs) mi ml := by
  refine ok_wq inlT 200 rfl rfl ?_
  refine ⟨0, 0, Nat.zero_le _, Nat.zero_le _, k_haveOne hb hW hs hB (fun hin => ?_) (fun hout => ?_)⟩
  · obtain ⟨i, rfl, hi, h31⟩ := hin.nat hW
    have hBn := hB hin.1
    rcases hb with ⟨rfl, rfl⟩ | ⟨rfl, rfl⟩
    all_goals
      repeat' (first | (refine ⟨fun h => ?_, fun h => ?_⟩ <;> first | exact absurd h (by decide) | skip) | refine ⟨Or.inl rfl, ?_⟩ | refine ⟨Or.inr rfl, ?_⟩ | fail)
      refine ⟨in31 h31, ?_⟩
      unfold EW sp_light
      rw [inN_t hin, cl31 h31]
      refine ⟨?_, rfl, rfl, rfl, rfl⟩
      have e := hBn.2.2.2.2.2.2.2.2.2.1 i hi
      show some (vI (mi _ i)) = some (vI (zI (σ 1 (nI i).toInt.toNat)))
      rw [ti31 h31]
      exact congrArg (fun x => some (vI x)) e
  · repeat' (first | (refine ⟨fun h => ?_, fun h => ?_⟩ <;> first | exact absurd h (by decide) | skip) | refine ⟨Or.inl rfl, ?_⟩ | refine ⟨Or.inr rfl, ?_⟩ | fail)
    unfold EW sp_light
    rw [inN_f hout]
    exact ⟨rfl, rfl, rfl, rfl, rfl⟩
theorem cr_light {nb db : Nat} {by_ rs : Option (Nat × Nat × Nat)} {c : Nat} {σ : SG} {mi : MI} {ml : ML} {j : Int32} (hW : WF σ) (hs : RMs σ mi) (hB : RMb σ mi) : Ok m_r_light 0 0 [vR 19 0 48, vI j] (ER (vI (sp_light σ j).1) (sp_light σ j).2 c (MRc nb db by_ rs) mi ml) c (MRc nb db by_ rs) mi ml := by
  refine ok_wq inlT 200 rfl rfl ?_
  refine ⟨0, 0, Nat.zero_le _, Nat.zero_le _, k_isOne hW (RMs_th hs _) (fun hin => ?_) (fun hout => ?_)⟩
  · obtain ⟨i, rfl, hi, h31⟩ := hin.nat hW
    repeat' (first | (refine ⟨fun h => ?_, fun h => ?_⟩ <;> first | exact absurd h (by decide) | skip) | refine ⟨Or.inl rfl, ?_⟩ | refine ⟨Or.inr rfl, ?_⟩ | fail)
    refine ⟨vp_in_nI (by omega) (by decide), ?_⟩
    unfold ER sp_light
    rw [inN_t hin, cl31 h31]
    refine ⟨?_, rfl, rfl, rfl, rfl⟩
    have e := hB.2.1 i hi
    show some (vI (mi 54 i)) = some (vI (zI (σ 1 (nI i).toInt.toNat)))
    rw [ti31 h31]
    exact congrArg (fun x => some (vI x)) e
  · repeat' (first | (refine ⟨fun h => ?_, fun h => ?_⟩ <;> first | exact absurd h (by decide) | skip) | refine ⟨Or.inl rfl, ?_⟩ | refine ⟨Or.inr rfl, ?_⟩ | fail)
    unfold ER sp_light
    rw [inN_f hout]
    exact ⟨rfl, rfl, rfl, rfl, rfl⟩
def sp_noise (σ : SG) (j : Int32) : Int32 × Nat := bif inN σ j then ((zI (σ 3 j.toInt.toNat)), 0) else (-(nI 2147483648), 1)
theorem cw_noise {nb db : Nat} (hb : nb = 43 ∧ db = 5 ∨ nb = 5 ∧ db = 43) {by_ rs : Option (Nat × Nat × Nat)} {c : Nat} {σ : SG} {mi : MI} {ml : ML} {j : Int32} (hW : WF σ) (hs : RCs σ mi) (hB : σ 0 0 = 1 → RCb σ nb mi) : Ok m_w_noise 0 0 [vR 10 0 1, vI j] (EW (vI (sp_noise σ j).1) (sp_noise σ j).2 c (MRc nb db by_ rs) mi ml) c (MRc nb db by_ rs) mi ml := by
  refine ok_wq inlT 200 rfl rfl ?_
  refine ⟨0, 0, Nat.zero_le _, Nat.zero_le _, k_haveOne hb hW hs hB (fun hin => ?_) (fun hout => ?_)⟩
  · obtain ⟨i, rfl, hi, h31⟩ := hin.nat hW
    have hBn := hB hin.1
    rcases hb with ⟨rfl, rfl⟩ | ⟨rfl, rfl⟩
    all_goals
      repeat' (first | (refine ⟨fun h => ?_, fun h => ?_⟩ <;> first | exact absurd h (by decide) | skip) | refine ⟨Or.inl rfl, ?_⟩ | refine ⟨Or.inr rfl, ?_⟩ | fail)
      refine ⟨in31 h31, ?_⟩
      unfold EW sp_noise
      rw [inN_t hin, cl31 h31]
      refine ⟨?_, rfl, rfl, rfl, rfl⟩
      have e := hBn.2.2.2.2.2.2.2.2.2.2.1 i hi
      show some (vI (mi _ i)) = some (vI (zI (σ 3 (nI i).toInt.toNat)))
      rw [ti31 h31]
      exact congrArg (fun x => some (vI x)) e
  · repeat' (first | (refine ⟨fun h => ?_, fun h => ?_⟩ <;> first | exact absurd h (by decide) | skip) | refine ⟨Or.inl rfl, ?_⟩ | refine ⟨Or.inr rfl, ?_⟩ | fail)
    unfold EW sp_noise
    rw [inN_f hout]
    exact ⟨rfl, rfl, rfl, rfl, rfl⟩
theorem cr_noise {nb db : Nat} {by_ rs : Option (Nat × Nat × Nat)} {c : Nat} {σ : SG} {mi : MI} {ml : ML} {j : Int32} (hW : WF σ) (hs : RMs σ mi) (hB : RMb σ mi) : Ok m_r_noise 0 0 [vR 19 0 48, vI j] (ER (vI (sp_noise σ j).1) (sp_noise σ j).2 c (MRc nb db by_ rs) mi ml) c (MRc nb db by_ rs) mi ml := by
  refine ok_wq inlT 200 rfl rfl ?_
  refine ⟨0, 0, Nat.zero_le _, Nat.zero_le _, k_isOne hW (RMs_th hs _) (fun hin => ?_) (fun hout => ?_)⟩
  · obtain ⟨i, rfl, hi, h31⟩ := hin.nat hW
    repeat' (first | (refine ⟨fun h => ?_, fun h => ?_⟩ <;> first | exact absurd h (by decide) | skip) | refine ⟨Or.inl rfl, ?_⟩ | refine ⟨Or.inr rfl, ?_⟩ | fail)
    refine ⟨in31 h31, ?_⟩
    unfold ER sp_noise
    rw [inN_t hin, cl31 h31]
    refine ⟨?_, rfl, rfl, rfl, rfl⟩
    have e := hB.2.2.2.1 i hi
    show some (vI (mi 50 i)) = some (vI (zI (σ 3 (nI i).toInt.toNat)))
    rw [ti31 h31]
    exact congrArg (fun x => some (vI x)) e
  · repeat' (first | (refine ⟨fun h => ?_, fun h => ?_⟩ <;> first | exact absurd h (by decide) | skip) | refine ⟨Or.inl rfl, ?_⟩ | refine ⟨Or.inr rfl, ?_⟩ | fail)
    unfold ER sp_noise
    rw [inN_f hout]
    exact ⟨rfl, rfl, rfl, rfl, rfl⟩
end
section
/-! ===== how many bits ===== -/
theorem and_sp (k : Nat) {x u : Nat} (hx : x < 2 ^ k) (hu : u < 2 ^ k) (y v : Nat) : (x + 2 ^ k * y) &&& (u + 2 ^ k * v) = (x &&& u) + 2 ^ k * (y &&& v) := by
  have e := Nat.mod_add_div ((x + 2 ^ k * y) &&& (u + 2 ^ k * v)) (2 ^ k)
  rw [← e, Nat.and_mod_two_pow, Nat.and_div_two_pow, Nat.add_mul_mod_self_left, Nat.add_mul_mod_self_left, Nat.mod_eq_of_lt hx, Nat.mod_eq_of_lt hu, Nat.add_mul_div_left _ _ (Nat.two_pow_pos k), Nat.add_mul_div_left _ _ (Nat.two_pow_pos k), Nat.div_eq_of_lt hx, Nat.div_eq_of_lt hu, Nat.zero_add, Nat.zero_add]
/-- of a number: its four bytes -/
def b4 (a b c d : Nat) : Nat := a + 256 * (b + 256 * (c + 256 * d))
theorem b4_and {a b c d u : Nat} (ha : a < 256) (hb : b < 256) (hc : c < 256) (hu : u < 256) : b4 a b c d &&& b4 u u u u = b4 (a &&& u) (b &&& u) (c &&& u) (d &&& u) := by
  unfold b4
  rw [show (256 : Nat) = 2 ^ 8 from rfl] at *
  rw [and_sp 8 ha hu, and_sp 8 hb hu, and_sp 8 hc hu]
theorem pq1 : ∀ b, b < 256 → ∀ e, e < 2 → ((b / 2 + 128 * e) &&& 85) = (b / 2 &&& 85) ∧ (b / 2 &&& 85) ≤ b := by decide +kernel
def pa (b : Nat) : Nat := b - (b / 2 &&& 85)
def pb (p : Nat) : Nat := (p &&& 51) + (p / 4 &&& 51)
def pd (q : Nat) : Nat := (q + q / 16) % 16
theorem pq2 : ∀ b, b < 256 → ∀ e, e < 4 → ((b / 4 + 64 * e) &&& 51) = (b / 4 &&& 51) := by decide +kernel
theorem pq3 : ∀ b, b < 256 → pa b < 256 ∧ pb (pa b) % 16 ≤ 4 ∧ pb (pa b) ≤ 68 ∧ pd (pb (pa b)) = pcN 8 b ∧ pcN 8 b ≤ 8 := by decide +kernel
theorem pq4 : ∀ q, q ≤ 68 → ∀ e, e ≤ 4 → ((q + q / 16 + 16 * e) &&& 15) = pd q := by decide +kernel
theorem pcN_b (a : Nat) : ∀ k m, a < 2 ^ k → ∀ n, pcN (k + m) (a + 2 ^ k * n) = pcN k a + pcN m n
  | 0, m, h, n => by
    have : a = 0 := by simp at h; exact h
    subst this; simp [pcN]
  | k + 1, m, h, n => by
    rw [show k + 1 + m = (k + m) + 1 by omega]
    show (a + 2 ^ (k + 1) * n) % 2 + pcN (k + m) ((a + 2 ^ (k + 1) * n) / 2) = a % 2 + pcN k (a / 2) + pcN m n
    have e1 : a + 2 ^ (k + 1) * n = a + 2 * (2 ^ k * n) := by rw [Nat.pow_succ]; ac_rfl
    rw [e1, Nat.add_mul_mod_self_left, Nat.add_mul_div_left _ _ (by decide), pcN_b (a / 2) k m (by rw [Nat.pow_succ] at h; omega) n]
    omega
theorem pcN_4 {a b c d : Nat} (ha : a < 256) (hb : b < 256) (hc : c < 256) : pcN 32 (b4 a b c d) = pcN 8 a + pcN 8 b + pcN 8 c + pcN 8 d := by
  have e1 := pcN_b a 8 24 ha (b + 256 * (c + 256 * d))
  have e2 := pcN_b b 8 16 hb (c + 256 * d)
  have e3 := pcN_b c 8 8 hc d
  unfold b4
  simp only [show (2:Nat)^8 = 256 from rfl, show 8 + 24 = 32 from rfl, show 8 + 16 = 24 from rfl, show 8 + 8 = 16 from rfl] at e1 e2 e3
  omega
def bc1 (n : Nat) : Nat := n - (n / 2 &&& 1431655765)
def bc2 (n : Nat) : Nat := (n &&& 858993459) + (n / 4 &&& 858993459)
def bc3 (n : Nat) : Nat := (n + n / 16) &&& 252645135
def bc4 (n : Nat) : Nat := n + n / 256
def bc5 (n : Nat) : Nat := n + n / 65536
theorem bc_all {a b c d : Nat} (ha : a < 256) (hb : b < 256) (hc : c < 256) (hd : d < 256) :
    (b4 a b c d / 2 &&& 1431655765) ≤ b4 a b c d ∧ bc1 (b4 a b c d) = b4 (pa a) (pa b) (pa c) (pa d) ∧ bc2 (bc1 (b4 a b c d)) = b4 (pb (pa a)) (pb (pa b)) (pb (pa c)) (pb (pa d)) ∧ bc3 (bc2 (bc1 (b4 a b c d))) = b4 (pcN 8 a) (pcN 8 b) (pcN 8 c) (pcN 8 d) ∧ bc5 (bc4 (bc3 (bc2 (bc1 (b4 a b c d))))) % 64 = pcN 32 (b4 a b c d) := by
  have A := pq3 a ha
  have B := pq3 b hb
  have C := pq3 c hc
  have D := pq3 d hd
  have h1 : b4 a b c d / 2 &&& 1431655765 = b4 (a / 2 &&& 85) (b / 2 &&& 85) (c / 2 &&& 85) (d / 2 &&& 85) := by
    have e : b4 a b c d / 2 = b4 (a / 2 + 128 * (b % 2)) (b / 2 + 128 * (c % 2)) (c / 2 + 128 * (d % 2)) (d / 2) := by unfold b4; omega
    rw [e, show (1431655765 : Nat) = b4 85 85 85 85 from rfl, b4_and (by omega) (by omega) (by omega) (by decide), (pq1 a ha _ (by omega)).1, (pq1 b hb _ (by omega)).1, (pq1 c hc _ (by omega)).1]
  have l1 := (pq1 a ha 0 (by decide)).2
  have l2 := (pq1 b hb 0 (by decide)).2
  have l3 := (pq1 c hc 0 (by decide)).2
  have l4 := (pq1 d hd 0 (by decide)).2
  have h2 : bc1 (b4 a b c d) = b4 (pa a) (pa b) (pa c) (pa d) := by
    unfold bc1
    rw [h1]
    unfold b4 pa
    omega
  have h3 : bc2 (bc1 (b4 a b c d)) = b4 (pb (pa a)) (pb (pa b)) (pb (pa c)) (pb (pa d)) := by
    rw [h2]
    generalize pa a = p at *
    generalize pa b = q at *
    generalize pa c = r at *
    generalize pa d = s at *
    have e : b4 p q r s / 4 = b4 (p / 4 + 64 * (q % 4)) (q / 4 + 64 * (r % 4)) (r / 4 + 64 * (s % 4)) (s / 4) := by unfold b4; omega
    unfold bc2
    rw [e, show (858993459 : Nat) = b4 51 51 51 51 from rfl, b4_and (by omega) (by omega) (by omega) (by decide), b4_and (by omega) (by omega) (by omega) (by decide), pq2 p (by omega) _ (by omega), pq2 q (by omega) _ (by omega), pq2 r (by omega) _ (by omega)]
    unfold b4 pb
    omega
  have h4 : bc3 (bc2 (bc1 (b4 a b c d))) = b4 (pcN 8 a) (pcN 8 b) (pcN 8 c) (pcN 8 d) := by
    rw [h3, ← A.2.2.2.1, ← B.2.2.2.1, ← C.2.2.2.1, ← D.2.2.2.1]
    generalize pb (pa a) = p at *
    generalize pb (pa b) = q at *
    generalize pb (pa c) = r at *
    generalize pb (pa d) = s at *
    have e : b4 p q r s + b4 p q r s / 16 = b4 (p + p / 16 + 16 * (q % 16)) (q + q / 16 + 16 * (r % 16)) (r + r / 16 + 16 * (s % 16)) (s + s / 16 + 16 * 0) := by unfold b4; omega
    unfold bc3
    rw [e, show (252645135 : Nat) = b4 15 15 15 15 from rfl, b4_and (by omega) (by omega) (by omega) (by decide), pq4 p (by omega) _ (by omega), pq4 q (by omega) _ (by omega), pq4 r (by omega) _ (by omega), pq4 s (by omega) _ (by omega)]
  refine ⟨by rw [h1]; unfold b4; omega, h2, h3, h4, ?_⟩
  rw [h4, pcN_4 ha hb hc]
  have A' := A.2.2.2.2
  have B' := B.2.2.2.2
  have C' := C.2.2.2.2
  have D' := D.2.2.2.2
  generalize pcN 8 a = p at *
  generalize pcN 8 b = q at *
  generalize pcN 8 c = r at *
  generalize pcN 8 d = s at *
  clear A B C D l1 l2 l3 l4 h1 h2 h3 h4
  unfold bc5 bc4 b4
  have e1 : (p + 256 * (q + 256 * (r + 256 * s))) / 256 = q + 256 * (r + 256 * s) := by omega
  rw [e1]
  have e2 : (p + 256 * (q + 256 * (r + 256 * s)) + (q + 256 * (r + 256 * s))) / 65536 = r + s + 256 * s := by omega
  rw [e2]
  omega
theorem b4_of {n : Nat} (h : n < 2 ^ 32) : ∃ a b c d, n = b4 a b c d ∧ a < 256 ∧ b < 256 ∧ c < 256 ∧ d < 256 :=
  ⟨n % 256, n / 256 % 256, n / 65536 % 256, n / 16777216, by unfold b4; omega, by omega, by omega, by omega, by omega⟩
theorem nI_and (a b : Nat) : nI a &&& nI b = nI (a &&& b) := by
  apply Int32.toBitVec_inj.mp
  apply BitVec.eq_of_toNat_eq
  simp only [Int32.toBitVec_and, nI, Int32.toBitVec_ofNat', BitVec.toNat_and, BitVec.toNat_ofNat]
  rw [← Nat.and_mod_two_pow]
theorem nI_xor (a b : Nat) : nI a ^^^ nI b = nI (a ^^^ b) := by
  apply Int32.toBitVec_inj.mp
  apply BitVec.eq_of_toNat_eq
  simp only [Int32.toBitVec_xor, nI, Int32.toBitVec_ofNat', BitVec.toNat_xor, BitVec.toNat_ofNat]
  rw [← Nat.xor_mod_two_pow]
theorem nI_or (a b : Nat) : nI a ||| nI b = nI (a ||| b) := by
  apply Int32.toBitVec_inj.mp
  apply BitVec.eq_of_toNat_eq
  simp only [Int32.toBitVec_or, nI, Int32.toBitVec_ofNat', BitVec.toNat_or, BitVec.toNat_ofNat]
  rw [← Nat.or_mod_two_pow]
theorem nI_sub {a b : Nat} (h : b ≤ a) : nI a - nI b = nI (a - b) := by
  have e : nI a = nI (a - b) + nI b := by
    rw [← show nI (a - b + b) = nI (a - b) + nI b from Int32.ofNat_add _ _, Nat.sub_add_cancel h]
  rw [e, Int32.add_sub_cancel]
/-- a number less its lowest bit has one bit less -/
theorem low_off : ∀ k n, n < 2 ^ k → 0 < n → pcN k (n &&& (n - 1)) + 1 = pcN k n ∧ (n &&& (n - 1)) < n
  | 0, n, h, h0 => by simp at h; omega
  | k + 1, n, h, h0 => by
    rw [Nat.pow_succ] at h
    have e := Nat.mod_add_div n 2
    rcases Nat.mod_two_eq_zero_or_one n with z | z
    · have ih := low_off k (n / 2) (by omega) (by omega)
      have e1 : n &&& (n - 1) = 0 + 2 ^ 1 * (n / 2 &&& (n / 2 - 1)) := by
        have := and_sp 1 (x := 0) (u := 1) (by decide) (by decide) (n / 2) (n / 2 - 1)
        rw [show 0 + 2 ^ 1 * (n / 2) = n by omega, show 1 + 2 ^ 1 * (n / 2 - 1) = n - 1 by omega] at this
        exact this
      show (n &&& (n - 1)) % 2 + pcN k ((n &&& (n - 1)) / 2) + 1 = n % 2 + pcN k (n / 2) ∧ _
      rw [e1, show (0 + 2 ^ 1 * (n / 2 &&& (n / 2 - 1))) % 2 = 0 by omega, show (0 + 2 ^ 1 * (n / 2 &&& (n / 2 - 1))) / 2 = (n / 2 &&& (n / 2 - 1)) by omega]
      omega
    · have e1 : n &&& (n - 1) = 0 + 2 ^ 1 * (n / 2) := by
        have := and_sp 1 (x := 1) (u := 0) (by decide) (by decide) (n / 2) (n / 2)
        rw [show 1 + 2 ^ 1 * (n / 2) = n by omega, show 0 + 2 ^ 1 * (n / 2) = n - 1 by omega, Nat.and_self] at this
        exact this
      show (n &&& (n - 1)) % 2 + pcN k ((n &&& (n - 1)) / 2) + 1 = n % 2 + pcN k (n / 2) ∧ _
      rw [e1, show (0 + 2 ^ 1 * (n / 2)) % 2 = 0 by omega, show (0 + 2 ^ 1 * (n / 2)) / 2 = (n / 2) by omega]
      omega
theorem pcN_0 : ∀ k, pcN k 0 = 0
  | 0 => rfl
  | k + 1 => by show 0 % 2 + pcN k (0 / 2) = 0; rw [show 0 / 2 = 0 from rfl, pcN_0 k]
theorem pcN_le : ∀ k n, pcN k n ≤ k
  | 0, _ => Nat.le_refl _
  | k + 1, n => by
    show n % 2 + pcN k (n / 2) ≤ k + 1
    have := pcN_le k (n / 2)
    omega
/-! bitCount, many -/
def jus (x : Int32) (k : Nat) : Int32 := (x.toUInt32 >>> ((nI k).toUInt32 &&& Int32.toUInt32 31)).toInt32
def jb1 (x : Int32) : Int32 := x - (jus x 1 &&& nI 1431655765)
def jb2 (x : Int32) : Int32 := (x &&& nI 858993459) + (jus x 2 &&& nI 858993459)
def jb3 (x : Int32) : Int32 := (x + jus x 4) &&& nI 252645135
def jb4 (x : Int32) : Int32 := x + jus x 8
def jb5 (x : Int32) : Int32 := x + jus x 16
def jb6 (x : Int32) : Int32 := x &&& nI 63
theorem jus_am : ∀ k, k < 32 → (((nI k).toUInt32 &&& Int32.toUInt32 31).toBitVec % 32).toNat = k := by decide +kernel
theorem jus_n {n k : Nat} (hn : n < 2 ^ 32) (hk : k < 32) : jus (nI n) k = nI (n / 2 ^ k) := pk_ushrN hn (nI k) k (jus_am k hk)
theorem jb_eq {n : Nat} (h : n < 2 ^ 32) : jb6 (jb5 (jb4 (jb3 (jb2 (jb1 (nI n)))))) = nI (pcN 32 n) := by
  obtain ⟨a, b, c, d, rfl, ha, hb, hc, hd⟩ := b4_of h
  obtain ⟨h1, h2, h3, h4, h5⟩ := bc_all ha hb hc hd
  have A := pq3 a ha
  have B := pq3 b hb
  have C := pq3 c hc
  have D := pq3 d hd
  have e1 : jb1 (nI (b4 a b c d)) = nI (bc1 (b4 a b c d)) := by
    unfold jb1 bc1
    rw [jus_n h (by decide), nI_and, nI_sub h1]
  have l2 : bc1 (b4 a b c d) < 2 ^ 32 := by
    rw [h2]; unfold b4; omega
  have e2 : jb2 (nI (bc1 (b4 a b c d))) = nI (bc2 (bc1 (b4 a b c d))) := by
    unfold jb2 bc2
    rw [jus_n l2 (by decide), nI_and, nI_and, nI_add]
  have l3 : bc2 (bc1 (b4 a b c d)) < 2 ^ 32 := by
    rw [h3]; unfold b4; omega
  have e3 : jb3 (nI (bc2 (bc1 (b4 a b c d)))) = nI (bc3 (bc2 (bc1 (b4 a b c d)))) := by
    unfold jb3 bc3
    rw [jus_n l3 (by decide), nI_add, nI_and]
  have l4 : bc3 (bc2 (bc1 (b4 a b c d))) < 134744073 := by
    rw [h4]; unfold b4; omega
  rw [e1, e2, e3, ← h5]
  generalize bc3 (bc2 (bc1 (b4 a b c d))) = q at l4
  have e4 : jb4 (nI q) = nI (bc4 q) := by
    unfold jb4 bc4
    rw [jus_n (by omega) (by decide), nI_add]
  have l5 : bc4 q < 2 ^ 30 := by unfold bc4; omega
  have e5 : jb5 (nI (bc4 q)) = nI (bc5 (bc4 q)) := by
    unfold jb5 bc5
    rw [jus_n (by omega) (by decide), nI_add]
  have l6 : bc5 (bc4 q) < 2 ^ 32 := by unfold bc5; omega
  rw [e4, e5]
  exact pk_andN l6 (m := nI 63) 6 (by decide)
theorem k_bitCount {n : Nat} (h : n < 2 ^ 32) {Q : Option AV → HP} {c : Nat} {mr : MR} {mi : MI} {ml : ML} (hQ : Q (some (vI (nI (pcN 32 n)))) c mr mi ml) : Ok m_ji_bitCount 0 0 [vI (nI n)] Q c mr mi ml := by
  refine ok_wq inlT 200 rfl rfl ?_
  show Q (some (vI (jb6 (jb5 (jb4 (jb3 (jb2 (jb1 (nI n)))))))))  c mr mi ml
  rw [jb_eq h]
  exact hQ
theorem nI_ne0' {n : Nat} (h : n < 2 ^ 32) (h0 : nI n = 0) : n = 0 := by
  have := congrArg (fun x : Int32 => x.toBitVec.toNat) h0
  simp only [nI, Int32.toBitVec_ofNat', BitVec.toNat_ofNat] at this
  rw [Nat.mod_eq_of_lt h] at this
  exact this
theorem k_many_loop {n w : Nat} {Q : Option AV → HP} {k s c : Nat} {mr : MR} {mi : MI} {ml : ML} (hQ : Q (some (vI (nI w))) c mr mi ml) : ∀ b r a : Nat, r < b → r < 2 ^ 32 → a + pcN 32 r = w → At m_r_many 4 [some (vI (nI n)), some (vI (nI a)), some (vI (nI r))] [] k s (Zq Q) c mr mi ml := by
  intro b
  induction b with
  | zero => intro r a h; omega
  | succ b ih =>
    intro r a hb hr ha
    refine at_wq inlT 200 rfl ?_
    refine ⟨fun g => ?_, fun g => ?_⟩
    · have := nI_ne0' hr g
      subst this
      rw [pcN_0] at ha
      have e : a = w := ha
      rw [e]
      exact hQ
    · have h0 : 0 < r := by
        rcases Nat.eq_zero_or_pos r with z | z
        · subst z; exact absurd nI_0 g
        · exact z
      have L := low_off 32 r hr h0
      have := ih (r &&& (r - 1)) (a + 1) (by omega) (by omega) (by omega)
      rw [← nI_and, ← nI_sub h0, ← nI_add] at this
      exact this
theorem k_many {n : Nat} (h : n < 2 ^ 32) {Q : Option AV → HP} {c : Nat} {mr : MR} {mi : MI} {ml : ML} (hQ : Q (some (vI (nI (pcN 32 n)))) c mr mi ml) : Ok m_r_many 0 0 [vI (nI n)] Q c mr mi ml := by
  refine ok_wq inlT 200 rfl rfl ?_
  exact k_many_loop hQ (n + 1) n 0 (Nat.lt_succ_self n) h (Nat.zero_add _)
end
section
/-! ===== switches ===== -/
section
variable {y pc : Nat} {ls : eLS} {t : List AV} {k s : Nat} {Z : FT} {c : Nat} {mr : MR} {mi : MI} {ml : ML}
theorem at_tblO {dflt lo hi : Int} {offs : Array Int} {len : Nat} {x : Int32} {tgt : Nat} (hd : decode (mCd y) pc = .ok (.tableswitch dflt lo hi offs, len)) (h : x.toInt < lo ∨ hi < x.toInt) (ht : (pc : Int) + dflt = (tgt : Int)) (K : At y tgt ls t k s Z c mr mi ml) : At y pc ls (.inl x :: t) k s Z c mr mi ml := by
  intro l p e S m args below meth cd H locs cells slots mc ms lsC X D aC B sh0 sh hfl hC hR hsh hst hL hS hc hs
  exact lv_tableOut hC.1 hC.2.1 hd h ht (K l p e S m args below meth cd H locs cells slots mc ms lsC X D aC B sh0 sh hfl hC hR hsh (tl_ok hst) hL hS hc hs)
theorem at_tblI {dflt lo hi : Int} {offs : Array Int} {len : Nat} {x : Int32} {off : Int} {tgt : Nat} (hd : decode (mCd y) pc = .ok (.tableswitch dflt lo hi offs, len)) (h1 : ¬ x.toInt < lo) (h2 : ¬ hi < x.toInt) (ho : offs[(x.toInt - lo).toNat]? = some off) (ht : (pc : Int) + off = (tgt : Int)) (K : At y tgt ls t k s Z c mr mi ml) : At y pc ls (.inl x :: t) k s Z c mr mi ml := by
  intro l p e S m args below meth cd H locs cells slots mc ms lsC X D aC B sh0 sh hfl hC hR hsh hst hL hS hc hs
  exact lv_tableIn hC.1 hC.2.1 hd h1 h2 ho ht (K l p e S m args below meth cd H locs cells slots mc ms lsC X D aC B sh0 sh hfl hC hR hsh (tl_ok hst) hL hS hc hs)
/-- a switch from 0 on -/
theorem at_tbl (tgs : List Nat) (dt n : Nat) {len : Nat} {x : Int32} (hd : decode (mCd y) pc = .ok (.tableswitch ((dt : Int) - pc) 0 ((n : Int) - 1) (tgs.map (fun (t : Nat) => (t : Int) - pc)).toArray, len)) (hn : tgs.length = n) (hn31 : n ≤ 1000)
    (K1 : ∀ (j tg : Nat), tgs[j]? = some tg → x = nI j → At y tg ls t k s Z c mr mi ml) (K2 : (x.toInt < 0 ∨ (n : Int) ≤ x.toInt) → At y dt ls t k s Z c mr mi ml) : At y pc ls (.inl x :: t) k s Z c mr mi ml := by
  by_cases h : x.toInt < 0 ∨ (n : Int) - 1 < x.toInt
  · exact at_tblO hd h (by omega) (K2 (by omega))
  · have hx : x = nI x.toInt.toNat := by
      rw [nI_z, show ((x.toInt.toNat : Nat) : Int) = x.toInt by omega]
      exact zI_of x
    have hl : x.toInt.toNat < tgs.length := by omega
    refine at_tblI (off := ((tgs[x.toInt.toNat] : Nat) : Int) - pc) (tgt := tgs[x.toInt.toNat]) hd (by omega) (by omega) ?_ (by omega) (K1 x.toInt.toNat _ (List.getElem?_eq_getElem hl) hx)
    rw [show (x.toInt - 0).toNat = x.toInt.toNat by omega, List.getElem?_toArray, List.getElem?_map, List.getElem?_eq_getElem hl]
    rfl
theorem at_lkp {dflt : Int} {ps : Array (Int × Int)} {len : Nat} {x : Int32} {off : Int} {tgt : Nat} (hd : decode (mCd y) pc = .ok (.lookupswitch dflt ps, len)) (hp : (ps.toList.zip (ps.toList.drop 1)).all (fun (a, next) => a.1 < next.1) = true) (ho : Op.lookupswitch.offset ps.toList dflt x.toInt = off) (ht : (pc : Int) + off = (tgt : Int)) (K : At y tgt ls t k s Z c mr mi ml) : At y pc ls (.inl x :: t) k s Z c mr mi ml := by
  intro l p e S m args below meth cd H locs cells slots mc ms lsC X D aC B sh0 sh hfl hC hR hsh hst hL hS hc hs
  exact lv_lookup hC.1 hC.2.1 hd hp ho ht (K l p e S m args below meth cd H locs cells slots mc ms lsC X D aC B sh0 sh hfl hC hR hsh (tl_ok hst) hL hS hc hs)
end
theorem dc_wabout : decode (mCd m_w_about) 32 = .ok (.tableswitch (((138 : Nat) : Int) - (32 : Nat)) 0 (((8 : Nat) : Int) - 1) (([80, 88, 96, 104, 112, 120, 128, 136] : List Nat).map (fun (t : Nat) => (t : Int) - (32 : Nat))).toArray, 48) := by decide +kernel
theorem dc_wsize : decode (mCd m_w_size) 1 = .ok (.tableswitch (((118 : Nat) : Int) - (1 : Nat)) 0 (((6 : Nat) : Int) - 1) (([40, 59, 78, 86, 102, 110] : List Nat).map (fun (t : Nat) => (t : Int) - (1 : Nat))).toArray, 39) := by decide +kernel
theorem dc_rabout : decode (mCd m_r_about) 19 = .ok (.tableswitch (((151 : Nat) : Int) - (19 : Nat)) 0 (((9 : Nat) : Int) - 1) (([68, 77, 86, 95, 104, 113, 127, 136, 142] : List Nat).map (fun (t : Nat) => (t : Int) - (19 : Nat))).toArray, 49) := by decide +kernel
theorem dc_rsize : decode (mCd m_r_size) 6 = .ok (.tableswitch (((82 : Nat) : Int) - (6 : Nat)) 0 (((6 : Nat) : Int) - 1) (([44, 49, 54, 59, 72, 77] : List Nat).map (fun (t : Nat) => (t : Int) - (6 : Nat))).toArray, 38) := by decide +kernel
theorem dc_rorder : decode (mCd m_r_readOrder) 9 = .ok (.lookupswitch 62 #[(3, 59), (7, 59), (11, 59), (19, 59), (23, 59), (31, 59)], 59) := by decide +kernel
def lawT : List Nat := ([228, 301, 326, 339, 352, 377, 402, 439, 464, 489, 514, 539, 564, 589, 614, 639, 676, 689, 702, 727, 752, 806, 819, 861, 915, 957, 970, 1012, 1054, 1067, 1092, 1106, 1119, 1132, 1157, 1194, 1219, 1232, 1245, 1299, 1365, 1419, 1432, 1445, 1458, 1483, 1532, 1569, 1606, 1631, 1644, 1700, 1725] : List Nat).map (fun t => t + 40)
theorem dc_law : decode (mCd m_l_law) 40 = .ok (.tableswitch (((1778 : Nat) : Int) - (40 : Nat)) 0 (((53 : Nat) : Int) - 1) (lawT.map (fun (t : Nat) => (t : Int) - (40 : Nat))).toArray, 228) := by decide +kernel
end
section
/-! ===== shutter, lost ===== -/
theorem op_lt {σ : SG} (hW : WF σ) : opB σ < 2 ^ 31 := by
  obtain ⟨n, hn, h31⟩ := wf_n hW
  have := bitsOf_lt (fun j => σ 2 j == 1) (σ 0 5).toNat
  exact Nat.lt_of_lt_of_le this (p31 (by omega))
theorem sh_lt {σ : SG} (hW : WF σ) : shB σ < 2 ^ 31 := by
  obtain ⟨n, hn, h31⟩ := wf_n hW
  have := bitsOf_lt (fun j => σ 2 j == 2) (σ 0 5).toNat
  exact Nat.lt_of_lt_of_le this (p31 (by omega))
theorem op_at {σ : SG} (hW : WF σ) {i : Nat} (hi : (i : Int) < σ 0 5) (h31 : i < 31) : (nI (opB σ) >>> (nI i &&& 31)) &&& nI 1 = nI (if σ 2 i = 1 then 1 else 0) := by
  rw [bit_at (op_lt hW) (by omega)]
  unfold opB
  rw [bitsOf_at _ _ (show i < (σ 0 5).toNat by omega)]
  simp only [beq_iff_eq]
theorem sh_at {σ : SG} (hW : WF σ) {i : Nat} (hi : (i : Int) < σ 0 5) (h31 : i < 31) : (nI (shB σ) >>> (nI i &&& 31)) &&& nI 1 = nI (if σ 2 i = 2 then 1 else 0) := by
  rw [bit_at (sh_lt hW) (by omega)]
  unfold shB
  rw [bitsOf_at _ _ (show i < (σ 0 5).toNat by omega)]
  simp only [beq_iff_eq]
theorem WF.shut {σ : SG} (h : WF σ) (j : Nat) : σ 2 j = 0 ∨ σ 2 j = 1 ∨ σ 2 j = 2 := h.2.2.2.2.2.2.2.2.2.2.1 j
theorem WF.lost {σ : SG} (h : WF σ) : 0 ≤ σ 0 10 ∧ σ 0 10 < 2 ^ (σ 0 5).toNat := h.2.2.2.1
/-- the lost plates' bits -/
def loB (σ : SG) : Nat := (σ 0 10).toNat
theorem lo_lt {σ : SG} (hW : WF σ) : loB σ < 2 ^ 31 := by
  obtain ⟨n, hn, h31⟩ := wf_n hW
  have h := hW.lost
  have e : (σ 0 5).toNat = n := by omega
  rw [e] at h
  have h2 := p31 h31
  have h3 : ((2 : Int) ^ n) = ((2 ^ n : Nat) : Int) := by norm_cast
  rw [h3] at h
  unfold loB
  omega
theorem lo_nI {σ : SG} (hW : WF σ) : zI (σ 0 10) = nI (loB σ) := by
  rw [nI_z]
  unfold loB
  rw [show (((σ 0 10).toNat : Nat) : Int) = σ 0 10 from Int.toNat_of_nonneg hW.lost.1]
/-- a bit of a number -/
def bt (b i : Nat) : Nat := b / 2 ^ i % 2
theorem bt_01 (b i : Nat) : bt b i = 0 ∨ bt b i = 1 := by unfold bt; omega
def sp_shutter (σ : SG) (j : Int32) : Int32 × Nat := bif inN σ j then ((zI (σ 2 j.toInt.toNat)), 0) else (-(nI 1), 1)
def sp_lost (σ : SG) (j : Int32) : Int32 × Nat := bif inN σ j then ((nI (bt (loB σ) j.toInt.toNat)), 0) else (-(nI 1), 1)
theorem cw_shutter {nb db : Nat} (hb : nb = 43 ∧ db = 5 ∨ nb = 5 ∧ db = 43) {by_ rs : Option (Nat × Nat × Nat)} {c : Nat} {σ : SG} {mi : MI} {ml : ML} {j : Int32} (hW : WF σ) (hs : RCs σ mi) (hB : σ 0 0 = 1 → RCb σ nb mi) : Ok m_w_shutter 0 0 [vR 10 0 1, vI j] (EW (vI (sp_shutter σ j).1) (sp_shutter σ j).2 c (MRc nb db by_ rs) mi ml) c (MRc nb db by_ rs) mi ml := by
  refine ok_wq inlT 200 rfl rfl ?_
  refine ⟨0, 0, Nat.zero_le _, Nat.zero_le _, k_haveOne hb hW hs hB (fun hin => ?_) (fun hout => ?_)⟩
  · obtain ⟨i, rfl, hi, h31⟩ := hin.nat hW
    have hBn := hB hin.1
    have e5 := op_at hW hi h31
    have e6 := sh_at hW hi h31
    rw [← hBn.2.2.2.2.2.1] at e5
    rw [← hBn.2.2.2.2.2.2.1] at e6
    have e2 : sp_shutter σ (nI i) = (zI (σ 2 i), 0) := by unfold sp_shutter; rw [inN_t hin, ti31 h31]; rfl
    rw [e2]
    rcases hb with ⟨rfl, rfl⟩ | ⟨rfl, rfl⟩
    all_goals
      refine ⟨fun h => absurd h (by decide), fun _ => ?_⟩
      rcases hW.shut i with z | z | z
      all_goals rw [z] at e5 e6 ⊢
      · refine ⟨fun _ => ?_, fun h => absurd (e5.symm.trans h) (by decide)⟩
        refine ⟨fun _ => ?_, fun h => absurd (e6.symm.trans h) (by decide)⟩
        exact ⟨rfl, rfl, rfl, rfl, rfl⟩
      · refine ⟨fun h => absurd e5 h, fun _ => ?_⟩
        exact ⟨rfl, rfl, rfl, rfl, rfl⟩
      · refine ⟨fun _ => ?_, fun h => absurd (e5.symm.trans h) (by decide)⟩
        refine ⟨fun h => absurd e6 h, fun _ => ?_⟩
        exact ⟨rfl, rfl, rfl, rfl, rfl⟩
  · repeat' (first | (refine ⟨fun h => ?_, fun h => ?_⟩ <;> first | exact absurd h (by decide) | skip) | refine ⟨Or.inl rfl, ?_⟩ | refine ⟨Or.inr rfl, ?_⟩ | fail)
    unfold EW sp_shutter
    rw [inN_f hout]
    exact ⟨rfl, rfl, rfl, rfl, rfl⟩
theorem cr_shutter {nb db : Nat} {by_ rs : Option (Nat × Nat × Nat)} {c : Nat} {σ : SG} {mi : MI} {ml : ML} {j : Int32} (hW : WF σ) (hs : RMs σ mi) (hB : RMb σ mi) : Ok m_r_shutter 0 0 [vR 19 0 48, vI j] (ER (vI (sp_shutter σ j).1) (sp_shutter σ j).2 c (MRc nb db by_ rs) mi ml) c (MRc nb db by_ rs) mi ml := by
  refine ok_wq inlT 200 rfl rfl ?_
  refine ⟨0, 0, Nat.zero_le _, Nat.zero_le _, k_isOne hW (RMs_th hs _) (fun hin => ?_) (fun hout => ?_)⟩
  · obtain ⟨i, rfl, hi, h31⟩ := hin.nat hW
    repeat' (first | (refine ⟨fun h => ?_, fun h => ?_⟩ <;> first | exact absurd h (by decide) | skip) | refine ⟨Or.inl rfl, ?_⟩ | refine ⟨Or.inr rfl, ?_⟩ | fail)
    refine ⟨?_, ?_⟩
    · rw [nI_add]
      exact vp_in_nI (by omega) (by decide)
    · unfold ER sp_shutter
      rw [inN_t hin, nI_add, nI_clamp (by omega)]
      refine ⟨?_, rfl, rfl, rfl, rfl⟩
      have e := hB.2.2.1 i hi
      show some (vI (mi 54 (31 + i))) = some (vI (zI (σ 2 (nI i).toInt.toNat)))
      rw [ti31 h31]
      exact congrArg (fun x => some (vI x)) e
  · repeat' (first | (refine ⟨fun h => ?_, fun h => ?_⟩ <;> first | exact absurd h (by decide) | skip) | refine ⟨Or.inl rfl, ?_⟩ | refine ⟨Or.inr rfl, ?_⟩ | fail)
    unfold ER sp_shutter
    rw [inN_f hout]
    exact ⟨rfl, rfl, rfl, rfl, rfl⟩
theorem cw_lost {nb db : Nat} (hb : nb = 43 ∧ db = 5 ∨ nb = 5 ∧ db = 43) {by_ rs : Option (Nat × Nat × Nat)} {c : Nat} {σ : SG} {mi : MI} {ml : ML} {j : Int32} (hW : WF σ) (hs : RCs σ mi) (hB : σ 0 0 = 1 → RCb σ nb mi) : Ok m_w_lost 0 0 [vR 10 0 1, vI j] (EW (vI (sp_lost σ j).1) (sp_lost σ j).2 c (MRc nb db by_ rs) mi ml) c (MRc nb db by_ rs) mi ml := by
  refine ok_wq inlT 200 rfl rfl ?_
  refine ⟨0, 0, Nat.zero_le _, Nat.zero_le _, k_haveOne hb hW hs hB (fun hin => ?_) (fun hout => ?_)⟩
  · obtain ⟨i, rfl, hi, h31⟩ := hin.nat hW
    have hBn := hB hin.1
    have e5 := bit_at (lo_lt hW) (show i < 32 by omega)
    rw [← lo_nI hW, ← hBn.2.2.2.2.2.2.2.1] at e5
    have e2 : sp_lost σ (nI i) = (nI (bt (loB σ) i), 0) := by unfold sp_lost; rw [inN_t hin, ti31 h31]; rfl
    rw [e2]
    have z := bt_01 (loB σ) i
    unfold bt at z ⊢
    rcases hb with ⟨rfl, rfl⟩ | ⟨rfl, rfl⟩
    all_goals
      refine ⟨fun _ => ?_, fun h => absurd h (by decide)⟩
      rcases z with z | z
      all_goals rw [z] at e5 ⊢
      · refine ⟨fun _ => ?_, fun h => absurd (e5.symm.trans h) (by decide)⟩
        repeat' (first | (refine ⟨fun h => ?_, fun h => ?_⟩ <;> first | exact absurd h (by decide) | skip) | refine ⟨Or.inl rfl, ?_⟩ | refine ⟨Or.inr rfl, ?_⟩ | fail)
        exact ⟨rfl, rfl, rfl, rfl, rfl⟩
      · refine ⟨fun h => absurd e5 h, fun _ => ?_⟩
        repeat' (first | (refine ⟨fun h => ?_, fun h => ?_⟩ <;> first | exact absurd h (by decide) | skip) | refine ⟨Or.inl rfl, ?_⟩ | refine ⟨Or.inr rfl, ?_⟩ | fail)
        exact ⟨rfl, rfl, rfl, rfl, rfl⟩
  · repeat' (first | (refine ⟨fun h => ?_, fun h => ?_⟩ <;> first | exact absurd h (by decide) | skip) | refine ⟨Or.inl rfl, ?_⟩ | refine ⟨Or.inr rfl, ?_⟩ | fail)
    unfold EW sp_lost
    rw [inN_f hout]
    exact ⟨rfl, rfl, rfl, rfl, rfl⟩
/-- Model.has -/
theorem k_has {b i : Nat} (hb : b < 2 ^ 31) (hi : i < 32) {Q : Option AV → HP} {c : Nat} {mr : MR} {mi : MI} {ml : ML} (hQ : Q (some (vI (nI (bt b i)))) c mr mi ml) : Ok m_r_has 0 0 [vI (nI b), vI (nI i)] Q c mr mi ml := by
  refine ok_wq inlT 200 rfl rfl ?_
  have e := bit_at hb hi
  have z := bt_01 b i
  unfold bt at z hQ
  rcases z with z | z
  all_goals rw [z] at e hQ
  · refine ⟨fun _ => ⟨Or.inl rfl, hQ⟩, fun h => absurd (e.symm.trans h) (by decide)⟩
  · exact ⟨fun h => absurd e h, fun _ => ⟨Or.inr rfl, hQ⟩⟩
theorem cr_lost {nb db : Nat} {by_ rs : Option (Nat × Nat × Nat)} {c : Nat} {σ : SG} {mi : MI} {ml : ML} {j : Int32} (hW : WF σ) (hs : RMs σ mi) (hB : RMb σ mi) : Ok m_r_lost 0 0 [vR 19 0 48, vI j] (ER (vI (sp_lost σ j).1) (sp_lost σ j).2 c (MRc nb db by_ rs) mi ml) c (MRc nb db by_ rs) mi ml := by
  refine ok_wq inlT 200 rfl rfl ?_
  refine ⟨0, 0, Nat.zero_le _, Nat.zero_le _, k_isOne hW (RMs_th hs _) (fun hin => ?_) (fun hout => ?_)⟩
  · obtain ⟨i, rfl, hi, h31⟩ := hin.nat hW
    have e62 : mi 54 62 = nI (loB σ) := by rw [hs.2.2.2.2.2.2.2.2.2.2.2.2.2.2, lo_nI hW]
    have e2 : sp_lost σ (nI i) = (nI (bt (loB σ) i), 0) := by unfold sp_lost; rw [inN_t hin, ti31 h31]; rfl
    rw [e2]
    refine ⟨fun h => absurd h (by decide), fun _ => ?_⟩
    refine ⟨vp_in_nI (by decide) (by decide), 0, 0, Nat.zero_le _, Nat.zero_le _, ?_⟩
    show Ok m_r_has 0 0 [vI (mi 54 62), vI (nI i)] _ _ _ _ _
    rw [e62]
    refine k_has (lo_lt hW) (by omega) ?_
    have z := bt_01 (loB σ) i
    rcases z with z | z
    all_goals
      rw [z]
      repeat' (first | (refine ⟨fun h => ?_, fun h => ?_⟩ <;> first | exact absurd h (by decide) | skip) | refine ⟨Or.inl rfl, ?_⟩ | refine ⟨Or.inr rfl, ?_⟩ | fail)
      exact ⟨rfl, rfl, rfl, rfl, rfl⟩
  · repeat' (first | (refine ⟨fun h => ?_, fun h => ?_⟩ <;> first | exact absurd h (by decide) | skip) | refine ⟨Or.inl rfl, ?_⟩ | refine ⟨Or.inr rfl, ?_⟩ | fail)
    unfold ER sp_lost
    rw [inN_f hout]
    exact ⟨rfl, rfl, rfl, rfl, rfl⟩
end
