section
-- ===== PART A: goes FIRST, ahead of the names: the tables' words, and 'selects' of the private methods out of them =====
/-- a private method of a class that the tables say can be made, by its rows of tables_1 -/
def lw_okq (q : MethodName × Nat) : Prop := (q.1.cls ≠ "java/lang/invoke/MethodHandle" ∧ q.1.cls ≠ "java/lang/invoke/VarHandle") ∧ Cond.instantiable q.1.cls q.2 ∈ tables_1 ∧ Cond.privateMethod q.1 ∈ tables_1 ∧ Cond.instanceMethod q.1 ∈ tables_1
theorem lw_p0 : lw_okq (⟨"CircuitTwin$Circuit", "enter", "(I)V"⟩, 10) := ⟨⟨by decide +kernel, by decide +kernel⟩, List.mem_of_getElem? (i := 27) (by decide +kernel), List.mem_of_getElem? (i := 162) (by decide +kernel), List.mem_of_getElem? (i := 163) (by decide +kernel)⟩
theorem lw_p1 : lw_okq (⟨"CircuitTwin$Circuit", "hashOf", "(I)J"⟩, 10) := ⟨⟨by decide +kernel, by decide +kernel⟩, List.mem_of_getElem? (i := 27) (by decide +kernel), List.mem_of_getElem? (i := 166) (by decide +kernel), List.mem_of_getElem? (i := 167) (by decide +kernel)⟩
theorem lw_p2 : lw_okq (⟨"CircuitTwin$Circuit", "startBit", "(I)I"⟩, 10) := ⟨⟨by decide +kernel, by decide +kernel⟩, List.mem_of_getElem? (i := 27) (by decide +kernel), List.mem_of_getElem? (i := 170) (by decide +kernel), List.mem_of_getElem? (i := 171) (by decide +kernel)⟩
theorem lw_p3 : lw_okq (⟨"CircuitTwin$Circuit", "bucketFor", "(LCircuitTwin$Circuit;I)I"⟩, 10) := ⟨⟨by decide +kernel, by decide +kernel⟩, List.mem_of_getElem? (i := 27) (by decide +kernel), List.mem_of_getElem? (i := 175) (by decide +kernel), List.mem_of_getElem? (i := 176) (by decide +kernel)⟩
theorem lw_p4 : lw_okq (⟨"CircuitTwin$Circuit", "fillInput", "(I)V"⟩, 10) := ⟨⟨by decide +kernel, by decide +kernel⟩, List.mem_of_getElem? (i := 27) (by decide +kernel), List.mem_of_getElem? (i := 183) (by decide +kernel), List.mem_of_getElem? (i := 184) (by decide +kernel)⟩
theorem lw_p5 : lw_okq (⟨"CircuitTwin$Circuit", "fillGate", "(I)V"⟩, 10) := ⟨⟨by decide +kernel, by decide +kernel⟩, List.mem_of_getElem? (i := 27) (by decide +kernel), List.mem_of_getElem? (i := 189) (by decide +kernel), List.mem_of_getElem? (i := 190) (by decide +kernel)⟩
theorem lw_p6 : lw_okq (⟨"CircuitTwin$Circuit", "rowOf", "(I)I"⟩, 10) := ⟨⟨by decide +kernel, by decide +kernel⟩, List.mem_of_getElem? (i := 27) (by decide +kernel), List.mem_of_getElem? (i := 193) (by decide +kernel), List.mem_of_getElem? (i := 194) (by decide +kernel)⟩
theorem lw_p7 : lw_okq (⟨"CircuitTwin$Circuit", "flipOf", "(I)J"⟩, 10) := ⟨⟨by decide +kernel, by decide +kernel⟩, List.mem_of_getElem? (i := 27) (by decide +kernel), List.mem_of_getElem? (i := 201) (by decide +kernel), List.mem_of_getElem? (i := 202) (by decide +kernel)⟩
theorem lw_p8 : lw_okq (⟨"java/lang/Throwable", "fillInStackTrace", "(I)Ljava/lang/Throwable;"⟩, 6) := ⟨⟨by decide +kernel, by decide +kernel⟩, List.mem_of_getElem? (i := 360) (by decide +kernel), List.mem_of_getElem? (i := 358) (by decide +kernel), List.mem_of_getElem? (i := 359) (by decide +kernel)⟩
theorem lw_p9 : lw_okq (⟨"CircuitTwin", "named", "(I)LCircuitTwin$Circuit;"⟩, 4) := ⟨⟨by decide +kernel, by decide +kernel⟩, List.mem_of_getElem? (i := 19) (by decide +kernel), List.mem_of_getElem? (i := 416) (by decide +kernel), List.mem_of_getElem? (i := 417) (by decide +kernel)⟩
theorem lw_p10 : lw_okq (⟨"CircuitTwin$Reader", "takeKind", "()Z"⟩, 10) := ⟨⟨by decide +kernel, by decide +kernel⟩, List.mem_of_getElem? (i := 205) (by decide +kernel), List.mem_of_getElem? (i := 425) (by decide +kernel), List.mem_of_getElem? (i := 426) (by decide +kernel)⟩
theorem lw_p11 : lw_okq (⟨"CircuitTwin$Reader", "byteAt", "(I)I"⟩, 10) := ⟨⟨by decide +kernel, by decide +kernel⟩, List.mem_of_getElem? (i := 205) (by decide +kernel), List.mem_of_getElem? (i := 429) (by decide +kernel), List.mem_of_getElem? (i := 430) (by decide +kernel)⟩
theorem lw_p12 : lw_okq (⟨"CircuitTwin$Reader", "fail", "(II)Z"⟩, 10) := ⟨⟨by decide +kernel, by decide +kernel⟩, List.mem_of_getElem? (i := 205) (by decide +kernel), List.mem_of_getElem? (i := 433) (by decide +kernel), List.mem_of_getElem? (i := 434) (by decide +kernel)⟩
theorem lw_p13 : lw_okq (⟨"CircuitTwin$Reader", "takeSizes", "()Z"⟩, 10) := ⟨⟨by decide +kernel, by decide +kernel⟩, List.mem_of_getElem? (i := 205) (by decide +kernel), List.mem_of_getElem? (i := 437) (by decide +kernel), List.mem_of_getElem? (i := 438) (by decide +kernel)⟩
theorem lw_p14 : lw_okq (⟨"CircuitTwin$Reader", "takeLine", "(II)Z"⟩, 10) := ⟨⟨by decide +kernel, by decide +kernel⟩, List.mem_of_getElem? (i := 205) (by decide +kernel), List.mem_of_getElem? (i := 441) (by decide +kernel), List.mem_of_getElem? (i := 442) (by decide +kernel)⟩
theorem lw_p15 : lw_okq (⟨"CircuitTwin$Reader", "takeNumber", "(III)Z"⟩, 10) := ⟨⟨by decide +kernel, by decide +kernel⟩, List.mem_of_getElem? (i := 205) (by decide +kernel), List.mem_of_getElem? (i := 445) (by decide +kernel), List.mem_of_getElem? (i := 446) (by decide +kernel)⟩
def lw_privs_1 : List (MethodName × Nat) := [(⟨"CircuitTwin$Circuit", "enter", "(I)V"⟩, 10), (⟨"CircuitTwin$Circuit", "hashOf", "(I)J"⟩, 10), (⟨"CircuitTwin$Circuit", "startBit", "(I)I"⟩, 10), (⟨"CircuitTwin$Circuit", "bucketFor", "(LCircuitTwin$Circuit;I)I"⟩, 10), (⟨"CircuitTwin$Circuit", "fillInput", "(I)V"⟩, 10), (⟨"CircuitTwin$Circuit", "fillGate", "(I)V"⟩, 10), (⟨"CircuitTwin$Circuit", "rowOf", "(I)I"⟩, 10), (⟨"CircuitTwin$Circuit", "flipOf", "(I)J"⟩, 10), (⟨"java/lang/Throwable", "fillInStackTrace", "(I)Ljava/lang/Throwable;"⟩, 6), (⟨"CircuitTwin", "named", "(I)LCircuitTwin$Circuit;"⟩, 4), (⟨"CircuitTwin$Reader", "takeKind", "()Z"⟩, 10), (⟨"CircuitTwin$Reader", "byteAt", "(I)I"⟩, 10), (⟨"CircuitTwin$Reader", "fail", "(II)Z"⟩, 10), (⟨"CircuitTwin$Reader", "takeSizes", "()Z"⟩, 10), (⟨"CircuitTwin$Reader", "takeLine", "(II)Z"⟩, 10), (⟨"CircuitTwin$Reader", "takeNumber", "(III)Z"⟩, 10)]
theorem lw_r1 : ∀ q ∈ lw_privs_1, lw_okq q := List.forall_mem_cons.mpr ⟨lw_p0, List.forall_mem_cons.mpr ⟨lw_p1, List.forall_mem_cons.mpr ⟨lw_p2, List.forall_mem_cons.mpr ⟨lw_p3, List.forall_mem_cons.mpr ⟨lw_p4, List.forall_mem_cons.mpr ⟨lw_p5, List.forall_mem_cons.mpr ⟨lw_p6, List.forall_mem_cons.mpr ⟨lw_p7, List.forall_mem_cons.mpr ⟨lw_p8, List.forall_mem_cons.mpr ⟨lw_p9, List.forall_mem_cons.mpr ⟨lw_p10, List.forall_mem_cons.mpr ⟨lw_p11, List.forall_mem_cons.mpr ⟨lw_p12, List.forall_mem_cons.mpr ⟨lw_p13, List.forall_mem_cons.mpr ⟨lw_p14, List.forall_mem_cons.mpr ⟨lw_p15, fun _ h => absurd h List.not_mem_nil⟩⟩⟩⟩⟩⟩⟩⟩⟩⟩⟩⟩⟩⟩⟩⟩
theorem lw_p16 : lw_okq (⟨"CircuitTwin$Reader", "takeInputs", "()Z"⟩, 10) := ⟨⟨by decide +kernel, by decide +kernel⟩, List.mem_of_getElem? (i := 205) (by decide +kernel), List.mem_of_getElem? (i := 450) (by decide +kernel), List.mem_of_getElem? (i := 451) (by decide +kernel)⟩
theorem lw_p17 : lw_okq (⟨"CircuitTwin$Reader", "takeOwn", "(I)Z"⟩, 10) := ⟨⟨by decide +kernel, by decide +kernel⟩, List.mem_of_getElem? (i := 205) (by decide +kernel), List.mem_of_getElem? (i := 458) (by decide +kernel), List.mem_of_getElem? (i := 459) (by decide +kernel)⟩
theorem lw_p18 : lw_okq (⟨"CircuitTwin$Reader", "takeOutputs", "()Z"⟩, 10) := ⟨⟨by decide +kernel, by decide +kernel⟩, List.mem_of_getElem? (i := 205) (by decide +kernel), List.mem_of_getElem? (i := 471) (by decide +kernel), List.mem_of_getElem? (i := 472) (by decide +kernel)⟩
theorem lw_p19 : lw_okq (⟨"CircuitTwin$Reader", "takeUsed", "(I)Z"⟩, 10) := ⟨⟨by decide +kernel, by decide +kernel⟩, List.mem_of_getElem? (i := 205) (by decide +kernel), List.mem_of_getElem? (i := 475) (by decide +kernel), List.mem_of_getElem? (i := 476) (by decide +kernel)⟩
theorem lw_p20 : lw_okq (⟨"CircuitTwin$Reader", "takeGates", "()Z"⟩, 10) := ⟨⟨by decide +kernel, by decide +kernel⟩, List.mem_of_getElem? (i := 205) (by decide +kernel), List.mem_of_getElem? (i := 480) (by decide +kernel), List.mem_of_getElem? (i := 481) (by decide +kernel)⟩
theorem lw_p21 : lw_okq (⟨"CircuitTwin$Reader", "takeStepGate", "(I)Z"⟩, 10) := ⟨⟨by decide +kernel, by decide +kernel⟩, List.mem_of_getElem? (i := 205) (by decide +kernel), List.mem_of_getElem? (i := 484) (by decide +kernel), List.mem_of_getElem? (i := 485) (by decide +kernel)⟩
theorem lw_p22 : lw_okq (⟨"CircuitTwin$Reader", "takeStep", "()I"⟩, 10) := ⟨⟨by decide +kernel, by decide +kernel⟩, List.mem_of_getElem? (i := 205) (by decide +kernel), List.mem_of_getElem? (i := 488) (by decide +kernel), List.mem_of_getElem? (i := 489) (by decide +kernel)⟩
theorem lw_p23 : lw_okq (⟨"CircuitTwin$Reader", "takeLineGate", "(I)Z"⟩, 10) := ⟨⟨by decide +kernel, by decide +kernel⟩, List.mem_of_getElem? (i := 205) (by decide +kernel), List.mem_of_getElem? (i := 492) (by decide +kernel), List.mem_of_getElem? (i := 493) (by decide +kernel)⟩
theorem lw_p24 : lw_okq (⟨"CircuitTwin$Reader", "takeEnd", "()Z"⟩, 10) := ⟨⟨by decide +kernel, by decide +kernel⟩, List.mem_of_getElem? (i := 205) (by decide +kernel), List.mem_of_getElem? (i := 496) (by decide +kernel), List.mem_of_getElem? (i := 497) (by decide +kernel)⟩
theorem lw_p25 : lw_okq (⟨"CircuitTwin$Reader", "checkWhole", "()V"⟩, 10) := ⟨⟨by decide +kernel, by decide +kernel⟩, List.mem_of_getElem? (i := 205) (by decide +kernel), List.mem_of_getElem? (i := 500) (by decide +kernel), List.mem_of_getElem? (i := 501) (by decide +kernel)⟩
theorem lw_p26 : lw_okq (⟨"CircuitTwin$Net", "missingVariable", "(I)I"⟩, 13) := ⟨⟨by decide +kernel, by decide +kernel⟩, List.mem_of_getElem? (i := 33) (by decide +kernel), List.mem_of_getElem? (i := 508) (by decide +kernel), List.mem_of_getElem? (i := 509) (by decide +kernel)⟩
theorem lw_p27 : lw_okq (⟨"CircuitTwin$Net", "waitForAll", "()V"⟩, 13) := ⟨⟨by decide +kernel, by decide +kernel⟩, List.mem_of_getElem? (i := 33) (by decide +kernel), List.mem_of_getElem? (i := 519) (by decide +kernel), List.mem_of_getElem? (i := 520) (by decide +kernel)⟩
theorem lw_p28 : lw_okq (⟨"CircuitTwin$LoopFinder", "comesBack", "(LCircuitTwin$Net;I)Z"⟩, 3) := ⟨⟨by decide +kernel, by decide +kernel⟩, List.mem_of_getElem? (i := 211) (by decide +kernel), List.mem_of_getElem? (i := 533) (by decide +kernel), List.mem_of_getElem? (i := 534) (by decide +kernel)⟩
theorem lw_p29 : lw_okq (⟨"CircuitTwin$LoopFinder", "reachFanins", "(LCircuitTwin$Net;II)V"⟩, 3) := ⟨⟨by decide +kernel, by decide +kernel⟩, List.mem_of_getElem? (i := 211) (by decide +kernel), List.mem_of_getElem? (i := 537) (by decide +kernel), List.mem_of_getElem? (i := 538) (by decide +kernel)⟩
theorem lw_p30 : lw_okq (⟨"CircuitTwin$LoopFinder", "reach", "(LCircuitTwin$Net;II)V"⟩, 3) := ⟨⟨by decide +kernel, by decide +kernel⟩, List.mem_of_getElem? (i := 211) (by decide +kernel), List.mem_of_getElem? (i := 542) (by decide +kernel), List.mem_of_getElem? (i := 543) (by decide +kernel)⟩
theorem lw_p31 : lw_okq (⟨"CircuitTwin", "requireMatch", "()V"⟩, 4) := ⟨⟨by decide +kernel, by decide +kernel⟩, List.mem_of_getElem? (i := 19) (by decide +kernel), List.mem_of_getElem? (i := 605) (by decide +kernel), List.mem_of_getElem? (i := 606) (by decide +kernel)⟩
def lw_privs_2 : List (MethodName × Nat) := [(⟨"CircuitTwin$Reader", "takeInputs", "()Z"⟩, 10), (⟨"CircuitTwin$Reader", "takeOwn", "(I)Z"⟩, 10), (⟨"CircuitTwin$Reader", "takeOutputs", "()Z"⟩, 10), (⟨"CircuitTwin$Reader", "takeUsed", "(I)Z"⟩, 10), (⟨"CircuitTwin$Reader", "takeGates", "()Z"⟩, 10), (⟨"CircuitTwin$Reader", "takeStepGate", "(I)Z"⟩, 10), (⟨"CircuitTwin$Reader", "takeStep", "()I"⟩, 10), (⟨"CircuitTwin$Reader", "takeLineGate", "(I)Z"⟩, 10), (⟨"CircuitTwin$Reader", "takeEnd", "()Z"⟩, 10), (⟨"CircuitTwin$Reader", "checkWhole", "()V"⟩, 10), (⟨"CircuitTwin$Net", "missingVariable", "(I)I"⟩, 13), (⟨"CircuitTwin$Net", "waitForAll", "()V"⟩, 13), (⟨"CircuitTwin$LoopFinder", "comesBack", "(LCircuitTwin$Net;I)Z"⟩, 3), (⟨"CircuitTwin$LoopFinder", "reachFanins", "(LCircuitTwin$Net;II)V"⟩, 3), (⟨"CircuitTwin$LoopFinder", "reach", "(LCircuitTwin$Net;II)V"⟩, 3), (⟨"CircuitTwin", "requireMatch", "()V"⟩, 4)]
theorem lw_r2 : ∀ q ∈ lw_privs_2, lw_okq q := List.forall_mem_cons.mpr ⟨lw_p16, List.forall_mem_cons.mpr ⟨lw_p17, List.forall_mem_cons.mpr ⟨lw_p18, List.forall_mem_cons.mpr ⟨lw_p19, List.forall_mem_cons.mpr ⟨lw_p20, List.forall_mem_cons.mpr ⟨lw_p21, List.forall_mem_cons.mpr ⟨lw_p22, List.forall_mem_cons.mpr ⟨lw_p23, List.forall_mem_cons.mpr ⟨lw_p24, List.forall_mem_cons.mpr ⟨lw_p25, List.forall_mem_cons.mpr ⟨lw_p26, List.forall_mem_cons.mpr ⟨lw_p27, List.forall_mem_cons.mpr ⟨lw_p28, List.forall_mem_cons.mpr ⟨lw_p29, List.forall_mem_cons.mpr ⟨lw_p30, List.forall_mem_cons.mpr ⟨lw_p31, fun _ h => absurd h List.not_mem_nil⟩⟩⟩⟩⟩⟩⟩⟩⟩⟩⟩⟩⟩⟩⟩⟩
theorem lw_p32 : lw_okq (⟨"CircuitTwin", "leastDifference", "(I)I"⟩, 4) := ⟨⟨by decide +kernel, by decide +kernel⟩, List.mem_of_getElem? (i := 19) (by decide +kernel), List.mem_of_getElem? (i := 610) (by decide +kernel), List.mem_of_getElem? (i := 611) (by decide +kernel)⟩
theorem lw_p33 : lw_okq (⟨"CircuitTwin$Circuit", "halfWithout", "(III)J"⟩, 10) := ⟨⟨by decide +kernel, by decide +kernel⟩, List.mem_of_getElem? (i := 27) (by decide +kernel), List.mem_of_getElem? (i := 696) (by decide +kernel), List.mem_of_getElem? (i := 697) (by decide +kernel)⟩
theorem lw_p34 : lw_okq (⟨"CircuitTwin$Circuit", "halfWith", "(III)J"⟩, 10) := ⟨⟨by decide +kernel, by decide +kernel⟩, List.mem_of_getElem? (i := 27) (by decide +kernel), List.mem_of_getElem? (i := 700) (by decide +kernel), List.mem_of_getElem? (i := 701) (by decide +kernel)⟩
theorem lw_p35 : lw_okq (⟨"CircuitTwin$Writer", "measure", "(LCircuitTwin$Circuit;)V"⟩, 9) := ⟨⟨by decide +kernel, by decide +kernel⟩, List.mem_of_getElem? (i := 264) (by decide +kernel), List.mem_of_getElem? (i := 751) (by decide +kernel), List.mem_of_getElem? (i := 752) (by decide +kernel)⟩
theorem lw_p36 : lw_okq (⟨"CircuitTwin$Writer", "finalSlot", "(LCircuitTwin$Circuit;I)I"⟩, 9) := ⟨⟨by decide +kernel, by decide +kernel⟩, List.mem_of_getElem? (i := 264) (by decide +kernel), List.mem_of_getElem? (i := 756) (by decide +kernel), List.mem_of_getElem? (i := 757) (by decide +kernel)⟩
theorem lw_p37 : lw_okq (⟨"CircuitTwin$Writer", "finalLiteral", "(LCircuitTwin$Circuit;I)I"⟩, 9) := ⟨⟨by decide +kernel, by decide +kernel⟩, List.mem_of_getElem? (i := 264) (by decide +kernel), List.mem_of_getElem? (i := 760) (by decide +kernel), List.mem_of_getElem? (i := 761) (by decide +kernel)⟩
theorem lw_p38 : lw_okq (⟨"CircuitTwin$Writer", "markNeeded", "(LCircuitTwin$Circuit;)V"⟩, 9) := ⟨⟨by decide +kernel, by decide +kernel⟩, List.mem_of_getElem? (i := 264) (by decide +kernel), List.mem_of_getElem? (i := 769) (by decide +kernel), List.mem_of_getElem? (i := 770) (by decide +kernel)⟩
theorem lw_p39 : lw_okq (⟨"CircuitTwin$Writer", "numberGates", "(LCircuitTwin$Net;)V"⟩, 9) := ⟨⟨by decide +kernel, by decide +kernel⟩, List.mem_of_getElem? (i := 264) (by decide +kernel), List.mem_of_getElem? (i := 773) (by decide +kernel), List.mem_of_getElem? (i := 774) (by decide +kernel)⟩
theorem lw_p40 : lw_okq (⟨"CircuitTwin$Writer", "countDepths", "(LCircuitTwin$Net;)V"⟩, 9) := ⟨⟨by decide +kernel, by decide +kernel⟩, List.mem_of_getElem? (i := 264) (by decide +kernel), List.mem_of_getElem? (i := 777) (by decide +kernel), List.mem_of_getElem? (i := 778) (by decide +kernel)⟩
theorem lw_p41 : lw_okq (⟨"CircuitTwin$Writer", "putFirstLine", "(LCircuitTwin$Net;Z)V"⟩, 9) := ⟨⟨by decide +kernel, by decide +kernel⟩, List.mem_of_getElem? (i := 264) (by decide +kernel), List.mem_of_getElem? (i := 782) (by decide +kernel), List.mem_of_getElem? (i := 783) (by decide +kernel)⟩
theorem lw_p42 : lw_okq (⟨"CircuitTwin$Writer", "putByte", "(I)V"⟩, 9) := ⟨⟨by decide +kernel, by decide +kernel⟩, List.mem_of_getElem? (i := 264) (by decide +kernel), List.mem_of_getElem? (i := 786) (by decide +kernel), List.mem_of_getElem? (i := 787) (by decide +kernel)⟩
theorem lw_p43 : lw_okq (⟨"CircuitTwin$Writer", "putNumber", "(II)V"⟩, 9) := ⟨⟨by decide +kernel, by decide +kernel⟩, List.mem_of_getElem? (i := 264) (by decide +kernel), List.mem_of_getElem? (i := 790) (by decide +kernel), List.mem_of_getElem? (i := 791) (by decide +kernel)⟩
theorem lw_p44 : lw_okq (⟨"CircuitTwin$Writer", "putInputs", "(LCircuitTwin$Net;)V"⟩, 9) := ⟨⟨by decide +kernel, by decide +kernel⟩, List.mem_of_getElem? (i := 264) (by decide +kernel), List.mem_of_getElem? (i := 794) (by decide +kernel), List.mem_of_getElem? (i := 795) (by decide +kernel)⟩
theorem lw_p45 : lw_okq (⟨"CircuitTwin$Writer", "putOutputs", "(LCircuitTwin$Circuit;)V"⟩, 9) := ⟨⟨by decide +kernel, by decide +kernel⟩, List.mem_of_getElem? (i := 264) (by decide +kernel), List.mem_of_getElem? (i := 798) (by decide +kernel), List.mem_of_getElem? (i := 799) (by decide +kernel)⟩
theorem lw_p46 : lw_okq (⟨"CircuitTwin$Writer", "newLiteral", "(LCircuitTwin$Circuit;I)I"⟩, 9) := ⟨⟨by decide +kernel, by decide +kernel⟩, List.mem_of_getElem? (i := 264) (by decide +kernel), List.mem_of_getElem? (i := 802) (by decide +kernel), List.mem_of_getElem? (i := 803) (by decide +kernel)⟩
theorem lw_p47 : lw_okq (⟨"CircuitTwin$Writer", "putGate", "(LCircuitTwin$Circuit;IZ)V"⟩, 9) := ⟨⟨by decide +kernel, by decide +kernel⟩, List.mem_of_getElem? (i := 264) (by decide +kernel), List.mem_of_getElem? (i := 806) (by decide +kernel), List.mem_of_getElem? (i := 807) (by decide +kernel)⟩
def lw_privs_3 : List (MethodName × Nat) := [(⟨"CircuitTwin", "leastDifference", "(I)I"⟩, 4), (⟨"CircuitTwin$Circuit", "halfWithout", "(III)J"⟩, 10), (⟨"CircuitTwin$Circuit", "halfWith", "(III)J"⟩, 10), (⟨"CircuitTwin$Writer", "measure", "(LCircuitTwin$Circuit;)V"⟩, 9), (⟨"CircuitTwin$Writer", "finalSlot", "(LCircuitTwin$Circuit;I)I"⟩, 9), (⟨"CircuitTwin$Writer", "finalLiteral", "(LCircuitTwin$Circuit;I)I"⟩, 9), (⟨"CircuitTwin$Writer", "markNeeded", "(LCircuitTwin$Circuit;)V"⟩, 9), (⟨"CircuitTwin$Writer", "numberGates", "(LCircuitTwin$Net;)V"⟩, 9), (⟨"CircuitTwin$Writer", "countDepths", "(LCircuitTwin$Net;)V"⟩, 9), (⟨"CircuitTwin$Writer", "putFirstLine", "(LCircuitTwin$Net;Z)V"⟩, 9), (⟨"CircuitTwin$Writer", "putByte", "(I)V"⟩, 9), (⟨"CircuitTwin$Writer", "putNumber", "(II)V"⟩, 9), (⟨"CircuitTwin$Writer", "putInputs", "(LCircuitTwin$Net;)V"⟩, 9), (⟨"CircuitTwin$Writer", "putOutputs", "(LCircuitTwin$Circuit;)V"⟩, 9), (⟨"CircuitTwin$Writer", "newLiteral", "(LCircuitTwin$Circuit;I)I"⟩, 9), (⟨"CircuitTwin$Writer", "putGate", "(LCircuitTwin$Circuit;IZ)V"⟩, 9)]
theorem lw_r3 : ∀ q ∈ lw_privs_3, lw_okq q := List.forall_mem_cons.mpr ⟨lw_p32, List.forall_mem_cons.mpr ⟨lw_p33, List.forall_mem_cons.mpr ⟨lw_p34, List.forall_mem_cons.mpr ⟨lw_p35, List.forall_mem_cons.mpr ⟨lw_p36, List.forall_mem_cons.mpr ⟨lw_p37, List.forall_mem_cons.mpr ⟨lw_p38, List.forall_mem_cons.mpr ⟨lw_p39, List.forall_mem_cons.mpr ⟨lw_p40, List.forall_mem_cons.mpr ⟨lw_p41, List.forall_mem_cons.mpr ⟨lw_p42, List.forall_mem_cons.mpr ⟨lw_p43, List.forall_mem_cons.mpr ⟨lw_p44, List.forall_mem_cons.mpr ⟨lw_p45, List.forall_mem_cons.mpr ⟨lw_p46, List.forall_mem_cons.mpr ⟨lw_p47, fun _ h => absurd h List.not_mem_nil⟩⟩⟩⟩⟩⟩⟩⟩⟩⟩⟩⟩⟩⟩⟩⟩
theorem lw_p48 : lw_okq (⟨"CircuitTwin$Writer", "putStep", "(I)V"⟩, 9) := ⟨⟨by decide +kernel, by decide +kernel⟩, List.mem_of_getElem? (i := 264) (by decide +kernel), List.mem_of_getElem? (i := 811) (by decide +kernel), List.mem_of_getElem? (i := 812) (by decide +kernel)⟩
theorem lw_p49 : lw_okq (⟨"CircuitTwinModel", "throwing", "(ZZ)Z"⟩, 30) := ⟨⟨by decide +kernel, by decide +kernel⟩, List.mem_of_getElem? (i := 840) (by decide +kernel), List.mem_of_getElem? (i := 946) (by decide +kernel), List.mem_of_getElem? (i := 947) (by decide +kernel)⟩
theorem lw_p50 : lw_okq (⟨"CircuitTwinModel", "readText", "()V"⟩, 30) := ⟨⟨by decide +kernel, by decide +kernel⟩, List.mem_of_getElem? (i := 840) (by decide +kernel), List.mem_of_getElem? (i := 957) (by decide +kernel), List.mem_of_getElem? (i := 958) (by decide +kernel)⟩
theorem lw_p51 : lw_okq (⟨"CircuitTwinModel", "fail", "(II)V"⟩, 30) := ⟨⟨by decide +kernel, by decide +kernel⟩, List.mem_of_getElem? (i := 840) (by decide +kernel), List.mem_of_getElem? (i := 961) (by decide +kernel), List.mem_of_getElem? (i := 962) (by decide +kernel)⟩
theorem lw_p52 : lw_okq (⟨"CircuitTwinModel", "empty", "()V"⟩, 30) := ⟨⟨by decide +kernel, by decide +kernel⟩, List.mem_of_getElem? (i := 840) (by decide +kernel), List.mem_of_getElem? (i := 965) (by decide +kernel), List.mem_of_getElem? (i := 966) (by decide +kernel)⟩
theorem lw_p53 : lw_okq (⟨"CircuitTwinModel", "header", "(Z)V"⟩, 30) := ⟨⟨by decide +kernel, by decide +kernel⟩, List.mem_of_getElem? (i := 840) (by decide +kernel), List.mem_of_getElem? (i := 969) (by decide +kernel), List.mem_of_getElem? (i := 970) (by decide +kernel)⟩
theorem lw_p54 : lw_okq (⟨"CircuitTwinModel", "line", "(II)V"⟩, 30) := ⟨⟨by decide +kernel, by decide +kernel⟩, List.mem_of_getElem? (i := 840) (by decide +kernel), List.mem_of_getElem? (i := 973) (by decide +kernel), List.mem_of_getElem? (i := 974) (by decide +kernel)⟩
theorem lw_p55 : lw_okq (⟨"CircuitTwinModel", "here", "()I"⟩, 30) := ⟨⟨by decide +kernel, by decide +kernel⟩, List.mem_of_getElem? (i := 840) (by decide +kernel), List.mem_of_getElem? (i := 977) (by decide +kernel), List.mem_of_getElem? (i := 978) (by decide +kernel)⟩
theorem lw_p56 : lw_okq (⟨"CircuitTwinModel", "readInputs", "(Z)V"⟩, 30) := ⟨⟨by decide +kernel, by decide +kernel⟩, List.mem_of_getElem? (i := 840) (by decide +kernel), List.mem_of_getElem? (i := 984) (by decide +kernel), List.mem_of_getElem? (i := 985) (by decide +kernel)⟩
theorem lw_p57 : lw_okq (⟨"CircuitTwinModel", "stands", "(II)Z"⟩, 30) := ⟨⟨by decide +kernel, by decide +kernel⟩, List.mem_of_getElem? (i := 840) (by decide +kernel), List.mem_of_getElem? (i := 988) (by decide +kernel), List.mem_of_getElem? (i := 989) (by decide +kernel)⟩
theorem lw_p58 : lw_okq (⟨"CircuitTwinModel", "readOutputs", "()V"⟩, 30) := ⟨⟨by decide +kernel, by decide +kernel⟩, List.mem_of_getElem? (i := 840) (by decide +kernel), List.mem_of_getElem? (i := 992) (by decide +kernel), List.mem_of_getElem? (i := 993) (by decide +kernel)⟩
theorem lw_p59 : lw_okq (⟨"CircuitTwinModel", "readSteps", "()V"⟩, 30) := ⟨⟨by decide +kernel, by decide +kernel⟩, List.mem_of_getElem? (i := 840) (by decide +kernel), List.mem_of_getElem? (i := 996) (by decide +kernel), List.mem_of_getElem? (i := 997) (by decide +kernel)⟩
theorem lw_p60 : lw_okq (⟨"CircuitTwinModel", "step", "()I"⟩, 30) := ⟨⟨by decide +kernel, by decide +kernel⟩, List.mem_of_getElem? (i := 840) (by decide +kernel), List.mem_of_getElem? (i := 1000) (by decide +kernel), List.mem_of_getElem? (i := 1001) (by decide +kernel)⟩
theorem lw_p61 : lw_okq (⟨"CircuitTwinModel", "readGates", "()V"⟩, 30) := ⟨⟨by decide +kernel, by decide +kernel⟩, List.mem_of_getElem? (i := 840) (by decide +kernel), List.mem_of_getElem? (i := 1004) (by decide +kernel), List.mem_of_getElem? (i := 1005) (by decide +kernel)⟩
theorem lw_p62 : lw_okq (⟨"CircuitTwinModel", "connect", "()V"⟩, 30) := ⟨⟨by decide +kernel, by decide +kernel⟩, List.mem_of_getElem? (i := 840) (by decide +kernel), List.mem_of_getElem? (i := 1008) (by decide +kernel), List.mem_of_getElem? (i := 1009) (by decide +kernel)⟩
theorem lw_p63 : lw_okq (⟨"CircuitTwinModel", "lesser", "(II)I"⟩, 30) := ⟨⟨by decide +kernel, by decide +kernel⟩, List.mem_of_getElem? (i := 840) (by decide +kernel), List.mem_of_getElem? (i := 1012) (by decide +kernel), List.mem_of_getElem? (i := 1013) (by decide +kernel)⟩
def lw_privs_4 : List (MethodName × Nat) := [(⟨"CircuitTwin$Writer", "putStep", "(I)V"⟩, 9), (⟨"CircuitTwinModel", "throwing", "(ZZ)Z"⟩, 30), (⟨"CircuitTwinModel", "readText", "()V"⟩, 30), (⟨"CircuitTwinModel", "fail", "(II)V"⟩, 30), (⟨"CircuitTwinModel", "empty", "()V"⟩, 30), (⟨"CircuitTwinModel", "header", "(Z)V"⟩, 30), (⟨"CircuitTwinModel", "line", "(II)V"⟩, 30), (⟨"CircuitTwinModel", "here", "()I"⟩, 30), (⟨"CircuitTwinModel", "readInputs", "(Z)V"⟩, 30), (⟨"CircuitTwinModel", "stands", "(II)Z"⟩, 30), (⟨"CircuitTwinModel", "readOutputs", "()V"⟩, 30), (⟨"CircuitTwinModel", "readSteps", "()V"⟩, 30), (⟨"CircuitTwinModel", "step", "()I"⟩, 30), (⟨"CircuitTwinModel", "readGates", "()V"⟩, 30), (⟨"CircuitTwinModel", "connect", "()V"⟩, 30), (⟨"CircuitTwinModel", "lesser", "(II)I"⟩, 30)]
theorem lw_r4 : ∀ q ∈ lw_privs_4, lw_okq q := List.forall_mem_cons.mpr ⟨lw_p48, List.forall_mem_cons.mpr ⟨lw_p49, List.forall_mem_cons.mpr ⟨lw_p50, List.forall_mem_cons.mpr ⟨lw_p51, List.forall_mem_cons.mpr ⟨lw_p52, List.forall_mem_cons.mpr ⟨lw_p53, List.forall_mem_cons.mpr ⟨lw_p54, List.forall_mem_cons.mpr ⟨lw_p55, List.forall_mem_cons.mpr ⟨lw_p56, List.forall_mem_cons.mpr ⟨lw_p57, List.forall_mem_cons.mpr ⟨lw_p58, List.forall_mem_cons.mpr ⟨lw_p59, List.forall_mem_cons.mpr ⟨lw_p60, List.forall_mem_cons.mpr ⟨lw_p61, List.forall_mem_cons.mpr ⟨lw_p62, List.forall_mem_cons.mpr ⟨lw_p63, fun _ h => absurd h List.not_mem_nil⟩⟩⟩⟩⟩⟩⟩⟩⟩⟩⟩⟩⟩⟩⟩⟩
theorem lw_p64 : lw_okq (⟨"CircuitTwinModel", "lacks", "(I)Z"⟩, 30) := ⟨⟨by decide +kernel, by decide +kernel⟩, List.mem_of_getElem? (i := 840) (by decide +kernel), List.mem_of_getElem? (i := 1016) (by decide +kernel), List.mem_of_getElem? (i := 1017) (by decide +kernel)⟩
theorem lw_p65 : lw_okq (⟨"CircuitTwinModel", "arrange", "()I"⟩, 30) := ⟨⟨by decide +kernel, by decide +kernel⟩, List.mem_of_getElem? (i := 840) (by decide +kernel), List.mem_of_getElem? (i := 1020) (by decide +kernel), List.mem_of_getElem? (i := 1021) (by decide +kernel)⟩
theorem lw_p66 : lw_okq (⟨"CircuitTwinModel", "rowAt", "(II)I"⟩, 30) := ⟨⟨by decide +kernel, by decide +kernel⟩, List.mem_of_getElem? (i := 840) (by decide +kernel), List.mem_of_getElem? (i := 1024) (by decide +kernel), List.mem_of_getElem? (i := 1025) (by decide +kernel)⟩
theorem lw_p67 : lw_okq (⟨"CircuitTwinModel", "comesBack", "(I)Z"⟩, 30) := ⟨⟨by decide +kernel, by decide +kernel⟩, List.mem_of_getElem? (i := 840) (by decide +kernel), List.mem_of_getElem? (i := 1028) (by decide +kernel), List.mem_of_getElem? (i := 1029) (by decide +kernel)⟩
theorem lw_p68 : lw_okq (⟨"CircuitTwinModel", "take", "(I)V"⟩, 30) := ⟨⟨by decide +kernel, by decide +kernel⟩, List.mem_of_getElem? (i := 840) (by decide +kernel), List.mem_of_getElem? (i := 1032) (by decide +kernel), List.mem_of_getElem? (i := 1033) (by decide +kernel)⟩
theorem lw_p69 : lw_okq (⟨"CircuitTwinModel", "fillTables", "(I)V"⟩, 30) := ⟨⟨by decide +kernel, by decide +kernel⟩, List.mem_of_getElem? (i := 840) (by decide +kernel), List.mem_of_getElem? (i := 1036) (by decide +kernel), List.mem_of_getElem? (i := 1037) (by decide +kernel)⟩
theorem lw_p70 : lw_okq (⟨"CircuitTwinModel", "words", "(I)I"⟩, 30) := ⟨⟨by decide +kernel, by decide +kernel⟩, List.mem_of_getElem? (i := 840) (by decide +kernel), List.mem_of_getElem? (i := 1040) (by decide +kernel), List.mem_of_getElem? (i := 1041) (by decide +kernel)⟩
theorem lw_p71 : lw_okq (⟨"CircuitTwinModel", "mask", "(I)J"⟩, 30) := ⟨⟨by decide +kernel, by decide +kernel⟩, List.mem_of_getElem? (i := 840) (by decide +kernel), List.mem_of_getElem? (i := 1044) (by decide +kernel), List.mem_of_getElem? (i := 1045) (by decide +kernel)⟩
theorem lw_p72 : lw_okq (⟨"CircuitTwinModel", "word", "(III)J"⟩, 30) := ⟨⟨by decide +kernel, by decide +kernel⟩, List.mem_of_getElem? (i := 840) (by decide +kernel), List.mem_of_getElem? (i := 1049) (by decide +kernel), List.mem_of_getElem? (i := 1050) (by decide +kernel)⟩
theorem lw_p73 : lw_okq (⟨"CircuitTwinModel", "isLiteral", "(II)Z"⟩, 30) := ⟨⟨by decide +kernel, by decide +kernel⟩, List.mem_of_getElem? (i := 840) (by decide +kernel), List.mem_of_getElem? (i := 1061) (by decide +kernel), List.mem_of_getElem? (i := 1062) (by decide +kernel)⟩
theorem lw_p74 : lw_okq (⟨"CircuitTwinModel", "isVector", "(II)Z"⟩, 30) := ⟨⟨by decide +kernel, by decide +kernel⟩, List.mem_of_getElem? (i := 840) (by decide +kernel), List.mem_of_getElem? (i := 1065) (by decide +kernel), List.mem_of_getElem? (i := 1066) (by decide +kernel)⟩
theorem lw_p75 : lw_okq (⟨"CircuitTwinModel", "bit", "(III)I"⟩, 30) := ⟨⟨by decide +kernel, by decide +kernel⟩, List.mem_of_getElem? (i := 840) (by decide +kernel), List.mem_of_getElem? (i := 1069) (by decide +kernel), List.mem_of_getElem? (i := 1070) (by decide +kernel)⟩
theorem lw_p76 : lw_okq (⟨"CircuitTwinModel", "match", "()Z"⟩, 30) := ⟨⟨by decide +kernel, by decide +kernel⟩, List.mem_of_getElem? (i := 840) (by decide +kernel), List.mem_of_getElem? (i := 1077) (by decide +kernel), List.mem_of_getElem? (i := 1078) (by decide +kernel)⟩
theorem lw_p77 : lw_okq (⟨"CircuitTwinModel", "areSame", "(IIII)Z"⟩, 30) := ⟨⟨by decide +kernel, by decide +kernel⟩, List.mem_of_getElem? (i := 840) (by decide +kernel), List.mem_of_getElem? (i := 1081) (by decide +kernel), List.mem_of_getElem? (i := 1082) (by decide +kernel)⟩
theorem lw_p78 : lw_okq (⟨"CircuitTwinModel", "difference", "(I)I"⟩, 30) := ⟨⟨by decide +kernel, by decide +kernel⟩, List.mem_of_getElem? (i := 840) (by decide +kernel), List.mem_of_getElem? (i := 1089) (by decide +kernel), List.mem_of_getElem? (i := 1090) (by decide +kernel)⟩
theorem lw_p79 : lw_okq (⟨"CircuitTwinModel", "lacksInput", "(III)Z"⟩, 30) := ⟨⟨by decide +kernel, by decide +kernel⟩, List.mem_of_getElem? (i := 840) (by decide +kernel), List.mem_of_getElem? (i := 1113) (by decide +kernel), List.mem_of_getElem? (i := 1114) (by decide +kernel)⟩
def lw_privs_5 : List (MethodName × Nat) := [(⟨"CircuitTwinModel", "lacks", "(I)Z"⟩, 30), (⟨"CircuitTwinModel", "arrange", "()I"⟩, 30), (⟨"CircuitTwinModel", "rowAt", "(II)I"⟩, 30), (⟨"CircuitTwinModel", "comesBack", "(I)Z"⟩, 30), (⟨"CircuitTwinModel", "take", "(I)V"⟩, 30), (⟨"CircuitTwinModel", "fillTables", "(I)V"⟩, 30), (⟨"CircuitTwinModel", "words", "(I)I"⟩, 30), (⟨"CircuitTwinModel", "mask", "(I)J"⟩, 30), (⟨"CircuitTwinModel", "word", "(III)J"⟩, 30), (⟨"CircuitTwinModel", "isLiteral", "(II)Z"⟩, 30), (⟨"CircuitTwinModel", "isVector", "(II)Z"⟩, 30), (⟨"CircuitTwinModel", "bit", "(III)I"⟩, 30), (⟨"CircuitTwinModel", "match", "()Z"⟩, 30), (⟨"CircuitTwinModel", "areSame", "(IIII)Z"⟩, 30), (⟨"CircuitTwinModel", "difference", "(I)I"⟩, 30), (⟨"CircuitTwinModel", "lacksInput", "(III)Z"⟩, 30)]
theorem lw_r5 : ∀ q ∈ lw_privs_5, lw_okq q := List.forall_mem_cons.mpr ⟨lw_p64, List.forall_mem_cons.mpr ⟨lw_p65, List.forall_mem_cons.mpr ⟨lw_p66, List.forall_mem_cons.mpr ⟨lw_p67, List.forall_mem_cons.mpr ⟨lw_p68, List.forall_mem_cons.mpr ⟨lw_p69, List.forall_mem_cons.mpr ⟨lw_p70, List.forall_mem_cons.mpr ⟨lw_p71, List.forall_mem_cons.mpr ⟨lw_p72, List.forall_mem_cons.mpr ⟨lw_p73, List.forall_mem_cons.mpr ⟨lw_p74, List.forall_mem_cons.mpr ⟨lw_p75, List.forall_mem_cons.mpr ⟨lw_p76, List.forall_mem_cons.mpr ⟨lw_p77, List.forall_mem_cons.mpr ⟨lw_p78, List.forall_mem_cons.mpr ⟨lw_p79, fun _ h => absurd h List.not_mem_nil⟩⟩⟩⟩⟩⟩⟩⟩⟩⟩⟩⟩⟩⟩⟩⟩
theorem lw_p80 : lw_okq (⟨"CircuitTwinModel", "leaderOf", "(II)I"⟩, 30) := ⟨⟨by decide +kernel, by decide +kernel⟩, List.mem_of_getElem? (i := 840) (by decide +kernel), List.mem_of_getElem? (i := 1125) (by decide +kernel), List.mem_of_getElem? (i := 1126) (by decide +kernel)⟩
theorem lw_p81 : lw_okq (⟨"CircuitTwinModel", "isRow", "(II)Z"⟩, 30) := ⟨⟨by decide +kernel, by decide +kernel⟩, List.mem_of_getElem? (i := 840) (by decide +kernel), List.mem_of_getElem? (i := 1129) (by decide +kernel), List.mem_of_getElem? (i := 1130) (by decide +kernel)⟩
theorem lw_p82 : lw_okq (⟨"CircuitTwinModel", "variableOf", "(II)I"⟩, 30) := ⟨⟨by decide +kernel, by decide +kernel⟩, List.mem_of_getElem? (i := 840) (by decide +kernel), List.mem_of_getElem? (i := 1133) (by decide +kernel), List.mem_of_getElem? (i := 1134) (by decide +kernel)⟩
theorem lw_p83 : lw_okq (⟨"CircuitTwinModel", "different", "(II)I"⟩, 30) := ⟨⟨by decide +kernel, by decide +kernel⟩, List.mem_of_getElem? (i := 840) (by decide +kernel), List.mem_of_getElem? (i := 1141) (by decide +kernel), List.mem_of_getElem? (i := 1142) (by decide +kernel)⟩
theorem lw_p84 : lw_okq (⟨"CircuitTwinModel", "isOld", "(III)Z"⟩, 30) := ⟨⟨by decide +kernel, by decide +kernel⟩, List.mem_of_getElem? (i := 840) (by decide +kernel), List.mem_of_getElem? (i := 1145) (by decide +kernel), List.mem_of_getElem? (i := 1146) (by decide +kernel)⟩
theorem lw_p85 : lw_okq (⟨"CircuitTwinModel", "choose", "(IZ)I"⟩, 30) := ⟨⟨by decide +kernel, by decide +kernel⟩, List.mem_of_getElem? (i := 840) (by decide +kernel), List.mem_of_getElem? (i := 1157) (by decide +kernel), List.mem_of_getElem? (i := 1158) (by decide +kernel)⟩
theorem lw_p86 : lw_okq (⟨"CircuitTwinModel", "turned", "(II)I"⟩, 30) := ⟨⟨by decide +kernel, by decide +kernel⟩, List.mem_of_getElem? (i := 840) (by decide +kernel), List.mem_of_getElem? (i := 1161) (by decide +kernel), List.mem_of_getElem? (i := 1162) (by decide +kernel)⟩
theorem lw_p87 : lw_okq (⟨"CircuitTwinModel", "put", "(I)V"⟩, 30) := ⟨⟨by decide +kernel, by decide +kernel⟩, List.mem_of_getElem? (i := 840) (by decide +kernel), List.mem_of_getElem? (i := 1165) (by decide +kernel), List.mem_of_getElem? (i := 1166) (by decide +kernel)⟩
theorem lw_p88 : lw_okq (⟨"CircuitTwinModel", "putNumber", "(II)V"⟩, 30) := ⟨⟨by decide +kernel, by decide +kernel⟩, List.mem_of_getElem? (i := 840) (by decide +kernel), List.mem_of_getElem? (i := 1169) (by decide +kernel), List.mem_of_getElem? (i := 1170) (by decide +kernel)⟩
theorem lw_p89 : lw_okq (⟨"CircuitTwinModel", "nextGate", "(I)I"⟩, 30) := ⟨⟨by decide +kernel, by decide +kernel⟩, List.mem_of_getElem? (i := 840) (by decide +kernel), List.mem_of_getElem? (i := 1173) (by decide +kernel), List.mem_of_getElem? (i := 1174) (by decide +kernel)⟩
theorem lw_p90 : lw_okq (⟨"CircuitTwinModel", "written", "(II)I"⟩, 30) := ⟨⟨by decide +kernel, by decide +kernel⟩, List.mem_of_getElem? (i := 840) (by decide +kernel), List.mem_of_getElem? (i := 1177) (by decide +kernel), List.mem_of_getElem? (i := 1178) (by decide +kernel)⟩
theorem lw_p91 : lw_okq (⟨"CircuitTwinModel", "writeGate", "(IIZ)V"⟩, 30) := ⟨⟨by decide +kernel, by decide +kernel⟩, List.mem_of_getElem? (i := 840) (by decide +kernel), List.mem_of_getElem? (i := 1181) (by decide +kernel), List.mem_of_getElem? (i := 1182) (by decide +kernel)⟩
theorem lw_p92 : lw_okq (⟨"CircuitTwinModel", "putStep", "(I)V"⟩, 30) := ⟨⟨by decide +kernel, by decide +kernel⟩, List.mem_of_getElem? (i := 840) (by decide +kernel), List.mem_of_getElem? (i := 1185) (by decide +kernel), List.mem_of_getElem? (i := 1186) (by decide +kernel)⟩
def lw_privs_6 : List (MethodName × Nat) := [(⟨"CircuitTwinModel", "leaderOf", "(II)I"⟩, 30), (⟨"CircuitTwinModel", "isRow", "(II)Z"⟩, 30), (⟨"CircuitTwinModel", "variableOf", "(II)I"⟩, 30), (⟨"CircuitTwinModel", "different", "(II)I"⟩, 30), (⟨"CircuitTwinModel", "isOld", "(III)Z"⟩, 30), (⟨"CircuitTwinModel", "choose", "(IZ)I"⟩, 30), (⟨"CircuitTwinModel", "turned", "(II)I"⟩, 30), (⟨"CircuitTwinModel", "put", "(I)V"⟩, 30), (⟨"CircuitTwinModel", "putNumber", "(II)V"⟩, 30), (⟨"CircuitTwinModel", "nextGate", "(I)I"⟩, 30), (⟨"CircuitTwinModel", "written", "(II)I"⟩, 30), (⟨"CircuitTwinModel", "writeGate", "(IIZ)V"⟩, 30), (⟨"CircuitTwinModel", "putStep", "(I)V"⟩, 30)]
theorem lw_r6 : ∀ q ∈ lw_privs_6, lw_okq q := List.forall_mem_cons.mpr ⟨lw_p80, List.forall_mem_cons.mpr ⟨lw_p81, List.forall_mem_cons.mpr ⟨lw_p82, List.forall_mem_cons.mpr ⟨lw_p83, List.forall_mem_cons.mpr ⟨lw_p84, List.forall_mem_cons.mpr ⟨lw_p85, List.forall_mem_cons.mpr ⟨lw_p86, List.forall_mem_cons.mpr ⟨lw_p87, List.forall_mem_cons.mpr ⟨lw_p88, List.forall_mem_cons.mpr ⟨lw_p89, List.forall_mem_cons.mpr ⟨lw_p90, List.forall_mem_cons.mpr ⟨lw_p91, List.forall_mem_cons.mpr ⟨lw_p92, fun _ h => absurd h List.not_mem_nil⟩⟩⟩⟩⟩⟩⟩⟩⟩⟩⟩⟩⟩
def lw_privs : List (MethodName × Nat) := lw_privs_1 ++ (lw_privs_2 ++ (lw_privs_3 ++ (lw_privs_4 ++ (lw_privs_5 ++ (lw_privs_6)))))
def lw_tbl : List Cond := k2_sels lw_privs ++ tables_1
theorem lw_privs_ok : ∀ q ∈ lw_privs, lw_okq q := by
  show ∀ q ∈ lw_privs_1 ++ (lw_privs_2 ++ (lw_privs_3 ++ (lw_privs_4 ++ (lw_privs_5 ++ (lw_privs_6))))), lw_okq q
  exact List.forall_mem_append.mpr ⟨lw_r1, List.forall_mem_append.mpr ⟨lw_r2, List.forall_mem_append.mpr ⟨lw_r3, List.forall_mem_append.mpr ⟨lw_r4, List.forall_mem_append.mpr ⟨lw_r5, lw_r6⟩⟩⟩⟩⟩
end
section
def mj_gd (w : Cond) : Bool := (w.onTables && w.keeps) || (match w with
  | .arrayClass _ => true
  | _ => false)
def mj_wd : List Cond := lw_tbl.filter mj_gd
theorem mj_wd_good : ∀ w ∈ mj_wd, (w.onTables && w.keeps) = true ∨ ∃ ty, w = .arrayClass ty := by
  intro w hw
  have h := (List.mem_filter.mp hw).2
  unfold mj_gd at h
  rcases Bool.or_eq_true _ _ |>.mp h with h | h
  · exact Or.inl h
  · split at h
    · exact Or.inr ⟨_, rfl⟩
    · cases h
theorem mj_wi {w : Cond} (i : Nat) (h : lw_tbl[i]? = some w) (hg : mj_gd w = true) : w ∈ mj_wd := List.mem_filter.mpr ⟨List.mem_of_getElem? h, hg⟩
theorem v_0 : Cond.selects "CircuitTwin$Circuit" ⟨"CircuitTwin$Circuit", "enter", "(I)V"⟩ ⟨"CircuitTwin$Circuit", "enter", "(I)V"⟩ ∈ mj_wd := mj_wi 0 (by decide +kernel) (by decide +kernel)
theorem v_1 : Cond.selects "CircuitTwin$Circuit" ⟨"CircuitTwin$Circuit", "hashOf", "(I)J"⟩ ⟨"CircuitTwin$Circuit", "hashOf", "(I)J"⟩ ∈ mj_wd := mj_wi 1 (by decide +kernel) (by decide +kernel)
theorem v_2 : Cond.selects "CircuitTwin$Circuit" ⟨"CircuitTwin$Circuit", "startBit", "(I)I"⟩ ⟨"CircuitTwin$Circuit", "startBit", "(I)I"⟩ ∈ mj_wd := mj_wi 2 (by decide +kernel) (by decide +kernel)
theorem v_3 : Cond.selects "CircuitTwin$Circuit" ⟨"CircuitTwin$Circuit", "bucketFor", "(LCircuitTwin$Circuit;I)I"⟩ ⟨"CircuitTwin$Circuit", "bucketFor", "(LCircuitTwin$Circuit;I)I"⟩ ∈ mj_wd := mj_wi 3 (by decide +kernel) (by decide +kernel)
theorem v_4 : Cond.selects "CircuitTwin$Circuit" ⟨"CircuitTwin$Circuit", "fillInput", "(I)V"⟩ ⟨"CircuitTwin$Circuit", "fillInput", "(I)V"⟩ ∈ mj_wd := mj_wi 4 (by decide +kernel) (by decide +kernel)
theorem v_5 : Cond.selects "CircuitTwin$Circuit" ⟨"CircuitTwin$Circuit", "fillGate", "(I)V"⟩ ⟨"CircuitTwin$Circuit", "fillGate", "(I)V"⟩ ∈ mj_wd := mj_wi 5 (by decide +kernel) (by decide +kernel)
theorem v_6 : Cond.selects "CircuitTwin$Circuit" ⟨"CircuitTwin$Circuit", "rowOf", "(I)I"⟩ ⟨"CircuitTwin$Circuit", "rowOf", "(I)I"⟩ ∈ mj_wd := mj_wi 6 (by decide +kernel) (by decide +kernel)
theorem v_7 : Cond.selects "CircuitTwin$Circuit" ⟨"CircuitTwin$Circuit", "flipOf", "(I)J"⟩ ⟨"CircuitTwin$Circuit", "flipOf", "(I)J"⟩ ∈ mj_wd := mj_wi 7 (by decide +kernel) (by decide +kernel)
theorem v_8 : Cond.selects "java/lang/Throwable" ⟨"java/lang/Throwable", "fillInStackTrace", "(I)Ljava/lang/Throwable;"⟩ ⟨"java/lang/Throwable", "fillInStackTrace", "(I)Ljava/lang/Throwable;"⟩ ∈ mj_wd := mj_wi 8 (by decide +kernel) (by decide +kernel)
theorem v_9 : Cond.selects "CircuitTwin" ⟨"CircuitTwin", "named", "(I)LCircuitTwin$Circuit;"⟩ ⟨"CircuitTwin", "named", "(I)LCircuitTwin$Circuit;"⟩ ∈ mj_wd := mj_wi 9 (by decide +kernel) (by decide +kernel)
theorem v_10 : Cond.selects "CircuitTwin$Reader" ⟨"CircuitTwin$Reader", "takeKind", "()Z"⟩ ⟨"CircuitTwin$Reader", "takeKind", "()Z"⟩ ∈ mj_wd := mj_wi 10 (by decide +kernel) (by decide +kernel)
theorem v_11 : Cond.selects "CircuitTwin$Reader" ⟨"CircuitTwin$Reader", "byteAt", "(I)I"⟩ ⟨"CircuitTwin$Reader", "byteAt", "(I)I"⟩ ∈ mj_wd := mj_wi 11 (by decide +kernel) (by decide +kernel)
theorem v_12 : Cond.selects "CircuitTwin$Reader" ⟨"CircuitTwin$Reader", "fail", "(II)Z"⟩ ⟨"CircuitTwin$Reader", "fail", "(II)Z"⟩ ∈ mj_wd := mj_wi 12 (by decide +kernel) (by decide +kernel)
theorem v_13 : Cond.selects "CircuitTwin$Reader" ⟨"CircuitTwin$Reader", "takeSizes", "()Z"⟩ ⟨"CircuitTwin$Reader", "takeSizes", "()Z"⟩ ∈ mj_wd := mj_wi 13 (by decide +kernel) (by decide +kernel)
theorem v_14 : Cond.selects "CircuitTwin$Reader" ⟨"CircuitTwin$Reader", "takeLine", "(II)Z"⟩ ⟨"CircuitTwin$Reader", "takeLine", "(II)Z"⟩ ∈ mj_wd := mj_wi 14 (by decide +kernel) (by decide +kernel)
theorem v_15 : Cond.selects "CircuitTwin$Reader" ⟨"CircuitTwin$Reader", "takeNumber", "(III)Z"⟩ ⟨"CircuitTwin$Reader", "takeNumber", "(III)Z"⟩ ∈ mj_wd := mj_wi 15 (by decide +kernel) (by decide +kernel)
theorem v_16 : Cond.selects "CircuitTwin$Reader" ⟨"CircuitTwin$Reader", "takeInputs", "()Z"⟩ ⟨"CircuitTwin$Reader", "takeInputs", "()Z"⟩ ∈ mj_wd := mj_wi 16 (by decide +kernel) (by decide +kernel)
theorem v_17 : Cond.selects "CircuitTwin$Reader" ⟨"CircuitTwin$Reader", "takeOwn", "(I)Z"⟩ ⟨"CircuitTwin$Reader", "takeOwn", "(I)Z"⟩ ∈ mj_wd := mj_wi 17 (by decide +kernel) (by decide +kernel)
theorem v_18 : Cond.selects "CircuitTwin$Reader" ⟨"CircuitTwin$Reader", "takeOutputs", "()Z"⟩ ⟨"CircuitTwin$Reader", "takeOutputs", "()Z"⟩ ∈ mj_wd := mj_wi 18 (by decide +kernel) (by decide +kernel)
theorem v_19 : Cond.selects "CircuitTwin$Reader" ⟨"CircuitTwin$Reader", "takeUsed", "(I)Z"⟩ ⟨"CircuitTwin$Reader", "takeUsed", "(I)Z"⟩ ∈ mj_wd := mj_wi 19 (by decide +kernel) (by decide +kernel)
theorem v_20 : Cond.selects "CircuitTwin$Reader" ⟨"CircuitTwin$Reader", "takeGates", "()Z"⟩ ⟨"CircuitTwin$Reader", "takeGates", "()Z"⟩ ∈ mj_wd := mj_wi 20 (by decide +kernel) (by decide +kernel)
theorem v_21 : Cond.selects "CircuitTwin$Reader" ⟨"CircuitTwin$Reader", "takeStepGate", "(I)Z"⟩ ⟨"CircuitTwin$Reader", "takeStepGate", "(I)Z"⟩ ∈ mj_wd := mj_wi 21 (by decide +kernel) (by decide +kernel)
theorem v_22 : Cond.selects "CircuitTwin$Reader" ⟨"CircuitTwin$Reader", "takeStep", "()I"⟩ ⟨"CircuitTwin$Reader", "takeStep", "()I"⟩ ∈ mj_wd := mj_wi 22 (by decide +kernel) (by decide +kernel)
theorem v_23 : Cond.selects "CircuitTwin$Reader" ⟨"CircuitTwin$Reader", "takeLineGate", "(I)Z"⟩ ⟨"CircuitTwin$Reader", "takeLineGate", "(I)Z"⟩ ∈ mj_wd := mj_wi 23 (by decide +kernel) (by decide +kernel)
theorem v_24 : Cond.selects "CircuitTwin$Reader" ⟨"CircuitTwin$Reader", "takeEnd", "()Z"⟩ ⟨"CircuitTwin$Reader", "takeEnd", "()Z"⟩ ∈ mj_wd := mj_wi 24 (by decide +kernel) (by decide +kernel)
theorem v_25 : Cond.selects "CircuitTwin$Reader" ⟨"CircuitTwin$Reader", "checkWhole", "()V"⟩ ⟨"CircuitTwin$Reader", "checkWhole", "()V"⟩ ∈ mj_wd := mj_wi 25 (by decide +kernel) (by decide +kernel)
theorem v_26 : Cond.selects "CircuitTwin$Net" ⟨"CircuitTwin$Net", "missingVariable", "(I)I"⟩ ⟨"CircuitTwin$Net", "missingVariable", "(I)I"⟩ ∈ mj_wd := mj_wi 26 (by decide +kernel) (by decide +kernel)
theorem v_27 : Cond.selects "CircuitTwin$Net" ⟨"CircuitTwin$Net", "waitForAll", "()V"⟩ ⟨"CircuitTwin$Net", "waitForAll", "()V"⟩ ∈ mj_wd := mj_wi 27 (by decide +kernel) (by decide +kernel)
theorem v_28 : Cond.selects "CircuitTwin$LoopFinder" ⟨"CircuitTwin$LoopFinder", "comesBack", "(LCircuitTwin$Net;I)Z"⟩ ⟨"CircuitTwin$LoopFinder", "comesBack", "(LCircuitTwin$Net;I)Z"⟩ ∈ mj_wd := mj_wi 28 (by decide +kernel) (by decide +kernel)
theorem v_29 : Cond.selects "CircuitTwin$LoopFinder" ⟨"CircuitTwin$LoopFinder", "reachFanins", "(LCircuitTwin$Net;II)V"⟩ ⟨"CircuitTwin$LoopFinder", "reachFanins", "(LCircuitTwin$Net;II)V"⟩ ∈ mj_wd := mj_wi 29 (by decide +kernel) (by decide +kernel)
theorem v_30 : Cond.selects "CircuitTwin$LoopFinder" ⟨"CircuitTwin$LoopFinder", "reach", "(LCircuitTwin$Net;II)V"⟩ ⟨"CircuitTwin$LoopFinder", "reach", "(LCircuitTwin$Net;II)V"⟩ ∈ mj_wd := mj_wi 30 (by decide +kernel) (by decide +kernel)
theorem v_31 : Cond.selects "CircuitTwin" ⟨"CircuitTwin", "requireMatch", "()V"⟩ ⟨"CircuitTwin", "requireMatch", "()V"⟩ ∈ mj_wd := mj_wi 31 (by decide +kernel) (by decide +kernel)
theorem v_32 : Cond.selects "CircuitTwin" ⟨"CircuitTwin", "leastDifference", "(I)I"⟩ ⟨"CircuitTwin", "leastDifference", "(I)I"⟩ ∈ mj_wd := mj_wi 32 (by decide +kernel) (by decide +kernel)
theorem v_33 : Cond.selects "CircuitTwin$Circuit" ⟨"CircuitTwin$Circuit", "halfWithout", "(III)J"⟩ ⟨"CircuitTwin$Circuit", "halfWithout", "(III)J"⟩ ∈ mj_wd := mj_wi 33 (by decide +kernel) (by decide +kernel)
theorem v_34 : Cond.selects "CircuitTwin$Circuit" ⟨"CircuitTwin$Circuit", "halfWith", "(III)J"⟩ ⟨"CircuitTwin$Circuit", "halfWith", "(III)J"⟩ ∈ mj_wd := mj_wi 34 (by decide +kernel) (by decide +kernel)
theorem v_35 : Cond.selects "CircuitTwin$Writer" ⟨"CircuitTwin$Writer", "measure", "(LCircuitTwin$Circuit;)V"⟩ ⟨"CircuitTwin$Writer", "measure", "(LCircuitTwin$Circuit;)V"⟩ ∈ mj_wd := mj_wi 35 (by decide +kernel) (by decide +kernel)
theorem v_36 : Cond.selects "CircuitTwin$Writer" ⟨"CircuitTwin$Writer", "finalSlot", "(LCircuitTwin$Circuit;I)I"⟩ ⟨"CircuitTwin$Writer", "finalSlot", "(LCircuitTwin$Circuit;I)I"⟩ ∈ mj_wd := mj_wi 36 (by decide +kernel) (by decide +kernel)
theorem v_37 : Cond.selects "CircuitTwin$Writer" ⟨"CircuitTwin$Writer", "finalLiteral", "(LCircuitTwin$Circuit;I)I"⟩ ⟨"CircuitTwin$Writer", "finalLiteral", "(LCircuitTwin$Circuit;I)I"⟩ ∈ mj_wd := mj_wi 37 (by decide +kernel) (by decide +kernel)
theorem v_38 : Cond.selects "CircuitTwin$Writer" ⟨"CircuitTwin$Writer", "markNeeded", "(LCircuitTwin$Circuit;)V"⟩ ⟨"CircuitTwin$Writer", "markNeeded", "(LCircuitTwin$Circuit;)V"⟩ ∈ mj_wd := mj_wi 38 (by decide +kernel) (by decide +kernel)
theorem v_39 : Cond.selects "CircuitTwin$Writer" ⟨"CircuitTwin$Writer", "numberGates", "(LCircuitTwin$Net;)V"⟩ ⟨"CircuitTwin$Writer", "numberGates", "(LCircuitTwin$Net;)V"⟩ ∈ mj_wd := mj_wi 39 (by decide +kernel) (by decide +kernel)
theorem v_40 : Cond.selects "CircuitTwin$Writer" ⟨"CircuitTwin$Writer", "countDepths", "(LCircuitTwin$Net;)V"⟩ ⟨"CircuitTwin$Writer", "countDepths", "(LCircuitTwin$Net;)V"⟩ ∈ mj_wd := mj_wi 40 (by decide +kernel) (by decide +kernel)
theorem v_41 : Cond.selects "CircuitTwin$Writer" ⟨"CircuitTwin$Writer", "putFirstLine", "(LCircuitTwin$Net;Z)V"⟩ ⟨"CircuitTwin$Writer", "putFirstLine", "(LCircuitTwin$Net;Z)V"⟩ ∈ mj_wd := mj_wi 41 (by decide +kernel) (by decide +kernel)
theorem v_42 : Cond.selects "CircuitTwin$Writer" ⟨"CircuitTwin$Writer", "putByte", "(I)V"⟩ ⟨"CircuitTwin$Writer", "putByte", "(I)V"⟩ ∈ mj_wd := mj_wi 42 (by decide +kernel) (by decide +kernel)
theorem v_43 : Cond.selects "CircuitTwin$Writer" ⟨"CircuitTwin$Writer", "putNumber", "(II)V"⟩ ⟨"CircuitTwin$Writer", "putNumber", "(II)V"⟩ ∈ mj_wd := mj_wi 43 (by decide +kernel) (by decide +kernel)
theorem v_44 : Cond.selects "CircuitTwin$Writer" ⟨"CircuitTwin$Writer", "putInputs", "(LCircuitTwin$Net;)V"⟩ ⟨"CircuitTwin$Writer", "putInputs", "(LCircuitTwin$Net;)V"⟩ ∈ mj_wd := mj_wi 44 (by decide +kernel) (by decide +kernel)
theorem v_45 : Cond.selects "CircuitTwin$Writer" ⟨"CircuitTwin$Writer", "putOutputs", "(LCircuitTwin$Circuit;)V"⟩ ⟨"CircuitTwin$Writer", "putOutputs", "(LCircuitTwin$Circuit;)V"⟩ ∈ mj_wd := mj_wi 45 (by decide +kernel) (by decide +kernel)
theorem v_46 : Cond.selects "CircuitTwin$Writer" ⟨"CircuitTwin$Writer", "newLiteral", "(LCircuitTwin$Circuit;I)I"⟩ ⟨"CircuitTwin$Writer", "newLiteral", "(LCircuitTwin$Circuit;I)I"⟩ ∈ mj_wd := mj_wi 46 (by decide +kernel) (by decide +kernel)
theorem v_47 : Cond.selects "CircuitTwin$Writer" ⟨"CircuitTwin$Writer", "putGate", "(LCircuitTwin$Circuit;IZ)V"⟩ ⟨"CircuitTwin$Writer", "putGate", "(LCircuitTwin$Circuit;IZ)V"⟩ ∈ mj_wd := mj_wi 47 (by decide +kernel) (by decide +kernel)
theorem v_48 : Cond.selects "CircuitTwin$Writer" ⟨"CircuitTwin$Writer", "putStep", "(I)V"⟩ ⟨"CircuitTwin$Writer", "putStep", "(I)V"⟩ ∈ mj_wd := mj_wi 48 (by decide +kernel) (by decide +kernel)
theorem v_49 : Cond.selects "CircuitTwinModel" ⟨"CircuitTwinModel", "throwing", "(ZZ)Z"⟩ ⟨"CircuitTwinModel", "throwing", "(ZZ)Z"⟩ ∈ mj_wd := mj_wi 49 (by decide +kernel) (by decide +kernel)
theorem v_50 : Cond.selects "CircuitTwinModel" ⟨"CircuitTwinModel", "readText", "()V"⟩ ⟨"CircuitTwinModel", "readText", "()V"⟩ ∈ mj_wd := mj_wi 50 (by decide +kernel) (by decide +kernel)
theorem v_51 : Cond.selects "CircuitTwinModel" ⟨"CircuitTwinModel", "fail", "(II)V"⟩ ⟨"CircuitTwinModel", "fail", "(II)V"⟩ ∈ mj_wd := mj_wi 51 (by decide +kernel) (by decide +kernel)
theorem v_52 : Cond.selects "CircuitTwinModel" ⟨"CircuitTwinModel", "empty", "()V"⟩ ⟨"CircuitTwinModel", "empty", "()V"⟩ ∈ mj_wd := mj_wi 52 (by decide +kernel) (by decide +kernel)
theorem v_53 : Cond.selects "CircuitTwinModel" ⟨"CircuitTwinModel", "header", "(Z)V"⟩ ⟨"CircuitTwinModel", "header", "(Z)V"⟩ ∈ mj_wd := mj_wi 53 (by decide +kernel) (by decide +kernel)
theorem v_54 : Cond.selects "CircuitTwinModel" ⟨"CircuitTwinModel", "line", "(II)V"⟩ ⟨"CircuitTwinModel", "line", "(II)V"⟩ ∈ mj_wd := mj_wi 54 (by decide +kernel) (by decide +kernel)
theorem v_55 : Cond.selects "CircuitTwinModel" ⟨"CircuitTwinModel", "here", "()I"⟩ ⟨"CircuitTwinModel", "here", "()I"⟩ ∈ mj_wd := mj_wi 55 (by decide +kernel) (by decide +kernel)
theorem v_56 : Cond.selects "CircuitTwinModel" ⟨"CircuitTwinModel", "readInputs", "(Z)V"⟩ ⟨"CircuitTwinModel", "readInputs", "(Z)V"⟩ ∈ mj_wd := mj_wi 56 (by decide +kernel) (by decide +kernel)
theorem v_57 : Cond.selects "CircuitTwinModel" ⟨"CircuitTwinModel", "stands", "(II)Z"⟩ ⟨"CircuitTwinModel", "stands", "(II)Z"⟩ ∈ mj_wd := mj_wi 57 (by decide +kernel) (by decide +kernel)
theorem v_58 : Cond.selects "CircuitTwinModel" ⟨"CircuitTwinModel", "readOutputs", "()V"⟩ ⟨"CircuitTwinModel", "readOutputs", "()V"⟩ ∈ mj_wd := mj_wi 58 (by decide +kernel) (by decide +kernel)
theorem v_59 : Cond.selects "CircuitTwinModel" ⟨"CircuitTwinModel", "readSteps", "()V"⟩ ⟨"CircuitTwinModel", "readSteps", "()V"⟩ ∈ mj_wd := mj_wi 59 (by decide +kernel) (by decide +kernel)
theorem v_60 : Cond.selects "CircuitTwinModel" ⟨"CircuitTwinModel", "step", "()I"⟩ ⟨"CircuitTwinModel", "step", "()I"⟩ ∈ mj_wd := mj_wi 60 (by decide +kernel) (by decide +kernel)
theorem v_61 : Cond.selects "CircuitTwinModel" ⟨"CircuitTwinModel", "readGates", "()V"⟩ ⟨"CircuitTwinModel", "readGates", "()V"⟩ ∈ mj_wd := mj_wi 61 (by decide +kernel) (by decide +kernel)
theorem v_62 : Cond.selects "CircuitTwinModel" ⟨"CircuitTwinModel", "connect", "()V"⟩ ⟨"CircuitTwinModel", "connect", "()V"⟩ ∈ mj_wd := mj_wi 62 (by decide +kernel) (by decide +kernel)
theorem v_63 : Cond.selects "CircuitTwinModel" ⟨"CircuitTwinModel", "lesser", "(II)I"⟩ ⟨"CircuitTwinModel", "lesser", "(II)I"⟩ ∈ mj_wd := mj_wi 63 (by decide +kernel) (by decide +kernel)
theorem v_64 : Cond.selects "CircuitTwinModel" ⟨"CircuitTwinModel", "lacks", "(I)Z"⟩ ⟨"CircuitTwinModel", "lacks", "(I)Z"⟩ ∈ mj_wd := mj_wi 64 (by decide +kernel) (by decide +kernel)
theorem v_65 : Cond.selects "CircuitTwinModel" ⟨"CircuitTwinModel", "arrange", "()I"⟩ ⟨"CircuitTwinModel", "arrange", "()I"⟩ ∈ mj_wd := mj_wi 65 (by decide +kernel) (by decide +kernel)
theorem v_66 : Cond.selects "CircuitTwinModel" ⟨"CircuitTwinModel", "rowAt", "(II)I"⟩ ⟨"CircuitTwinModel", "rowAt", "(II)I"⟩ ∈ mj_wd := mj_wi 66 (by decide +kernel) (by decide +kernel)
theorem v_67 : Cond.selects "CircuitTwinModel" ⟨"CircuitTwinModel", "comesBack", "(I)Z"⟩ ⟨"CircuitTwinModel", "comesBack", "(I)Z"⟩ ∈ mj_wd := mj_wi 67 (by decide +kernel) (by decide +kernel)
theorem v_68 : Cond.selects "CircuitTwinModel" ⟨"CircuitTwinModel", "take", "(I)V"⟩ ⟨"CircuitTwinModel", "take", "(I)V"⟩ ∈ mj_wd := mj_wi 68 (by decide +kernel) (by decide +kernel)
theorem v_69 : Cond.selects "CircuitTwinModel" ⟨"CircuitTwinModel", "fillTables", "(I)V"⟩ ⟨"CircuitTwinModel", "fillTables", "(I)V"⟩ ∈ mj_wd := mj_wi 69 (by decide +kernel) (by decide +kernel)
theorem v_70 : Cond.selects "CircuitTwinModel" ⟨"CircuitTwinModel", "words", "(I)I"⟩ ⟨"CircuitTwinModel", "words", "(I)I"⟩ ∈ mj_wd := mj_wi 70 (by decide +kernel) (by decide +kernel)
theorem v_71 : Cond.selects "CircuitTwinModel" ⟨"CircuitTwinModel", "mask", "(I)J"⟩ ⟨"CircuitTwinModel", "mask", "(I)J"⟩ ∈ mj_wd := mj_wi 71 (by decide +kernel) (by decide +kernel)
theorem v_72 : Cond.selects "CircuitTwinModel" ⟨"CircuitTwinModel", "word", "(III)J"⟩ ⟨"CircuitTwinModel", "word", "(III)J"⟩ ∈ mj_wd := mj_wi 72 (by decide +kernel) (by decide +kernel)
theorem v_73 : Cond.selects "CircuitTwinModel" ⟨"CircuitTwinModel", "isLiteral", "(II)Z"⟩ ⟨"CircuitTwinModel", "isLiteral", "(II)Z"⟩ ∈ mj_wd := mj_wi 73 (by decide +kernel) (by decide +kernel)
theorem v_74 : Cond.selects "CircuitTwinModel" ⟨"CircuitTwinModel", "isVector", "(II)Z"⟩ ⟨"CircuitTwinModel", "isVector", "(II)Z"⟩ ∈ mj_wd := mj_wi 74 (by decide +kernel) (by decide +kernel)
theorem v_75 : Cond.selects "CircuitTwinModel" ⟨"CircuitTwinModel", "bit", "(III)I"⟩ ⟨"CircuitTwinModel", "bit", "(III)I"⟩ ∈ mj_wd := mj_wi 75 (by decide +kernel) (by decide +kernel)
theorem v_76 : Cond.selects "CircuitTwinModel" ⟨"CircuitTwinModel", "match", "()Z"⟩ ⟨"CircuitTwinModel", "match", "()Z"⟩ ∈ mj_wd := mj_wi 76 (by decide +kernel) (by decide +kernel)
theorem v_77 : Cond.selects "CircuitTwinModel" ⟨"CircuitTwinModel", "areSame", "(IIII)Z"⟩ ⟨"CircuitTwinModel", "areSame", "(IIII)Z"⟩ ∈ mj_wd := mj_wi 77 (by decide +kernel) (by decide +kernel)
theorem v_78 : Cond.selects "CircuitTwinModel" ⟨"CircuitTwinModel", "difference", "(I)I"⟩ ⟨"CircuitTwinModel", "difference", "(I)I"⟩ ∈ mj_wd := mj_wi 78 (by decide +kernel) (by decide +kernel)
theorem v_79 : Cond.selects "CircuitTwinModel" ⟨"CircuitTwinModel", "lacksInput", "(III)Z"⟩ ⟨"CircuitTwinModel", "lacksInput", "(III)Z"⟩ ∈ mj_wd := mj_wi 79 (by decide +kernel) (by decide +kernel)
theorem v_80 : Cond.selects "CircuitTwinModel" ⟨"CircuitTwinModel", "leaderOf", "(II)I"⟩ ⟨"CircuitTwinModel", "leaderOf", "(II)I"⟩ ∈ mj_wd := mj_wi 80 (by decide +kernel) (by decide +kernel)
theorem v_81 : Cond.selects "CircuitTwinModel" ⟨"CircuitTwinModel", "isRow", "(II)Z"⟩ ⟨"CircuitTwinModel", "isRow", "(II)Z"⟩ ∈ mj_wd := mj_wi 81 (by decide +kernel) (by decide +kernel)
theorem v_82 : Cond.selects "CircuitTwinModel" ⟨"CircuitTwinModel", "variableOf", "(II)I"⟩ ⟨"CircuitTwinModel", "variableOf", "(II)I"⟩ ∈ mj_wd := mj_wi 82 (by decide +kernel) (by decide +kernel)
theorem v_83 : Cond.selects "CircuitTwinModel" ⟨"CircuitTwinModel", "different", "(II)I"⟩ ⟨"CircuitTwinModel", "different", "(II)I"⟩ ∈ mj_wd := mj_wi 83 (by decide +kernel) (by decide +kernel)
theorem v_84 : Cond.selects "CircuitTwinModel" ⟨"CircuitTwinModel", "isOld", "(III)Z"⟩ ⟨"CircuitTwinModel", "isOld", "(III)Z"⟩ ∈ mj_wd := mj_wi 84 (by decide +kernel) (by decide +kernel)
theorem v_85 : Cond.selects "CircuitTwinModel" ⟨"CircuitTwinModel", "choose", "(IZ)I"⟩ ⟨"CircuitTwinModel", "choose", "(IZ)I"⟩ ∈ mj_wd := mj_wi 85 (by decide +kernel) (by decide +kernel)
theorem v_86 : Cond.selects "CircuitTwinModel" ⟨"CircuitTwinModel", "turned", "(II)I"⟩ ⟨"CircuitTwinModel", "turned", "(II)I"⟩ ∈ mj_wd := mj_wi 86 (by decide +kernel) (by decide +kernel)
theorem v_87 : Cond.selects "CircuitTwinModel" ⟨"CircuitTwinModel", "put", "(I)V"⟩ ⟨"CircuitTwinModel", "put", "(I)V"⟩ ∈ mj_wd := mj_wi 87 (by decide +kernel) (by decide +kernel)
theorem v_88 : Cond.selects "CircuitTwinModel" ⟨"CircuitTwinModel", "putNumber", "(II)V"⟩ ⟨"CircuitTwinModel", "putNumber", "(II)V"⟩ ∈ mj_wd := mj_wi 88 (by decide +kernel) (by decide +kernel)
theorem v_89 : Cond.selects "CircuitTwinModel" ⟨"CircuitTwinModel", "nextGate", "(I)I"⟩ ⟨"CircuitTwinModel", "nextGate", "(I)I"⟩ ∈ mj_wd := mj_wi 89 (by decide +kernel) (by decide +kernel)
theorem v_90 : Cond.selects "CircuitTwinModel" ⟨"CircuitTwinModel", "written", "(II)I"⟩ ⟨"CircuitTwinModel", "written", "(II)I"⟩ ∈ mj_wd := mj_wi 90 (by decide +kernel) (by decide +kernel)
theorem v_91 : Cond.selects "CircuitTwinModel" ⟨"CircuitTwinModel", "writeGate", "(IIZ)V"⟩ ⟨"CircuitTwinModel", "writeGate", "(IIZ)V"⟩ ∈ mj_wd := mj_wi 91 (by decide +kernel) (by decide +kernel)
theorem v_92 : Cond.selects "CircuitTwinModel" ⟨"CircuitTwinModel", "putStep", "(I)V"⟩ ⟨"CircuitTwinModel", "putStep", "(I)V"⟩ ∈ mj_wd := mj_wi 92 (by decide +kernel) (by decide +kernel)
theorem w_0 : Cond.initialized "CircuitTwinLaw" ∈ mj_wd := mj_wi 93 (by decide +kernel) (by decide +kernel)
theorem w_1 : Cond.initialized "CircuitTwin" ∈ mj_wd := mj_wi 94 (by decide +kernel) (by decide +kernel)
theorem w_2 : Cond.initialized "CircuitTwin$Circuit" ∈ mj_wd := mj_wi 95 (by decide +kernel) (by decide +kernel)
theorem w_3 : Cond.initialized "CircuitTwin$Net" ∈ mj_wd := mj_wi 96 (by decide +kernel) (by decide +kernel)
theorem w_4 : Cond.initialized "java/util/Arrays" ∈ mj_wd := mj_wi 97 (by decide +kernel) (by decide +kernel)
theorem w_5 : Cond.initialized "CircuitTwin$Reader" ∈ mj_wd := mj_wi 98 (by decide +kernel) (by decide +kernel)
theorem w_6 : Cond.initialized "CircuitTwin$LoopFinder" ∈ mj_wd := mj_wi 99 (by decide +kernel) (by decide +kernel)
theorem w_7 : Cond.initialized "CircuitTwin$Writer" ∈ mj_wd := mj_wi 100 (by decide +kernel) (by decide +kernel)
theorem w_8 : Cond.initialized "CircuitTwinModel" ∈ mj_wd := mj_wi 101 (by decide +kernel) (by decide +kernel)
theorem w_9 : Cond.initialized "java/lang/Throwable" ∈ mj_wd := mj_wi 102 (by decide +kernel) (by decide +kernel)
theorem w_10 : Cond.initialized "java/lang/Exception" ∈ mj_wd := mj_wi 103 (by decide +kernel) (by decide +kernel)
theorem w_11 : Cond.initialized "java/lang/RuntimeException" ∈ mj_wd := mj_wi 104 (by decide +kernel) (by decide +kernel)
theorem w_12 : Cond.initialized "java/lang/IllegalArgumentException" ∈ mj_wd := mj_wi 105 (by decide +kernel) (by decide +kernel)
theorem w_13 : Cond.initialized "java/lang/IllegalStateException" ∈ mj_wd := mj_wi 106 (by decide +kernel) (by decide +kernel)
theorem w_14 : Cond.initialized "java/lang/Math" ∈ mj_wd := mj_wi 107 (by decide +kernel) (by decide +kernel)
theorem w_15 : Cond.initialized "java/util/NoSuchElementException" ∈ mj_wd := mj_wi 108 (by decide +kernel) (by decide +kernel)
theorem w_16 : Cond.initialized "java/lang/Long" ∈ mj_wd := mj_wi 109 (by decide +kernel) (by decide +kernel)
theorem w_17 : Cond.initialized "java/lang/Integer" ∈ mj_wd := mj_wi 110 (by decide +kernel) (by decide +kernel)
theorem w_18 : Cond.classLink "CircuitTwinLaw" 8 "CircuitTwin" ∈ mj_wd := mj_wi 111 (by decide +kernel) (by decide +kernel)
theorem w_19 : Cond.instantiable "CircuitTwin" 4 ∈ mj_wd := mj_wi 112 (by decide +kernel) (by decide +kernel)
theorem w_20 : Cond.methodLink "CircuitTwinLaw" 77 ⟨"CircuitTwin", "<init>", "()V"⟩ ∈ mj_wd := mj_wi 113 (by decide +kernel) (by decide +kernel)
theorem w_21 : Cond.instanceMethod ⟨"CircuitTwin", "<init>", "()V"⟩ ∈ mj_wd := mj_wi 114 (by decide +kernel) (by decide +kernel)
theorem w_22 : Cond.code ⟨"CircuitTwin", "<init>", "()V"⟩ prog_1_method_1_code 1 (none : Option ClassFile.FieldType) ∈ mj_wd := mj_wi 115 (by decide +kernel) (by decide +kernel)
theorem w_23 : Cond.methodLink "CircuitTwin" 3 ⟨"java/lang/Object", "<init>", "()V"⟩ ∈ mj_wd := mj_wi 116 (by decide +kernel) (by decide +kernel)
theorem w_24 : Cond.instanceMethod ⟨"java/lang/Object", "<init>", "()V"⟩ ∈ mj_wd := mj_wi 117 (by decide +kernel) (by decide +kernel)
theorem w_25 : Cond.code ⟨"java/lang/Object", "<init>", "()V"⟩ object_method_1_code 1 (none : Option ClassFile.FieldType) ∈ mj_wd := mj_wi 118 (by decide +kernel) (by decide +kernel)
theorem w_26 : Cond.classLink "CircuitTwin" 9 "CircuitTwin$Circuit" ∈ mj_wd := mj_wi 119 (by decide +kernel) (by decide +kernel)
theorem w_27 : Cond.instantiable "CircuitTwin$Circuit" 10 ∈ mj_wd := mj_wi 120 (by decide +kernel) (by decide +kernel)
theorem w_29 : Cond.instanceMethod ⟨"CircuitTwin$Circuit", "<init>", "()V"⟩ ∈ mj_wd := mj_wi 122 (by decide +kernel) (by decide +kernel)
theorem w_30 : Cond.code ⟨"CircuitTwin$Circuit", "<init>", "()V"⟩ prog_2_method_1_code 1 (none : Option ClassFile.FieldType) ∈ mj_wd := mj_wi 123 (by decide +kernel) (by decide +kernel)
theorem w_31 : Cond.methodLink "CircuitTwin$Circuit" 5 ⟨"java/lang/Object", "<init>", "()V"⟩ ∈ mj_wd := mj_wi 124 (by decide +kernel) (by decide +kernel)
theorem w_32 : Cond.classLink "CircuitTwin$Circuit" 11 "CircuitTwin$Net" ∈ mj_wd := mj_wi 125 (by decide +kernel) (by decide +kernel)
theorem w_33 : Cond.instantiable "CircuitTwin$Net" 13 ∈ mj_wd := mj_wi 126 (by decide +kernel) (by decide +kernel)
theorem w_34 : Cond.methodLink "CircuitTwin$Circuit" 13 ⟨"CircuitTwin$Net", "<init>", "()V"⟩ ∈ mj_wd := mj_wi 127 (by decide +kernel) (by decide +kernel)
theorem w_35 : Cond.instanceMethod ⟨"CircuitTwin$Net", "<init>", "()V"⟩ ∈ mj_wd := mj_wi 128 (by decide +kernel) (by decide +kernel)
theorem w_36 : Cond.code ⟨"CircuitTwin$Net", "<init>", "()V"⟩ prog_4_method_1_code 1 (none : Option ClassFile.FieldType) ∈ mj_wd := mj_wi 129 (by decide +kernel) (by decide +kernel)
theorem w_37 : Cond.methodLink "CircuitTwin$Net" 3 ⟨"java/lang/Object", "<init>", "()V"⟩ ∈ mj_wd := mj_wi 130 (by decide +kernel) (by decide +kernel)
theorem w_38 : Cond.methodLink "CircuitTwin$Net" 36 ⟨"CircuitTwin$Net", "begin", "(IIII)V"⟩ ∈ mj_wd := mj_wi 131 (by decide +kernel) (by decide +kernel)
theorem w_39 : Cond.instanceMethod ⟨"CircuitTwin$Net", "begin", "(IIII)V"⟩ ∈ mj_wd := mj_wi 132 (by decide +kernel) (by decide +kernel)
theorem w_40 : Cond.selects "CircuitTwin$Net" ⟨"CircuitTwin$Net", "begin", "(IIII)V"⟩ ⟨"CircuitTwin$Net", "begin", "(IIII)V"⟩ ∈ mj_wd := mj_wi 133 (by decide +kernel) (by decide +kernel)
theorem w_41 : Cond.code ⟨"CircuitTwin$Net", "begin", "(IIII)V"⟩ prog_4_method_2_code 5 (none : Option ClassFile.FieldType) ∈ mj_wd := mj_wi 134 (by decide +kernel) (by decide +kernel)
theorem w_42 : Cond.methodLink "CircuitTwin$Net" 53 ⟨"java/util/Arrays", "fill", "([II)V"⟩ ∈ mj_wd := mj_wi 135 (by decide +kernel) (by decide +kernel)
theorem w_43 : Cond.static ⟨"java/util/Arrays", "fill", "([II)V"⟩ ∈ mj_wd := mj_wi 136 (by decide +kernel) (by decide +kernel)
theorem w_44 : Cond.code ⟨"java/util/Arrays", "fill", "([II)V"⟩ prog_18_method_103_code 4 (none : Option ClassFile.FieldType) ∈ mj_wd := mj_wi 137 (by decide +kernel) (by decide +kernel)
theorem w_45 : Cond.fieldLink "CircuitTwin$Net" 9 "CircuitTwin$Net" "slotOf" "[I" ∈ mj_wd := mj_wi 138 (by decide +kernel) (by decide +kernel)
theorem w_46 : Cond.fieldLink "CircuitTwin$Writer" 127 "CircuitTwin$Net" "slotOf" "[I" ∈ mj_wd := mj_wi 139 (by decide +kernel) (by decide +kernel)
theorem w_47 : Cond.fieldLink "CircuitTwin$Net" 15 "CircuitTwin$Net" "own" "[I" ∈ mj_wd := mj_wi 140 (by decide +kernel) (by decide +kernel)
theorem w_48 : Cond.fieldLink "CircuitTwin$LoopFinder" 37 "CircuitTwin$Net" "own" "[I" ∈ mj_wd := mj_wi 141 (by decide +kernel) (by decide +kernel)
theorem w_49 : Cond.fieldLink "CircuitTwin" 84 "CircuitTwin$Net" "own" "[I" ∈ mj_wd := mj_wi 142 (by decide +kernel) (by decide +kernel)
theorem w_50 : Cond.fieldLink "CircuitTwin$Circuit" 95 "CircuitTwin$Net" "own" "[I" ∈ mj_wd := mj_wi 143 (by decide +kernel) (by decide +kernel)
theorem w_51 : Cond.fieldLink "CircuitTwin$Net" 18 "CircuitTwin$Net" "left" "[I" ∈ mj_wd := mj_wi 144 (by decide +kernel) (by decide +kernel)
theorem w_52 : Cond.fieldLink "CircuitTwin$LoopFinder" 47 "CircuitTwin$Net" "left" "[I" ∈ mj_wd := mj_wi 145 (by decide +kernel) (by decide +kernel)
theorem w_53 : Cond.fieldLink "CircuitTwin$Circuit" 74 "CircuitTwin$Net" "left" "[I" ∈ mj_wd := mj_wi 146 (by decide +kernel) (by decide +kernel)
theorem w_54 : Cond.fieldLink "CircuitTwin$Writer" 100 "CircuitTwin$Net" "left" "[I" ∈ mj_wd := mj_wi 147 (by decide +kernel) (by decide +kernel)
theorem w_55 : Cond.fieldLink "CircuitTwin$Reader" 118 "CircuitTwin$Net" "left" "[I" ∈ mj_wd := mj_wi 148 (by decide +kernel) (by decide +kernel)
theorem w_56 : Cond.fieldLink "CircuitTwin$Net" 21 "CircuitTwin$Net" "right" "[I" ∈ mj_wd := mj_wi 149 (by decide +kernel) (by decide +kernel)
theorem w_57 : Cond.fieldLink "CircuitTwin$LoopFinder" 57 "CircuitTwin$Net" "right" "[I" ∈ mj_wd := mj_wi 150 (by decide +kernel) (by decide +kernel)
theorem w_58 : Cond.fieldLink "CircuitTwin$Circuit" 81 "CircuitTwin$Net" "right" "[I" ∈ mj_wd := mj_wi 151 (by decide +kernel) (by decide +kernel)
theorem w_59 : Cond.fieldLink "CircuitTwin$Writer" 106 "CircuitTwin$Net" "right" "[I" ∈ mj_wd := mj_wi 152 (by decide +kernel) (by decide +kernel)
theorem w_60 : Cond.fieldLink "CircuitTwin$Reader" 121 "CircuitTwin$Net" "right" "[I" ∈ mj_wd := mj_wi 153 (by decide +kernel) (by decide +kernel)
theorem w_61 : Cond.fieldLink "CircuitTwin$Net" 24 "CircuitTwin$Net" "outputLiterals" "[I" ∈ mj_wd := mj_wi 154 (by decide +kernel) (by decide +kernel)
theorem w_62 : Cond.fieldLink "CircuitTwin" 94 "CircuitTwin$Net" "outputLiterals" "[I" ∈ mj_wd := mj_wi 155 (by decide +kernel) (by decide +kernel)
theorem w_63 : Cond.fieldLink "CircuitTwin$Writer" 118 "CircuitTwin$Net" "outputLiterals" "[I" ∈ mj_wd := mj_wi 156 (by decide +kernel) (by decide +kernel)
theorem w_64 : Cond.fieldLink "CircuitTwin$Reader" 106 "CircuitTwin$Net" "outputLiterals" "[I" ∈ mj_wd := mj_wi 157 (by decide +kernel) (by decide +kernel)
theorem w_65 : Cond.fieldLink "CircuitTwin$Net" 27 "CircuitTwin$Net" "depth" "[I" ∈ mj_wd := mj_wi 158 (by decide +kernel) (by decide +kernel)
theorem w_66 : Cond.fieldLink "CircuitTwin$LoopFinder" 60 "CircuitTwin$Net" "depth" "[I" ∈ mj_wd := mj_wi 159 (by decide +kernel) (by decide +kernel)
theorem w_67 : Cond.fieldLink "CircuitTwin$Net" 30 "CircuitTwin$Net" "order" "[I" ∈ mj_wd := mj_wi 160 (by decide +kernel) (by decide +kernel)
theorem w_68 : Cond.fieldLink "CircuitTwin$Circuit" 65 "CircuitTwin$Net" "order" "[I" ∈ mj_wd := mj_wi 161 (by decide +kernel) (by decide +kernel)
theorem w_69 : Cond.fieldLink "CircuitTwin$Writer" 97 "CircuitTwin$Net" "order" "[I" ∈ mj_wd := mj_wi 162 (by decide +kernel) (by decide +kernel)
theorem w_70 : Cond.fieldLink "CircuitTwin$Net" 33 "CircuitTwin$Net" "waiting" "[I" ∈ mj_wd := mj_wi 163 (by decide +kernel) (by decide +kernel)
theorem w_71 : Cond.fieldLink "CircuitTwin$LoopFinder" 30 "CircuitTwin$Net" "waiting" "[I" ∈ mj_wd := mj_wi 164 (by decide +kernel) (by decide +kernel)
theorem w_72 : Cond.fieldLink "CircuitTwin$LoopFinder" 24 "CircuitTwin$Net" "waitingCount" "I" ∈ mj_wd := mj_wi 165 (by decide +kernel) (by decide +kernel)
theorem w_73 : Cond.fieldLink "CircuitTwin$Net" 82 "CircuitTwin$Net" "waitingCount" "I" ∈ mj_wd := mj_wi 166 (by decide +kernel) (by decide +kernel)
theorem w_74 : Cond.fieldLink "CircuitTwin$Net" 40 "CircuitTwin$Net" "largest" "I" ∈ mj_wd := mj_wi 167 (by decide +kernel) (by decide +kernel)
theorem w_75 : Cond.fieldLink "CircuitTwin$Writer" 124 "CircuitTwin$Net" "largest" "I" ∈ mj_wd := mj_wi 168 (by decide +kernel) (by decide +kernel)
theorem w_76 : Cond.fieldLink "CircuitTwin" 165 "CircuitTwin$Net" "largest" "I" ∈ mj_wd := mj_wi 169 (by decide +kernel) (by decide +kernel)
theorem w_77 : Cond.fieldLink "CircuitTwin$Circuit" 33 "CircuitTwin$Net" "inputs" "I" ∈ mj_wd := mj_wi 170 (by decide +kernel) (by decide +kernel)
theorem w_78 : Cond.fieldLink "CircuitTwin$Net" 44 "CircuitTwin$Net" "inputs" "I" ∈ mj_wd := mj_wi 171 (by decide +kernel) (by decide +kernel)
theorem w_79 : Cond.fieldLink "CircuitTwin$Writer" 70 "CircuitTwin$Net" "inputs" "I" ∈ mj_wd := mj_wi 172 (by decide +kernel) (by decide +kernel)
theorem w_80 : Cond.fieldLink "CircuitTwin" 79 "CircuitTwin$Net" "inputs" "I" ∈ mj_wd := mj_wi 173 (by decide +kernel) (by decide +kernel)
theorem w_81 : Cond.fieldLink "CircuitTwin$Reader" 90 "CircuitTwin$Net" "inputs" "I" ∈ mj_wd := mj_wi 174 (by decide +kernel) (by decide +kernel)
theorem w_82 : Cond.fieldLink "CircuitTwin$Net" 50 "CircuitTwin$Net" "gates" "I" ∈ mj_wd := mj_wi 175 (by decide +kernel) (by decide +kernel)
theorem w_83 : Cond.fieldLink "CircuitTwin$Circuit" 62 "CircuitTwin$Net" "gates" "I" ∈ mj_wd := mj_wi 176 (by decide +kernel) (by decide +kernel)
theorem w_84 : Cond.fieldLink "CircuitTwin" 88 "CircuitTwin$Net" "gates" "I" ∈ mj_wd := mj_wi 177 (by decide +kernel) (by decide +kernel)
theorem w_85 : Cond.fieldLink "CircuitTwin$Writer" 96 "CircuitTwin$Net" "gates" "I" ∈ mj_wd := mj_wi 178 (by decide +kernel) (by decide +kernel)
theorem w_86 : Cond.fieldLink "CircuitTwin$Reader" 109 "CircuitTwin$Net" "gates" "I" ∈ mj_wd := mj_wi 179 (by decide +kernel) (by decide +kernel)
theorem w_87 : Cond.fieldLink "CircuitTwin$Net" 47 "CircuitTwin$Net" "outputs" "I" ∈ mj_wd := mj_wi 180 (by decide +kernel) (by decide +kernel)
theorem w_88 : Cond.fieldLink "CircuitTwin" 91 "CircuitTwin$Net" "outputs" "I" ∈ mj_wd := mj_wi 181 (by decide +kernel) (by decide +kernel)
theorem w_89 : Cond.fieldLink "CircuitTwin$Writer" 115 "CircuitTwin$Net" "outputs" "I" ∈ mj_wd := mj_wi 182 (by decide +kernel) (by decide +kernel)
theorem w_90 : Cond.fieldLink "CircuitTwin$Reader" 100 "CircuitTwin$Net" "outputs" "I" ∈ mj_wd := mj_wi 183 (by decide +kernel) (by decide +kernel)
theorem w_118 : Cond.arrayClass .int ∈ mj_wd := mj_wi 211 (by decide +kernel) (by decide +kernel)
theorem w_119 : Cond.constant "CircuitTwin$Circuit" 18 (80640 : Int32) ∈ mj_wd := mj_wi 212 (by decide +kernel) (by decide +kernel)
theorem w_120 : Cond.fieldLink "CircuitTwin$Circuit" 14 "CircuitTwin$Circuit" "net" "LCircuitTwin$Net;" ∈ mj_wd := mj_wi 213 (by decide +kernel) (by decide +kernel)
theorem w_121 : Cond.fieldLink "CircuitTwin$Writer" 47 "CircuitTwin$Circuit" "net" "LCircuitTwin$Net;" ∈ mj_wd := mj_wi 214 (by decide +kernel) (by decide +kernel)
theorem w_122 : Cond.fieldLink "CircuitTwin" 71 "CircuitTwin$Circuit" "net" "LCircuitTwin$Net;" ∈ mj_wd := mj_wi 215 (by decide +kernel) (by decide +kernel)
theorem w_123 : Cond.fieldLink "CircuitTwin" 66 "CircuitTwin$Circuit" "error" "I" ∈ mj_wd := mj_wi 216 (by decide +kernel) (by decide +kernel)
theorem w_124 : Cond.fieldLink "CircuitTwin" 70 "CircuitTwin$Circuit" "place" "I" ∈ mj_wd := mj_wi 217 (by decide +kernel) (by decide +kernel)
theorem w_125 : Cond.fieldLink "CircuitTwin$Circuit" 46 "CircuitTwin$Circuit" "kinds" "I" ∈ mj_wd := mj_wi 218 (by decide +kernel) (by decide +kernel)
theorem w_126 : Cond.fieldLink "CircuitTwin" 148 "CircuitTwin$Circuit" "kinds" "I" ∈ mj_wd := mj_wi 219 (by decide +kernel) (by decide +kernel)
theorem w_127 : Cond.fieldLink "CircuitTwin$Circuit" 19 "CircuitTwin$Circuit" "rows" "[J" ∈ mj_wd := mj_wi 220 (by decide +kernel) (by decide +kernel)
theorem w_128 : Cond.fieldLink "CircuitTwin$Circuit" 23 "CircuitTwin$Circuit" "hashes" "[J" ∈ mj_wd := mj_wi 221 (by decide +kernel) (by decide +kernel)
theorem w_129 : Cond.fieldLink "CircuitTwin$Circuit" 26 "CircuitTwin$Circuit" "leaders" "[I" ∈ mj_wd := mj_wi 222 (by decide +kernel) (by decide +kernel)
theorem w_130 : Cond.fieldLink "CircuitTwin$Circuit" 30 "CircuitTwin$Circuit" "buckets" "[I" ∈ mj_wd := mj_wi 223 (by decide +kernel) (by decide +kernel)
theorem w_131 : Cond.fieldLink "CircuitTwin$Circuit" 37 "CircuitTwin$Circuit" "words" "I" ∈ mj_wd := mj_wi 224 (by decide +kernel) (by decide +kernel)
theorem w_132 : Cond.fieldLink "CircuitTwin$Circuit" 42 "CircuitTwin$Circuit" "mask" "J" ∈ mj_wd := mj_wi 225 (by decide +kernel) (by decide +kernel)
theorem w_154 : Cond.arrayClass .long ∈ mj_wd := mj_wi 247 (by decide +kernel) (by decide +kernel)
theorem w_155 : Cond.methodLink "CircuitTwin" 16 ⟨"CircuitTwin$Circuit", "settle", "()V"⟩ ∈ mj_wd := mj_wi 248 (by decide +kernel) (by decide +kernel)
theorem w_156 : Cond.instanceMethod ⟨"CircuitTwin$Circuit", "settle", "()V"⟩ ∈ mj_wd := mj_wi 249 (by decide +kernel) (by decide +kernel)
theorem w_157 : Cond.selects "CircuitTwin$Circuit" ⟨"CircuitTwin$Circuit", "settle", "()V"⟩ ⟨"CircuitTwin$Circuit", "settle", "()V"⟩ ∈ mj_wd := mj_wi 250 (by decide +kernel) (by decide +kernel)
theorem w_158 : Cond.code ⟨"CircuitTwin$Circuit", "settle", "()V"⟩ prog_2_method_2_code 3 (none : Option ClassFile.FieldType) ∈ mj_wd := mj_wi 251 (by decide +kernel) (by decide +kernel)
theorem w_159 : Cond.constantLong "CircuitTwin$Circuit" 40 (-1 : Int64) ∈ mj_wd := mj_wi 252 (by decide +kernel) (by decide +kernel)
theorem w_160 : Cond.methodLink "CircuitTwin$Circuit" 49 ⟨"java/util/Arrays", "fill", "([II)V"⟩ ∈ mj_wd := mj_wi 253 (by decide +kernel) (by decide +kernel)
theorem w_161 : Cond.methodLink "CircuitTwin$Circuit" 55 ⟨"CircuitTwin$Circuit", "enter", "(I)V"⟩ ∈ mj_wd := mj_wi 254 (by decide +kernel) (by decide +kernel)
theorem w_163 : Cond.instanceMethod ⟨"CircuitTwin$Circuit", "enter", "(I)V"⟩ ∈ mj_wd := mj_wi 256 (by decide +kernel) (by decide +kernel)
theorem w_164 : Cond.code ⟨"CircuitTwin$Circuit", "enter", "(I)V"⟩ prog_2_method_5_code 4 (none : Option ClassFile.FieldType) ∈ mj_wd := mj_wi 257 (by decide +kernel) (by decide +kernel)
theorem w_165 : Cond.methodLink "CircuitTwin$Circuit" 88 ⟨"CircuitTwin$Circuit", "hashOf", "(I)J"⟩ ∈ mj_wd := mj_wi 258 (by decide +kernel) (by decide +kernel)
theorem w_167 : Cond.instanceMethod ⟨"CircuitTwin$Circuit", "hashOf", "(I)J"⟩ ∈ mj_wd := mj_wi 260 (by decide +kernel) (by decide +kernel)
theorem w_168 : Cond.code ⟨"CircuitTwin$Circuit", "hashOf", "(I)J"⟩ prog_2_method_6_code 8 (some .long) ∈ mj_wd := mj_wi 261 (by decide +kernel) (by decide +kernel)
theorem w_169 : Cond.methodLink "CircuitTwin$Circuit" 98 ⟨"CircuitTwin$Circuit", "startBit", "(I)I"⟩ ∈ mj_wd := mj_wi 262 (by decide +kernel) (by decide +kernel)
theorem w_171 : Cond.instanceMethod ⟨"CircuitTwin$Circuit", "startBit", "(I)I"⟩ ∈ mj_wd := mj_wi 264 (by decide +kernel) (by decide +kernel)
theorem w_172 : Cond.code ⟨"CircuitTwin$Circuit", "startBit", "(I)I"⟩ prog_2_method_11_code 2 (some .int) ∈ mj_wd := mj_wi 265 (by decide +kernel) (by decide +kernel)
theorem w_173 : Cond.constantLong "CircuitTwin$Circuit" 101 (-7046029254386353131 : Int64) ∈ mj_wd := mj_wi 266 (by decide +kernel) (by decide +kernel)
theorem w_174 : Cond.methodLink "CircuitTwin$Circuit" 91 ⟨"CircuitTwin$Circuit", "bucketFor", "(LCircuitTwin$Circuit;I)I"⟩ ∈ mj_wd := mj_wi 267 (by decide +kernel) (by decide +kernel)
theorem w_176 : Cond.instanceMethod ⟨"CircuitTwin$Circuit", "bucketFor", "(LCircuitTwin$Circuit;I)I"⟩ ∈ mj_wd := mj_wi 269 (by decide +kernel) (by decide +kernel)
theorem w_177 : Cond.code ⟨"CircuitTwin$Circuit", "bucketFor", "(LCircuitTwin$Circuit;I)I"⟩ prog_2_method_7_code 6 (some .int) ∈ mj_wd := mj_wi 270 (by decide +kernel) (by decide +kernel)
theorem w_178 : Cond.methodLink "CircuitTwin$Circuit" 103 ⟨"CircuitTwin$Circuit", "isSameOrInverse", "(ILCircuitTwin$Circuit;I)Z"⟩ ∈ mj_wd := mj_wi 271 (by decide +kernel) (by decide +kernel)
theorem w_179 : Cond.instanceMethod ⟨"CircuitTwin$Circuit", "isSameOrInverse", "(ILCircuitTwin$Circuit;I)Z"⟩ ∈ mj_wd := mj_wi 272 (by decide +kernel) (by decide +kernel)
theorem w_180 : Cond.selects "CircuitTwin$Circuit" ⟨"CircuitTwin$Circuit", "isSameOrInverse", "(ILCircuitTwin$Circuit;I)Z"⟩ ⟨"CircuitTwin$Circuit", "isSameOrInverse", "(ILCircuitTwin$Circuit;I)Z"⟩ ∈ mj_wd := mj_wi 273 (by decide +kernel) (by decide +kernel)
theorem w_181 : Cond.code ⟨"CircuitTwin$Circuit", "isSameOrInverse", "(ILCircuitTwin$Circuit;I)Z"⟩ prog_2_method_8_code 9 (some .boolean) ∈ mj_wd := mj_wi 274 (by decide +kernel) (by decide +kernel)
theorem w_182 : Cond.methodLink "CircuitTwin$Circuit" 59 ⟨"CircuitTwin$Circuit", "fillInput", "(I)V"⟩ ∈ mj_wd := mj_wi 275 (by decide +kernel) (by decide +kernel)
theorem w_184 : Cond.instanceMethod ⟨"CircuitTwin$Circuit", "fillInput", "(I)V"⟩ ∈ mj_wd := mj_wi 277 (by decide +kernel) (by decide +kernel)
theorem w_185 : Cond.code ⟨"CircuitTwin$Circuit", "fillInput", "(I)V"⟩ prog_2_method_3_code 4 (none : Option ClassFile.FieldType) ∈ mj_wd := mj_wi 278 (by decide +kernel) (by decide +kernel)
theorem w_186 : Cond.fieldLink "CircuitTwin$Circuit" 71 "CircuitTwin$Circuit" "INPUT_WORDS" "[J" ∈ mj_wd := mj_wi 279 (by decide +kernel) (by decide +kernel)
theorem w_188 : Cond.methodLink "CircuitTwin$Circuit" 68 ⟨"CircuitTwin$Circuit", "fillGate", "(I)V"⟩ ∈ mj_wd := mj_wi 281 (by decide +kernel) (by decide +kernel)
theorem w_190 : Cond.instanceMethod ⟨"CircuitTwin$Circuit", "fillGate", "(I)V"⟩ ∈ mj_wd := mj_wi 283 (by decide +kernel) (by decide +kernel)
theorem w_191 : Cond.code ⟨"CircuitTwin$Circuit", "fillGate", "(I)V"⟩ prog_2_method_4_code 10 (none : Option ClassFile.FieldType) ∈ mj_wd := mj_wi 284 (by decide +kernel) (by decide +kernel)
theorem w_192 : Cond.methodLink "CircuitTwin$Circuit" 77 ⟨"CircuitTwin$Circuit", "rowOf", "(I)I"⟩ ∈ mj_wd := mj_wi 285 (by decide +kernel) (by decide +kernel)
theorem w_194 : Cond.instanceMethod ⟨"CircuitTwin$Circuit", "rowOf", "(I)I"⟩ ∈ mj_wd := mj_wi 287 (by decide +kernel) (by decide +kernel)
theorem w_195 : Cond.code ⟨"CircuitTwin$Circuit", "rowOf", "(I)I"⟩ prog_2_method_12_code 2 (some .int) ∈ mj_wd := mj_wi 288 (by decide +kernel) (by decide +kernel)
theorem w_196 : Cond.methodLink "CircuitTwin$Circuit" 107 ⟨"CircuitTwin$Net", "slotFor", "(I)I"⟩ ∈ mj_wd := mj_wi 289 (by decide +kernel) (by decide +kernel)
theorem w_197 : Cond.instanceMethod ⟨"CircuitTwin$Net", "slotFor", "(I)I"⟩ ∈ mj_wd := mj_wi 290 (by decide +kernel) (by decide +kernel)
theorem w_198 : Cond.selects "CircuitTwin$Net" ⟨"CircuitTwin$Net", "slotFor", "(I)I"⟩ ⟨"CircuitTwin$Net", "slotFor", "(I)I"⟩ ∈ mj_wd := mj_wi 291 (by decide +kernel) (by decide +kernel)
theorem w_199 : Cond.code ⟨"CircuitTwin$Net", "slotFor", "(I)I"⟩ prog_4_method_6_code 2 (some .int) ∈ mj_wd := mj_wi 292 (by decide +kernel) (by decide +kernel)
theorem w_200 : Cond.methodLink "CircuitTwin$Circuit" 84 ⟨"CircuitTwin$Circuit", "flipOf", "(I)J"⟩ ∈ mj_wd := mj_wi 293 (by decide +kernel) (by decide +kernel)
theorem w_202 : Cond.instanceMethod ⟨"CircuitTwin$Circuit", "flipOf", "(I)J"⟩ ∈ mj_wd := mj_wi 295 (by decide +kernel) (by decide +kernel)
theorem w_203 : Cond.code ⟨"CircuitTwin$Circuit", "flipOf", "(I)J"⟩ prog_2_method_13_code 2 (some .long) ∈ mj_wd := mj_wi 296 (by decide +kernel) (by decide +kernel)
theorem w_204 : Cond.classLink "CircuitTwin" 22 "CircuitTwin$Reader" ∈ mj_wd := mj_wi 297 (by decide +kernel) (by decide +kernel)
theorem w_205 : Cond.instantiable "CircuitTwin$Reader" 10 ∈ mj_wd := mj_wi 298 (by decide +kernel) (by decide +kernel)
theorem w_207 : Cond.instanceMethod ⟨"CircuitTwin$Reader", "<init>", "()V"⟩ ∈ mj_wd := mj_wi 300 (by decide +kernel) (by decide +kernel)
theorem w_208 : Cond.code ⟨"CircuitTwin$Reader", "<init>", "()V"⟩ prog_5_method_1_code 1 (none : Option ClassFile.FieldType) ∈ mj_wd := mj_wi 301 (by decide +kernel) (by decide +kernel)
theorem w_209 : Cond.methodLink "CircuitTwin$Reader" 3 ⟨"java/lang/Object", "<init>", "()V"⟩ ∈ mj_wd := mj_wi 302 (by decide +kernel) (by decide +kernel)
theorem w_210 : Cond.classLink "CircuitTwin$Reader" 22 "CircuitTwin$LoopFinder" ∈ mj_wd := mj_wi 303 (by decide +kernel) (by decide +kernel)
theorem w_211 : Cond.instantiable "CircuitTwin$LoopFinder" 3 ∈ mj_wd := mj_wi 304 (by decide +kernel) (by decide +kernel)
theorem w_213 : Cond.instanceMethod ⟨"CircuitTwin$LoopFinder", "<init>", "()V"⟩ ∈ mj_wd := mj_wi 306 (by decide +kernel) (by decide +kernel)
theorem w_214 : Cond.code ⟨"CircuitTwin$LoopFinder", "<init>", "()V"⟩ prog_3_method_1_code 1 (none : Option ClassFile.FieldType) ∈ mj_wd := mj_wi 307 (by decide +kernel) (by decide +kernel)
theorem w_215 : Cond.methodLink "CircuitTwin$LoopFinder" 3 ⟨"java/lang/Object", "<init>", "()V"⟩ ∈ mj_wd := mj_wi 308 (by decide +kernel) (by decide +kernel)
theorem w_216 : Cond.fieldLink "CircuitTwin$LoopFinder" 9 "CircuitTwin$LoopFinder" "trail" "[I" ∈ mj_wd := mj_wi 309 (by decide +kernel) (by decide +kernel)
theorem w_217 : Cond.fieldLink "CircuitTwin$LoopFinder" 15 "CircuitTwin$LoopFinder" "reachedFrom" "[I" ∈ mj_wd := mj_wi 310 (by decide +kernel) (by decide +kernel)
theorem w_218 : Cond.fieldLink "CircuitTwin$LoopFinder" 40 "CircuitTwin$LoopFinder" "reached" "I" ∈ mj_wd := mj_wi 311 (by decide +kernel) (by decide +kernel)
theorem w_226 : Cond.arrayClass .byte ∈ mj_wd := mj_wi 319 (by decide +kernel) (by decide +kernel)
theorem w_227 : Cond.classLink "CircuitTwin$Reader" 29 "CircuitTwin$Net" ∈ mj_wd := mj_wi 320 (by decide +kernel) (by decide +kernel)
theorem w_228 : Cond.methodLink "CircuitTwin$Reader" 31 ⟨"CircuitTwin$Net", "<init>", "()V"⟩ ∈ mj_wd := mj_wi 321 (by decide +kernel) (by decide +kernel)
theorem w_229 : Cond.fieldLink "CircuitTwin$Reader" 36 "CircuitTwin$Reader" "length" "I" ∈ mj_wd := mj_wi 322 (by decide +kernel) (by decide +kernel)
theorem w_230 : Cond.fieldLink "CircuitTwin" 43 "CircuitTwin$Reader" "length" "I" ∈ mj_wd := mj_wi 323 (by decide +kernel) (by decide +kernel)
theorem w_231 : Cond.fieldLink "CircuitTwin$Reader" 43 "CircuitTwin$Reader" "error" "I" ∈ mj_wd := mj_wi 324 (by decide +kernel) (by decide +kernel)
theorem w_232 : Cond.fieldLink "CircuitTwin" 63 "CircuitTwin$Reader" "error" "I" ∈ mj_wd := mj_wi 325 (by decide +kernel) (by decide +kernel)
theorem w_233 : Cond.fieldLink "CircuitTwin$Reader" 46 "CircuitTwin$Reader" "place" "I" ∈ mj_wd := mj_wi 326 (by decide +kernel) (by decide +kernel)
theorem w_234 : Cond.fieldLink "CircuitTwin" 67 "CircuitTwin$Reader" "place" "I" ∈ mj_wd := mj_wi 327 (by decide +kernel) (by decide +kernel)
theorem w_235 : Cond.fieldLink "CircuitTwin$Reader" 9 "CircuitTwin$Reader" "bytes" "[B" ∈ mj_wd := mj_wi 328 (by decide +kernel) (by decide +kernel)
theorem w_236 : Cond.fieldLink "CircuitTwin$Reader" 15 "CircuitTwin$Reader" "numbers" "[I" ∈ mj_wd := mj_wi 329 (by decide +kernel) (by decide +kernel)
theorem w_237 : Cond.fieldLink "CircuitTwin$Reader" 19 "CircuitTwin$Reader" "starts" "[I" ∈ mj_wd := mj_wi 330 (by decide +kernel) (by decide +kernel)
theorem w_238 : Cond.fieldLink "CircuitTwin$Reader" 25 "CircuitTwin$Reader" "loops" "LCircuitTwin$LoopFinder;" ∈ mj_wd := mj_wi 331 (by decide +kernel) (by decide +kernel)
theorem w_239 : Cond.fieldLink "CircuitTwin$Reader" 32 "CircuitTwin$Reader" "net" "LCircuitTwin$Net;" ∈ mj_wd := mj_wi 332 (by decide +kernel) (by decide +kernel)
theorem w_240 : Cond.fieldLink "CircuitTwin$Reader" 40 "CircuitTwin$Reader" "position" "I" ∈ mj_wd := mj_wi 333 (by decide +kernel) (by decide +kernel)
theorem w_241 : Cond.fieldLink "CircuitTwin$Reader" 79 "CircuitTwin$Reader" "binary" "Z" ∈ mj_wd := mj_wi 334 (by decide +kernel) (by decide +kernel)
theorem w_263 : Cond.classLink "CircuitTwin" 29 "CircuitTwin$Writer" ∈ mj_wd := mj_wi 356 (by decide +kernel) (by decide +kernel)
theorem w_264 : Cond.instantiable "CircuitTwin$Writer" 9 ∈ mj_wd := mj_wi 357 (by decide +kernel) (by decide +kernel)
theorem w_266 : Cond.instanceMethod ⟨"CircuitTwin$Writer", "<init>", "()V"⟩ ∈ mj_wd := mj_wi 359 (by decide +kernel) (by decide +kernel)
theorem w_267 : Cond.code ⟨"CircuitTwin$Writer", "<init>", "()V"⟩ prog_6_method_1_code 1 (none : Option ClassFile.FieldType) ∈ mj_wd := mj_wi 360 (by decide +kernel) (by decide +kernel)
theorem w_268 : Cond.methodLink "CircuitTwin$Writer" 3 ⟨"java/lang/Object", "<init>", "()V"⟩ ∈ mj_wd := mj_wi 361 (by decide +kernel) (by decide +kernel)
theorem w_269 : Cond.fieldLink "CircuitTwin$Writer" 32 "CircuitTwin$Writer" "length" "I" ∈ mj_wd := mj_wi 362 (by decide +kernel) (by decide +kernel)
theorem w_270 : Cond.fieldLink "CircuitTwin" 159 "CircuitTwin$Writer" "length" "I" ∈ mj_wd := mj_wi 363 (by decide +kernel) (by decide +kernel)
theorem w_271 : Cond.fieldLink "CircuitTwin$Writer" 11 "CircuitTwin$Writer" "bytes" "[B" ∈ mj_wd := mj_wi 364 (by decide +kernel) (by decide +kernel)
theorem w_272 : Cond.fieldLink "CircuitTwin$Writer" 15 "CircuitTwin$Writer" "depth" "[I" ∈ mj_wd := mj_wi 365 (by decide +kernel) (by decide +kernel)
theorem w_273 : Cond.fieldLink "CircuitTwin$Writer" 19 "CircuitTwin$Writer" "needed" "[Z" ∈ mj_wd := mj_wi 366 (by decide +kernel) (by decide +kernel)
theorem w_274 : Cond.fieldLink "CircuitTwin$Writer" 23 "CircuitTwin$Writer" "number" "[I" ∈ mj_wd := mj_wi 367 (by decide +kernel) (by decide +kernel)
theorem w_275 : Cond.fieldLink "CircuitTwin$Writer" 26 "CircuitTwin$Writer" "slotOfNumber" "[I" ∈ mj_wd := mj_wi 368 (by decide +kernel) (by decide +kernel)
theorem w_276 : Cond.fieldLink "CircuitTwin$Writer" 29 "CircuitTwin$Writer" "nextOfDepth" "[I" ∈ mj_wd := mj_wi 369 (by decide +kernel) (by decide +kernel)
theorem w_277 : Cond.fieldLink "CircuitTwin$Writer" 36 "CircuitTwin$Writer" "reduced" "Z" ∈ mj_wd := mj_wi 370 (by decide +kernel) (by decide +kernel)
theorem w_278 : Cond.fieldLink "CircuitTwin$Writer" 67 "CircuitTwin$Writer" "gates" "I" ∈ mj_wd := mj_wi 371 (by decide +kernel) (by decide +kernel)
theorem w_298 : Cond.arrayClass .boolean ∈ mj_wd := mj_wi 391 (by decide +kernel) (by decide +kernel)
theorem w_299 : Cond.fieldLink "CircuitTwin" 12 "CircuitTwin" "first" "LCircuitTwin$Circuit;" ∈ mj_wd := mj_wi 392 (by decide +kernel) (by decide +kernel)
theorem w_300 : Cond.fieldLink "CircuitTwin" 19 "CircuitTwin" "second" "LCircuitTwin$Circuit;" ∈ mj_wd := mj_wi 393 (by decide +kernel) (by decide +kernel)
theorem w_301 : Cond.fieldLink "CircuitTwin" 25 "CircuitTwin" "reader" "LCircuitTwin$Reader;" ∈ mj_wd := mj_wi 394 (by decide +kernel) (by decide +kernel)
theorem w_302 : Cond.fieldLink "CircuitTwin" 32 "CircuitTwin" "writer" "LCircuitTwin$Writer;" ∈ mj_wd := mj_wi 395 (by decide +kernel) (by decide +kernel)
theorem w_312 : Cond.methodLink "CircuitTwinLaw" 83 ⟨"CircuitTwinLaw", "feed", "(LCircuitTwin;IJ[J)I"⟩ ∈ mj_wd := mj_wi 405 (by decide +kernel) (by decide +kernel)
theorem w_313 : Cond.static ⟨"CircuitTwinLaw", "feed", "(LCircuitTwin;IJ[J)I"⟩ ∈ mj_wd := mj_wi 406 (by decide +kernel) (by decide +kernel)
theorem w_314 : Cond.codeWith ⟨"CircuitTwinLaw", "feed", "(LCircuitTwin;IJ[J)I"⟩ method_3_code 6 (some .int) [(0, 11, 14, 13), (0, 11, 18, 15)] ∈ mj_wd := mj_wi 407 (by decide +kernel) (by decide +kernel)
theorem w_315 : Cond.classLink "CircuitTwinLaw" 13 "java/lang/IllegalArgumentException" ∈ mj_wd := mj_wi 408 (by decide +kernel) (by decide +kernel)
theorem w_316 : Cond.classLink "CircuitTwinLaw" 15 "java/lang/IllegalStateException" ∈ mj_wd := mj_wi 409 (by decide +kernel) (by decide +kernel)
theorem w_317 : Cond.methodLink "CircuitTwinLaw" 7 ⟨"CircuitTwin", "feed", "(IJ)I"⟩ ∈ mj_wd := mj_wi 410 (by decide +kernel) (by decide +kernel)
theorem w_318 : Cond.instanceMethod ⟨"CircuitTwin", "feed", "(IJ)I"⟩ ∈ mj_wd := mj_wi 411 (by decide +kernel) (by decide +kernel)
theorem w_319 : Cond.selects "CircuitTwin" ⟨"CircuitTwin", "feed", "(IJ)I"⟩ ⟨"CircuitTwin", "feed", "(IJ)I"⟩ ∈ mj_wd := mj_wi 412 (by decide +kernel) (by decide +kernel)
theorem w_320 : Cond.code ⟨"CircuitTwin", "feed", "(IJ)I"⟩ prog_1_method_2_code 5 (some .int) ∈ mj_wd := mj_wi 413 (by decide +kernel) (by decide +kernel)
theorem w_321 : Cond.classLink "CircuitTwin" 36 "java/lang/IllegalArgumentException" ∈ mj_wd := mj_wi 414 (by decide +kernel) (by decide +kernel)
theorem w_322 : Cond.instantiable "java/lang/IllegalArgumentException" 6 ∈ mj_wd := mj_wi 415 (by decide +kernel) (by decide +kernel)
theorem w_330 : Cond.selects "java/lang/IllegalArgumentException" ⟨"java/lang/Throwable", "fillInStackTrace", "(I)Ljava/lang/Throwable;"⟩ ⟨"java/lang/Throwable", "fillInStackTrace", "(I)Ljava/lang/Throwable;"⟩ ∈ mj_wd := mj_wi 423 (by decide +kernel) (by decide +kernel)
theorem w_331 : Cond.selects "java/lang/IllegalArgumentException" ⟨"java/lang/Throwable", "fillInStackTrace", "()Ljava/lang/Throwable;"⟩ ⟨"java/lang/Throwable", "fillInStackTrace", "()Ljava/lang/Throwable;"⟩ ∈ mj_wd := mj_wi 424 (by decide +kernel) (by decide +kernel)
theorem w_342 : Cond.fieldLink "java/lang/Throwable" 198 "java/lang/Throwable" "backtrace" "Ljava/lang/Object;" ∈ mj_wd := mj_wi 435 (by decide +kernel) (by decide +kernel)
theorem w_344 : Cond.instanceMethod ⟨"java/lang/Throwable", "<init>", "()V"⟩ ∈ mj_wd := mj_wi 437 (by decide +kernel) (by decide +kernel)
theorem w_345 : Cond.code ⟨"java/lang/Throwable", "<init>", "()V"⟩ prog_17_method_1_code 1 (none : Option ClassFile.FieldType) ∈ mj_wd := mj_wi 438 (by decide +kernel) (by decide +kernel)
theorem w_346 : Cond.methodLink "java/lang/Throwable" 1 ⟨"java/lang/Object", "<init>", "()V"⟩ ∈ mj_wd := mj_wi 439 (by decide +kernel) (by decide +kernel)
theorem w_347 : Cond.fieldLink "java/lang/Throwable" 13 "java/lang/Throwable" "UNASSIGNED_STACK" "[Ljava/lang/StackTraceElement;" ∈ mj_wd := mj_wi 440 (by decide +kernel) (by decide +kernel)
theorem w_349 : Cond.fieldLink "java/lang/Throwable" 20 "java/lang/Throwable" "SUPPRESSED_SENTINEL" "Ljava/util/List;" ∈ mj_wd := mj_wi 442 (by decide +kernel) (by decide +kernel)
theorem w_351 : Cond.methodLink "java/lang/Throwable" 27 ⟨"java/lang/Throwable", "fillInStackTrace", "()Ljava/lang/Throwable;"⟩ ∈ mj_wd := mj_wi 444 (by decide +kernel) (by decide +kernel)
theorem w_352 : Cond.instanceMethod ⟨"java/lang/Throwable", "fillInStackTrace", "()Ljava/lang/Throwable;"⟩ ∈ mj_wd := mj_wi 445 (by decide +kernel) (by decide +kernel)
theorem w_354 : Cond.selects "java/lang/IllegalStateException" ⟨"java/lang/Throwable", "fillInStackTrace", "()Ljava/lang/Throwable;"⟩ ⟨"java/lang/Throwable", "fillInStackTrace", "()Ljava/lang/Throwable;"⟩ ∈ mj_wd := mj_wi 447 (by decide +kernel) (by decide +kernel)
theorem w_355 : Cond.selects "java/util/NoSuchElementException" ⟨"java/lang/Throwable", "fillInStackTrace", "()Ljava/lang/Throwable;"⟩ ⟨"java/lang/Throwable", "fillInStackTrace", "()Ljava/lang/Throwable;"⟩ ∈ mj_wd := mj_wi 448 (by decide +kernel) (by decide +kernel)
theorem w_357 : Cond.methodLink "java/lang/Throwable" 202 ⟨"java/lang/Throwable", "fillInStackTrace", "(I)Ljava/lang/Throwable;"⟩ ∈ mj_wd := mj_wi 450 (by decide +kernel) (by decide +kernel)
theorem w_359 : Cond.instanceMethod ⟨"java/lang/Throwable", "fillInStackTrace", "(I)Ljava/lang/Throwable;"⟩ ∈ mj_wd := mj_wi 452 (by decide +kernel) (by decide +kernel)
theorem w_360 : Cond.instantiable "java/lang/Throwable" 6 ∈ mj_wd := mj_wi 453 (by decide +kernel) (by decide +kernel)
theorem w_363 : Cond.methodLink "CircuitTwin" 40 ⟨"java/lang/IllegalArgumentException", "<init>", "(Ljava/lang/String;)V"⟩ ∈ mj_wd := mj_wi 456 (by decide +kernel) (by decide +kernel)
theorem w_364 : Cond.instanceMethod ⟨"java/lang/IllegalArgumentException", "<init>", "(Ljava/lang/String;)V"⟩ ∈ mj_wd := mj_wi 457 (by decide +kernel) (by decide +kernel)
theorem w_365 : Cond.code ⟨"java/lang/IllegalArgumentException", "<init>", "(Ljava/lang/String;)V"⟩ prog_10_method_2_code 2 (none : Option ClassFile.FieldType) ∈ mj_wd := mj_wi 458 (by decide +kernel) (by decide +kernel)
theorem w_366 : Cond.methodLink "java/lang/IllegalArgumentException" 7 ⟨"java/lang/RuntimeException", "<init>", "(Ljava/lang/String;)V"⟩ ∈ mj_wd := mj_wi 459 (by decide +kernel) (by decide +kernel)
theorem w_367 : Cond.instanceMethod ⟨"java/lang/RuntimeException", "<init>", "(Ljava/lang/String;)V"⟩ ∈ mj_wd := mj_wi 460 (by decide +kernel) (by decide +kernel)
theorem w_368 : Cond.code ⟨"java/lang/RuntimeException", "<init>", "(Ljava/lang/String;)V"⟩ prog_15_method_2_code 2 (none : Option ClassFile.FieldType) ∈ mj_wd := mj_wi 461 (by decide +kernel) (by decide +kernel)
theorem w_369 : Cond.methodLink "java/lang/RuntimeException" 7 ⟨"java/lang/Exception", "<init>", "(Ljava/lang/String;)V"⟩ ∈ mj_wd := mj_wi 462 (by decide +kernel) (by decide +kernel)
theorem w_370 : Cond.instanceMethod ⟨"java/lang/Exception", "<init>", "(Ljava/lang/String;)V"⟩ ∈ mj_wd := mj_wi 463 (by decide +kernel) (by decide +kernel)
theorem w_371 : Cond.code ⟨"java/lang/Exception", "<init>", "(Ljava/lang/String;)V"⟩ prog_9_method_2_code 2 (none : Option ClassFile.FieldType) ∈ mj_wd := mj_wi 464 (by decide +kernel) (by decide +kernel)
theorem w_372 : Cond.methodLink "java/lang/Exception" 7 ⟨"java/lang/Throwable", "<init>", "(Ljava/lang/String;)V"⟩ ∈ mj_wd := mj_wi 465 (by decide +kernel) (by decide +kernel)
theorem w_373 : Cond.instanceMethod ⟨"java/lang/Throwable", "<init>", "(Ljava/lang/String;)V"⟩ ∈ mj_wd := mj_wi 466 (by decide +kernel) (by decide +kernel)
theorem w_374 : Cond.code ⟨"java/lang/Throwable", "<init>", "(Ljava/lang/String;)V"⟩ prog_17_method_2_code 2 (none : Option ClassFile.FieldType) ∈ mj_wd := mj_wi 467 (by decide +kernel) (by decide +kernel)
theorem w_376 : Cond.fieldLink "java/lang/Throwable" 31 "java/lang/Throwable" "detailMessage" "Ljava/lang/String;" ∈ mj_wd := mj_wi 469 (by decide +kernel) (by decide +kernel)
theorem w_377 : Cond.fieldLink "java/lang/Throwable" 7 "java/lang/Throwable" "cause" "Ljava/lang/Throwable;" ∈ mj_wd := mj_wi 470 (by decide +kernel) (by decide +kernel)
theorem w_378 : Cond.fieldLink "java/lang/Throwable" 17 "java/lang/Throwable" "stackTrace" "[Ljava/lang/StackTraceElement;" ∈ mj_wd := mj_wi 471 (by decide +kernel) (by decide +kernel)
theorem w_379 : Cond.fieldLink "java/lang/Throwable" 24 "java/lang/Throwable" "suppressedExceptions" "Ljava/util/List;" ∈ mj_wd := mj_wi 472 (by decide +kernel) (by decide +kernel)
theorem w_388 : Cond.classLink "CircuitTwin" 47 "java/lang/IllegalStateException" ∈ mj_wd := mj_wi 481 (by decide +kernel) (by decide +kernel)
theorem w_389 : Cond.instantiable "java/lang/IllegalStateException" 6 ∈ mj_wd := mj_wi 482 (by decide +kernel) (by decide +kernel)
theorem w_391 : Cond.selects "java/lang/IllegalStateException" ⟨"java/lang/Throwable", "fillInStackTrace", "(I)Ljava/lang/Throwable;"⟩ ⟨"java/lang/Throwable", "fillInStackTrace", "(I)Ljava/lang/Throwable;"⟩ ∈ mj_wd := mj_wi 484 (by decide +kernel) (by decide +kernel)
theorem w_398 : Cond.methodLink "CircuitTwin" 51 ⟨"java/lang/IllegalStateException", "<init>", "(Ljava/lang/String;)V"⟩ ∈ mj_wd := mj_wi 491 (by decide +kernel) (by decide +kernel)
theorem w_399 : Cond.instanceMethod ⟨"java/lang/IllegalStateException", "<init>", "(Ljava/lang/String;)V"⟩ ∈ mj_wd := mj_wi 492 (by decide +kernel) (by decide +kernel)
theorem w_400 : Cond.code ⟨"java/lang/IllegalStateException", "<init>", "(Ljava/lang/String;)V"⟩ prog_11_method_2_code 2 (none : Option ClassFile.FieldType) ∈ mj_wd := mj_wi 493 (by decide +kernel) (by decide +kernel)
theorem w_401 : Cond.methodLink "java/lang/IllegalStateException" 7 ⟨"java/lang/RuntimeException", "<init>", "(Ljava/lang/String;)V"⟩ ∈ mj_wd := mj_wi 494 (by decide +kernel) (by decide +kernel)
theorem w_404 : Cond.methodLink "CircuitTwin" 52 ⟨"CircuitTwin$Reader", "append", "(B)V"⟩ ∈ mj_wd := mj_wi 497 (by decide +kernel) (by decide +kernel)
theorem w_405 : Cond.instanceMethod ⟨"CircuitTwin$Reader", "append", "(B)V"⟩ ∈ mj_wd := mj_wi 498 (by decide +kernel) (by decide +kernel)
theorem w_406 : Cond.selects "CircuitTwin$Reader" ⟨"CircuitTwin$Reader", "append", "(B)V"⟩ ⟨"CircuitTwin$Reader", "append", "(B)V"⟩ ∈ mj_wd := mj_wi 499 (by decide +kernel) (by decide +kernel)
theorem w_407 : Cond.code ⟨"CircuitTwin$Reader", "append", "(B)V"⟩ prog_5_method_2_code 2 (none : Option ClassFile.FieldType) ∈ mj_wd := mj_wi 500 (by decide +kernel) (by decide +kernel)
theorem w_408 : Cond.methodLink "CircuitTwinLaw" 92 ⟨"CircuitTwinLaw", "load", "(LCircuitTwin;I[J)I"⟩ ∈ mj_wd := mj_wi 501 (by decide +kernel) (by decide +kernel)
theorem w_409 : Cond.static ⟨"CircuitTwinLaw", "load", "(LCircuitTwin;I[J)I"⟩ ∈ mj_wd := mj_wi 502 (by decide +kernel) (by decide +kernel)
theorem w_410 : Cond.codeWith ⟨"CircuitTwinLaw", "load", "(LCircuitTwin;I[J)I"⟩ method_4_code 4 (some .int) [(0, 9, 12, 13)] ∈ mj_wd := mj_wi 503 (by decide +kernel) (by decide +kernel)
theorem w_411 : Cond.methodLink "CircuitTwinLaw" 17 ⟨"CircuitTwin", "load", "(I)I"⟩ ∈ mj_wd := mj_wi 504 (by decide +kernel) (by decide +kernel)
theorem w_412 : Cond.instanceMethod ⟨"CircuitTwin", "load", "(I)I"⟩ ∈ mj_wd := mj_wi 505 (by decide +kernel) (by decide +kernel)
theorem w_413 : Cond.selects "CircuitTwin" ⟨"CircuitTwin", "load", "(I)I"⟩ ⟨"CircuitTwin", "load", "(I)I"⟩ ∈ mj_wd := mj_wi 506 (by decide +kernel) (by decide +kernel)
theorem w_414 : Cond.code ⟨"CircuitTwin", "load", "(I)I"⟩ prog_1_method_3_code 3 (some .int) ∈ mj_wd := mj_wi 507 (by decide +kernel) (by decide +kernel)
theorem w_415 : Cond.methodLink "CircuitTwin" 56 ⟨"CircuitTwin", "named", "(I)LCircuitTwin$Circuit;"⟩ ∈ mj_wd := mj_wi 508 (by decide +kernel) (by decide +kernel)
theorem w_417 : Cond.instanceMethod ⟨"CircuitTwin", "named", "(I)LCircuitTwin$Circuit;"⟩ ∈ mj_wd := mj_wi 510 (by decide +kernel) (by decide +kernel)
theorem w_418 : Cond.code ⟨"CircuitTwin", "named", "(I)LCircuitTwin$Circuit;"⟩ prog_1_method_20_code 2 (some (.object "CircuitTwin$Circuit")) ∈ mj_wd := mj_wi 511 (by decide +kernel) (by decide +kernel)
theorem w_420 : Cond.methodLink "CircuitTwin" 60 ⟨"CircuitTwin$Reader", "readTape", "()V"⟩ ∈ mj_wd := mj_wi 513 (by decide +kernel) (by decide +kernel)
theorem w_421 : Cond.instanceMethod ⟨"CircuitTwin$Reader", "readTape", "()V"⟩ ∈ mj_wd := mj_wi 514 (by decide +kernel) (by decide +kernel)
theorem w_422 : Cond.selects "CircuitTwin$Reader" ⟨"CircuitTwin$Reader", "readTape", "()V"⟩ ⟨"CircuitTwin$Reader", "readTape", "()V"⟩ ∈ mj_wd := mj_wi 515 (by decide +kernel) (by decide +kernel)
theorem w_423 : Cond.code ⟨"CircuitTwin$Reader", "readTape", "()V"⟩ prog_5_method_3_code 1 (none : Option ClassFile.FieldType) ∈ mj_wd := mj_wi 516 (by decide +kernel) (by decide +kernel)
theorem w_424 : Cond.methodLink "CircuitTwin$Reader" 49 ⟨"CircuitTwin$Reader", "takeKind", "()Z"⟩ ∈ mj_wd := mj_wi 517 (by decide +kernel) (by decide +kernel)
theorem w_426 : Cond.instanceMethod ⟨"CircuitTwin$Reader", "takeKind", "()Z"⟩ ∈ mj_wd := mj_wi 519 (by decide +kernel) (by decide +kernel)
theorem w_427 : Cond.code ⟨"CircuitTwin$Reader", "takeKind", "()Z"⟩ prog_5_method_7_code 3 (some .boolean) ∈ mj_wd := mj_wi 520 (by decide +kernel) (by decide +kernel)
theorem w_428 : Cond.methodLink "CircuitTwin$Reader" 71 ⟨"CircuitTwin$Reader", "byteAt", "(I)I"⟩ ∈ mj_wd := mj_wi 521 (by decide +kernel) (by decide +kernel)
theorem w_430 : Cond.instanceMethod ⟨"CircuitTwin$Reader", "byteAt", "(I)I"⟩ ∈ mj_wd := mj_wi 523 (by decide +kernel) (by decide +kernel)
theorem w_431 : Cond.code ⟨"CircuitTwin$Reader", "byteAt", "(I)I"⟩ prog_5_method_6_code 2 (some .int) ∈ mj_wd := mj_wi 524 (by decide +kernel) (by decide +kernel)
theorem w_432 : Cond.methodLink "CircuitTwin$Reader" 75 ⟨"CircuitTwin$Reader", "fail", "(II)Z"⟩ ∈ mj_wd := mj_wi 525 (by decide +kernel) (by decide +kernel)
theorem w_434 : Cond.instanceMethod ⟨"CircuitTwin$Reader", "fail", "(II)Z"⟩ ∈ mj_wd := mj_wi 527 (by decide +kernel) (by decide +kernel)
theorem w_435 : Cond.code ⟨"CircuitTwin$Reader", "fail", "(II)Z"⟩ prog_5_method_5_code 3 (some .boolean) ∈ mj_wd := mj_wi 528 (by decide +kernel) (by decide +kernel)
theorem w_436 : Cond.methodLink "CircuitTwin$Reader" 53 ⟨"CircuitTwin$Reader", "takeSizes", "()Z"⟩ ∈ mj_wd := mj_wi 529 (by decide +kernel) (by decide +kernel)
theorem w_438 : Cond.instanceMethod ⟨"CircuitTwin$Reader", "takeSizes", "()Z"⟩ ∈ mj_wd := mj_wi 531 (by decide +kernel) (by decide +kernel)
theorem w_439 : Cond.code ⟨"CircuitTwin$Reader", "takeSizes", "()Z"⟩ prog_5_method_8_code 5 (some .boolean) ∈ mj_wd := mj_wi 532 (by decide +kernel) (by decide +kernel)
theorem w_440 : Cond.methodLink "CircuitTwin$Reader" 83 ⟨"CircuitTwin$Reader", "takeLine", "(II)Z"⟩ ∈ mj_wd := mj_wi 533 (by decide +kernel) (by decide +kernel)
theorem w_442 : Cond.instanceMethod ⟨"CircuitTwin$Reader", "takeLine", "(II)Z"⟩ ∈ mj_wd := mj_wi 535 (by decide +kernel) (by decide +kernel)
theorem w_443 : Cond.code ⟨"CircuitTwin$Reader", "takeLine", "(II)Z"⟩ prog_5_method_16_code 4 (some .boolean) ∈ mj_wd := mj_wi 536 (by decide +kernel) (by decide +kernel)
theorem w_444 : Cond.methodLink "CircuitTwin$Reader" 128 ⟨"CircuitTwin$Reader", "takeNumber", "(III)Z"⟩ ∈ mj_wd := mj_wi 537 (by decide +kernel) (by decide +kernel)
theorem w_446 : Cond.instanceMethod ⟨"CircuitTwin$Reader", "takeNumber", "(III)Z"⟩ ∈ mj_wd := mj_wi 539 (by decide +kernel) (by decide +kernel)
theorem w_447 : Cond.code ⟨"CircuitTwin$Reader", "takeNumber", "(III)Z"⟩ prog_5_method_17_code 7 (some .boolean) ∈ mj_wd := mj_wi 540 (by decide +kernel) (by decide +kernel)
theorem w_448 : Cond.methodLink "CircuitTwin$Reader" 86 ⟨"CircuitTwin$Net", "begin", "(IIII)V"⟩ ∈ mj_wd := mj_wi 541 (by decide +kernel) (by decide +kernel)
theorem w_449 : Cond.methodLink "CircuitTwin$Reader" 56 ⟨"CircuitTwin$Reader", "takeInputs", "()Z"⟩ ∈ mj_wd := mj_wi 542 (by decide +kernel) (by decide +kernel)
theorem w_451 : Cond.instanceMethod ⟨"CircuitTwin$Reader", "takeInputs", "()Z"⟩ ∈ mj_wd := mj_wi 544 (by decide +kernel) (by decide +kernel)
theorem w_452 : Cond.code ⟨"CircuitTwin$Reader", "takeInputs", "()Z"⟩ prog_5_method_9_code 2 (some .boolean) ∈ mj_wd := mj_wi 545 (by decide +kernel) (by decide +kernel)
theorem w_453 : Cond.methodLink "CircuitTwin$Reader" 93 ⟨"CircuitTwin$Net", "place", "(II)V"⟩ ∈ mj_wd := mj_wi 546 (by decide +kernel) (by decide +kernel)
theorem w_454 : Cond.instanceMethod ⟨"CircuitTwin$Net", "place", "(II)V"⟩ ∈ mj_wd := mj_wi 547 (by decide +kernel) (by decide +kernel)
theorem w_455 : Cond.selects "CircuitTwin$Net" ⟨"CircuitTwin$Net", "place", "(II)V"⟩ ⟨"CircuitTwin$Net", "place", "(II)V"⟩ ∈ mj_wd := mj_wi 548 (by decide +kernel) (by decide +kernel)
theorem w_456 : Cond.code ⟨"CircuitTwin$Net", "place", "(II)V"⟩ prog_4_method_8_code 3 (none : Option ClassFile.FieldType) ∈ mj_wd := mj_wi 549 (by decide +kernel) (by decide +kernel)
theorem w_457 : Cond.methodLink "CircuitTwin$Reader" 96 ⟨"CircuitTwin$Reader", "takeOwn", "(I)Z"⟩ ∈ mj_wd := mj_wi 550 (by decide +kernel) (by decide +kernel)
theorem w_459 : Cond.instanceMethod ⟨"CircuitTwin$Reader", "takeOwn", "(I)Z"⟩ ∈ mj_wd := mj_wi 552 (by decide +kernel) (by decide +kernel)
theorem w_460 : Cond.code ⟨"CircuitTwin$Reader", "takeOwn", "(I)Z"⟩ prog_5_method_18_code 2 (some .boolean) ∈ mj_wd := mj_wi 553 (by decide +kernel) (by decide +kernel)
theorem w_461 : Cond.methodLink "CircuitTwin$Reader" 132 ⟨"CircuitTwin$Net", "isFree", "(I)Z"⟩ ∈ mj_wd := mj_wi 554 (by decide +kernel) (by decide +kernel)
theorem w_462 : Cond.instanceMethod ⟨"CircuitTwin$Net", "isFree", "(I)Z"⟩ ∈ mj_wd := mj_wi 555 (by decide +kernel) (by decide +kernel)
theorem w_463 : Cond.selects "CircuitTwin$Net" ⟨"CircuitTwin$Net", "isFree", "(I)Z"⟩ ⟨"CircuitTwin$Net", "isFree", "(I)Z"⟩ ∈ mj_wd := mj_wi 556 (by decide +kernel) (by decide +kernel)
theorem w_464 : Cond.code ⟨"CircuitTwin$Net", "isFree", "(I)Z"⟩ prog_4_method_5_code 2 (some .boolean) ∈ mj_wd := mj_wi 557 (by decide +kernel) (by decide +kernel)
theorem w_465 : Cond.methodLink "CircuitTwin$Net" 59 ⟨"CircuitTwin$Net", "exists", "(I)Z"⟩ ∈ mj_wd := mj_wi 558 (by decide +kernel) (by decide +kernel)
theorem w_466 : Cond.instanceMethod ⟨"CircuitTwin$Net", "exists", "(I)Z"⟩ ∈ mj_wd := mj_wi 559 (by decide +kernel) (by decide +kernel)
theorem w_467 : Cond.selects "CircuitTwin$Net" ⟨"CircuitTwin$Net", "exists", "(I)Z"⟩ ⟨"CircuitTwin$Net", "exists", "(I)Z"⟩ ∈ mj_wd := mj_wi 560 (by decide +kernel) (by decide +kernel)
theorem w_468 : Cond.code ⟨"CircuitTwin$Net", "exists", "(I)Z"⟩ prog_4_method_3_code 2 (some .boolean) ∈ mj_wd := mj_wi 561 (by decide +kernel) (by decide +kernel)
theorem w_469 : Cond.methodLink "CircuitTwin$Net" 63 ⟨"CircuitTwin$Net", "slotFor", "(I)I"⟩ ∈ mj_wd := mj_wi 562 (by decide +kernel) (by decide +kernel)
theorem w_470 : Cond.methodLink "CircuitTwin$Reader" 59 ⟨"CircuitTwin$Reader", "takeOutputs", "()Z"⟩ ∈ mj_wd := mj_wi 563 (by decide +kernel) (by decide +kernel)
theorem w_472 : Cond.instanceMethod ⟨"CircuitTwin$Reader", "takeOutputs", "()Z"⟩ ∈ mj_wd := mj_wi 565 (by decide +kernel) (by decide +kernel)
theorem w_473 : Cond.code ⟨"CircuitTwin$Reader", "takeOutputs", "()Z"⟩ prog_5_method_10_code 2 (some .boolean) ∈ mj_wd := mj_wi 566 (by decide +kernel) (by decide +kernel)
theorem w_474 : Cond.methodLink "CircuitTwin$Reader" 103 ⟨"CircuitTwin$Reader", "takeUsed", "(I)Z"⟩ ∈ mj_wd := mj_wi 567 (by decide +kernel) (by decide +kernel)
theorem w_476 : Cond.instanceMethod ⟨"CircuitTwin$Reader", "takeUsed", "(I)Z"⟩ ∈ mj_wd := mj_wi 569 (by decide +kernel) (by decide +kernel)
theorem w_477 : Cond.code ⟨"CircuitTwin$Reader", "takeUsed", "(I)Z"⟩ prog_5_method_19_code 2 (some .boolean) ∈ mj_wd := mj_wi 570 (by decide +kernel) (by decide +kernel)
theorem w_478 : Cond.methodLink "CircuitTwin$Reader" 135 ⟨"CircuitTwin$Net", "exists", "(I)Z"⟩ ∈ mj_wd := mj_wi 571 (by decide +kernel) (by decide +kernel)
theorem w_479 : Cond.methodLink "CircuitTwin$Reader" 62 ⟨"CircuitTwin$Reader", "takeGates", "()Z"⟩ ∈ mj_wd := mj_wi 572 (by decide +kernel) (by decide +kernel)
theorem w_481 : Cond.instanceMethod ⟨"CircuitTwin$Reader", "takeGates", "()Z"⟩ ∈ mj_wd := mj_wi 574 (by decide +kernel) (by decide +kernel)
theorem w_482 : Cond.code ⟨"CircuitTwin$Reader", "takeGates", "()Z"⟩ prog_5_method_11_code 3 (some .boolean) ∈ mj_wd := mj_wi 575 (by decide +kernel) (by decide +kernel)
theorem w_483 : Cond.methodLink "CircuitTwin$Reader" 112 ⟨"CircuitTwin$Reader", "takeStepGate", "(I)Z"⟩ ∈ mj_wd := mj_wi 576 (by decide +kernel) (by decide +kernel)
theorem w_485 : Cond.instanceMethod ⟨"CircuitTwin$Reader", "takeStepGate", "(I)Z"⟩ ∈ mj_wd := mj_wi 578 (by decide +kernel) (by decide +kernel)
theorem w_486 : Cond.code ⟨"CircuitTwin$Reader", "takeStepGate", "(I)Z"⟩ prog_5_method_13_code 5 (some .boolean) ∈ mj_wd := mj_wi 579 (by decide +kernel) (by decide +kernel)
theorem w_487 : Cond.methodLink "CircuitTwin$Reader" 124 ⟨"CircuitTwin$Reader", "takeStep", "()I"⟩ ∈ mj_wd := mj_wi 580 (by decide +kernel) (by decide +kernel)
theorem w_489 : Cond.instanceMethod ⟨"CircuitTwin$Reader", "takeStep", "()I"⟩ ∈ mj_wd := mj_wi 582 (by decide +kernel) (by decide +kernel)
theorem w_490 : Cond.code ⟨"CircuitTwin$Reader", "takeStep", "()I"⟩ prog_5_method_14_code 3 (some .int) ∈ mj_wd := mj_wi 583 (by decide +kernel) (by decide +kernel)
theorem w_491 : Cond.methodLink "CircuitTwin$Reader" 115 ⟨"CircuitTwin$Reader", "takeLineGate", "(I)Z"⟩ ∈ mj_wd := mj_wi 584 (by decide +kernel) (by decide +kernel)
theorem w_493 : Cond.instanceMethod ⟨"CircuitTwin$Reader", "takeLineGate", "(I)Z"⟩ ∈ mj_wd := mj_wi 586 (by decide +kernel) (by decide +kernel)
theorem w_494 : Cond.code ⟨"CircuitTwin$Reader", "takeLineGate", "(I)Z"⟩ prog_5_method_12_code 2 (some .boolean) ∈ mj_wd := mj_wi 587 (by decide +kernel) (by decide +kernel)
theorem w_495 : Cond.methodLink "CircuitTwin$Reader" 65 ⟨"CircuitTwin$Reader", "takeEnd", "()Z"⟩ ∈ mj_wd := mj_wi 588 (by decide +kernel) (by decide +kernel)
theorem w_497 : Cond.instanceMethod ⟨"CircuitTwin$Reader", "takeEnd", "()Z"⟩ ∈ mj_wd := mj_wi 590 (by decide +kernel) (by decide +kernel)
theorem w_498 : Cond.code ⟨"CircuitTwin$Reader", "takeEnd", "()Z"⟩ prog_5_method_15_code 1 (some .boolean) ∈ mj_wd := mj_wi 591 (by decide +kernel) (by decide +kernel)
theorem w_499 : Cond.methodLink "CircuitTwin$Reader" 68 ⟨"CircuitTwin$Reader", "checkWhole", "()V"⟩ ∈ mj_wd := mj_wi 592 (by decide +kernel) (by decide +kernel)
theorem w_501 : Cond.instanceMethod ⟨"CircuitTwin$Reader", "checkWhole", "()V"⟩ ∈ mj_wd := mj_wi 594 (by decide +kernel) (by decide +kernel)
theorem w_502 : Cond.code ⟨"CircuitTwin$Reader", "checkWhole", "()V"⟩ prog_5_method_20_code 2 (none : Option ClassFile.FieldType) ∈ mj_wd := mj_wi 595 (by decide +kernel) (by decide +kernel)
theorem w_503 : Cond.methodLink "CircuitTwin$Reader" 138 ⟨"CircuitTwin$Net", "leastMissing", "()I"⟩ ∈ mj_wd := mj_wi 596 (by decide +kernel) (by decide +kernel)
theorem w_504 : Cond.instanceMethod ⟨"CircuitTwin$Net", "leastMissing", "()I"⟩ ∈ mj_wd := mj_wi 597 (by decide +kernel) (by decide +kernel)
theorem w_505 : Cond.selects "CircuitTwin$Net" ⟨"CircuitTwin$Net", "leastMissing", "()I"⟩ ⟨"CircuitTwin$Net", "leastMissing", "()I"⟩ ∈ mj_wd := mj_wi 598 (by decide +kernel) (by decide +kernel)
theorem w_506 : Cond.code ⟨"CircuitTwin$Net", "leastMissing", "()I"⟩ prog_4_method_10_code 3 (some .int) ∈ mj_wd := mj_wi 599 (by decide +kernel) (by decide +kernel)
theorem w_507 : Cond.methodLink "CircuitTwin$Net" 73 ⟨"CircuitTwin$Net", "missingVariable", "(I)I"⟩ ∈ mj_wd := mj_wi 600 (by decide +kernel) (by decide +kernel)
theorem w_509 : Cond.instanceMethod ⟨"CircuitTwin$Net", "missingVariable", "(I)I"⟩ ∈ mj_wd := mj_wi 602 (by decide +kernel) (by decide +kernel)
theorem w_510 : Cond.code ⟨"CircuitTwin$Net", "missingVariable", "(I)I"⟩ prog_4_method_11_code 2 (some .int) ∈ mj_wd := mj_wi 603 (by decide +kernel) (by decide +kernel)
theorem w_511 : Cond.methodLink "CircuitTwin$Net" 76 ⟨"java/lang/Math", "min", "(II)I"⟩ ∈ mj_wd := mj_wi 604 (by decide +kernel) (by decide +kernel)
theorem w_512 : Cond.static ⟨"java/lang/Math", "min", "(II)I"⟩ ∈ mj_wd := mj_wi 605 (by decide +kernel) (by decide +kernel)
theorem w_513 : Cond.code ⟨"java/lang/Math", "min", "(II)I"⟩ prog_14_method_69_code 2 (some .int) ∈ mj_wd := mj_wi 606 (by decide +kernel) (by decide +kernel)
theorem w_514 : Cond.methodLink "CircuitTwin$Reader" 141 ⟨"CircuitTwin$Net", "arrange", "()Z"⟩ ∈ mj_wd := mj_wi 607 (by decide +kernel) (by decide +kernel)
theorem w_515 : Cond.instanceMethod ⟨"CircuitTwin$Net", "arrange", "()Z"⟩ ∈ mj_wd := mj_wi 608 (by decide +kernel) (by decide +kernel)
theorem w_516 : Cond.selects "CircuitTwin$Net" ⟨"CircuitTwin$Net", "arrange", "()Z"⟩ ⟨"CircuitTwin$Net", "arrange", "()Z"⟩ ∈ mj_wd := mj_wi 609 (by decide +kernel) (by decide +kernel)
theorem w_517 : Cond.code ⟨"CircuitTwin$Net", "arrange", "()Z"⟩ prog_4_method_12_code 6 (some .boolean) ∈ mj_wd := mj_wi 610 (by decide +kernel) (by decide +kernel)
theorem w_518 : Cond.methodLink "CircuitTwin$Net" 79 ⟨"CircuitTwin$Net", "waitForAll", "()V"⟩ ∈ mj_wd := mj_wi 611 (by decide +kernel) (by decide +kernel)
theorem w_520 : Cond.instanceMethod ⟨"CircuitTwin$Net", "waitForAll", "()V"⟩ ∈ mj_wd := mj_wi 613 (by decide +kernel) (by decide +kernel)
theorem w_521 : Cond.code ⟨"CircuitTwin$Net", "waitForAll", "()V"⟩ prog_4_method_13_code 3 (none : Option ClassFile.FieldType) ∈ mj_wd := mj_wi 614 (by decide +kernel) (by decide +kernel)
theorem w_522 : Cond.methodLink "CircuitTwin$Net" 85 ⟨"CircuitTwin$Net", "isGate", "(I)Z"⟩ ∈ mj_wd := mj_wi 615 (by decide +kernel) (by decide +kernel)
theorem w_523 : Cond.instanceMethod ⟨"CircuitTwin$Net", "isGate", "(I)Z"⟩ ∈ mj_wd := mj_wi 616 (by decide +kernel) (by decide +kernel)
theorem w_524 : Cond.selects "CircuitTwin$Net" ⟨"CircuitTwin$Net", "isGate", "(I)Z"⟩ ⟨"CircuitTwin$Net", "isGate", "(I)Z"⟩ ∈ mj_wd := mj_wi 617 (by decide +kernel) (by decide +kernel)
theorem w_525 : Cond.code ⟨"CircuitTwin$Net", "isGate", "(I)Z"⟩ prog_4_method_7_code 2 (some .boolean) ∈ mj_wd := mj_wi 618 (by decide +kernel) (by decide +kernel)
theorem w_526 : Cond.constant "CircuitTwin$Net" 88 (1000000 : Int32) ∈ mj_wd := mj_wi 619 (by decide +kernel) (by decide +kernel)
theorem w_527 : Cond.methodLink "CircuitTwin$Reader" 144 ⟨"CircuitTwin$LoopFinder", "leastOnLoop", "(LCircuitTwin$Net;)I"⟩ ∈ mj_wd := mj_wi 620 (by decide +kernel) (by decide +kernel)
theorem w_528 : Cond.instanceMethod ⟨"CircuitTwin$LoopFinder", "leastOnLoop", "(LCircuitTwin$Net;)I"⟩ ∈ mj_wd := mj_wi 621 (by decide +kernel) (by decide +kernel)
theorem w_529 : Cond.selects "CircuitTwin$LoopFinder" ⟨"CircuitTwin$LoopFinder", "leastOnLoop", "(LCircuitTwin$Net;)I"⟩ ⟨"CircuitTwin$LoopFinder", "leastOnLoop", "(LCircuitTwin$Net;)I"⟩ ∈ mj_wd := mj_wi 622 (by decide +kernel) (by decide +kernel)
theorem w_530 : Cond.code ⟨"CircuitTwin$LoopFinder", "leastOnLoop", "(LCircuitTwin$Net;)I"⟩ prog_3_method_2_code 4 (some .int) ∈ mj_wd := mj_wi 623 (by decide +kernel) (by decide +kernel)
theorem w_531 : Cond.methodLink "CircuitTwin$LoopFinder" 18 ⟨"java/util/Arrays", "fill", "([II)V"⟩ ∈ mj_wd := mj_wi 624 (by decide +kernel) (by decide +kernel)
theorem w_532 : Cond.methodLink "CircuitTwin$LoopFinder" 33 ⟨"CircuitTwin$LoopFinder", "comesBack", "(LCircuitTwin$Net;I)Z"⟩ ∈ mj_wd := mj_wi 625 (by decide +kernel) (by decide +kernel)
theorem w_534 : Cond.instanceMethod ⟨"CircuitTwin$LoopFinder", "comesBack", "(LCircuitTwin$Net;I)Z"⟩ ∈ mj_wd := mj_wi 627 (by decide +kernel) (by decide +kernel)
theorem w_535 : Cond.code ⟨"CircuitTwin$LoopFinder", "comesBack", "(LCircuitTwin$Net;I)Z"⟩ prog_3_method_3_code 4 (some .boolean) ∈ mj_wd := mj_wi 628 (by decide +kernel) (by decide +kernel)
theorem w_536 : Cond.methodLink "CircuitTwin$LoopFinder" 43 ⟨"CircuitTwin$LoopFinder", "reachFanins", "(LCircuitTwin$Net;II)V"⟩ ∈ mj_wd := mj_wi 629 (by decide +kernel) (by decide +kernel)
theorem w_538 : Cond.instanceMethod ⟨"CircuitTwin$LoopFinder", "reachFanins", "(LCircuitTwin$Net;II)V"⟩ ∈ mj_wd := mj_wi 631 (by decide +kernel) (by decide +kernel)
theorem w_539 : Cond.code ⟨"CircuitTwin$LoopFinder", "reachFanins", "(LCircuitTwin$Net;II)V"⟩ prog_3_method_4_code 4 (none : Option ClassFile.FieldType) ∈ mj_wd := mj_wi 632 (by decide +kernel) (by decide +kernel)
theorem w_540 : Cond.methodLink "CircuitTwin$LoopFinder" 50 ⟨"CircuitTwin$Net", "slotFor", "(I)I"⟩ ∈ mj_wd := mj_wi 633 (by decide +kernel) (by decide +kernel)
theorem w_541 : Cond.methodLink "CircuitTwin$LoopFinder" 54 ⟨"CircuitTwin$LoopFinder", "reach", "(LCircuitTwin$Net;II)V"⟩ ∈ mj_wd := mj_wi 634 (by decide +kernel) (by decide +kernel)
theorem w_543 : Cond.instanceMethod ⟨"CircuitTwin$LoopFinder", "reach", "(LCircuitTwin$Net;II)V"⟩ ∈ mj_wd := mj_wi 636 (by decide +kernel) (by decide +kernel)
theorem w_544 : Cond.code ⟨"CircuitTwin$LoopFinder", "reach", "(LCircuitTwin$Net;II)V"⟩ prog_3_method_5_code 4 (none : Option ClassFile.FieldType) ∈ mj_wd := mj_wi 637 (by decide +kernel) (by decide +kernel)
theorem w_545 : Cond.constant "CircuitTwin$LoopFinder" 63 (1000000 : Int32) ∈ mj_wd := mj_wi 638 (by decide +kernel) (by decide +kernel)
theorem w_546 : Cond.methodLink "CircuitTwin" 75 ⟨"CircuitTwin$Reader", "exchangeNet", "(LCircuitTwin$Net;)LCircuitTwin$Net;"⟩ ∈ mj_wd := mj_wi 639 (by decide +kernel) (by decide +kernel)
theorem w_547 : Cond.instanceMethod ⟨"CircuitTwin$Reader", "exchangeNet", "(LCircuitTwin$Net;)LCircuitTwin$Net;"⟩ ∈ mj_wd := mj_wi 640 (by decide +kernel) (by decide +kernel)
theorem w_548 : Cond.selects "CircuitTwin$Reader" ⟨"CircuitTwin$Reader", "exchangeNet", "(LCircuitTwin$Net;)LCircuitTwin$Net;"⟩ ⟨"CircuitTwin$Reader", "exchangeNet", "(LCircuitTwin$Net;)LCircuitTwin$Net;"⟩ ∈ mj_wd := mj_wi 641 (by decide +kernel) (by decide +kernel)
theorem w_549 : Cond.code ⟨"CircuitTwin$Reader", "exchangeNet", "(LCircuitTwin$Net;)LCircuitTwin$Net;"⟩ prog_5_method_4_code 3 (some (.object "CircuitTwin$Net")) ∈ mj_wd := mj_wi 642 (by decide +kernel) (by decide +kernel)
theorem w_550 : Cond.methodLink "CircuitTwinLaw" 96 ⟨"CircuitTwinLaw", "literal", "(LCircuitTwin;III[J)I"⟩ ∈ mj_wd := mj_wi 643 (by decide +kernel) (by decide +kernel)
theorem w_551 : Cond.static ⟨"CircuitTwinLaw", "literal", "(LCircuitTwin;III[J)I"⟩ ∈ mj_wd := mj_wi 644 (by decide +kernel) (by decide +kernel)
theorem w_552 : Cond.codeWith ⟨"CircuitTwinLaw", "literal", "(LCircuitTwin;III[J)I"⟩ method_5_code 6 (some .int) [(0, 12, 15, 13), (0, 12, 19, 25)] ∈ mj_wd := mj_wi 645 (by decide +kernel) (by decide +kernel)
theorem w_553 : Cond.classLink "CircuitTwinLaw" 25 "java/util/NoSuchElementException" ∈ mj_wd := mj_wi 646 (by decide +kernel) (by decide +kernel)
theorem w_554 : Cond.methodLink "CircuitTwinLaw" 21 ⟨"CircuitTwin", "literal", "(III)I"⟩ ∈ mj_wd := mj_wi 647 (by decide +kernel) (by decide +kernel)
theorem w_555 : Cond.instanceMethod ⟨"CircuitTwin", "literal", "(III)I"⟩ ∈ mj_wd := mj_wi 648 (by decide +kernel) (by decide +kernel)
theorem w_556 : Cond.selects "CircuitTwin" ⟨"CircuitTwin", "literal", "(III)I"⟩ ⟨"CircuitTwin", "literal", "(III)I"⟩ ∈ mj_wd := mj_wi 649 (by decide +kernel) (by decide +kernel)
theorem w_557 : Cond.code ⟨"CircuitTwin", "literal", "(III)I"⟩ prog_1_method_4_code 5 (some .int) ∈ mj_wd := mj_wi 650 (by decide +kernel) (by decide +kernel)
theorem w_558 : Cond.classLink "CircuitTwin" 97 "java/util/NoSuchElementException" ∈ mj_wd := mj_wi 651 (by decide +kernel) (by decide +kernel)
theorem w_559 : Cond.instantiable "java/util/NoSuchElementException" 6 ∈ mj_wd := mj_wi 652 (by decide +kernel) (by decide +kernel)
theorem w_561 : Cond.selects "java/util/NoSuchElementException" ⟨"java/lang/Throwable", "fillInStackTrace", "(I)Ljava/lang/Throwable;"⟩ ⟨"java/lang/Throwable", "fillInStackTrace", "(I)Ljava/lang/Throwable;"⟩ ∈ mj_wd := mj_wi 654 (by decide +kernel) (by decide +kernel)
theorem w_568 : Cond.methodLink "CircuitTwin" 101 ⟨"java/util/NoSuchElementException", "<init>", "(Ljava/lang/String;)V"⟩ ∈ mj_wd := mj_wi 661 (by decide +kernel) (by decide +kernel)
theorem w_569 : Cond.instanceMethod ⟨"java/util/NoSuchElementException", "<init>", "(Ljava/lang/String;)V"⟩ ∈ mj_wd := mj_wi 662 (by decide +kernel) (by decide +kernel)
theorem w_570 : Cond.code ⟨"java/util/NoSuchElementException", "<init>", "(Ljava/lang/String;)V"⟩ prog_19_method_4_code 2 (none : Option ClassFile.FieldType) ∈ mj_wd := mj_wi 663 (by decide +kernel) (by decide +kernel)
theorem w_571 : Cond.methodLink "java/util/NoSuchElementException" 13 ⟨"java/lang/RuntimeException", "<init>", "(Ljava/lang/String;)V"⟩ ∈ mj_wd := mj_wi 664 (by decide +kernel) (by decide +kernel)
theorem w_574 : Cond.methodLink "CircuitTwinLaw" 100 ⟨"CircuitTwinLaw", "value", "(LCircuitTwin;III[J)I"⟩ ∈ mj_wd := mj_wi 667 (by decide +kernel) (by decide +kernel)
theorem w_575 : Cond.static ⟨"CircuitTwinLaw", "value", "(LCircuitTwin;III[J)I"⟩ ∈ mj_wd := mj_wi 668 (by decide +kernel) (by decide +kernel)
theorem w_576 : Cond.codeWith ⟨"CircuitTwinLaw", "value", "(LCircuitTwin;III[J)I"⟩ method_6_code 6 (some .int) [(0, 12, 15, 13)] ∈ mj_wd := mj_wi 669 (by decide +kernel) (by decide +kernel)
theorem w_577 : Cond.methodLink "CircuitTwinLaw" 27 ⟨"CircuitTwin", "value", "(III)I"⟩ ∈ mj_wd := mj_wi 670 (by decide +kernel) (by decide +kernel)
theorem w_578 : Cond.instanceMethod ⟨"CircuitTwin", "value", "(III)I"⟩ ∈ mj_wd := mj_wi 671 (by decide +kernel) (by decide +kernel)
theorem w_579 : Cond.selects "CircuitTwin" ⟨"CircuitTwin", "value", "(III)I"⟩ ⟨"CircuitTwin", "value", "(III)I"⟩ ∈ mj_wd := mj_wi 672 (by decide +kernel) (by decide +kernel)
theorem w_580 : Cond.code ⟨"CircuitTwin", "value", "(III)I"⟩ prog_1_method_5_code 5 (some .int) ∈ mj_wd := mj_wi 673 (by decide +kernel) (by decide +kernel)
theorem w_581 : Cond.methodLink "CircuitTwin" 102 ⟨"CircuitTwin", "requireStanding", "(LCircuitTwin$Circuit;I)V"⟩ ∈ mj_wd := mj_wi 674 (by decide +kernel) (by decide +kernel)
theorem w_582 : Cond.static ⟨"CircuitTwin", "requireStanding", "(LCircuitTwin$Circuit;I)V"⟩ ∈ mj_wd := mj_wi 675 (by decide +kernel) (by decide +kernel)
theorem w_583 : Cond.code ⟨"CircuitTwin", "requireStanding", "(LCircuitTwin$Circuit;I)V"⟩ prog_1_method_21_code 2 (none : Option ClassFile.FieldType) ∈ mj_wd := mj_wi 676 (by decide +kernel) (by decide +kernel)
theorem w_584 : Cond.methodLink "CircuitTwin" 176 ⟨"CircuitTwin$Net", "stands", "(I)Z"⟩ ∈ mj_wd := mj_wi 677 (by decide +kernel) (by decide +kernel)
theorem w_585 : Cond.instanceMethod ⟨"CircuitTwin$Net", "stands", "(I)Z"⟩ ∈ mj_wd := mj_wi 678 (by decide +kernel) (by decide +kernel)
theorem w_586 : Cond.selects "CircuitTwin$Net" ⟨"CircuitTwin$Net", "stands", "(I)Z"⟩ ⟨"CircuitTwin$Net", "stands", "(I)Z"⟩ ∈ mj_wd := mj_wi 679 (by decide +kernel) (by decide +kernel)
theorem w_587 : Cond.code ⟨"CircuitTwin$Net", "stands", "(I)Z"⟩ prog_4_method_4_code 2 (some .boolean) ∈ mj_wd := mj_wi 680 (by decide +kernel) (by decide +kernel)
theorem w_589 : Cond.methodLink "CircuitTwin" 106 ⟨"CircuitTwin", "requireVector", "(LCircuitTwin$Circuit;I)V"⟩ ∈ mj_wd := mj_wi 682 (by decide +kernel) (by decide +kernel)
theorem w_590 : Cond.static ⟨"CircuitTwin", "requireVector", "(LCircuitTwin$Circuit;I)V"⟩ ∈ mj_wd := mj_wi 683 (by decide +kernel) (by decide +kernel)
theorem w_591 : Cond.code ⟨"CircuitTwin", "requireVector", "(LCircuitTwin$Circuit;I)V"⟩ prog_1_method_22_code 2 (none : Option ClassFile.FieldType) ∈ mj_wd := mj_wi 684 (by decide +kernel) (by decide +kernel)
theorem w_593 : Cond.methodLink "CircuitTwin" 109 ⟨"CircuitTwin$Circuit", "bitAt", "(II)I"⟩ ∈ mj_wd := mj_wi 686 (by decide +kernel) (by decide +kernel)
theorem w_594 : Cond.instanceMethod ⟨"CircuitTwin$Circuit", "bitAt", "(II)I"⟩ ∈ mj_wd := mj_wi 687 (by decide +kernel) (by decide +kernel)
theorem w_595 : Cond.selects "CircuitTwin$Circuit" ⟨"CircuitTwin$Circuit", "bitAt", "(II)I"⟩ ⟨"CircuitTwin$Circuit", "bitAt", "(II)I"⟩ ∈ mj_wd := mj_wi 688 (by decide +kernel) (by decide +kernel)
theorem w_596 : Cond.code ⟨"CircuitTwin$Circuit", "bitAt", "(II)I"⟩ prog_2_method_14_code 5 (some .int) ∈ mj_wd := mj_wi 689 (by decide +kernel) (by decide +kernel)
theorem w_597 : Cond.methodLink "CircuitTwinLaw" 103 ⟨"CircuitTwinLaw", "compare", "(LCircuitTwin;[J)I"⟩ ∈ mj_wd := mj_wi 690 (by decide +kernel) (by decide +kernel)
theorem w_598 : Cond.static ⟨"CircuitTwinLaw", "compare", "(LCircuitTwin;[J)I"⟩ ∈ mj_wd := mj_wi 691 (by decide +kernel) (by decide +kernel)
theorem w_599 : Cond.codeWith ⟨"CircuitTwinLaw", "compare", "(LCircuitTwin;[J)I"⟩ method_7_code 3 (some .int) [(0, 8, 11, 15)] ∈ mj_wd := mj_wi 692 (by decide +kernel) (by decide +kernel)
theorem w_600 : Cond.methodLink "CircuitTwinLaw" 30 ⟨"CircuitTwin", "compare", "()I"⟩ ∈ mj_wd := mj_wi 693 (by decide +kernel) (by decide +kernel)
theorem w_601 : Cond.instanceMethod ⟨"CircuitTwin", "compare", "()I"⟩ ∈ mj_wd := mj_wi 694 (by decide +kernel) (by decide +kernel)
theorem w_602 : Cond.selects "CircuitTwin" ⟨"CircuitTwin", "compare", "()I"⟩ ⟨"CircuitTwin", "compare", "()I"⟩ ∈ mj_wd := mj_wi 695 (by decide +kernel) (by decide +kernel)
theorem w_603 : Cond.code ⟨"CircuitTwin", "compare", "()I"⟩ prog_1_method_6_code 2 (some .int) ∈ mj_wd := mj_wi 696 (by decide +kernel) (by decide +kernel)
theorem w_604 : Cond.methodLink "CircuitTwin" 113 ⟨"CircuitTwin", "requireMatch", "()V"⟩ ∈ mj_wd := mj_wi 697 (by decide +kernel) (by decide +kernel)
theorem w_606 : Cond.instanceMethod ⟨"CircuitTwin", "requireMatch", "()V"⟩ ∈ mj_wd := mj_wi 699 (by decide +kernel) (by decide +kernel)
theorem w_607 : Cond.code ⟨"CircuitTwin", "requireMatch", "()V"⟩ prog_1_method_24_code 1 (none : Option ClassFile.FieldType) ∈ mj_wd := mj_wi 700 (by decide +kernel) (by decide +kernel)
theorem w_609 : Cond.methodLink "CircuitTwin" 116 ⟨"CircuitTwin", "leastDifference", "(I)I"⟩ ∈ mj_wd := mj_wi 702 (by decide +kernel) (by decide +kernel)
theorem w_611 : Cond.instanceMethod ⟨"CircuitTwin", "leastDifference", "(I)I"⟩ ∈ mj_wd := mj_wi 704 (by decide +kernel) (by decide +kernel)
theorem w_612 : Cond.code ⟨"CircuitTwin", "leastDifference", "(I)I"⟩ prog_1_method_25_code 2 (some .int) ∈ mj_wd := mj_wi 705 (by decide +kernel) (by decide +kernel)
theorem w_613 : Cond.methodLink "CircuitTwin" 188 ⟨"CircuitTwin$Circuit", "firstDifference", "(ILCircuitTwin$Circuit;I)I"⟩ ∈ mj_wd := mj_wi 706 (by decide +kernel) (by decide +kernel)
theorem w_614 : Cond.instanceMethod ⟨"CircuitTwin$Circuit", "firstDifference", "(ILCircuitTwin$Circuit;I)I"⟩ ∈ mj_wd := mj_wi 707 (by decide +kernel) (by decide +kernel)
theorem w_615 : Cond.selects "CircuitTwin$Circuit" ⟨"CircuitTwin$Circuit", "firstDifference", "(ILCircuitTwin$Circuit;I)I"⟩ ⟨"CircuitTwin$Circuit", "firstDifference", "(ILCircuitTwin$Circuit;I)I"⟩ ∈ mj_wd := mj_wi 708 (by decide +kernel) (by decide +kernel)
theorem w_616 : Cond.code ⟨"CircuitTwin$Circuit", "firstDifference", "(ILCircuitTwin$Circuit;I)I"⟩ prog_2_method_17_code 11 (some .int) ∈ mj_wd := mj_wi 709 (by decide +kernel) (by decide +kernel)
theorem w_617 : Cond.methodLink "CircuitTwin$Circuit" 110 ⟨"java/lang/Long", "numberOfTrailingZeros", "(J)I"⟩ ∈ mj_wd := mj_wi 710 (by decide +kernel) (by decide +kernel)
theorem w_618 : Cond.static ⟨"java/lang/Long", "numberOfTrailingZeros", "(J)I"⟩ ∈ mj_wd := mj_wi 711 (by decide +kernel) (by decide +kernel)
theorem w_619 : Cond.code ⟨"java/lang/Long", "numberOfTrailingZeros", "(J)I"⟩ prog_13_method_49_code 3 (some .int) ∈ mj_wd := mj_wi 712 (by decide +kernel) (by decide +kernel)
theorem w_620 : Cond.methodLink "java/lang/Long" 311 ⟨"java/lang/Integer", "numberOfTrailingZeros", "(I)I"⟩ ∈ mj_wd := mj_wi 713 (by decide +kernel) (by decide +kernel)
theorem w_621 : Cond.static ⟨"java/lang/Integer", "numberOfTrailingZeros", "(I)I"⟩ ∈ mj_wd := mj_wi 714 (by decide +kernel) (by decide +kernel)
theorem w_622 : Cond.code ⟨"java/lang/Integer", "numberOfTrailingZeros", "(I)I"⟩ prog_12_method_48_code 2 (some .int) ∈ mj_wd := mj_wi 715 (by decide +kernel) (by decide +kernel)
theorem w_623 : Cond.constant "java/lang/Integer" 264 (65536 : Int32) ∈ mj_wd := mj_wi 716 (by decide +kernel) (by decide +kernel)
theorem w_624 : Cond.methodLink "CircuitTwinLaw" 107 ⟨"CircuitTwinLaw", "witness", "(LCircuitTwin;I[J)I"⟩ ∈ mj_wd := mj_wi 717 (by decide +kernel) (by decide +kernel)
theorem w_625 : Cond.static ⟨"CircuitTwinLaw", "witness", "(LCircuitTwin;I[J)I"⟩ ∈ mj_wd := mj_wi 718 (by decide +kernel) (by decide +kernel)
theorem w_626 : Cond.codeWith ⟨"CircuitTwinLaw", "witness", "(LCircuitTwin;I[J)I"⟩ method_8_code 4 (some .int) [(0, 9, 12, 15), (0, 9, 15, 25)] ∈ mj_wd := mj_wi 719 (by decide +kernel) (by decide +kernel)
theorem w_627 : Cond.methodLink "CircuitTwinLaw" 34 ⟨"CircuitTwin", "witness", "(I)I"⟩ ∈ mj_wd := mj_wi 720 (by decide +kernel) (by decide +kernel)
theorem w_628 : Cond.instanceMethod ⟨"CircuitTwin", "witness", "(I)I"⟩ ∈ mj_wd := mj_wi 721 (by decide +kernel) (by decide +kernel)
theorem w_629 : Cond.selects "CircuitTwin" ⟨"CircuitTwin", "witness", "(I)I"⟩ ⟨"CircuitTwin", "witness", "(I)I"⟩ ∈ mj_wd := mj_wi 722 (by decide +kernel) (by decide +kernel)
theorem w_630 : Cond.code ⟨"CircuitTwin", "witness", "(I)I"⟩ prog_1_method_7_code 2 (some .int) ∈ mj_wd := mj_wi 723 (by decide +kernel) (by decide +kernel)
theorem w_632 : Cond.methodLink "CircuitTwinLaw" 110 ⟨"CircuitTwinLaw", "least", "(LCircuitTwin;III[J)I"⟩ ∈ mj_wd := mj_wi 725 (by decide +kernel) (by decide +kernel)
theorem w_633 : Cond.static ⟨"CircuitTwinLaw", "least", "(LCircuitTwin;III[J)I"⟩ ∈ mj_wd := mj_wi 726 (by decide +kernel) (by decide +kernel)
theorem w_634 : Cond.codeWith ⟨"CircuitTwinLaw", "least", "(LCircuitTwin;III[J)I"⟩ method_9_code 6 (some .int) [(0, 12, 15, 13)] ∈ mj_wd := mj_wi 727 (by decide +kernel) (by decide +kernel)
theorem w_635 : Cond.methodLink "CircuitTwinLaw" 37 ⟨"CircuitTwin", "least", "(III)I"⟩ ∈ mj_wd := mj_wi 728 (by decide +kernel) (by decide +kernel)
theorem w_636 : Cond.instanceMethod ⟨"CircuitTwin", "least", "(III)I"⟩ ∈ mj_wd := mj_wi 729 (by decide +kernel) (by decide +kernel)
theorem w_637 : Cond.selects "CircuitTwin" ⟨"CircuitTwin", "least", "(III)I"⟩ ⟨"CircuitTwin", "least", "(III)I"⟩ ∈ mj_wd := mj_wi 730 (by decide +kernel) (by decide +kernel)
theorem w_638 : Cond.code ⟨"CircuitTwin", "least", "(III)I"⟩ prog_1_method_8_code 5 (some .int) ∈ mj_wd := mj_wi 731 (by decide +kernel) (by decide +kernel)
theorem w_639 : Cond.methodLink "CircuitTwin" 122 ⟨"CircuitTwin$Circuit", "firstOne", "(II)I"⟩ ∈ mj_wd := mj_wi 732 (by decide +kernel) (by decide +kernel)
theorem w_640 : Cond.instanceMethod ⟨"CircuitTwin$Circuit", "firstOne", "(II)I"⟩ ∈ mj_wd := mj_wi 733 (by decide +kernel) (by decide +kernel)
theorem w_641 : Cond.selects "CircuitTwin$Circuit" ⟨"CircuitTwin$Circuit", "firstOne", "(II)I"⟩ ⟨"CircuitTwin$Circuit", "firstOne", "(II)I"⟩ ∈ mj_wd := mj_wi 734 (by decide +kernel) (by decide +kernel)
theorem w_642 : Cond.code ⟨"CircuitTwin$Circuit", "firstOne", "(II)I"⟩ prog_2_method_15_code 10 (some .int) ∈ mj_wd := mj_wi 735 (by decide +kernel) (by decide +kernel)
theorem w_643 : Cond.methodLink "CircuitTwinLaw" 113 ⟨"CircuitTwinLaw", "greatest", "(LCircuitTwin;II[J)I"⟩ ∈ mj_wd := mj_wi 736 (by decide +kernel) (by decide +kernel)
theorem w_644 : Cond.static ⟨"CircuitTwinLaw", "greatest", "(LCircuitTwin;II[J)I"⟩ ∈ mj_wd := mj_wi 737 (by decide +kernel) (by decide +kernel)
theorem w_645 : Cond.codeWith ⟨"CircuitTwinLaw", "greatest", "(LCircuitTwin;II[J)I"⟩ method_10_code 5 (some .int) [(0, 10, 13, 13)] ∈ mj_wd := mj_wi 738 (by decide +kernel) (by decide +kernel)
theorem w_646 : Cond.methodLink "CircuitTwinLaw" 40 ⟨"CircuitTwin", "greatest", "(II)I"⟩ ∈ mj_wd := mj_wi 739 (by decide +kernel) (by decide +kernel)
theorem w_647 : Cond.instanceMethod ⟨"CircuitTwin", "greatest", "(II)I"⟩ ∈ mj_wd := mj_wi 740 (by decide +kernel) (by decide +kernel)
theorem w_648 : Cond.selects "CircuitTwin" ⟨"CircuitTwin", "greatest", "(II)I"⟩ ⟨"CircuitTwin", "greatest", "(II)I"⟩ ∈ mj_wd := mj_wi 741 (by decide +kernel) (by decide +kernel)
theorem w_649 : Cond.code ⟨"CircuitTwin", "greatest", "(II)I"⟩ prog_1_method_9_code 4 (some .int) ∈ mj_wd := mj_wi 742 (by decide +kernel) (by decide +kernel)
theorem w_650 : Cond.methodLink "CircuitTwin" 125 ⟨"CircuitTwin$Circuit", "lastOne", "(I)I"⟩ ∈ mj_wd := mj_wi 743 (by decide +kernel) (by decide +kernel)
theorem w_651 : Cond.instanceMethod ⟨"CircuitTwin$Circuit", "lastOne", "(I)I"⟩ ∈ mj_wd := mj_wi 744 (by decide +kernel) (by decide +kernel)
theorem w_652 : Cond.selects "CircuitTwin$Circuit" ⟨"CircuitTwin$Circuit", "lastOne", "(I)I"⟩ ⟨"CircuitTwin$Circuit", "lastOne", "(I)I"⟩ ∈ mj_wd := mj_wi 745 (by decide +kernel) (by decide +kernel)
theorem w_653 : Cond.code ⟨"CircuitTwin$Circuit", "lastOne", "(I)I"⟩ prog_2_method_16_code 8 (some .int) ∈ mj_wd := mj_wi 746 (by decide +kernel) (by decide +kernel)
theorem w_654 : Cond.methodLink "CircuitTwin$Circuit" 116 ⟨"java/lang/Long", "numberOfLeadingZeros", "(J)I"⟩ ∈ mj_wd := mj_wi 747 (by decide +kernel) (by decide +kernel)
theorem w_655 : Cond.static ⟨"java/lang/Long", "numberOfLeadingZeros", "(J)I"⟩ ∈ mj_wd := mj_wi 748 (by decide +kernel) (by decide +kernel)
theorem w_656 : Cond.code ⟨"java/lang/Long", "numberOfLeadingZeros", "(J)I"⟩ prog_13_method_48_code 3 (some .int) ∈ mj_wd := mj_wi 749 (by decide +kernel) (by decide +kernel)
theorem w_657 : Cond.methodLink "java/lang/Long" 308 ⟨"java/lang/Integer", "numberOfLeadingZeros", "(I)I"⟩ ∈ mj_wd := mj_wi 750 (by decide +kernel) (by decide +kernel)
theorem w_658 : Cond.static ⟨"java/lang/Integer", "numberOfLeadingZeros", "(I)I"⟩ ∈ mj_wd := mj_wi 751 (by decide +kernel) (by decide +kernel)
theorem w_659 : Cond.code ⟨"java/lang/Integer", "numberOfLeadingZeros", "(I)I"⟩ prog_12_method_47_code 2 (some .int) ∈ mj_wd := mj_wi 752 (by decide +kernel) (by decide +kernel)
theorem w_660 : Cond.methodLink "CircuitTwinLaw" 117 ⟨"CircuitTwinLaw", "same", "(LCircuitTwin;II[J)I"⟩ ∈ mj_wd := mj_wi 753 (by decide +kernel) (by decide +kernel)
theorem w_661 : Cond.static ⟨"CircuitTwinLaw", "same", "(LCircuitTwin;II[J)I"⟩ ∈ mj_wd := mj_wi 754 (by decide +kernel) (by decide +kernel)
theorem w_662 : Cond.codeWith ⟨"CircuitTwinLaw", "same", "(LCircuitTwin;II[J)I"⟩ method_11_code 5 (some .int) [(0, 10, 13, 13), (0, 10, 17, 15)] ∈ mj_wd := mj_wi 755 (by decide +kernel) (by decide +kernel)
theorem w_663 : Cond.methodLink "CircuitTwinLaw" 44 ⟨"CircuitTwin", "same", "(II)I"⟩ ∈ mj_wd := mj_wi 756 (by decide +kernel) (by decide +kernel)
theorem w_664 : Cond.instanceMethod ⟨"CircuitTwin", "same", "(II)I"⟩ ∈ mj_wd := mj_wi 757 (by decide +kernel) (by decide +kernel)
theorem w_665 : Cond.selects "CircuitTwin" ⟨"CircuitTwin", "same", "(II)I"⟩ ⟨"CircuitTwin", "same", "(II)I"⟩ ∈ mj_wd := mj_wi 758 (by decide +kernel) (by decide +kernel)
theorem w_666 : Cond.code ⟨"CircuitTwin", "same", "(II)I"⟩ prog_1_method_10_code 5 (some .int) ∈ mj_wd := mj_wi 759 (by decide +kernel) (by decide +kernel)
theorem w_667 : Cond.methodLink "CircuitTwin" 128 ⟨"CircuitTwin$Net", "slotFor", "(I)I"⟩ ∈ mj_wd := mj_wi 760 (by decide +kernel) (by decide +kernel)
theorem w_668 : Cond.methodLink "CircuitTwin" 131 ⟨"CircuitTwin$Circuit", "isSameOrInverse", "(ILCircuitTwin$Circuit;I)Z"⟩ ∈ mj_wd := mj_wi 761 (by decide +kernel) (by decide +kernel)
theorem w_669 : Cond.methodLink "CircuitTwinLaw" 120 ⟨"CircuitTwinLaw", "implies", "(LCircuitTwin;III[J)I"⟩ ∈ mj_wd := mj_wi 762 (by decide +kernel) (by decide +kernel)
theorem w_670 : Cond.static ⟨"CircuitTwinLaw", "implies", "(LCircuitTwin;III[J)I"⟩ ∈ mj_wd := mj_wi 763 (by decide +kernel) (by decide +kernel)
theorem w_671 : Cond.codeWith ⟨"CircuitTwinLaw", "implies", "(LCircuitTwin;III[J)I"⟩ method_12_code 6 (some .int) [(0, 19, 22, 13)] ∈ mj_wd := mj_wi 764 (by decide +kernel) (by decide +kernel)
theorem w_672 : Cond.methodLink "CircuitTwinLaw" 47 ⟨"CircuitTwin", "implies", "(III)Z"⟩ ∈ mj_wd := mj_wi 765 (by decide +kernel) (by decide +kernel)
theorem w_673 : Cond.instanceMethod ⟨"CircuitTwin", "implies", "(III)Z"⟩ ∈ mj_wd := mj_wi 766 (by decide +kernel) (by decide +kernel)
theorem w_674 : Cond.selects "CircuitTwin" ⟨"CircuitTwin", "implies", "(III)Z"⟩ ⟨"CircuitTwin", "implies", "(III)Z"⟩ ∈ mj_wd := mj_wi 767 (by decide +kernel) (by decide +kernel)
theorem w_675 : Cond.code ⟨"CircuitTwin", "implies", "(III)Z"⟩ prog_1_method_11_code 5 (some .boolean) ∈ mj_wd := mj_wi 768 (by decide +kernel) (by decide +kernel)
theorem w_676 : Cond.methodLink "CircuitTwin" 135 ⟨"CircuitTwin$Circuit", "isWithin", "(II)Z"⟩ ∈ mj_wd := mj_wi 769 (by decide +kernel) (by decide +kernel)
theorem w_677 : Cond.instanceMethod ⟨"CircuitTwin$Circuit", "isWithin", "(II)Z"⟩ ∈ mj_wd := mj_wi 770 (by decide +kernel) (by decide +kernel)
theorem w_678 : Cond.selects "CircuitTwin$Circuit" ⟨"CircuitTwin$Circuit", "isWithin", "(II)Z"⟩ ⟨"CircuitTwin$Circuit", "isWithin", "(II)Z"⟩ ∈ mj_wd := mj_wi 771 (by decide +kernel) (by decide +kernel)
theorem w_679 : Cond.code ⟨"CircuitTwin$Circuit", "isWithin", "(II)Z"⟩ prog_2_method_18_code 10 (some .boolean) ∈ mj_wd := mj_wi 772 (by decide +kernel) (by decide +kernel)
theorem w_680 : Cond.methodLink "CircuitTwinLaw" 123 ⟨"CircuitTwinLaw", "depends", "(LCircuitTwin;III[J)I"⟩ ∈ mj_wd := mj_wi 773 (by decide +kernel) (by decide +kernel)
theorem w_681 : Cond.static ⟨"CircuitTwinLaw", "depends", "(LCircuitTwin;III[J)I"⟩ ∈ mj_wd := mj_wi 774 (by decide +kernel) (by decide +kernel)
theorem w_682 : Cond.codeWith ⟨"CircuitTwinLaw", "depends", "(LCircuitTwin;III[J)I"⟩ method_13_code 6 (some .int) [(0, 19, 22, 13), (0, 19, 26, 25)] ∈ mj_wd := mj_wi 775 (by decide +kernel) (by decide +kernel)
theorem w_683 : Cond.methodLink "CircuitTwinLaw" 51 ⟨"CircuitTwin", "depends", "(III)Z"⟩ ∈ mj_wd := mj_wi 776 (by decide +kernel) (by decide +kernel)
theorem w_684 : Cond.instanceMethod ⟨"CircuitTwin", "depends", "(III)Z"⟩ ∈ mj_wd := mj_wi 777 (by decide +kernel) (by decide +kernel)
theorem w_685 : Cond.selects "CircuitTwin" ⟨"CircuitTwin", "depends", "(III)Z"⟩ ⟨"CircuitTwin", "depends", "(III)Z"⟩ ∈ mj_wd := mj_wi 778 (by decide +kernel) (by decide +kernel)
theorem w_686 : Cond.code ⟨"CircuitTwin", "depends", "(III)Z"⟩ prog_1_method_12_code 5 (some .boolean) ∈ mj_wd := mj_wi 779 (by decide +kernel) (by decide +kernel)
theorem w_687 : Cond.methodLink "CircuitTwin" 139 ⟨"CircuitTwin", "requireInput", "(LCircuitTwin$Circuit;I)V"⟩ ∈ mj_wd := mj_wi 780 (by decide +kernel) (by decide +kernel)
theorem w_688 : Cond.static ⟨"CircuitTwin", "requireInput", "(LCircuitTwin$Circuit;I)V"⟩ ∈ mj_wd := mj_wi 781 (by decide +kernel) (by decide +kernel)
theorem w_689 : Cond.code ⟨"CircuitTwin", "requireInput", "(LCircuitTwin$Circuit;I)V"⟩ prog_1_method_23_code 2 (none : Option ClassFile.FieldType) ∈ mj_wd := mj_wi 782 (by decide +kernel) (by decide +kernel)
theorem w_691 : Cond.methodLink "CircuitTwin" 142 ⟨"CircuitTwin$Circuit", "movesOf", "(II)I"⟩ ∈ mj_wd := mj_wi 784 (by decide +kernel) (by decide +kernel)
theorem w_692 : Cond.instanceMethod ⟨"CircuitTwin$Circuit", "movesOf", "(II)I"⟩ ∈ mj_wd := mj_wi 785 (by decide +kernel) (by decide +kernel)
theorem w_693 : Cond.selects "CircuitTwin$Circuit" ⟨"CircuitTwin$Circuit", "movesOf", "(II)I"⟩ ⟨"CircuitTwin$Circuit", "movesOf", "(II)I"⟩ ∈ mj_wd := mj_wi 786 (by decide +kernel) (by decide +kernel)
theorem w_694 : Cond.code ⟨"CircuitTwin$Circuit", "movesOf", "(II)I"⟩ prog_2_method_19_code 15 (some .int) ∈ mj_wd := mj_wi 787 (by decide +kernel) (by decide +kernel)
theorem w_695 : Cond.methodLink "CircuitTwin$Circuit" 119 ⟨"CircuitTwin$Circuit", "halfWithout", "(III)J"⟩ ∈ mj_wd := mj_wi 788 (by decide +kernel) (by decide +kernel)
theorem w_697 : Cond.instanceMethod ⟨"CircuitTwin$Circuit", "halfWithout", "(III)J"⟩ ∈ mj_wd := mj_wi 790 (by decide +kernel) (by decide +kernel)
theorem w_698 : Cond.code ⟨"CircuitTwin$Circuit", "halfWithout", "(III)J"⟩ prog_2_method_20_code 4 (some .long) ∈ mj_wd := mj_wi 791 (by decide +kernel) (by decide +kernel)
theorem w_699 : Cond.methodLink "CircuitTwin$Circuit" 123 ⟨"CircuitTwin$Circuit", "halfWith", "(III)J"⟩ ∈ mj_wd := mj_wi 792 (by decide +kernel) (by decide +kernel)
theorem w_701 : Cond.instanceMethod ⟨"CircuitTwin$Circuit", "halfWith", "(III)J"⟩ ∈ mj_wd := mj_wi 794 (by decide +kernel) (by decide +kernel)
theorem w_702 : Cond.code ⟨"CircuitTwin$Circuit", "halfWith", "(III)J"⟩ prog_2_method_21_code 4 (some .long) ∈ mj_wd := mj_wi 795 (by decide +kernel) (by decide +kernel)
theorem w_703 : Cond.methodLink "CircuitTwinLaw" 126 ⟨"CircuitTwinLaw", "rises", "(LCircuitTwin;III[J)I"⟩ ∈ mj_wd := mj_wi 796 (by decide +kernel) (by decide +kernel)
theorem w_704 : Cond.static ⟨"CircuitTwinLaw", "rises", "(LCircuitTwin;III[J)I"⟩ ∈ mj_wd := mj_wi 797 (by decide +kernel) (by decide +kernel)
theorem w_705 : Cond.codeWith ⟨"CircuitTwinLaw", "rises", "(LCircuitTwin;III[J)I"⟩ method_14_code 6 (some .int) [(0, 12, 15, 13), (0, 12, 19, 25)] ∈ mj_wd := mj_wi 798 (by decide +kernel) (by decide +kernel)
theorem w_706 : Cond.methodLink "CircuitTwinLaw" 54 ⟨"CircuitTwin", "rises", "(III)I"⟩ ∈ mj_wd := mj_wi 799 (by decide +kernel) (by decide +kernel)
theorem w_707 : Cond.instanceMethod ⟨"CircuitTwin", "rises", "(III)I"⟩ ∈ mj_wd := mj_wi 800 (by decide +kernel) (by decide +kernel)
theorem w_708 : Cond.selects "CircuitTwin" ⟨"CircuitTwin", "rises", "(III)I"⟩ ⟨"CircuitTwin", "rises", "(III)I"⟩ ∈ mj_wd := mj_wi 801 (by decide +kernel) (by decide +kernel)
theorem w_709 : Cond.code ⟨"CircuitTwin", "rises", "(III)I"⟩ prog_1_method_13_code 6 (some .int) ∈ mj_wd := mj_wi 802 (by decide +kernel) (by decide +kernel)
theorem w_710 : Cond.methodLink "CircuitTwinLaw" 129 ⟨"CircuitTwinLaw", "leader", "(LCircuitTwin;II[J)I"⟩ ∈ mj_wd := mj_wi 803 (by decide +kernel) (by decide +kernel)
theorem w_711 : Cond.static ⟨"CircuitTwinLaw", "leader", "(LCircuitTwin;II[J)I"⟩ ∈ mj_wd := mj_wi 804 (by decide +kernel) (by decide +kernel)
theorem w_712 : Cond.codeWith ⟨"CircuitTwinLaw", "leader", "(LCircuitTwin;II[J)I"⟩ method_15_code 5 (some .int) [(0, 10, 13, 13)] ∈ mj_wd := mj_wi 805 (by decide +kernel) (by decide +kernel)
theorem w_713 : Cond.methodLink "CircuitTwinLaw" 57 ⟨"CircuitTwin", "leader", "(II)I"⟩ ∈ mj_wd := mj_wi 806 (by decide +kernel) (by decide +kernel)
theorem w_714 : Cond.instanceMethod ⟨"CircuitTwin", "leader", "(II)I"⟩ ∈ mj_wd := mj_wi 807 (by decide +kernel) (by decide +kernel)
theorem w_715 : Cond.selects "CircuitTwin" ⟨"CircuitTwin", "leader", "(II)I"⟩ ⟨"CircuitTwin", "leader", "(II)I"⟩ ∈ mj_wd := mj_wi 808 (by decide +kernel) (by decide +kernel)
theorem w_716 : Cond.code ⟨"CircuitTwin", "leader", "(II)I"⟩ prog_1_method_14_code 4 (some .int) ∈ mj_wd := mj_wi 809 (by decide +kernel) (by decide +kernel)
theorem w_717 : Cond.methodLink "CircuitTwin" 145 ⟨"CircuitTwin$Circuit", "leaderOf", "(I)I"⟩ ∈ mj_wd := mj_wi 810 (by decide +kernel) (by decide +kernel)
theorem w_718 : Cond.instanceMethod ⟨"CircuitTwin$Circuit", "leaderOf", "(I)I"⟩ ∈ mj_wd := mj_wi 811 (by decide +kernel) (by decide +kernel)
theorem w_719 : Cond.selects "CircuitTwin$Circuit" ⟨"CircuitTwin$Circuit", "leaderOf", "(I)I"⟩ ⟨"CircuitTwin$Circuit", "leaderOf", "(I)I"⟩ ∈ mj_wd := mj_wi 812 (by decide +kernel) (by decide +kernel)
theorem w_720 : Cond.code ⟨"CircuitTwin$Circuit", "leaderOf", "(I)I"⟩ prog_2_method_10_code 2 (some .int) ∈ mj_wd := mj_wi 813 (by decide +kernel) (by decide +kernel)
theorem w_721 : Cond.methodLink "CircuitTwinLaw" 132 ⟨"CircuitTwinLaw", "functions", "(LCircuitTwin;I[J)I"⟩ ∈ mj_wd := mj_wi 814 (by decide +kernel) (by decide +kernel)
theorem w_722 : Cond.static ⟨"CircuitTwinLaw", "functions", "(LCircuitTwin;I[J)I"⟩ ∈ mj_wd := mj_wi 815 (by decide +kernel) (by decide +kernel)
theorem w_723 : Cond.codeWith ⟨"CircuitTwinLaw", "functions", "(LCircuitTwin;I[J)I"⟩ method_16_code 4 (some .int) [(0, 9, 12, 13)] ∈ mj_wd := mj_wi 816 (by decide +kernel) (by decide +kernel)
theorem w_724 : Cond.methodLink "CircuitTwinLaw" 60 ⟨"CircuitTwin", "functions", "(I)I"⟩ ∈ mj_wd := mj_wi 817 (by decide +kernel) (by decide +kernel)
theorem w_725 : Cond.instanceMethod ⟨"CircuitTwin", "functions", "(I)I"⟩ ∈ mj_wd := mj_wi 818 (by decide +kernel) (by decide +kernel)
theorem w_726 : Cond.selects "CircuitTwin" ⟨"CircuitTwin", "functions", "(I)I"⟩ ⟨"CircuitTwin", "functions", "(I)I"⟩ ∈ mj_wd := mj_wi 819 (by decide +kernel) (by decide +kernel)
theorem w_727 : Cond.code ⟨"CircuitTwin", "functions", "(I)I"⟩ prog_1_method_15_code 2 (some .int) ∈ mj_wd := mj_wi 820 (by decide +kernel) (by decide +kernel)
theorem w_728 : Cond.methodLink "CircuitTwinLaw" 135 ⟨"CircuitTwinLaw", "allFunctions", "(LCircuitTwin;[J)I"⟩ ∈ mj_wd := mj_wi 821 (by decide +kernel) (by decide +kernel)
theorem w_729 : Cond.static ⟨"CircuitTwinLaw", "allFunctions", "(LCircuitTwin;[J)I"⟩ ∈ mj_wd := mj_wi 822 (by decide +kernel) (by decide +kernel)
theorem w_730 : Cond.codeWith ⟨"CircuitTwinLaw", "allFunctions", "(LCircuitTwin;[J)I"⟩ method_17_code 3 (some .int) [(0, 8, 11, 15)] ∈ mj_wd := mj_wi 823 (by decide +kernel) (by decide +kernel)
theorem w_731 : Cond.methodLink "CircuitTwinLaw" 63 ⟨"CircuitTwin", "allFunctions", "()I"⟩ ∈ mj_wd := mj_wi 824 (by decide +kernel) (by decide +kernel)
theorem w_732 : Cond.instanceMethod ⟨"CircuitTwin", "allFunctions", "()I"⟩ ∈ mj_wd := mj_wi 825 (by decide +kernel) (by decide +kernel)
theorem w_733 : Cond.selects "CircuitTwin" ⟨"CircuitTwin", "allFunctions", "()I"⟩ ⟨"CircuitTwin", "allFunctions", "()I"⟩ ∈ mj_wd := mj_wi 826 (by decide +kernel) (by decide +kernel)
theorem w_734 : Cond.code ⟨"CircuitTwin", "allFunctions", "()I"⟩ prog_1_method_16_code 1 (some .int) ∈ mj_wd := mj_wi 827 (by decide +kernel) (by decide +kernel)
theorem w_735 : Cond.methodLink "CircuitTwin" 151 ⟨"CircuitTwin$Circuit", "kindsNotIn", "(LCircuitTwin$Circuit;)I"⟩ ∈ mj_wd := mj_wi 828 (by decide +kernel) (by decide +kernel)
theorem w_736 : Cond.instanceMethod ⟨"CircuitTwin$Circuit", "kindsNotIn", "(LCircuitTwin$Circuit;)I"⟩ ∈ mj_wd := mj_wi 829 (by decide +kernel) (by decide +kernel)
theorem w_737 : Cond.selects "CircuitTwin$Circuit" ⟨"CircuitTwin$Circuit", "kindsNotIn", "(LCircuitTwin$Circuit;)I"⟩ ⟨"CircuitTwin$Circuit", "kindsNotIn", "(LCircuitTwin$Circuit;)I"⟩ ∈ mj_wd := mj_wi 830 (by decide +kernel) (by decide +kernel)
theorem w_738 : Cond.code ⟨"CircuitTwin$Circuit", "kindsNotIn", "(LCircuitTwin$Circuit;)I"⟩ prog_2_method_9_code 5 (some .int) ∈ mj_wd := mj_wi 831 (by decide +kernel) (by decide +kernel)
theorem w_739 : Cond.methodLink "CircuitTwinLaw" 138 ⟨"CircuitTwinLaw", "write", "(LCircuitTwin;IZZ[J)I"⟩ ∈ mj_wd := mj_wi 832 (by decide +kernel) (by decide +kernel)
theorem w_740 : Cond.static ⟨"CircuitTwinLaw", "write", "(LCircuitTwin;IZZ[J)I"⟩ ∈ mj_wd := mj_wi 833 (by decide +kernel) (by decide +kernel)
theorem w_741 : Cond.codeWith ⟨"CircuitTwinLaw", "write", "(LCircuitTwin;IZZ[J)I"⟩ method_18_code 6 (some .int) [(0, 12, 15, 13)] ∈ mj_wd := mj_wi 834 (by decide +kernel) (by decide +kernel)
theorem w_742 : Cond.methodLink "CircuitTwinLaw" 66 ⟨"CircuitTwin", "write", "(IZZ)I"⟩ ∈ mj_wd := mj_wi 835 (by decide +kernel) (by decide +kernel)
theorem w_743 : Cond.instanceMethod ⟨"CircuitTwin", "write", "(IZZ)I"⟩ ∈ mj_wd := mj_wi 836 (by decide +kernel) (by decide +kernel)
theorem w_744 : Cond.selects "CircuitTwin" ⟨"CircuitTwin", "write", "(IZZ)I"⟩ ⟨"CircuitTwin", "write", "(IZZ)I"⟩ ∈ mj_wd := mj_wi 837 (by decide +kernel) (by decide +kernel)
theorem w_745 : Cond.code ⟨"CircuitTwin", "write", "(IZZ)I"⟩ prog_1_method_17_code 4 (some .int) ∈ mj_wd := mj_wi 838 (by decide +kernel) (by decide +kernel)
theorem w_746 : Cond.methodLink "CircuitTwin" 155 ⟨"CircuitTwin$Writer", "writeText", "(LCircuitTwin$Circuit;ZZ)I"⟩ ∈ mj_wd := mj_wi 839 (by decide +kernel) (by decide +kernel)
theorem w_747 : Cond.instanceMethod ⟨"CircuitTwin$Writer", "writeText", "(LCircuitTwin$Circuit;ZZ)I"⟩ ∈ mj_wd := mj_wi 840 (by decide +kernel) (by decide +kernel)
theorem w_748 : Cond.selects "CircuitTwin$Writer" ⟨"CircuitTwin$Writer", "writeText", "(LCircuitTwin$Circuit;ZZ)I"⟩ ⟨"CircuitTwin$Writer", "writeText", "(LCircuitTwin$Circuit;ZZ)I"⟩ ∈ mj_wd := mj_wi 841 (by decide +kernel) (by decide +kernel)
theorem w_749 : Cond.code ⟨"CircuitTwin$Writer", "writeText", "(LCircuitTwin$Circuit;ZZ)I"⟩ prog_6_method_3_code 5 (some .int) ∈ mj_wd := mj_wi 842 (by decide +kernel) (by decide +kernel)
theorem w_750 : Cond.methodLink "CircuitTwin$Writer" 40 ⟨"CircuitTwin$Writer", "measure", "(LCircuitTwin$Circuit;)V"⟩ ∈ mj_wd := mj_wi 843 (by decide +kernel) (by decide +kernel)
theorem w_752 : Cond.instanceMethod ⟨"CircuitTwin$Writer", "measure", "(LCircuitTwin$Circuit;)V"⟩ ∈ mj_wd := mj_wi 845 (by decide +kernel) (by decide +kernel)
theorem w_753 : Cond.code ⟨"CircuitTwin$Writer", "measure", "(LCircuitTwin$Circuit;)V"⟩ prog_6_method_6_code 7 (none : Option ClassFile.FieldType) ∈ mj_wd := mj_wi 846 (by decide +kernel) (by decide +kernel)
theorem w_754 : Cond.methodLink "CircuitTwin$Writer" 90 ⟨"java/util/Arrays", "fill", "([II)V"⟩ ∈ mj_wd := mj_wi 847 (by decide +kernel) (by decide +kernel)
theorem w_755 : Cond.methodLink "CircuitTwin$Writer" 103 ⟨"CircuitTwin$Writer", "finalSlot", "(LCircuitTwin$Circuit;I)I"⟩ ∈ mj_wd := mj_wi 848 (by decide +kernel) (by decide +kernel)
theorem w_757 : Cond.instanceMethod ⟨"CircuitTwin$Writer", "finalSlot", "(LCircuitTwin$Circuit;I)I"⟩ ∈ mj_wd := mj_wi 850 (by decide +kernel) (by decide +kernel)
theorem w_758 : Cond.code ⟨"CircuitTwin$Writer", "finalSlot", "(LCircuitTwin$Circuit;I)I"⟩ prog_6_method_5_code 3 (some .int) ∈ mj_wd := mj_wi 851 (by decide +kernel) (by decide +kernel)
theorem w_759 : Cond.methodLink "CircuitTwin$Writer" 83 ⟨"CircuitTwin$Writer", "finalLiteral", "(LCircuitTwin$Circuit;I)I"⟩ ∈ mj_wd := mj_wi 852 (by decide +kernel) (by decide +kernel)
theorem w_761 : Cond.instanceMethod ⟨"CircuitTwin$Writer", "finalLiteral", "(LCircuitTwin$Circuit;I)I"⟩ ∈ mj_wd := mj_wi 854 (by decide +kernel) (by decide +kernel)
theorem w_762 : Cond.code ⟨"CircuitTwin$Writer", "finalLiteral", "(LCircuitTwin$Circuit;I)I"⟩ prog_6_method_4_code 3 (some .int) ∈ mj_wd := mj_wi 855 (by decide +kernel) (by decide +kernel)
theorem w_763 : Cond.methodLink "CircuitTwin$Writer" 79 ⟨"CircuitTwin$Circuit", "leaderOf", "(I)I"⟩ ∈ mj_wd := mj_wi 856 (by decide +kernel) (by decide +kernel)
theorem w_764 : Cond.methodLink "CircuitTwin$Writer" 87 ⟨"CircuitTwin$Net", "slotFor", "(I)I"⟩ ∈ mj_wd := mj_wi 857 (by decide +kernel) (by decide +kernel)
theorem w_765 : Cond.methodLink "CircuitTwin$Writer" 109 ⟨"java/lang/Math", "max", "(II)I"⟩ ∈ mj_wd := mj_wi 858 (by decide +kernel) (by decide +kernel)
theorem w_766 : Cond.static ⟨"java/lang/Math", "max", "(II)I"⟩ ∈ mj_wd := mj_wi 859 (by decide +kernel) (by decide +kernel)
theorem w_767 : Cond.code ⟨"java/lang/Math", "max", "(II)I"⟩ prog_14_method_65_code 2 (some .int) ∈ mj_wd := mj_wi 860 (by decide +kernel) (by decide +kernel)
theorem w_768 : Cond.methodLink "CircuitTwin$Writer" 44 ⟨"CircuitTwin$Writer", "markNeeded", "(LCircuitTwin$Circuit;)V"⟩ ∈ mj_wd := mj_wi 861 (by decide +kernel) (by decide +kernel)
theorem w_770 : Cond.instanceMethod ⟨"CircuitTwin$Writer", "markNeeded", "(LCircuitTwin$Circuit;)V"⟩ ∈ mj_wd := mj_wi 863 (by decide +kernel) (by decide +kernel)
theorem w_771 : Cond.code ⟨"CircuitTwin$Writer", "markNeeded", "(LCircuitTwin$Circuit;)V"⟩ prog_6_method_7_code 5 (none : Option ClassFile.FieldType) ∈ mj_wd := mj_wi 864 (by decide +kernel) (by decide +kernel)
theorem w_772 : Cond.methodLink "CircuitTwin$Writer" 53 ⟨"CircuitTwin$Writer", "numberGates", "(LCircuitTwin$Net;)V"⟩ ∈ mj_wd := mj_wi 865 (by decide +kernel) (by decide +kernel)
theorem w_774 : Cond.instanceMethod ⟨"CircuitTwin$Writer", "numberGates", "(LCircuitTwin$Net;)V"⟩ ∈ mj_wd := mj_wi 867 (by decide +kernel) (by decide +kernel)
theorem w_775 : Cond.code ⟨"CircuitTwin$Writer", "numberGates", "(LCircuitTwin$Net;)V"⟩ prog_6_method_8_code 4 (none : Option ClassFile.FieldType) ∈ mj_wd := mj_wi 868 (by decide +kernel) (by decide +kernel)
theorem w_776 : Cond.methodLink "CircuitTwin$Writer" 121 ⟨"CircuitTwin$Writer", "countDepths", "(LCircuitTwin$Net;)V"⟩ ∈ mj_wd := mj_wi 869 (by decide +kernel) (by decide +kernel)
theorem w_778 : Cond.instanceMethod ⟨"CircuitTwin$Writer", "countDepths", "(LCircuitTwin$Net;)V"⟩ ∈ mj_wd := mj_wi 871 (by decide +kernel) (by decide +kernel)
theorem w_779 : Cond.code ⟨"CircuitTwin$Writer", "countDepths", "(LCircuitTwin$Net;)V"⟩ prog_6_method_9_code 3 (none : Option ClassFile.FieldType) ∈ mj_wd := mj_wi 872 (by decide +kernel) (by decide +kernel)
theorem w_780 : Cond.methodLink "CircuitTwin$Writer" 130 ⟨"CircuitTwin$Net", "isGate", "(I)Z"⟩ ∈ mj_wd := mj_wi 873 (by decide +kernel) (by decide +kernel)
theorem w_781 : Cond.methodLink "CircuitTwin$Writer" 57 ⟨"CircuitTwin$Writer", "putFirstLine", "(LCircuitTwin$Net;Z)V"⟩ ∈ mj_wd := mj_wi 874 (by decide +kernel) (by decide +kernel)
theorem w_783 : Cond.instanceMethod ⟨"CircuitTwin$Writer", "putFirstLine", "(LCircuitTwin$Net;Z)V"⟩ ∈ mj_wd := mj_wi 876 (by decide +kernel) (by decide +kernel)
theorem w_784 : Cond.code ⟨"CircuitTwin$Writer", "putFirstLine", "(LCircuitTwin$Net;Z)V"⟩ prog_6_method_11_code 3 (none : Option ClassFile.FieldType) ∈ mj_wd := mj_wi 877 (by decide +kernel) (by decide +kernel)
theorem w_785 : Cond.methodLink "CircuitTwin$Writer" 134 ⟨"CircuitTwin$Writer", "putByte", "(I)V"⟩ ∈ mj_wd := mj_wi 878 (by decide +kernel) (by decide +kernel)
theorem w_787 : Cond.instanceMethod ⟨"CircuitTwin$Writer", "putByte", "(I)V"⟩ ∈ mj_wd := mj_wi 880 (by decide +kernel) (by decide +kernel)
theorem w_788 : Cond.code ⟨"CircuitTwin$Writer", "putByte", "(I)V"⟩ prog_6_method_17_code 2 (none : Option ClassFile.FieldType) ∈ mj_wd := mj_wi 881 (by decide +kernel) (by decide +kernel)
theorem w_789 : Cond.methodLink "CircuitTwin$Writer" 138 ⟨"CircuitTwin$Writer", "putNumber", "(II)V"⟩ ∈ mj_wd := mj_wi 882 (by decide +kernel) (by decide +kernel)
theorem w_791 : Cond.instanceMethod ⟨"CircuitTwin$Writer", "putNumber", "(II)V"⟩ ∈ mj_wd := mj_wi 884 (by decide +kernel) (by decide +kernel)
theorem w_792 : Cond.code ⟨"CircuitTwin$Writer", "putNumber", "(II)V"⟩ prog_6_method_16_code 3 (none : Option ClassFile.FieldType) ∈ mj_wd := mj_wi 885 (by decide +kernel) (by decide +kernel)
theorem w_793 : Cond.methodLink "CircuitTwin$Writer" 61 ⟨"CircuitTwin$Writer", "putInputs", "(LCircuitTwin$Net;)V"⟩ ∈ mj_wd := mj_wi 886 (by decide +kernel) (by decide +kernel)
theorem w_795 : Cond.instanceMethod ⟨"CircuitTwin$Writer", "putInputs", "(LCircuitTwin$Net;)V"⟩ ∈ mj_wd := mj_wi 888 (by decide +kernel) (by decide +kernel)
theorem w_796 : Cond.code ⟨"CircuitTwin$Writer", "putInputs", "(LCircuitTwin$Net;)V"⟩ prog_6_method_12_code 3 (none : Option ClassFile.FieldType) ∈ mj_wd := mj_wi 889 (by decide +kernel) (by decide +kernel)
theorem w_797 : Cond.methodLink "CircuitTwin$Writer" 64 ⟨"CircuitTwin$Writer", "putOutputs", "(LCircuitTwin$Circuit;)V"⟩ ∈ mj_wd := mj_wi 890 (by decide +kernel) (by decide +kernel)
theorem w_799 : Cond.instanceMethod ⟨"CircuitTwin$Writer", "putOutputs", "(LCircuitTwin$Circuit;)V"⟩ ∈ mj_wd := mj_wi 892 (by decide +kernel) (by decide +kernel)
theorem w_800 : Cond.code ⟨"CircuitTwin$Writer", "putOutputs", "(LCircuitTwin$Circuit;)V"⟩ prog_6_method_13_code 3 (none : Option ClassFile.FieldType) ∈ mj_wd := mj_wi 893 (by decide +kernel) (by decide +kernel)
theorem w_801 : Cond.methodLink "CircuitTwin$Writer" 142 ⟨"CircuitTwin$Writer", "newLiteral", "(LCircuitTwin$Circuit;I)I"⟩ ∈ mj_wd := mj_wi 894 (by decide +kernel) (by decide +kernel)
theorem w_803 : Cond.instanceMethod ⟨"CircuitTwin$Writer", "newLiteral", "(LCircuitTwin$Circuit;I)I"⟩ ∈ mj_wd := mj_wi 896 (by decide +kernel) (by decide +kernel)
theorem w_804 : Cond.code ⟨"CircuitTwin$Writer", "newLiteral", "(LCircuitTwin$Circuit;I)I"⟩ prog_6_method_10_code 4 (some .int) ∈ mj_wd := mj_wi 897 (by decide +kernel) (by decide +kernel)
theorem w_805 : Cond.methodLink "CircuitTwin$Writer" 75 ⟨"CircuitTwin$Writer", "putGate", "(LCircuitTwin$Circuit;IZ)V"⟩ ∈ mj_wd := mj_wi 898 (by decide +kernel) (by decide +kernel)
theorem w_807 : Cond.instanceMethod ⟨"CircuitTwin$Writer", "putGate", "(LCircuitTwin$Circuit;IZ)V"⟩ ∈ mj_wd := mj_wi 900 (by decide +kernel) (by decide +kernel)
theorem w_808 : Cond.code ⟨"CircuitTwin$Writer", "putGate", "(LCircuitTwin$Circuit;IZ)V"⟩ prog_6_method_14_code 9 (none : Option ClassFile.FieldType) ∈ mj_wd := mj_wi 901 (by decide +kernel) (by decide +kernel)
theorem w_809 : Cond.methodLink "CircuitTwin$Writer" 145 ⟨"java/lang/Math", "min", "(II)I"⟩ ∈ mj_wd := mj_wi 902 (by decide +kernel) (by decide +kernel)
theorem w_810 : Cond.methodLink "CircuitTwin$Writer" 148 ⟨"CircuitTwin$Writer", "putStep", "(I)V"⟩ ∈ mj_wd := mj_wi 903 (by decide +kernel) (by decide +kernel)
theorem w_812 : Cond.instanceMethod ⟨"CircuitTwin$Writer", "putStep", "(I)V"⟩ ∈ mj_wd := mj_wi 905 (by decide +kernel) (by decide +kernel)
theorem w_813 : Cond.code ⟨"CircuitTwin$Writer", "putStep", "(I)V"⟩ prog_6_method_15_code 2 (none : Option ClassFile.FieldType) ∈ mj_wd := mj_wi 906 (by decide +kernel) (by decide +kernel)
theorem w_814 : Cond.methodLink "CircuitTwinLaw" 142 ⟨"CircuitTwinLaw", "out", "(LCircuitTwin;I[J)I"⟩ ∈ mj_wd := mj_wi 907 (by decide +kernel) (by decide +kernel)
theorem w_815 : Cond.static ⟨"CircuitTwinLaw", "out", "(LCircuitTwin;I[J)I"⟩ ∈ mj_wd := mj_wi 908 (by decide +kernel) (by decide +kernel)
theorem w_816 : Cond.codeWith ⟨"CircuitTwinLaw", "out", "(LCircuitTwin;I[J)I"⟩ method_19_code 4 (some .int) [(0, 8, 11, 25)] ∈ mj_wd := mj_wi 909 (by decide +kernel) (by decide +kernel)
theorem w_817 : Cond.methodLink "CircuitTwinLaw" 70 ⟨"CircuitTwin", "out", "(I)J"⟩ ∈ mj_wd := mj_wi 910 (by decide +kernel) (by decide +kernel)
theorem w_818 : Cond.instanceMethod ⟨"CircuitTwin", "out", "(I)J"⟩ ∈ mj_wd := mj_wi 911 (by decide +kernel) (by decide +kernel)
theorem w_819 : Cond.selects "CircuitTwin" ⟨"CircuitTwin", "out", "(I)J"⟩ ⟨"CircuitTwin", "out", "(I)J"⟩ ∈ mj_wd := mj_wi 912 (by decide +kernel) (by decide +kernel)
theorem w_820 : Cond.code ⟨"CircuitTwin", "out", "(I)J"⟩ prog_1_method_18_code 5 (some .long) ∈ mj_wd := mj_wi 913 (by decide +kernel) (by decide +kernel)
theorem w_822 : Cond.methodLink "CircuitTwin" 162 ⟨"CircuitTwin$Writer", "byteAt", "(I)I"⟩ ∈ mj_wd := mj_wi 915 (by decide +kernel) (by decide +kernel)
theorem w_823 : Cond.instanceMethod ⟨"CircuitTwin$Writer", "byteAt", "(I)I"⟩ ∈ mj_wd := mj_wi 916 (by decide +kernel) (by decide +kernel)
theorem w_824 : Cond.selects "CircuitTwin$Writer" ⟨"CircuitTwin$Writer", "byteAt", "(I)I"⟩ ⟨"CircuitTwin$Writer", "byteAt", "(I)I"⟩ ∈ mj_wd := mj_wi 917 (by decide +kernel) (by decide +kernel)
theorem w_825 : Cond.code ⟨"CircuitTwin$Writer", "byteAt", "(I)I"⟩ prog_6_method_2_code 2 (some .int) ∈ mj_wd := mj_wi 918 (by decide +kernel) (by decide +kernel)
theorem w_826 : Cond.methodLink "CircuitTwinLaw" 145 ⟨"CircuitTwinLaw", "look", "(LCircuitTwin;II[J)I"⟩ ∈ mj_wd := mj_wi 919 (by decide +kernel) (by decide +kernel)
theorem w_827 : Cond.static ⟨"CircuitTwinLaw", "look", "(LCircuitTwin;II[J)I"⟩ ∈ mj_wd := mj_wi 920 (by decide +kernel) (by decide +kernel)
theorem w_828 : Cond.codeWith ⟨"CircuitTwinLaw", "look", "(LCircuitTwin;II[J)I"⟩ method_20_code 5 (some .int) [(0, 10, 13, 13)] ∈ mj_wd := mj_wi 921 (by decide +kernel) (by decide +kernel)
theorem w_829 : Cond.methodLink "CircuitTwinLaw" 74 ⟨"CircuitTwin", "look", "(II)I"⟩ ∈ mj_wd := mj_wi 922 (by decide +kernel) (by decide +kernel)
theorem w_830 : Cond.instanceMethod ⟨"CircuitTwin", "look", "(II)I"⟩ ∈ mj_wd := mj_wi 923 (by decide +kernel) (by decide +kernel)
theorem w_831 : Cond.selects "CircuitTwin" ⟨"CircuitTwin", "look", "(II)I"⟩ ⟨"CircuitTwin", "look", "(II)I"⟩ ∈ mj_wd := mj_wi 924 (by decide +kernel) (by decide +kernel)
theorem w_832 : Cond.code ⟨"CircuitTwin", "look", "(II)I"⟩ prog_1_method_19_code 4 (some .int) ∈ mj_wd := mj_wi 925 (by decide +kernel) (by decide +kernel)
theorem w_833 : Cond.methodLink "CircuitTwin" 168 ⟨"CircuitTwin$Net", "outputDepth", "()I"⟩ ∈ mj_wd := mj_wi 926 (by decide +kernel) (by decide +kernel)
theorem w_834 : Cond.instanceMethod ⟨"CircuitTwin$Net", "outputDepth", "()I"⟩ ∈ mj_wd := mj_wi 927 (by decide +kernel) (by decide +kernel)
theorem w_835 : Cond.selects "CircuitTwin$Net" ⟨"CircuitTwin$Net", "outputDepth", "()I"⟩ ⟨"CircuitTwin$Net", "outputDepth", "()I"⟩ ∈ mj_wd := mj_wi 928 (by decide +kernel) (by decide +kernel)
theorem w_836 : Cond.code ⟨"CircuitTwin$Net", "outputDepth", "()I"⟩ prog_4_method_9_code 3 (some .int) ∈ mj_wd := mj_wi 929 (by decide +kernel) (by decide +kernel)
theorem w_837 : Cond.methodLink "CircuitTwin$Net" 67 ⟨"java/lang/Math", "max", "(II)I"⟩ ∈ mj_wd := mj_wi 930 (by decide +kernel) (by decide +kernel)
theorem w_839 : Cond.classLink "CircuitTwinLaw" 78 "CircuitTwinModel" ∈ mj_wd := mj_wi 932 (by decide +kernel) (by decide +kernel)
theorem w_840 : Cond.instantiable "CircuitTwinModel" 30 ∈ mj_wd := mj_wi 933 (by decide +kernel) (by decide +kernel)
theorem w_841 : Cond.methodLink "CircuitTwinLaw" 80 ⟨"CircuitTwinModel", "<init>", "()V"⟩ ∈ mj_wd := mj_wi 934 (by decide +kernel) (by decide +kernel)
theorem w_842 : Cond.instanceMethod ⟨"CircuitTwinModel", "<init>", "()V"⟩ ∈ mj_wd := mj_wi 935 (by decide +kernel) (by decide +kernel)
theorem w_843 : Cond.code ⟨"CircuitTwinModel", "<init>", "()V"⟩ prog_8_method_1_code 3 (none : Option ClassFile.FieldType) ∈ mj_wd := mj_wi 936 (by decide +kernel) (by decide +kernel)
theorem w_844 : Cond.methodLink "CircuitTwinModel" 1 ⟨"java/lang/Object", "<init>", "()V"⟩ ∈ mj_wd := mj_wi 937 (by decide +kernel) (by decide +kernel)
theorem w_845 : Cond.constant "CircuitTwinModel" 59 (161280 : Int32) ∈ mj_wd := mj_wi 938 (by decide +kernel) (by decide +kernel)
theorem w_846 : Cond.fieldLink "CircuitTwinModel" 86 "CircuitTwinModel" "thrown" "I" ∈ mj_wd := mj_wi 939 (by decide +kernel) (by decide +kernel)
theorem w_847 : Cond.fieldLink "CircuitTwinModel" 7 "CircuitTwinModel" "tape" "[B" ∈ mj_wd := mj_wi 940 (by decide +kernel) (by decide +kernel)
theorem w_848 : Cond.fieldLink "CircuitTwinModel" 90 "CircuitTwinModel" "tapeSize" "I" ∈ mj_wd := mj_wi 941 (by decide +kernel) (by decide +kernel)
theorem w_849 : Cond.fieldLink "CircuitTwinModel" 13 "CircuitTwinModel" "out" "[B" ∈ mj_wd := mj_wi 942 (by decide +kernel) (by decide +kernel)
theorem w_850 : Cond.fieldLink "CircuitTwinModel" 233 "CircuitTwinModel" "outSize" "I" ∈ mj_wd := mj_wi 943 (by decide +kernel) (by decide +kernel)
theorem w_851 : Cond.fieldLink "CircuitTwinModel" 16 "CircuitTwinModel" "inputs" "[I" ∈ mj_wd := mj_wi 944 (by decide +kernel) (by decide +kernel)
theorem w_852 : Cond.fieldLink "CircuitTwinModel" 20 "CircuitTwinModel" "gates" "[I" ∈ mj_wd := mj_wi 945 (by decide +kernel) (by decide +kernel)
theorem w_853 : Cond.fieldLink "CircuitTwinModel" 23 "CircuitTwinModel" "outputs" "[I" ∈ mj_wd := mj_wi 946 (by decide +kernel) (by decide +kernel)
theorem w_854 : Cond.fieldLink "CircuitTwinModel" 26 "CircuitTwinModel" "most" "[I" ∈ mj_wd := mj_wi 947 (by decide +kernel) (by decide +kernel)
theorem w_855 : Cond.fieldLink "CircuitTwinModel" 29 "CircuitTwinModel" "error" "[I" ∈ mj_wd := mj_wi 948 (by decide +kernel) (by decide +kernel)
theorem w_856 : Cond.fieldLink "CircuitTwinModel" 32 "CircuitTwinModel" "place" "[I" ∈ mj_wd := mj_wi 949 (by decide +kernel) (by decide +kernel)
theorem w_857 : Cond.fieldLink "CircuitTwinModel" 35 "CircuitTwinModel" "inputLiteral" "[I" ∈ mj_wd := mj_wi 950 (by decide +kernel) (by decide +kernel)
theorem w_858 : Cond.fieldLink "CircuitTwinModel" 38 "CircuitTwinModel" "own" "[I" ∈ mj_wd := mj_wi 951 (by decide +kernel) (by decide +kernel)
theorem w_859 : Cond.fieldLink "CircuitTwinModel" 41 "CircuitTwinModel" "left" "[I" ∈ mj_wd := mj_wi 952 (by decide +kernel) (by decide +kernel)
theorem w_860 : Cond.fieldLink "CircuitTwinModel" 44 "CircuitTwinModel" "right" "[I" ∈ mj_wd := mj_wi 953 (by decide +kernel) (by decide +kernel)
theorem w_861 : Cond.fieldLink "CircuitTwinModel" 47 "CircuitTwinModel" "outputLiteral" "[I" ∈ mj_wd := mj_wi 954 (by decide +kernel) (by decide +kernel)
theorem w_862 : Cond.fieldLink "CircuitTwinModel" 50 "CircuitTwinModel" "rowOf" "[I" ∈ mj_wd := mj_wi 955 (by decide +kernel) (by decide +kernel)
theorem w_863 : Cond.fieldLink "CircuitTwinModel" 53 "CircuitTwinModel" "depth" "[I" ∈ mj_wd := mj_wi 956 (by decide +kernel) (by decide +kernel)
theorem w_864 : Cond.fieldLink "CircuitTwinModel" 56 "CircuitTwinModel" "order" "[I" ∈ mj_wd := mj_wi 957 (by decide +kernel) (by decide +kernel)
theorem w_865 : Cond.fieldLink "CircuitTwinModel" 60 "CircuitTwinModel" "table" "[J" ∈ mj_wd := mj_wi 958 (by decide +kernel) (by decide +kernel)
theorem w_866 : Cond.fieldLink "CircuitTwinModel" 103 "CircuitTwinModel" "at" "I" ∈ mj_wd := mj_wi 959 (by decide +kernel) (by decide +kernel)
theorem w_867 : Cond.fieldLink "CircuitTwinModel" 97 "CircuitTwinModel" "wrong" "I" ∈ mj_wd := mj_wi 960 (by decide +kernel) (by decide +kernel)
theorem w_868 : Cond.fieldLink "CircuitTwinModel" 100 "CircuitTwinModel" "wrongAt" "I" ∈ mj_wd := mj_wi 961 (by decide +kernel) (by decide +kernel)
theorem w_869 : Cond.fieldLink "CircuitTwinModel" 64 "CircuitTwinModel" "numbers" "[I" ∈ mj_wd := mj_wi 962 (by decide +kernel) (by decide +kernel)
theorem w_870 : Cond.fieldLink "CircuitTwinModel" 67 "CircuitTwinModel" "begins" "[I" ∈ mj_wd := mj_wi 963 (by decide +kernel) (by decide +kernel)
theorem w_871 : Cond.fieldLink "CircuitTwinModel" 70 "CircuitTwinModel" "reached" "[Z" ∈ mj_wd := mj_wi 964 (by decide +kernel) (by decide +kernel)
theorem w_872 : Cond.fieldLink "CircuitTwinModel" 74 "CircuitTwinModel" "become" "[I" ∈ mj_wd := mj_wi 965 (by decide +kernel) (by decide +kernel)
theorem w_873 : Cond.fieldLink "CircuitTwinModel" 77 "CircuitTwinModel" "newDepth" "[I" ∈ mj_wd := mj_wi 966 (by decide +kernel) (by decide +kernel)
theorem w_874 : Cond.fieldLink "CircuitTwinModel" 80 "CircuitTwinModel" "number" "[I" ∈ mj_wd := mj_wi 967 (by decide +kernel) (by decide +kernel)
theorem w_875 : Cond.fieldLink "CircuitTwinModel" 83 "CircuitTwinModel" "used" "[Z" ∈ mj_wd := mj_wi 968 (by decide +kernel) (by decide +kernel)
theorem w_937 : Cond.methodLink "CircuitTwinLaw" 89 ⟨"CircuitTwinModel", "thrown", "()I"⟩ ∈ mj_wd := mj_wi 1030 (by decide +kernel) (by decide +kernel)
theorem w_938 : Cond.instanceMethod ⟨"CircuitTwinModel", "thrown", "()I"⟩ ∈ mj_wd := mj_wi 1031 (by decide +kernel) (by decide +kernel)
theorem w_939 : Cond.selects "CircuitTwinModel" ⟨"CircuitTwinModel", "thrown", "()I"⟩ ⟨"CircuitTwinModel", "thrown", "()I"⟩ ∈ mj_wd := mj_wi 1032 (by decide +kernel) (by decide +kernel)
theorem w_940 : Cond.code ⟨"CircuitTwinModel", "thrown", "()I"⟩ prog_8_method_2_code 1 (some .int) ∈ mj_wd := mj_wi 1033 (by decide +kernel) (by decide +kernel)
theorem w_941 : Cond.methodLink "CircuitTwinLaw" 88 ⟨"CircuitTwinModel", "feed", "(IJ)I"⟩ ∈ mj_wd := mj_wi 1034 (by decide +kernel) (by decide +kernel)
theorem w_942 : Cond.instanceMethod ⟨"CircuitTwinModel", "feed", "(IJ)I"⟩ ∈ mj_wd := mj_wi 1035 (by decide +kernel) (by decide +kernel)
theorem w_943 : Cond.selects "CircuitTwinModel" ⟨"CircuitTwinModel", "feed", "(IJ)I"⟩ ⟨"CircuitTwinModel", "feed", "(IJ)I"⟩ ∈ mj_wd := mj_wi 1036 (by decide +kernel) (by decide +kernel)
theorem w_944 : Cond.code ⟨"CircuitTwinModel", "feed", "(IJ)I"⟩ prog_8_method_5_code 6 (some .int) ∈ mj_wd := mj_wi 1037 (by decide +kernel) (by decide +kernel)
theorem w_945 : Cond.methodLink "CircuitTwinModel" 93 ⟨"CircuitTwinModel", "throwing", "(ZZ)Z"⟩ ∈ mj_wd := mj_wi 1038 (by decide +kernel) (by decide +kernel)
theorem w_947 : Cond.instanceMethod ⟨"CircuitTwinModel", "throwing", "(ZZ)Z"⟩ ∈ mj_wd := mj_wi 1040 (by decide +kernel) (by decide +kernel)
theorem w_948 : Cond.code ⟨"CircuitTwinModel", "throwing", "(ZZ)Z"⟩ prog_8_method_3_code 3 (some .boolean) ∈ mj_wd := mj_wi 1041 (by decide +kernel) (by decide +kernel)
theorem w_949 : Cond.methodLink "CircuitTwinLaw" 95 ⟨"CircuitTwinModel", "load", "(I)I"⟩ ∈ mj_wd := mj_wi 1042 (by decide +kernel) (by decide +kernel)
theorem w_950 : Cond.instanceMethod ⟨"CircuitTwinModel", "load", "(I)I"⟩ ∈ mj_wd := mj_wi 1043 (by decide +kernel) (by decide +kernel)
theorem w_951 : Cond.selects "CircuitTwinModel" ⟨"CircuitTwinModel", "load", "(I)I"⟩ ⟨"CircuitTwinModel", "load", "(I)I"⟩ ∈ mj_wd := mj_wi 1044 (by decide +kernel) (by decide +kernel)
theorem w_952 : Cond.code ⟨"CircuitTwinModel", "load", "(I)I"⟩ prog_8_method_25_code 2 (some .int) ∈ mj_wd := mj_wi 1045 (by decide +kernel) (by decide +kernel)
theorem w_953 : Cond.methodLink "CircuitTwinModel" 166 ⟨"CircuitTwinModel", "isCircuit", "(I)Z"⟩ ∈ mj_wd := mj_wi 1046 (by decide +kernel) (by decide +kernel)
theorem w_954 : Cond.static ⟨"CircuitTwinModel", "isCircuit", "(I)Z"⟩ ∈ mj_wd := mj_wi 1047 (by decide +kernel) (by decide +kernel)
theorem w_955 : Cond.code ⟨"CircuitTwinModel", "isCircuit", "(I)Z"⟩ prog_8_method_4_code 1 (some .boolean) ∈ mj_wd := mj_wi 1048 (by decide +kernel) (by decide +kernel)
theorem w_956 : Cond.methodLink "CircuitTwinModel" 169 ⟨"CircuitTwinModel", "readText", "()V"⟩ ∈ mj_wd := mj_wi 1049 (by decide +kernel) (by decide +kernel)
theorem w_958 : Cond.instanceMethod ⟨"CircuitTwinModel", "readText", "()V"⟩ ∈ mj_wd := mj_wi 1051 (by decide +kernel) (by decide +kernel)
theorem w_959 : Cond.code ⟨"CircuitTwinModel", "readText", "()V"⟩ prog_8_method_24_code 3 (none : Option ClassFile.FieldType) ∈ mj_wd := mj_wi 1052 (by decide +kernel) (by decide +kernel)
theorem w_960 : Cond.methodLink "CircuitTwinModel" 114 ⟨"CircuitTwinModel", "fail", "(II)V"⟩ ∈ mj_wd := mj_wi 1053 (by decide +kernel) (by decide +kernel)
theorem w_962 : Cond.instanceMethod ⟨"CircuitTwinModel", "fail", "(II)V"⟩ ∈ mj_wd := mj_wi 1055 (by decide +kernel) (by decide +kernel)
theorem w_963 : Cond.code ⟨"CircuitTwinModel", "fail", "(II)V"⟩ prog_8_method_6_code 3 (none : Option ClassFile.FieldType) ∈ mj_wd := mj_wi 1056 (by decide +kernel) (by decide +kernel)
theorem w_964 : Cond.methodLink "CircuitTwinModel" 144 ⟨"CircuitTwinModel", "empty", "()V"⟩ ∈ mj_wd := mj_wi 1057 (by decide +kernel) (by decide +kernel)
theorem w_966 : Cond.instanceMethod ⟨"CircuitTwinModel", "empty", "()V"⟩ ∈ mj_wd := mj_wi 1059 (by decide +kernel) (by decide +kernel)
theorem w_967 : Cond.code ⟨"CircuitTwinModel", "empty", "()V"⟩ prog_8_method_11_code 2 (none : Option ClassFile.FieldType) ∈ mj_wd := mj_wi 1060 (by decide +kernel) (by decide +kernel)
theorem w_968 : Cond.methodLink "CircuitTwinModel" 147 ⟨"CircuitTwinModel", "header", "(Z)V"⟩ ∈ mj_wd := mj_wi 1061 (by decide +kernel) (by decide +kernel)
theorem w_970 : Cond.instanceMethod ⟨"CircuitTwinModel", "header", "(Z)V"⟩ ∈ mj_wd := mj_wi 1063 (by decide +kernel) (by decide +kernel)
theorem w_971 : Cond.code ⟨"CircuitTwinModel", "header", "(Z)V"⟩ prog_8_method_13_code 6 (none : Option ClassFile.FieldType) ∈ mj_wd := mj_wi 1064 (by decide +kernel) (by decide +kernel)
theorem w_972 : Cond.methodLink "CircuitTwinModel" 118 ⟨"CircuitTwinModel", "line", "(II)V"⟩ ∈ mj_wd := mj_wi 1065 (by decide +kernel) (by decide +kernel)
theorem w_974 : Cond.instanceMethod ⟨"CircuitTwinModel", "line", "(II)V"⟩ ∈ mj_wd := mj_wi 1067 (by decide +kernel) (by decide +kernel)
theorem w_975 : Cond.code ⟨"CircuitTwinModel", "line", "(II)V"⟩ prog_8_method_9_code 7 (none : Option ClassFile.FieldType) ∈ mj_wd := mj_wi 1068 (by decide +kernel) (by decide +kernel)
theorem w_976 : Cond.methodLink "CircuitTwinModel" 106 ⟨"CircuitTwinModel", "here", "()I"⟩ ∈ mj_wd := mj_wi 1069 (by decide +kernel) (by decide +kernel)
theorem w_978 : Cond.instanceMethod ⟨"CircuitTwinModel", "here", "()I"⟩ ∈ mj_wd := mj_wi 1071 (by decide +kernel) (by decide +kernel)
theorem w_979 : Cond.code ⟨"CircuitTwinModel", "here", "()I"⟩ prog_8_method_7_code 1 (some .int) ∈ mj_wd := mj_wi 1072 (by decide +kernel) (by decide +kernel)
theorem w_980 : Cond.methodLink "CircuitTwinModel" 110 ⟨"CircuitTwinModel", "isDigit", "(I)Z"⟩ ∈ mj_wd := mj_wi 1073 (by decide +kernel) (by decide +kernel)
theorem w_981 : Cond.static ⟨"CircuitTwinModel", "isDigit", "(I)Z"⟩ ∈ mj_wd := mj_wi 1074 (by decide +kernel) (by decide +kernel)
theorem w_982 : Cond.code ⟨"CircuitTwinModel", "isDigit", "(I)Z"⟩ prog_8_method_8_code 1 (some .boolean) ∈ mj_wd := mj_wi 1075 (by decide +kernel) (by decide +kernel)
theorem w_983 : Cond.methodLink "CircuitTwinModel" 151 ⟨"CircuitTwinModel", "readInputs", "(Z)V"⟩ ∈ mj_wd := mj_wi 1076 (by decide +kernel) (by decide +kernel)
theorem w_985 : Cond.instanceMethod ⟨"CircuitTwinModel", "readInputs", "(Z)V"⟩ ∈ mj_wd := mj_wi 1078 (by decide +kernel) (by decide +kernel)
theorem w_986 : Cond.code ⟨"CircuitTwinModel", "readInputs", "(Z)V"⟩ prog_8_method_14_code 4 (none : Option ClassFile.FieldType) ∈ mj_wd := mj_wi 1079 (by decide +kernel) (by decide +kernel)
theorem w_987 : Cond.methodLink "CircuitTwinModel" 121 ⟨"CircuitTwinModel", "stands", "(II)Z"⟩ ∈ mj_wd := mj_wi 1080 (by decide +kernel) (by decide +kernel)
theorem w_989 : Cond.instanceMethod ⟨"CircuitTwinModel", "stands", "(II)Z"⟩ ∈ mj_wd := mj_wi 1082 (by decide +kernel) (by decide +kernel)
theorem w_990 : Cond.code ⟨"CircuitTwinModel", "stands", "(II)Z"⟩ prog_8_method_12_code 3 (some .boolean) ∈ mj_wd := mj_wi 1083 (by decide +kernel) (by decide +kernel)
theorem w_991 : Cond.methodLink "CircuitTwinModel" 154 ⟨"CircuitTwinModel", "readOutputs", "()V"⟩ ∈ mj_wd := mj_wi 1084 (by decide +kernel) (by decide +kernel)
theorem w_993 : Cond.instanceMethod ⟨"CircuitTwinModel", "readOutputs", "()V"⟩ ∈ mj_wd := mj_wi 1086 (by decide +kernel) (by decide +kernel)
theorem w_994 : Cond.code ⟨"CircuitTwinModel", "readOutputs", "()V"⟩ prog_8_method_15_code 2 (none : Option ClassFile.FieldType) ∈ mj_wd := mj_wi 1087 (by decide +kernel) (by decide +kernel)
theorem w_995 : Cond.methodLink "CircuitTwinModel" 157 ⟨"CircuitTwinModel", "readSteps", "()V"⟩ ∈ mj_wd := mj_wi 1088 (by decide +kernel) (by decide +kernel)
theorem w_997 : Cond.instanceMethod ⟨"CircuitTwinModel", "readSteps", "()V"⟩ ∈ mj_wd := mj_wi 1090 (by decide +kernel) (by decide +kernel)
theorem w_998 : Cond.code ⟨"CircuitTwinModel", "readSteps", "()V"⟩ prog_8_method_17_code 7 (none : Option ClassFile.FieldType) ∈ mj_wd := mj_wi 1091 (by decide +kernel) (by decide +kernel)
theorem w_999 : Cond.methodLink "CircuitTwinModel" 125 ⟨"CircuitTwinModel", "step", "()I"⟩ ∈ mj_wd := mj_wi 1092 (by decide +kernel) (by decide +kernel)
theorem w_1001 : Cond.instanceMethod ⟨"CircuitTwinModel", "step", "()I"⟩ ∈ mj_wd := mj_wi 1094 (by decide +kernel) (by decide +kernel)
theorem w_1002 : Cond.code ⟨"CircuitTwinModel", "step", "()I"⟩ prog_8_method_10_code 3 (some .int) ∈ mj_wd := mj_wi 1095 (by decide +kernel) (by decide +kernel)
theorem w_1003 : Cond.methodLink "CircuitTwinModel" 160 ⟨"CircuitTwinModel", "readGates", "()V"⟩ ∈ mj_wd := mj_wi 1096 (by decide +kernel) (by decide +kernel)
theorem w_1005 : Cond.instanceMethod ⟨"CircuitTwinModel", "readGates", "()V"⟩ ∈ mj_wd := mj_wi 1098 (by decide +kernel) (by decide +kernel)
theorem w_1006 : Cond.code ⟨"CircuitTwinModel", "readGates", "()V"⟩ prog_8_method_16_code 3 (none : Option ClassFile.FieldType) ∈ mj_wd := mj_wi 1099 (by decide +kernel) (by decide +kernel)
theorem w_1007 : Cond.methodLink "CircuitTwinModel" 163 ⟨"CircuitTwinModel", "connect", "()V"⟩ ∈ mj_wd := mj_wi 1100 (by decide +kernel) (by decide +kernel)
theorem w_1009 : Cond.instanceMethod ⟨"CircuitTwinModel", "connect", "()V"⟩ ∈ mj_wd := mj_wi 1102 (by decide +kernel) (by decide +kernel)
theorem w_1010 : Cond.code ⟨"CircuitTwinModel", "connect", "()V"⟩ prog_8_method_20_code 5 (none : Option ClassFile.FieldType) ∈ mj_wd := mj_wi 1103 (by decide +kernel) (by decide +kernel)
theorem w_1011 : Cond.methodLink "CircuitTwinModel" 131 ⟨"CircuitTwinModel", "lesser", "(II)I"⟩ ∈ mj_wd := mj_wi 1104 (by decide +kernel) (by decide +kernel)
theorem w_1013 : Cond.instanceMethod ⟨"CircuitTwinModel", "lesser", "(II)I"⟩ ∈ mj_wd := mj_wi 1106 (by decide +kernel) (by decide +kernel)
theorem w_1014 : Cond.code ⟨"CircuitTwinModel", "lesser", "(II)I"⟩ prog_8_method_19_code 3 (some .int) ∈ mj_wd := mj_wi 1107 (by decide +kernel) (by decide +kernel)
theorem w_1015 : Cond.methodLink "CircuitTwinModel" 128 ⟨"CircuitTwinModel", "lacks", "(I)Z"⟩ ∈ mj_wd := mj_wi 1108 (by decide +kernel) (by decide +kernel)
theorem w_1017 : Cond.instanceMethod ⟨"CircuitTwinModel", "lacks", "(I)Z"⟩ ∈ mj_wd := mj_wi 1110 (by decide +kernel) (by decide +kernel)
theorem w_1018 : Cond.code ⟨"CircuitTwinModel", "lacks", "(I)Z"⟩ prog_8_method_18_code 2 (some .boolean) ∈ mj_wd := mj_wi 1111 (by decide +kernel) (by decide +kernel)
theorem w_1019 : Cond.methodLink "CircuitTwinModel" 135 ⟨"CircuitTwinModel", "arrange", "()I"⟩ ∈ mj_wd := mj_wi 1112 (by decide +kernel) (by decide +kernel)
theorem w_1021 : Cond.instanceMethod ⟨"CircuitTwinModel", "arrange", "()I"⟩ ∈ mj_wd := mj_wi 1114 (by decide +kernel) (by decide +kernel)
theorem w_1022 : Cond.code ⟨"CircuitTwinModel", "arrange", "()I"⟩ prog_8_method_22_code 7 (some .int) ∈ mj_wd := mj_wi 1115 (by decide +kernel) (by decide +kernel)
theorem w_1023 : Cond.methodLink "CircuitTwinModel" 141 ⟨"CircuitTwinModel", "rowAt", "(II)I"⟩ ∈ mj_wd := mj_wi 1116 (by decide +kernel) (by decide +kernel)
theorem w_1025 : Cond.instanceMethod ⟨"CircuitTwinModel", "rowAt", "(II)I"⟩ ∈ mj_wd := mj_wi 1118 (by decide +kernel) (by decide +kernel)
theorem w_1026 : Cond.code ⟨"CircuitTwinModel", "rowAt", "(II)I"⟩ prog_8_method_21_code 3 (some .int) ∈ mj_wd := mj_wi 1119 (by decide +kernel) (by decide +kernel)
theorem w_1027 : Cond.methodLink "CircuitTwinModel" 138 ⟨"CircuitTwinModel", "comesBack", "(I)Z"⟩ ∈ mj_wd := mj_wi 1120 (by decide +kernel) (by decide +kernel)
theorem w_1029 : Cond.instanceMethod ⟨"CircuitTwinModel", "comesBack", "(I)Z"⟩ ∈ mj_wd := mj_wi 1122 (by decide +kernel) (by decide +kernel)
theorem w_1030 : Cond.code ⟨"CircuitTwinModel", "comesBack", "(I)Z"⟩ prog_8_method_23_code 6 (some .boolean) ∈ mj_wd := mj_wi 1123 (by decide +kernel) (by decide +kernel)
theorem w_1031 : Cond.methodLink "CircuitTwinModel" 172 ⟨"CircuitTwinModel", "take", "(I)V"⟩ ∈ mj_wd := mj_wi 1124 (by decide +kernel) (by decide +kernel)
theorem w_1033 : Cond.instanceMethod ⟨"CircuitTwinModel", "take", "(I)V"⟩ ∈ mj_wd := mj_wi 1126 (by decide +kernel) (by decide +kernel)
theorem w_1034 : Cond.code ⟨"CircuitTwinModel", "take", "(I)V"⟩ prog_8_method_26_code 3 (none : Option ClassFile.FieldType) ∈ mj_wd := mj_wi 1127 (by decide +kernel) (by decide +kernel)
theorem w_1035 : Cond.methodLink "CircuitTwinModel" 176 ⟨"CircuitTwinModel", "fillTables", "(I)V"⟩ ∈ mj_wd := mj_wi 1128 (by decide +kernel) (by decide +kernel)
theorem w_1037 : Cond.instanceMethod ⟨"CircuitTwinModel", "fillTables", "(I)V"⟩ ∈ mj_wd := mj_wi 1130 (by decide +kernel) (by decide +kernel)
theorem w_1038 : Cond.code ⟨"CircuitTwinModel", "fillTables", "(I)V"⟩ prog_8_method_27_code 7 (none : Option ClassFile.FieldType) ∈ mj_wd := mj_wi 1131 (by decide +kernel) (by decide +kernel)
theorem w_1039 : Cond.methodLink "CircuitTwinModel" 179 ⟨"CircuitTwinModel", "words", "(I)I"⟩ ∈ mj_wd := mj_wi 1132 (by decide +kernel) (by decide +kernel)
theorem w_1041 : Cond.instanceMethod ⟨"CircuitTwinModel", "words", "(I)I"⟩ ∈ mj_wd := mj_wi 1134 (by decide +kernel) (by decide +kernel)
theorem w_1042 : Cond.code ⟨"CircuitTwinModel", "words", "(I)I"⟩ prog_8_method_28_code 2 (some .int) ∈ mj_wd := mj_wi 1135 (by decide +kernel) (by decide +kernel)
theorem w_1043 : Cond.methodLink "CircuitTwinModel" 183 ⟨"CircuitTwinModel", "mask", "(I)J"⟩ ∈ mj_wd := mj_wi 1136 (by decide +kernel) (by decide +kernel)
theorem w_1045 : Cond.instanceMethod ⟨"CircuitTwinModel", "mask", "(I)J"⟩ ∈ mj_wd := mj_wi 1138 (by decide +kernel) (by decide +kernel)
theorem w_1046 : Cond.code ⟨"CircuitTwinModel", "mask", "(I)J"⟩ prog_8_method_29_code 2 (some .long) ∈ mj_wd := mj_wi 1139 (by decide +kernel) (by decide +kernel)
theorem w_1047 : Cond.constantLong "CircuitTwinModel" 191 (-1 : Int64) ∈ mj_wd := mj_wi 1140 (by decide +kernel) (by decide +kernel)
theorem w_1048 : Cond.methodLink "CircuitTwinModel" 187 ⟨"CircuitTwinModel", "word", "(III)J"⟩ ∈ mj_wd := mj_wi 1141 (by decide +kernel) (by decide +kernel)
theorem w_1050 : Cond.instanceMethod ⟨"CircuitTwinModel", "word", "(III)J"⟩ ∈ mj_wd := mj_wi 1143 (by decide +kernel) (by decide +kernel)
theorem w_1051 : Cond.code ⟨"CircuitTwinModel", "word", "(III)J"⟩ prog_8_method_30_code 6 (some .long) ∈ mj_wd := mj_wi 1144 (by decide +kernel) (by decide +kernel)
theorem w_1052 : Cond.methodLink "CircuitTwinLaw" 99 ⟨"CircuitTwinModel", "literal", "(III)I"⟩ ∈ mj_wd := mj_wi 1145 (by decide +kernel) (by decide +kernel)
theorem w_1053 : Cond.instanceMethod ⟨"CircuitTwinModel", "literal", "(III)I"⟩ ∈ mj_wd := mj_wi 1146 (by decide +kernel) (by decide +kernel)
theorem w_1054 : Cond.selects "CircuitTwinModel" ⟨"CircuitTwinModel", "literal", "(III)I"⟩ ⟨"CircuitTwinModel", "literal", "(III)I"⟩ ∈ mj_wd := mj_wi 1147 (by decide +kernel) (by decide +kernel)
theorem w_1055 : Cond.code ⟨"CircuitTwinModel", "literal", "(III)I"⟩ prog_8_method_35_code 6 (some .int) ∈ mj_wd := mj_wi 1148 (by decide +kernel) (by decide +kernel)
theorem w_1056 : Cond.methodLink "CircuitTwinLaw" 102 ⟨"CircuitTwinModel", "value", "(III)I"⟩ ∈ mj_wd := mj_wi 1149 (by decide +kernel) (by decide +kernel)
theorem w_1057 : Cond.instanceMethod ⟨"CircuitTwinModel", "value", "(III)I"⟩ ∈ mj_wd := mj_wi 1150 (by decide +kernel) (by decide +kernel)
theorem w_1058 : Cond.selects "CircuitTwinModel" ⟨"CircuitTwinModel", "value", "(III)I"⟩ ⟨"CircuitTwinModel", "value", "(III)I"⟩ ∈ mj_wd := mj_wi 1151 (by decide +kernel) (by decide +kernel)
theorem w_1059 : Cond.code ⟨"CircuitTwinModel", "value", "(III)I"⟩ prog_8_method_36_code 4 (some .int) ∈ mj_wd := mj_wi 1152 (by decide +kernel) (by decide +kernel)
theorem w_1060 : Cond.methodLink "CircuitTwinModel" 193 ⟨"CircuitTwinModel", "isLiteral", "(II)Z"⟩ ∈ mj_wd := mj_wi 1153 (by decide +kernel) (by decide +kernel)
theorem w_1062 : Cond.instanceMethod ⟨"CircuitTwinModel", "isLiteral", "(II)Z"⟩ ∈ mj_wd := mj_wi 1155 (by decide +kernel) (by decide +kernel)
theorem w_1063 : Cond.code ⟨"CircuitTwinModel", "isLiteral", "(II)Z"⟩ prog_8_method_31_code 3 (some .boolean) ∈ mj_wd := mj_wi 1156 (by decide +kernel) (by decide +kernel)
theorem w_1064 : Cond.methodLink "CircuitTwinModel" 196 ⟨"CircuitTwinModel", "isVector", "(II)Z"⟩ ∈ mj_wd := mj_wi 1157 (by decide +kernel) (by decide +kernel)
theorem w_1066 : Cond.instanceMethod ⟨"CircuitTwinModel", "isVector", "(II)Z"⟩ ∈ mj_wd := mj_wi 1159 (by decide +kernel) (by decide +kernel)
theorem w_1067 : Cond.code ⟨"CircuitTwinModel", "isVector", "(II)Z"⟩ prog_8_method_32_code 3 (some .boolean) ∈ mj_wd := mj_wi 1160 (by decide +kernel) (by decide +kernel)
theorem w_1068 : Cond.methodLink "CircuitTwinModel" 199 ⟨"CircuitTwinModel", "bit", "(III)I"⟩ ∈ mj_wd := mj_wi 1161 (by decide +kernel) (by decide +kernel)
theorem w_1070 : Cond.instanceMethod ⟨"CircuitTwinModel", "bit", "(III)I"⟩ ∈ mj_wd := mj_wi 1163 (by decide +kernel) (by decide +kernel)
theorem w_1071 : Cond.code ⟨"CircuitTwinModel", "bit", "(III)I"⟩ prog_8_method_33_code 4 (some .int) ∈ mj_wd := mj_wi 1164 (by decide +kernel) (by decide +kernel)
theorem w_1072 : Cond.methodLink "CircuitTwinLaw" 106 ⟨"CircuitTwinModel", "compare", "()I"⟩ ∈ mj_wd := mj_wi 1165 (by decide +kernel) (by decide +kernel)
theorem w_1073 : Cond.instanceMethod ⟨"CircuitTwinModel", "compare", "()I"⟩ ∈ mj_wd := mj_wi 1166 (by decide +kernel) (by decide +kernel)
theorem w_1074 : Cond.selects "CircuitTwinModel" ⟨"CircuitTwinModel", "compare", "()I"⟩ ⟨"CircuitTwinModel", "compare", "()I"⟩ ∈ mj_wd := mj_wi 1167 (by decide +kernel) (by decide +kernel)
theorem w_1075 : Cond.code ⟨"CircuitTwinModel", "compare", "()I"⟩ prog_8_method_39_code 2 (some .int) ∈ mj_wd := mj_wi 1168 (by decide +kernel) (by decide +kernel)
theorem w_1076 : Cond.methodLink "CircuitTwinModel" 203 ⟨"CircuitTwinModel", "match", "()Z"⟩ ∈ mj_wd := mj_wi 1169 (by decide +kernel) (by decide +kernel)
theorem w_1078 : Cond.instanceMethod ⟨"CircuitTwinModel", "match", "()Z"⟩ ∈ mj_wd := mj_wi 1171 (by decide +kernel) (by decide +kernel)
theorem w_1079 : Cond.code ⟨"CircuitTwinModel", "match", "()Z"⟩ prog_8_method_37_code 1 (some .boolean) ∈ mj_wd := mj_wi 1172 (by decide +kernel) (by decide +kernel)
theorem w_1080 : Cond.methodLink "CircuitTwinModel" 207 ⟨"CircuitTwinModel", "areSame", "(IIII)Z"⟩ ∈ mj_wd := mj_wi 1173 (by decide +kernel) (by decide +kernel)
theorem w_1082 : Cond.instanceMethod ⟨"CircuitTwinModel", "areSame", "(IIII)Z"⟩ ∈ mj_wd := mj_wi 1175 (by decide +kernel) (by decide +kernel)
theorem w_1083 : Cond.code ⟨"CircuitTwinModel", "areSame", "(IIII)Z"⟩ prog_8_method_34_code 6 (some .boolean) ∈ mj_wd := mj_wi 1176 (by decide +kernel) (by decide +kernel)
theorem w_1084 : Cond.methodLink "CircuitTwinLaw" 109 ⟨"CircuitTwinModel", "witness", "(I)I"⟩ ∈ mj_wd := mj_wi 1177 (by decide +kernel) (by decide +kernel)
theorem w_1085 : Cond.instanceMethod ⟨"CircuitTwinModel", "witness", "(I)I"⟩ ∈ mj_wd := mj_wi 1178 (by decide +kernel) (by decide +kernel)
theorem w_1086 : Cond.selects "CircuitTwinModel" ⟨"CircuitTwinModel", "witness", "(I)I"⟩ ⟨"CircuitTwinModel", "witness", "(I)I"⟩ ∈ mj_wd := mj_wi 1179 (by decide +kernel) (by decide +kernel)
theorem w_1087 : Cond.code ⟨"CircuitTwinModel", "witness", "(I)I"⟩ prog_8_method_40_code 2 (some .int) ∈ mj_wd := mj_wi 1180 (by decide +kernel) (by decide +kernel)
theorem w_1088 : Cond.methodLink "CircuitTwinModel" 211 ⟨"CircuitTwinModel", "difference", "(I)I"⟩ ∈ mj_wd := mj_wi 1181 (by decide +kernel) (by decide +kernel)
theorem w_1090 : Cond.instanceMethod ⟨"CircuitTwinModel", "difference", "(I)I"⟩ ∈ mj_wd := mj_wi 1183 (by decide +kernel) (by decide +kernel)
theorem w_1091 : Cond.code ⟨"CircuitTwinModel", "difference", "(I)I"⟩ prog_8_method_38_code 3 (some .int) ∈ mj_wd := mj_wi 1184 (by decide +kernel) (by decide +kernel)
theorem w_1092 : Cond.methodLink "CircuitTwinLaw" 112 ⟨"CircuitTwinModel", "least", "(III)I"⟩ ∈ mj_wd := mj_wi 1185 (by decide +kernel) (by decide +kernel)
theorem w_1093 : Cond.instanceMethod ⟨"CircuitTwinModel", "least", "(III)I"⟩ ∈ mj_wd := mj_wi 1186 (by decide +kernel) (by decide +kernel)
theorem w_1094 : Cond.selects "CircuitTwinModel" ⟨"CircuitTwinModel", "least", "(III)I"⟩ ⟨"CircuitTwinModel", "least", "(III)I"⟩ ∈ mj_wd := mj_wi 1187 (by decide +kernel) (by decide +kernel)
theorem w_1095 : Cond.code ⟨"CircuitTwinModel", "least", "(III)I"⟩ prog_8_method_41_code 5 (some .int) ∈ mj_wd := mj_wi 1188 (by decide +kernel) (by decide +kernel)
theorem w_1096 : Cond.methodLink "CircuitTwinLaw" 116 ⟨"CircuitTwinModel", "greatest", "(II)I"⟩ ∈ mj_wd := mj_wi 1189 (by decide +kernel) (by decide +kernel)
theorem w_1097 : Cond.instanceMethod ⟨"CircuitTwinModel", "greatest", "(II)I"⟩ ∈ mj_wd := mj_wi 1190 (by decide +kernel) (by decide +kernel)
theorem w_1098 : Cond.selects "CircuitTwinModel" ⟨"CircuitTwinModel", "greatest", "(II)I"⟩ ⟨"CircuitTwinModel", "greatest", "(II)I"⟩ ∈ mj_wd := mj_wi 1191 (by decide +kernel) (by decide +kernel)
theorem w_1099 : Cond.code ⟨"CircuitTwinModel", "greatest", "(II)I"⟩ prog_8_method_42_code 4 (some .int) ∈ mj_wd := mj_wi 1192 (by decide +kernel) (by decide +kernel)
theorem w_1100 : Cond.methodLink "CircuitTwinLaw" 119 ⟨"CircuitTwinModel", "same", "(II)I"⟩ ∈ mj_wd := mj_wi 1193 (by decide +kernel) (by decide +kernel)
theorem w_1101 : Cond.instanceMethod ⟨"CircuitTwinModel", "same", "(II)I"⟩ ∈ mj_wd := mj_wi 1194 (by decide +kernel) (by decide +kernel)
theorem w_1102 : Cond.selects "CircuitTwinModel" ⟨"CircuitTwinModel", "same", "(II)I"⟩ ⟨"CircuitTwinModel", "same", "(II)I"⟩ ∈ mj_wd := mj_wi 1195 (by decide +kernel) (by decide +kernel)
theorem w_1103 : Cond.code ⟨"CircuitTwinModel", "same", "(II)I"⟩ prog_8_method_43_code 3 (some .int) ∈ mj_wd := mj_wi 1196 (by decide +kernel) (by decide +kernel)
theorem w_1104 : Cond.methodLink "CircuitTwinLaw" 122 ⟨"CircuitTwinModel", "implies", "(III)Z"⟩ ∈ mj_wd := mj_wi 1197 (by decide +kernel) (by decide +kernel)
theorem w_1105 : Cond.instanceMethod ⟨"CircuitTwinModel", "implies", "(III)Z"⟩ ∈ mj_wd := mj_wi 1198 (by decide +kernel) (by decide +kernel)
theorem w_1106 : Cond.selects "CircuitTwinModel" ⟨"CircuitTwinModel", "implies", "(III)Z"⟩ ⟨"CircuitTwinModel", "implies", "(III)Z"⟩ ∈ mj_wd := mj_wi 1199 (by decide +kernel) (by decide +kernel)
theorem w_1107 : Cond.code ⟨"CircuitTwinModel", "implies", "(III)Z"⟩ prog_8_method_44_code 6 (some .boolean) ∈ mj_wd := mj_wi 1200 (by decide +kernel) (by decide +kernel)
theorem w_1108 : Cond.methodLink "CircuitTwinLaw" 125 ⟨"CircuitTwinModel", "depends", "(III)Z"⟩ ∈ mj_wd := mj_wi 1201 (by decide +kernel) (by decide +kernel)
theorem w_1109 : Cond.instanceMethod ⟨"CircuitTwinModel", "depends", "(III)Z"⟩ ∈ mj_wd := mj_wi 1202 (by decide +kernel) (by decide +kernel)
theorem w_1110 : Cond.selects "CircuitTwinModel" ⟨"CircuitTwinModel", "depends", "(III)Z"⟩ ⟨"CircuitTwinModel", "depends", "(III)Z"⟩ ∈ mj_wd := mj_wi 1203 (by decide +kernel) (by decide +kernel)
theorem w_1111 : Cond.code ⟨"CircuitTwinModel", "depends", "(III)Z"⟩ prog_8_method_46_code 5 (some .boolean) ∈ mj_wd := mj_wi 1204 (by decide +kernel) (by decide +kernel)
theorem w_1112 : Cond.methodLink "CircuitTwinModel" 214 ⟨"CircuitTwinModel", "lacksInput", "(III)Z"⟩ ∈ mj_wd := mj_wi 1205 (by decide +kernel) (by decide +kernel)
theorem w_1114 : Cond.instanceMethod ⟨"CircuitTwinModel", "lacksInput", "(III)Z"⟩ ∈ mj_wd := mj_wi 1207 (by decide +kernel) (by decide +kernel)
theorem w_1115 : Cond.code ⟨"CircuitTwinModel", "lacksInput", "(III)Z"⟩ prog_8_method_45_code 5 (some .boolean) ∈ mj_wd := mj_wi 1208 (by decide +kernel) (by decide +kernel)
theorem w_1116 : Cond.methodLink "CircuitTwinLaw" 128 ⟨"CircuitTwinModel", "rises", "(III)I"⟩ ∈ mj_wd := mj_wi 1209 (by decide +kernel) (by decide +kernel)
theorem w_1117 : Cond.instanceMethod ⟨"CircuitTwinModel", "rises", "(III)I"⟩ ∈ mj_wd := mj_wi 1210 (by decide +kernel) (by decide +kernel)
theorem w_1118 : Cond.selects "CircuitTwinModel" ⟨"CircuitTwinModel", "rises", "(III)I"⟩ ⟨"CircuitTwinModel", "rises", "(III)I"⟩ ∈ mj_wd := mj_wi 1211 (by decide +kernel) (by decide +kernel)
theorem w_1119 : Cond.code ⟨"CircuitTwinModel", "rises", "(III)I"⟩ prog_8_method_47_code 8 (some .int) ∈ mj_wd := mj_wi 1212 (by decide +kernel) (by decide +kernel)
theorem w_1120 : Cond.methodLink "CircuitTwinLaw" 131 ⟨"CircuitTwinModel", "leader", "(II)I"⟩ ∈ mj_wd := mj_wi 1213 (by decide +kernel) (by decide +kernel)
theorem w_1121 : Cond.instanceMethod ⟨"CircuitTwinModel", "leader", "(II)I"⟩ ∈ mj_wd := mj_wi 1214 (by decide +kernel) (by decide +kernel)
theorem w_1122 : Cond.selects "CircuitTwinModel" ⟨"CircuitTwinModel", "leader", "(II)I"⟩ ⟨"CircuitTwinModel", "leader", "(II)I"⟩ ∈ mj_wd := mj_wi 1215 (by decide +kernel) (by decide +kernel)
theorem w_1123 : Cond.code ⟨"CircuitTwinModel", "leader", "(II)I"⟩ prog_8_method_51_code 3 (some .int) ∈ mj_wd := mj_wi 1216 (by decide +kernel) (by decide +kernel)
theorem w_1124 : Cond.methodLink "CircuitTwinModel" 224 ⟨"CircuitTwinModel", "leaderOf", "(II)I"⟩ ∈ mj_wd := mj_wi 1217 (by decide +kernel) (by decide +kernel)
theorem w_1126 : Cond.instanceMethod ⟨"CircuitTwinModel", "leaderOf", "(II)I"⟩ ∈ mj_wd := mj_wi 1219 (by decide +kernel) (by decide +kernel)
theorem w_1127 : Cond.code ⟨"CircuitTwinModel", "leaderOf", "(II)I"⟩ prog_8_method_50_code 9 (some .int) ∈ mj_wd := mj_wi 1220 (by decide +kernel) (by decide +kernel)
theorem w_1128 : Cond.methodLink "CircuitTwinModel" 218 ⟨"CircuitTwinModel", "isRow", "(II)Z"⟩ ∈ mj_wd := mj_wi 1221 (by decide +kernel) (by decide +kernel)
theorem w_1130 : Cond.instanceMethod ⟨"CircuitTwinModel", "isRow", "(II)Z"⟩ ∈ mj_wd := mj_wi 1223 (by decide +kernel) (by decide +kernel)
theorem w_1131 : Cond.code ⟨"CircuitTwinModel", "isRow", "(II)Z"⟩ prog_8_method_49_code 3 (some .boolean) ∈ mj_wd := mj_wi 1224 (by decide +kernel) (by decide +kernel)
theorem w_1132 : Cond.methodLink "CircuitTwinModel" 221 ⟨"CircuitTwinModel", "variableOf", "(II)I"⟩ ∈ mj_wd := mj_wi 1225 (by decide +kernel) (by decide +kernel)
theorem w_1134 : Cond.instanceMethod ⟨"CircuitTwinModel", "variableOf", "(II)I"⟩ ∈ mj_wd := mj_wi 1227 (by decide +kernel) (by decide +kernel)
theorem w_1135 : Cond.code ⟨"CircuitTwinModel", "variableOf", "(II)I"⟩ prog_8_method_48_code 3 (some .int) ∈ mj_wd := mj_wi 1228 (by decide +kernel) (by decide +kernel)
theorem w_1136 : Cond.methodLink "CircuitTwinLaw" 134 ⟨"CircuitTwinModel", "functions", "(I)I"⟩ ∈ mj_wd := mj_wi 1229 (by decide +kernel) (by decide +kernel)
theorem w_1137 : Cond.instanceMethod ⟨"CircuitTwinModel", "functions", "(I)I"⟩ ∈ mj_wd := mj_wi 1230 (by decide +kernel) (by decide +kernel)
theorem w_1138 : Cond.selects "CircuitTwinModel" ⟨"CircuitTwinModel", "functions", "(I)I"⟩ ⟨"CircuitTwinModel", "functions", "(I)I"⟩ ∈ mj_wd := mj_wi 1231 (by decide +kernel) (by decide +kernel)
theorem w_1139 : Cond.code ⟨"CircuitTwinModel", "functions", "(I)I"⟩ prog_8_method_54_code 2 (some .int) ∈ mj_wd := mj_wi 1232 (by decide +kernel) (by decide +kernel)
theorem w_1140 : Cond.methodLink "CircuitTwinModel" 230 ⟨"CircuitTwinModel", "different", "(II)I"⟩ ∈ mj_wd := mj_wi 1233 (by decide +kernel) (by decide +kernel)
theorem w_1142 : Cond.instanceMethod ⟨"CircuitTwinModel", "different", "(II)I"⟩ ∈ mj_wd := mj_wi 1235 (by decide +kernel) (by decide +kernel)
theorem w_1143 : Cond.code ⟨"CircuitTwinModel", "different", "(II)I"⟩ prog_8_method_53_code 6 (some .int) ∈ mj_wd := mj_wi 1236 (by decide +kernel) (by decide +kernel)
theorem w_1144 : Cond.methodLink "CircuitTwinModel" 227 ⟨"CircuitTwinModel", "isOld", "(III)Z"⟩ ∈ mj_wd := mj_wi 1237 (by decide +kernel) (by decide +kernel)
theorem w_1146 : Cond.instanceMethod ⟨"CircuitTwinModel", "isOld", "(III)Z"⟩ ∈ mj_wd := mj_wi 1239 (by decide +kernel) (by decide +kernel)
theorem w_1147 : Cond.code ⟨"CircuitTwinModel", "isOld", "(III)Z"⟩ prog_8_method_52_code 8 (some .boolean) ∈ mj_wd := mj_wi 1240 (by decide +kernel) (by decide +kernel)
theorem w_1148 : Cond.methodLink "CircuitTwinLaw" 137 ⟨"CircuitTwinModel", "allFunctions", "()I"⟩ ∈ mj_wd := mj_wi 1241 (by decide +kernel) (by decide +kernel)
theorem w_1149 : Cond.instanceMethod ⟨"CircuitTwinModel", "allFunctions", "()I"⟩ ∈ mj_wd := mj_wi 1242 (by decide +kernel) (by decide +kernel)
theorem w_1150 : Cond.selects "CircuitTwinModel" ⟨"CircuitTwinModel", "allFunctions", "()I"⟩ ⟨"CircuitTwinModel", "allFunctions", "()I"⟩ ∈ mj_wd := mj_wi 1243 (by decide +kernel) (by decide +kernel)
theorem w_1151 : Cond.code ⟨"CircuitTwinModel", "allFunctions", "()I"⟩ prog_8_method_55_code 1 (some .int) ∈ mj_wd := mj_wi 1244 (by decide +kernel) (by decide +kernel)
theorem w_1152 : Cond.methodLink "CircuitTwinLaw" 141 ⟨"CircuitTwinModel", "write", "(IZZ)I"⟩ ∈ mj_wd := mj_wi 1245 (by decide +kernel) (by decide +kernel)
theorem w_1153 : Cond.instanceMethod ⟨"CircuitTwinModel", "write", "(IZZ)I"⟩ ∈ mj_wd := mj_wi 1246 (by decide +kernel) (by decide +kernel)
theorem w_1154 : Cond.selects "CircuitTwinModel" ⟨"CircuitTwinModel", "write", "(IZZ)I"⟩ ⟨"CircuitTwinModel", "write", "(IZZ)I"⟩ ∈ mj_wd := mj_wi 1247 (by decide +kernel) (by decide +kernel)
theorem w_1155 : Cond.code ⟨"CircuitTwinModel", "write", "(IZZ)I"⟩ prog_8_method_63_code 8 (some .int) ∈ mj_wd := mj_wi 1248 (by decide +kernel) (by decide +kernel)
theorem w_1156 : Cond.methodLink "CircuitTwinModel" 242 ⟨"CircuitTwinModel", "choose", "(IZ)I"⟩ ∈ mj_wd := mj_wi 1249 (by decide +kernel) (by decide +kernel)
theorem w_1158 : Cond.instanceMethod ⟨"CircuitTwinModel", "choose", "(IZ)I"⟩ ∈ mj_wd := mj_wi 1251 (by decide +kernel) (by decide +kernel)
theorem w_1159 : Cond.code ⟨"CircuitTwinModel", "choose", "(IZ)I"⟩ prog_8_method_60_code 8 (some .int) ∈ mj_wd := mj_wi 1252 (by decide +kernel) (by decide +kernel)
theorem w_1160 : Cond.methodLink "CircuitTwinModel" 239 ⟨"CircuitTwinModel", "turned", "(II)I"⟩ ∈ mj_wd := mj_wi 1253 (by decide +kernel) (by decide +kernel)
theorem w_1162 : Cond.instanceMethod ⟨"CircuitTwinModel", "turned", "(II)I"⟩ ∈ mj_wd := mj_wi 1255 (by decide +kernel) (by decide +kernel)
theorem w_1163 : Cond.code ⟨"CircuitTwinModel", "turned", "(II)I"⟩ prog_8_method_59_code 3 (some .int) ∈ mj_wd := mj_wi 1256 (by decide +kernel) (by decide +kernel)
theorem w_1164 : Cond.methodLink "CircuitTwinModel" 236 ⟨"CircuitTwinModel", "put", "(I)V"⟩ ∈ mj_wd := mj_wi 1257 (by decide +kernel) (by decide +kernel)
theorem w_1166 : Cond.instanceMethod ⟨"CircuitTwinModel", "put", "(I)V"⟩ ∈ mj_wd := mj_wi 1259 (by decide +kernel) (by decide +kernel)
theorem w_1167 : Cond.code ⟨"CircuitTwinModel", "put", "(I)V"⟩ prog_8_method_56_code 2 (none : Option ClassFile.FieldType) ∈ mj_wd := mj_wi 1260 (by decide +kernel) (by decide +kernel)
theorem w_1168 : Cond.methodLink "CircuitTwinModel" 246 ⟨"CircuitTwinModel", "putNumber", "(II)V"⟩ ∈ mj_wd := mj_wi 1261 (by decide +kernel) (by decide +kernel)
theorem w_1170 : Cond.instanceMethod ⟨"CircuitTwinModel", "putNumber", "(II)V"⟩ ∈ mj_wd := mj_wi 1263 (by decide +kernel) (by decide +kernel)
theorem w_1171 : Cond.code ⟨"CircuitTwinModel", "putNumber", "(II)V"⟩ prog_8_method_57_code 4 (none : Option ClassFile.FieldType) ∈ mj_wd := mj_wi 1264 (by decide +kernel) (by decide +kernel)
theorem w_1172 : Cond.methodLink "CircuitTwinModel" 249 ⟨"CircuitTwinModel", "nextGate", "(I)I"⟩ ∈ mj_wd := mj_wi 1265 (by decide +kernel) (by decide +kernel)
theorem w_1174 : Cond.instanceMethod ⟨"CircuitTwinModel", "nextGate", "(I)I"⟩ ∈ mj_wd := mj_wi 1267 (by decide +kernel) (by decide +kernel)
theorem w_1175 : Cond.code ⟨"CircuitTwinModel", "nextGate", "(I)I"⟩ prog_8_method_61_code 4 (some .int) ∈ mj_wd := mj_wi 1268 (by decide +kernel) (by decide +kernel)
theorem w_1176 : Cond.methodLink "CircuitTwinModel" 252 ⟨"CircuitTwinModel", "written", "(II)I"⟩ ∈ mj_wd := mj_wi 1269 (by decide +kernel) (by decide +kernel)
theorem w_1178 : Cond.instanceMethod ⟨"CircuitTwinModel", "written", "(II)I"⟩ ∈ mj_wd := mj_wi 1271 (by decide +kernel) (by decide +kernel)
theorem w_1179 : Cond.code ⟨"CircuitTwinModel", "written", "(II)I"⟩ prog_8_method_62_code 4 (some .int) ∈ mj_wd := mj_wi 1272 (by decide +kernel) (by decide +kernel)
theorem w_1180 : Cond.methodLink "CircuitTwinModel" 255 ⟨"CircuitTwinModel", "writeGate", "(IIZ)V"⟩ ∈ mj_wd := mj_wi 1273 (by decide +kernel) (by decide +kernel)
theorem w_1182 : Cond.instanceMethod ⟨"CircuitTwinModel", "writeGate", "(IIZ)V"⟩ ∈ mj_wd := mj_wi 1275 (by decide +kernel) (by decide +kernel)
theorem w_1183 : Cond.code ⟨"CircuitTwinModel", "writeGate", "(IIZ)V"⟩ prog_8_method_64_code 9 (none : Option ClassFile.FieldType) ∈ mj_wd := mj_wi 1276 (by decide +kernel) (by decide +kernel)
theorem w_1184 : Cond.methodLink "CircuitTwinModel" 259 ⟨"CircuitTwinModel", "putStep", "(I)V"⟩ ∈ mj_wd := mj_wi 1277 (by decide +kernel) (by decide +kernel)
theorem w_1186 : Cond.instanceMethod ⟨"CircuitTwinModel", "putStep", "(I)V"⟩ ∈ mj_wd := mj_wi 1279 (by decide +kernel) (by decide +kernel)
theorem w_1187 : Cond.code ⟨"CircuitTwinModel", "putStep", "(I)V"⟩ prog_8_method_58_code 2 (none : Option ClassFile.FieldType) ∈ mj_wd := mj_wi 1280 (by decide +kernel) (by decide +kernel)
theorem w_1188 : Cond.methodLink "CircuitTwinLaw" 144 ⟨"CircuitTwinModel", "out", "(I)J"⟩ ∈ mj_wd := mj_wi 1281 (by decide +kernel) (by decide +kernel)
theorem w_1189 : Cond.instanceMethod ⟨"CircuitTwinModel", "out", "(I)J"⟩ ∈ mj_wd := mj_wi 1282 (by decide +kernel) (by decide +kernel)
theorem w_1190 : Cond.selects "CircuitTwinModel" ⟨"CircuitTwinModel", "out", "(I)J"⟩ ⟨"CircuitTwinModel", "out", "(I)J"⟩ ∈ mj_wd := mj_wi 1283 (by decide +kernel) (by decide +kernel)
theorem w_1191 : Cond.code ⟨"CircuitTwinModel", "out", "(I)J"⟩ prog_8_method_65_code 5 (some .long) ∈ mj_wd := mj_wi 1284 (by decide +kernel) (by decide +kernel)
theorem w_1192 : Cond.methodLink "CircuitTwinLaw" 147 ⟨"CircuitTwinModel", "look", "(II)I"⟩ ∈ mj_wd := mj_wi 1285 (by decide +kernel) (by decide +kernel)
theorem w_1193 : Cond.instanceMethod ⟨"CircuitTwinModel", "look", "(II)I"⟩ ∈ mj_wd := mj_wi 1286 (by decide +kernel) (by decide +kernel)
theorem w_1194 : Cond.selects "CircuitTwinModel" ⟨"CircuitTwinModel", "look", "(II)I"⟩ ⟨"CircuitTwinModel", "look", "(II)I"⟩ ∈ mj_wd := mj_wi 1287 (by decide +kernel) (by decide +kernel)
theorem w_1195 : Cond.code ⟨"CircuitTwinModel", "look", "(II)I"⟩ prog_8_method_66_code 7 (some .int) ∈ mj_wd := mj_wi 1288 (by decide +kernel) (by decide +kernel)
theorem w_1196 : Cond.constantLong "CircuitTwinLaw" 81 (4294967295 : Int64) ∈ mj_wd := mj_wi 1289 (by decide +kernel) (by decide +kernel)
end
section
/-! THE MINI MACHINE: a pure picture of the machine's state. Places instead of addresses, Int with wrap instead of Int32, BitVec 64 instead of Int64. -/
abbrev mj_R : Type := Nat ⊕ Nat
abbrev mj_V : Type := Int ⊕ (BitVec 64 ⊕ mj_R)
abbrev mj_Sh : Type := Nat → Nat × Nat
abbrev mj_FI : Type := Nat → Nat → Int
abbrev mj_FR : Type := Nat → Nat → mj_R
abbrev mj_LA : Type := Nat → Nat → BitVec 64
abbrev mj_L : Type := List (Option mj_V)
abbrev mj_K : Type := Nat → mj_L → List mj_V → mj_Sh → mj_FR → mj_FI → mj_LA → Nat → Nat → Nat → Prop
abbrev mj_O : Type := Option mj_V ⊕ Nat
abbrev mj_Q : Type := mj_O → mj_Sh → mj_FR → mj_FI → mj_LA → Nat → Prop
abbrev mj_Sem : Type := mj_Q → mj_K → mj_K
/-- a method: name, bytes, locals, what it returns, its room, its handlers -/
abbrev mj_M : Type := MethodName × ByteArray × Nat × Option FieldType × Room × List (Nat × Nat × Nat × Nat) × Nat × (Nat → Int)
/-- the script (address, length, ints) and the static table's address -/
abbrev mj_B : Type := (Nat × Nat × (Nat → Int32)) × Nat
end
section
/-! NAMES, printed by wip/gen/gen.py out of the tables, javap's listing and the skeleton -/
def fT_T : u_T := fun k => match k with
  | 0 => ("CircuitTwin", "first", "LCircuitTwin$Circuit;", true)
  | 1 => ("CircuitTwin", "second", "LCircuitTwin$Circuit;", true)
  | 2 => ("CircuitTwin", "reader", "LCircuitTwin$Reader;", true)
  | _ => ("CircuitTwin", "writer", "LCircuitTwin$Writer;", true)
def fy_T : Nat → FieldType := fun k => match k with
  | 0 => .object "CircuitTwin$Circuit"
  | 1 => .object "CircuitTwin$Circuit"
  | 2 => .object "CircuitTwin$Reader"
  | _ => .object "CircuitTwin$Writer"
def fT_C : u_T := fun k => match k with
  | 0 => ("CircuitTwin$Circuit", "net", "LCircuitTwin$Net;", false)
  | 1 => ("CircuitTwin$Circuit", "error", "I", false)
  | 2 => ("CircuitTwin$Circuit", "place", "I", false)
  | 3 => ("CircuitTwin$Circuit", "kinds", "I", false)
  | 4 => ("CircuitTwin$Circuit", "rows", "[J", true)
  | 5 => ("CircuitTwin$Circuit", "hashes", "[J", true)
  | 6 => ("CircuitTwin$Circuit", "leaders", "[I", true)
  | 7 => ("CircuitTwin$Circuit", "buckets", "[I", true)
  | 8 => ("CircuitTwin$Circuit", "words", "I", false)
  | _ => ("CircuitTwin$Circuit", "mask", "J", false)
def fy_C : Nat → FieldType := fun k => match k with
  | 0 => .object "CircuitTwin$Net"
  | 1 => .int
  | 2 => .int
  | 3 => .int
  | 4 => .array .long
  | 5 => .array .long
  | 6 => .array .int
  | 7 => .array .int
  | 8 => .int
  | _ => .long
def fT_F : u_T := fun k => match k with
  | 0 => ("CircuitTwin$LoopFinder", "trail", "[I", true)
  | 1 => ("CircuitTwin$LoopFinder", "reachedFrom", "[I", true)
  | _ => ("CircuitTwin$LoopFinder", "reached", "I", false)
def fy_F : Nat → FieldType := fun k => match k with
  | 0 => .array .int
  | 1 => .array .int
  | _ => .int
def fT_N : u_T := fun k => match k with
  | 0 => ("CircuitTwin$Net", "slotOf", "[I", true)
  | 1 => ("CircuitTwin$Net", "own", "[I", true)
  | 2 => ("CircuitTwin$Net", "left", "[I", true)
  | 3 => ("CircuitTwin$Net", "right", "[I", true)
  | 4 => ("CircuitTwin$Net", "outputLiterals", "[I", true)
  | 5 => ("CircuitTwin$Net", "depth", "[I", true)
  | 6 => ("CircuitTwin$Net", "order", "[I", true)
  | 7 => ("CircuitTwin$Net", "waiting", "[I", true)
  | 8 => ("CircuitTwin$Net", "waitingCount", "I", false)
  | 9 => ("CircuitTwin$Net", "largest", "I", false)
  | 10 => ("CircuitTwin$Net", "inputs", "I", false)
  | 11 => ("CircuitTwin$Net", "gates", "I", false)
  | _ => ("CircuitTwin$Net", "outputs", "I", false)
def fy_N : Nat → FieldType := fun k => match k with
  | 0 => .array .int
  | 1 => .array .int
  | 2 => .array .int
  | 3 => .array .int
  | 4 => .array .int
  | 5 => .array .int
  | 6 => .array .int
  | 7 => .array .int
  | 8 => .int
  | 9 => .int
  | 10 => .int
  | 11 => .int
  | _ => .int
def fT_R : u_T := fun k => match k with
  | 0 => ("CircuitTwin$Reader", "length", "I", false)
  | 1 => ("CircuitTwin$Reader", "error", "I", false)
  | 2 => ("CircuitTwin$Reader", "place", "I", false)
  | 3 => ("CircuitTwin$Reader", "bytes", "[B", true)
  | 4 => ("CircuitTwin$Reader", "numbers", "[I", true)
  | 5 => ("CircuitTwin$Reader", "starts", "[I", true)
  | 6 => ("CircuitTwin$Reader", "loops", "LCircuitTwin$LoopFinder;", true)
  | 7 => ("CircuitTwin$Reader", "net", "LCircuitTwin$Net;", false)
  | 8 => ("CircuitTwin$Reader", "position", "I", false)
  | _ => ("CircuitTwin$Reader", "binary", "Z", false)
def fy_R : Nat → FieldType := fun k => match k with
  | 0 => .int
  | 1 => .int
  | 2 => .int
  | 3 => .array .byte
  | 4 => .array .int
  | 5 => .array .int
  | 6 => .object "CircuitTwin$LoopFinder"
  | 7 => .object "CircuitTwin$Net"
  | 8 => .int
  | _ => .boolean
def fT_W : u_T := fun k => match k with
  | 0 => ("CircuitTwin$Writer", "length", "I", false)
  | 1 => ("CircuitTwin$Writer", "bytes", "[B", true)
  | 2 => ("CircuitTwin$Writer", "depth", "[I", true)
  | 3 => ("CircuitTwin$Writer", "needed", "[Z", true)
  | 4 => ("CircuitTwin$Writer", "number", "[I", true)
  | 5 => ("CircuitTwin$Writer", "slotOfNumber", "[I", true)
  | 6 => ("CircuitTwin$Writer", "nextOfDepth", "[I", true)
  | 7 => ("CircuitTwin$Writer", "reduced", "Z", false)
  | _ => ("CircuitTwin$Writer", "gates", "I", false)
def fy_W : Nat → FieldType := fun k => match k with
  | 0 => .int
  | 1 => .array .byte
  | 2 => .array .int
  | 3 => .array .boolean
  | 4 => .array .int
  | 5 => .array .int
  | 6 => .array .int
  | 7 => .boolean
  | _ => .int
def fT_M : u_T := fun k => match k with
  | 0 => ("CircuitTwinModel", "thrown", "I", false)
  | 1 => ("CircuitTwinModel", "tape", "[B", true)
  | 2 => ("CircuitTwinModel", "tapeSize", "I", false)
  | 3 => ("CircuitTwinModel", "out", "[B", true)
  | 4 => ("CircuitTwinModel", "outSize", "I", false)
  | 5 => ("CircuitTwinModel", "inputs", "[I", true)
  | 6 => ("CircuitTwinModel", "gates", "[I", true)
  | 7 => ("CircuitTwinModel", "outputs", "[I", true)
  | 8 => ("CircuitTwinModel", "most", "[I", true)
  | 9 => ("CircuitTwinModel", "error", "[I", true)
  | 10 => ("CircuitTwinModel", "place", "[I", true)
  | 11 => ("CircuitTwinModel", "inputLiteral", "[I", true)
  | 12 => ("CircuitTwinModel", "own", "[I", true)
  | 13 => ("CircuitTwinModel", "left", "[I", true)
  | 14 => ("CircuitTwinModel", "right", "[I", true)
  | 15 => ("CircuitTwinModel", "outputLiteral", "[I", true)
  | 16 => ("CircuitTwinModel", "rowOf", "[I", true)
  | 17 => ("CircuitTwinModel", "depth", "[I", true)
  | 18 => ("CircuitTwinModel", "order", "[I", true)
  | 19 => ("CircuitTwinModel", "table", "[J", true)
  | 20 => ("CircuitTwinModel", "at", "I", false)
  | 21 => ("CircuitTwinModel", "wrong", "I", false)
  | 22 => ("CircuitTwinModel", "wrongAt", "I", false)
  | 23 => ("CircuitTwinModel", "numbers", "[I", true)
  | 24 => ("CircuitTwinModel", "begins", "[I", true)
  | 25 => ("CircuitTwinModel", "reached", "[Z", true)
  | 26 => ("CircuitTwinModel", "become", "[I", true)
  | 27 => ("CircuitTwinModel", "newDepth", "[I", true)
  | 28 => ("CircuitTwinModel", "number", "[I", true)
  | _ => ("CircuitTwinModel", "used", "[Z", true)
def fy_M : Nat → FieldType := fun k => match k with
  | 0 => .int
  | 1 => .array .byte
  | 2 => .int
  | 3 => .array .byte
  | 4 => .int
  | 5 => .array .int
  | 6 => .array .int
  | 7 => .array .int
  | 8 => .array .int
  | 9 => .array .int
  | 10 => .array .int
  | 11 => .array .int
  | 12 => .array .int
  | 13 => .array .int
  | 14 => .array .int
  | 15 => .array .int
  | 16 => .array .int
  | 17 => .array .int
  | 18 => .array .int
  | 19 => .array .long
  | 20 => .int
  | 21 => .int
  | 22 => .int
  | 23 => .array .int
  | 24 => .array .int
  | 25 => .array .boolean
  | 26 => .array .int
  | 27 => .array .int
  | 28 => .array .int
  | _ => .array .boolean
abbrev vwCl : List vw_C := [("CircuitTwin", fT_T, 4), ("CircuitTwin$Circuit", fT_C, 10), ("CircuitTwin$LoopFinder", fT_F, 3), ("CircuitTwin$Net", fT_N, 13), ("CircuitTwin$Reader", fT_R, 10), ("CircuitTwin$Writer", fT_W, 9), ("CircuitTwinModel", fT_M, 30)]
def mj_nf (ci : Nat) : Nat := match ci with
  | 0 => 4
  | 1 => 10
  | 2 => 3
  | 3 => 13
  | 4 => 10
  | 5 => 9
  | 6 => 30
  | _ => 0
def mj_kd (ci k : Nat) : Nat := match ci with
  | 0 => ([1, 1, 1, 1] : List Nat).getD k 0
  | 1 => ([1, 0, 0, 0, 1, 1, 1, 1, 0, 2] : List Nat).getD k 0
  | 2 => ([1, 1, 0] : List Nat).getD k 0
  | 3 => ([1, 1, 1, 1, 1, 1, 1, 1, 0, 0, 0, 0, 0] : List Nat).getD k 0
  | 4 => ([0, 0, 0, 1, 1, 1, 1, 1, 0, 0] : List Nat).getD k 0
  | 5 => ([0, 1, 1, 1, 1, 1, 1, 0, 0] : List Nat).getD k 0
  | 6 => ([0, 1, 0, 1, 0, 1, 1, 1, 1, 1, 1, 1, 1, 1, 1, 1, 1, 1, 1, 1, 0, 0, 0, 1, 1, 1, 1, 1, 1, 1] : List Nat).getD k 0
  | _ => 0
def mj_xn (k : Nat) : String := match k with
  | 0 => "java/lang/IllegalArgumentException"
  | 1 => "java/lang/IllegalStateException"
  | _ => "java/util/NoSuchElementException"
def mj_wn : List (String × Nat × MethodName × String) := [("CircuitTwin", 11, ⟨"CircuitTwin$Circuit", "<init>", "()V"⟩, "CircuitTwin"), ("CircuitTwin", 24, ⟨"CircuitTwin$Reader", "<init>", "()V"⟩, "CircuitTwin"), ("CircuitTwin$Reader", 24, ⟨"CircuitTwin$LoopFinder", "<init>", "()V"⟩, "CircuitTwin"), ("CircuitTwin", 31, ⟨"CircuitTwin$Writer", "<init>", "()V"⟩, "CircuitTwin")]
def mj_wr : List (String × Nat × String) := [("CircuitTwin", 38, "n is not 1 .. 8"), ("CircuitTwin", 49, "the tape would be too long"), ("CircuitTwin", 174, "no such circuit"), ("CircuitTwin", 99, "no such input, gate or output"), ("CircuitTwin", 180, "no such literal"), ("CircuitTwin", 182, "no such vector"), ("CircuitTwin", 186, "the circuits do not match"), ("CircuitTwin", 120, "not both have this output"), ("CircuitTwin", 184, "no such input"), ("CircuitTwin", 160, "no such byte"), ("CircuitTwin", 172, "no such what")]
def mj_tw : List (Cond × Bool) := [(.declares ⟨"java/lang/RuntimeException", "<init>", "(Ljava/lang/String;)V"⟩, true), (.declares ⟨"java/lang/Exception", "<init>", "(Ljava/lang/String;)V"⟩, true), (.declares ⟨"java/lang/Throwable", "<init>", "(Ljava/lang/String;)V"⟩, true), (.castable "java/lang/IllegalArgumentException" "java/lang/IllegalArgumentException", true), (.castable "java/lang/IllegalArgumentException" "java/lang/IllegalStateException", false), (.castable "java/lang/IllegalArgumentException" "java/util/NoSuchElementException", false), (.castable "java/lang/IllegalStateException" "java/lang/IllegalArgumentException", false), (.castable "java/lang/IllegalStateException" "java/lang/IllegalStateException", true), (.castable "java/lang/IllegalStateException" "java/util/NoSuchElementException", false), (.castable "java/util/NoSuchElementException" "java/lang/IllegalArgumentException", false), (.castable "java/util/NoSuchElementException" "java/lang/IllegalStateException", false), (.castable "java/util/NoSuchElementException" "java/util/NoSuchElementException", true)]
def mj_iw (i : Nat) : BitVec 64 := match i with
  | 0 => 0xAAAAAAAAAAAAAAAA#64
  | 1 => 0xCCCCCCCCCCCCCCCC#64
  | 2 => 0xF0F0F0F0F0F0F0F0#64
  | 3 => 0xFF00FF00FF00FF00#64
  | 4 => 0xFFFF0000FFFF0000#64
  | _ => 0xFFFFFFFF00000000#64
def mj_ixC : String := "CircuitTwin$Circuit"
def mj_ixN : String := "INPUT_WORDS"
def mj_ixD : String := "[J"
def mj_Sx (tb : Nat) (A : Nat → Prop) (s : State) : Prop := va_Z mj_ixC mj_ixN mj_ixD (.ref tb) A s s.heap ∧ va_T .long tb 6 (fun j => .long (Int64.ofBitVec (mj_iw j))) A s s.heap
theorem mj_Sx_move {tb : Nat} {A A' : Nat → Prop} {s U : State} (h : mj_Sx tb A s) (hk : ∀ q : Nat, q < s.heap.size → ¬ A q → U.heap[q]? = s.heap[q]?) (hv : s.vm.Alike U.vm) (hA : ∀ q, A' q → A q) : mj_Sx tb A' U :=
  ⟨((h.1.kept hk).narrow hA).moved hv, ((h.2.kept hk).narrow hA).moved hv⟩
def m_T_init : mj_M := (⟨"CircuitTwin", "<init>", "()V"⟩, prog_1_method_1_code, 1, none, { frames := 5, cells := 51, slots := 186751, locals := 119 }, [], 0, fun _ => 0)
def m_C_init : mj_M := (⟨"CircuitTwin$Circuit", "<init>", "()V"⟩, prog_2_method_1_code, 1, none, { frames := 3, cells := 13, slots := 84672, locals := 67 }, [], 0, fun _ => 0)
def m_N_init : mj_M := (⟨"CircuitTwin$Net", "<init>", "()V"⟩, prog_4_method_1_code, 1, none, { frames := 2, cells := 8, slots := 2877, locals := 47 }, [], 0, fun _ => 0)
def m_N_begin : mj_M := (⟨"CircuitTwin$Net", "begin", "(IIII)V"⟩, prog_4_method_2_code, 5, none, { frames := 1, cells := 0, slots := 0, locals := 23 }, [], 0, fun _ => 0)
def m_A_fill : mj_M := (⟨"java/util/Arrays", "fill", "([II)V"⟩, prog_18_method_103_code, 4, none, { frames := 0, cells := 0, slots := 0, locals := 0 }, [], 0, fun _ => 0)
def m_C_settle : mj_M := (⟨"CircuitTwin$Circuit", "settle", "()V"⟩, prog_2_method_2_code, 3, none, { frames := 4, cells := 0, slots := 0, locals := 97 }, [], 0, fun _ => 0)
def m_C_enter : mj_M := (⟨"CircuitTwin$Circuit", "enter", "(I)V"⟩, prog_2_method_5_code, 4, none, { frames := 3, cells := 0, slots := 0, locals := 74 }, [], 0, fun _ => 0)
def m_C_hashOf : mj_M := (⟨"CircuitTwin$Circuit", "hashOf", "(I)J"⟩, prog_2_method_6_code, 8, some .long, { frames := 1, cells := 0, slots := 0, locals := 21 }, [], 0, fun _ => 0)
def m_C_startBit : mj_M := (⟨"CircuitTwin$Circuit", "startBit", "(I)I"⟩, prog_2_method_11_code, 2, some .int, { frames := 0, cells := 0, slots := 0, locals := 0 }, [], 0, fun _ => 0)
def m_C_bucketFor : mj_M := (⟨"CircuitTwin$Circuit", "bucketFor", "(LCircuitTwin$Circuit;I)I"⟩, prog_2_method_7_code, 6, some .int, { frames := 2, cells := 0, slots := 0, locals := 49 }, [], 0, fun _ => 0)
def m_C_isSameOrInverse : mj_M := (⟨"CircuitTwin$Circuit", "isSameOrInverse", "(ILCircuitTwin$Circuit;I)Z"⟩, prog_2_method_8_code, 9, some .boolean, { frames := 1, cells := 0, slots := 0, locals := 21 }, [], 0, fun _ => 0)
def m_C_fillInput : mj_M := (⟨"CircuitTwin$Circuit", "fillInput", "(I)V"⟩, prog_2_method_3_code, 4, none, { frames := 0, cells := 0, slots := 0, locals := 0 }, [], 0, fun _ => 0)
def m_C_fillGate : mj_M := (⟨"CircuitTwin$Circuit", "fillGate", "(I)V"⟩, prog_2_method_4_code, 10, none, { frames := 2, cells := 0, slots := 0, locals := 42 }, [], 0, fun _ => 0)
def m_C_rowOf : mj_M := (⟨"CircuitTwin$Circuit", "rowOf", "(I)I"⟩, prog_2_method_12_code, 2, some .int, { frames := 1, cells := 0, slots := 0, locals := 21 }, [], 0, fun _ => 0)
def m_N_slotFor : mj_M := (⟨"CircuitTwin$Net", "slotFor", "(I)I"⟩, prog_4_method_6_code, 2, some .int, { frames := 0, cells := 0, slots := 0, locals := 0 }, [], 0, fun _ => 0)
def m_C_flipOf : mj_M := (⟨"CircuitTwin$Circuit", "flipOf", "(I)J"⟩, prog_2_method_13_code, 2, some .long, { frames := 0, cells := 0, slots := 0, locals := 0 }, [], 0, fun _ => 0)
def m_R_init : mj_M := (⟨"CircuitTwin$Reader", "<init>", "()V"⟩, prog_5_method_1_code, 1, none, { frames := 3, cells := 15, slots := 11710, locals := 67 }, [], 0, fun _ => 0)
def m_F_init : mj_M := (⟨"CircuitTwin$LoopFinder", "<init>", "()V"⟩, prog_3_method_1_code, 1, none, { frames := 1, cells := 2, slots := 615, locals := 20 }, [], 0, fun _ => 0)
def m_W_init : mj_M := (⟨"CircuitTwin$Writer", "<init>", "()V"⟩, prog_6_method_1_code, 1, none, { frames := 1, cells := 6, slots := 5658, locals := 20 }, [], 0, fun _ => 0)
def m_L_feed : mj_M := (⟨"CircuitTwinLaw", "feed", "(LCircuitTwin;IJ[J)I"⟩, method_3_code, 6, some .int, { frames := 7, cells := 2, slots := 12, locals := 124 }, [(0, 11, 14, 13), (0, 11, 18, 15)], 0, fun _ => 0)
def m_T_feed : mj_M := (⟨"CircuitTwin", "feed", "(IJ)I"⟩, prog_1_method_2_code, 5, some .int, { frames := 6, cells := 2, slots := 12, locals := 100 }, [], 0, fun _ => 0)
def m_R_append : mj_M := (⟨"CircuitTwin$Reader", "append", "(B)V"⟩, prog_5_method_2_code, 2, none, { frames := 0, cells := 0, slots := 0, locals := 0 }, [], 0, fun _ => 0)
def m_L_load : mj_M := (⟨"CircuitTwinLaw", "load", "(LCircuitTwin;I[J)I"⟩, method_4_code, 4, some .int, { frames := 8, cells := 1, slots := 6, locals := 156 }, [(0, 9, 12, 13)], 0, fun _ => 0)
def m_T_load : mj_M := (⟨"CircuitTwin", "load", "(I)I"⟩, prog_1_method_3_code, 3, some .int, { frames := 7, cells := 1, slots := 6, locals := 134 }, [], 0, fun _ => 0)
def m_T_named : mj_M := (⟨"CircuitTwin", "named", "(I)LCircuitTwin$Circuit;"⟩, prog_1_method_20_code, 2, some ((.object "CircuitTwin$Circuit")), { frames := 6, cells := 1, slots := 6, locals := 100 }, [], 0, fun _ => 0)
def m_R_readTape : mj_M := (⟨"CircuitTwin$Reader", "readTape", "()V"⟩, prog_5_method_3_code, 1, none, { frames := 5, cells := 0, slots := 0, locals := 114 }, [], 0, fun _ => 0)
def m_R_takeKind : mj_M := (⟨"CircuitTwin$Reader", "takeKind", "()Z"⟩, prog_5_method_7_code, 3, some .boolean, { frames := 1, cells := 0, slots := 0, locals := 22 }, [], 0, fun _ => 0)
def m_R_byteAt : mj_M := (⟨"CircuitTwin$Reader", "byteAt", "(I)I"⟩, prog_5_method_6_code, 2, some .int, { frames := 0, cells := 0, slots := 0, locals := 0 }, [], 0, fun _ => 0)
def m_R_fail : mj_M := (⟨"CircuitTwin$Reader", "fail", "(II)Z"⟩, prog_5_method_5_code, 3, some .boolean, { frames := 0, cells := 0, slots := 0, locals := 0 }, [], 0, fun _ => 0)
def m_R_takeSizes : mj_M := (⟨"CircuitTwin$Reader", "takeSizes", "()Z"⟩, prog_5_method_8_code, 5, some .boolean, { frames := 3, cells := 0, slots := 0, locals := 71 }, [], 0, fun _ => 0)
def m_R_takeLine : mj_M := (⟨"CircuitTwin$Reader", "takeLine", "(II)Z"⟩, prog_5_method_16_code, 4, some .boolean, { frames := 2, cells := 0, slots := 0, locals := 48 }, [], 0, fun _ => 0)
def m_R_takeNumber : mj_M := (⟨"CircuitTwin$Reader", "takeNumber", "(III)Z"⟩, prog_5_method_17_code, 7, some .boolean, { frames := 1, cells := 0, slots := 0, locals := 22 }, [], 0, fun _ => 0)
def m_R_takeInputs : mj_M := (⟨"CircuitTwin$Reader", "takeInputs", "()Z"⟩, prog_5_method_9_code, 2, some .boolean, { frames := 3, cells := 0, slots := 0, locals := 71 }, [], 0, fun _ => 0)
def m_N_place : mj_M := (⟨"CircuitTwin$Net", "place", "(II)V"⟩, prog_4_method_8_code, 3, none, { frames := 0, cells := 0, slots := 0, locals := 0 }, [], 0, fun _ => 0)
def m_R_takeOwn : mj_M := (⟨"CircuitTwin$Reader", "takeOwn", "(I)Z"⟩, prog_5_method_18_code, 2, some .boolean, { frames := 2, cells := 0, slots := 0, locals := 42 }, [], 0, fun _ => 0)
def m_N_isFree : mj_M := (⟨"CircuitTwin$Net", "isFree", "(I)Z"⟩, prog_4_method_5_code, 2, some .boolean, { frames := 1, cells := 0, slots := 0, locals := 21 }, [], 0, fun _ => 0)
def m_N_exists : mj_M := (⟨"CircuitTwin$Net", "exists", "(I)Z"⟩, prog_4_method_3_code, 2, some .boolean, { frames := 0, cells := 0, slots := 0, locals := 0 }, [], 0, fun _ => 0)
def m_R_takeOutputs : mj_M := (⟨"CircuitTwin$Reader", "takeOutputs", "()Z"⟩, prog_5_method_10_code, 2, some .boolean, { frames := 3, cells := 0, slots := 0, locals := 71 }, [], 0, fun _ => 0)
def m_R_takeUsed : mj_M := (⟨"CircuitTwin$Reader", "takeUsed", "(I)Z"⟩, prog_5_method_19_code, 2, some .boolean, { frames := 1, cells := 0, slots := 0, locals := 22 }, [], 0, fun _ => 0)
def m_R_takeGates : mj_M := (⟨"CircuitTwin$Reader", "takeGates", "()Z"⟩, prog_5_method_11_code, 3, some .boolean, { frames := 4, cells := 0, slots := 0, locals := 92 }, [], 0, fun _ => 0)
def m_R_takeStepGate : mj_M := (⟨"CircuitTwin$Reader", "takeStepGate", "(I)Z"⟩, prog_5_method_13_code, 5, some .boolean, { frames := 2, cells := 0, slots := 0, locals := 44 }, [], 0, fun _ => 0)
def m_R_takeStep : mj_M := (⟨"CircuitTwin$Reader", "takeStep", "()I"⟩, prog_5_method_14_code, 3, some .int, { frames := 1, cells := 0, slots := 0, locals := 22 }, [], 0, fun _ => 0)
def m_R_takeLineGate : mj_M := (⟨"CircuitTwin$Reader", "takeLineGate", "(I)Z"⟩, prog_5_method_12_code, 2, some .boolean, { frames := 3, cells := 0, slots := 0, locals := 71 }, [], 0, fun _ => 0)
def m_R_takeEnd : mj_M := (⟨"CircuitTwin$Reader", "takeEnd", "()Z"⟩, prog_5_method_15_code, 1, some .boolean, { frames := 1, cells := 0, slots := 0, locals := 22 }, [], 0, fun _ => 0)
def m_R_checkWhole : mj_M := (⟨"CircuitTwin$Reader", "checkWhole", "()V"⟩, prog_5_method_20_code, 2, none, { frames := 4, cells := 0, slots := 0, locals := 92 }, [], 0, fun _ => 0)
def m_N_leastMissing : mj_M := (⟨"CircuitTwin$Net", "leastMissing", "()I"⟩, prog_4_method_10_code, 3, some .int, { frames := 2, cells := 0, slots := 0, locals := 42 }, [], 0, fun _ => 0)
def m_N_missingVariable : mj_M := (⟨"CircuitTwin$Net", "missingVariable", "(I)I"⟩, prog_4_method_11_code, 2, some .int, { frames := 1, cells := 0, slots := 0, locals := 21 }, [], 0, fun _ => 0)
def m_H_min : mj_M := (⟨"java/lang/Math", "min", "(II)I"⟩, prog_14_method_69_code, 2, some .int, { frames := 0, cells := 0, slots := 0, locals := 0 }, [], 0, fun _ => 0)
def m_N_arrange : mj_M := (⟨"CircuitTwin$Net", "arrange", "()Z"⟩, prog_4_method_12_code, 6, some .boolean, { frames := 2, cells := 0, slots := 0, locals := 45 }, [], 0, fun _ => 0)
def m_N_waitForAll : mj_M := (⟨"CircuitTwin$Net", "waitForAll", "()V"⟩, prog_4_method_13_code, 3, none, { frames := 1, cells := 0, slots := 0, locals := 23 }, [], 0, fun _ => 0)
def m_N_isGate : mj_M := (⟨"CircuitTwin$Net", "isGate", "(I)Z"⟩, prog_4_method_7_code, 2, some .boolean, { frames := 0, cells := 0, slots := 0, locals := 0 }, [], 0, fun _ => 0)
def m_F_leastOnLoop : mj_M := (⟨"CircuitTwin$LoopFinder", "leastOnLoop", "(LCircuitTwin$Net;)I"⟩, prog_3_method_2_code, 4, some .int, { frames := 3, cells := 0, slots := 0, locals := 69 }, [], 0, fun _ => 0)
def m_F_comesBack : mj_M := (⟨"CircuitTwin$LoopFinder", "comesBack", "(LCircuitTwin$Net;I)Z"⟩, prog_3_method_3_code, 4, some .boolean, { frames := 2, cells := 0, slots := 0, locals := 46 }, [], 0, fun _ => 0)
def m_F_reachFanins : mj_M := (⟨"CircuitTwin$LoopFinder", "reachFanins", "(LCircuitTwin$Net;II)V"⟩, prog_3_method_4_code, 4, none, { frames := 1, cells := 0, slots := 0, locals := 23 }, [], 0, fun _ => 0)
def m_F_reach : mj_M := (⟨"CircuitTwin$LoopFinder", "reach", "(LCircuitTwin$Net;II)V"⟩, prog_3_method_5_code, 4, none, { frames := 0, cells := 0, slots := 0, locals := 0 }, [], 0, fun _ => 0)
def m_R_exchangeNet : mj_M := (⟨"CircuitTwin$Reader", "exchangeNet", "(LCircuitTwin$Net;)LCircuitTwin$Net;"⟩, prog_5_method_4_code, 3, some ((.object "CircuitTwin$Net")), { frames := 0, cells := 0, slots := 0, locals := 0 }, [], 0, fun _ => 0)
def m_L_literal : mj_M := (⟨"CircuitTwinLaw", "literal", "(LCircuitTwin;III[J)I"⟩, method_5_code, 6, some .int, { frames := 8, cells := 2, slots := 12, locals := 145 }, [(0, 12, 15, 13), (0, 12, 19, 25)], 0, fun _ => 0)
def m_T_literal : mj_M := (⟨"CircuitTwin", "literal", "(III)I"⟩, prog_1_method_4_code, 5, some .int, { frames := 7, cells := 2, slots := 12, locals := 121 }, [], 0, fun _ => 0)
def m_L_value : mj_M := (⟨"CircuitTwinLaw", "value", "(LCircuitTwin;III[J)I"⟩, method_6_code, 6, some .int, { frames := 8, cells := 3, slots := 18, locals := 145 }, [(0, 12, 15, 13)], 0, fun _ => 0)
def m_T_value : mj_M := (⟨"CircuitTwin", "value", "(III)I"⟩, prog_1_method_5_code, 5, some .int, { frames := 7, cells := 3, slots := 18, locals := 121 }, [], 0, fun _ => 0)
def m_T_requireStanding : mj_M := (⟨"CircuitTwin", "requireStanding", "(LCircuitTwin$Circuit;I)V"⟩, prog_1_method_21_code, 2, none, { frames := 6, cells := 1, slots := 6, locals := 100 }, [], 0, fun _ => 0)
def m_N_stands : mj_M := (⟨"CircuitTwin$Net", "stands", "(I)Z"⟩, prog_4_method_4_code, 2, some .boolean, { frames := 1, cells := 0, slots := 0, locals := 21 }, [], 0, fun _ => 0)
def m_T_requireVector : mj_M := (⟨"CircuitTwin", "requireVector", "(LCircuitTwin$Circuit;I)V"⟩, prog_1_method_22_code, 2, none, { frames := 6, cells := 1, slots := 6, locals := 100 }, [], 0, fun _ => 0)
def m_C_bitAt : mj_M := (⟨"CircuitTwin$Circuit", "bitAt", "(II)I"⟩, prog_2_method_14_code, 5, some .int, { frames := 2, cells := 0, slots := 0, locals := 42 }, [], 0, fun _ => 0)
def m_L_compare : mj_M := (⟨"CircuitTwinLaw", "compare", "(LCircuitTwin;[J)I"⟩, method_7_code, 3, some .int, { frames := 8, cells := 1, slots := 6, locals := 141 }, [(0, 8, 11, 15)], 0, fun _ => 0)
def m_T_compare : mj_M := (⟨"CircuitTwin", "compare", "()I"⟩, prog_1_method_6_code, 2, some .int, { frames := 7, cells := 1, slots := 6, locals := 120 }, [], 0, fun _ => 0)
def m_T_requireMatch : mj_M := (⟨"CircuitTwin", "requireMatch", "()V"⟩, prog_1_method_24_code, 1, none, { frames := 6, cells := 1, slots := 6, locals := 100 }, [], 0, fun _ => 0)
def m_T_leastDifference : mj_M := (⟨"CircuitTwin", "leastDifference", "(I)I"⟩, prog_1_method_25_code, 2, some .int, { frames := 3, cells := 0, slots := 0, locals := 73 }, [], 0, fun _ => 0)
def m_C_firstDifference : mj_M := (⟨"CircuitTwin$Circuit", "firstDifference", "(ILCircuitTwin$Circuit;I)I"⟩, prog_2_method_17_code, 11, some .int, { frames := 2, cells := 0, slots := 0, locals := 43 }, [], 0, fun _ => 0)
def m_J_numberOfTrailingZeros : mj_M := (⟨"java/lang/Long", "numberOfTrailingZeros", "(J)I"⟩, prog_13_method_49_code, 3, some .int, { frames := 1, cells := 0, slots := 0, locals := 21 }, [], 0, fun _ => 0)
def m_I_numberOfTrailingZeros : mj_M := (⟨"java/lang/Integer", "numberOfTrailingZeros", "(I)I"⟩, prog_12_method_48_code, 2, some .int, { frames := 0, cells := 0, slots := 0, locals := 0 }, [], 0, fun _ => 0)
def m_L_witness : mj_M := (⟨"CircuitTwinLaw", "witness", "(LCircuitTwin;I[J)I"⟩, method_8_code, 4, some .int, { frames := 8, cells := 2, slots := 12, locals := 141 }, [(0, 9, 12, 15), (0, 9, 15, 25)], 0, fun _ => 0)
def m_T_witness : mj_M := (⟨"CircuitTwin", "witness", "(I)I"⟩, prog_1_method_7_code, 2, some .int, { frames := 7, cells := 2, slots := 12, locals := 120 }, [], 0, fun _ => 0)
def m_L_least : mj_M := (⟨"CircuitTwinLaw", "least", "(LCircuitTwin;III[J)I"⟩, method_9_code, 6, some .int, { frames := 8, cells := 3, slots := 18, locals := 145 }, [(0, 12, 15, 13)], 0, fun _ => 0)
def m_T_least : mj_M := (⟨"CircuitTwin", "least", "(III)I"⟩, prog_1_method_8_code, 5, some .int, { frames := 7, cells := 3, slots := 18, locals := 121 }, [], 0, fun _ => 0)
def m_C_firstOne : mj_M := (⟨"CircuitTwin$Circuit", "firstOne", "(II)I"⟩, prog_2_method_15_code, 10, some .int, { frames := 2, cells := 0, slots := 0, locals := 43 }, [], 0, fun _ => 0)
def m_L_greatest : mj_M := (⟨"CircuitTwinLaw", "greatest", "(LCircuitTwin;II[J)I"⟩, method_10_code, 5, some .int, { frames := 8, cells := 2, slots := 12, locals := 144 }, [(0, 10, 13, 13)], 0, fun _ => 0)
def m_T_greatest : mj_M := (⟨"CircuitTwin", "greatest", "(II)I"⟩, prog_1_method_9_code, 4, some .int, { frames := 7, cells := 2, slots := 12, locals := 121 }, [], 0, fun _ => 0)
def m_C_lastOne : mj_M := (⟨"CircuitTwin$Circuit", "lastOne", "(I)I"⟩, prog_2_method_16_code, 8, some .int, { frames := 2, cells := 0, slots := 0, locals := 43 }, [], 0, fun _ => 0)
def m_J_numberOfLeadingZeros : mj_M := (⟨"java/lang/Long", "numberOfLeadingZeros", "(J)I"⟩, prog_13_method_48_code, 3, some .int, { frames := 1, cells := 0, slots := 0, locals := 21 }, [], 0, fun _ => 0)
def m_I_numberOfLeadingZeros : mj_M := (⟨"java/lang/Integer", "numberOfLeadingZeros", "(I)I"⟩, prog_12_method_47_code, 2, some .int, { frames := 0, cells := 0, slots := 0, locals := 0 }, [], 0, fun _ => 0)
def m_L_same : mj_M := (⟨"CircuitTwinLaw", "same", "(LCircuitTwin;II[J)I"⟩, method_11_code, 5, some .int, { frames := 8, cells := 3, slots := 18, locals := 145 }, [(0, 10, 13, 13), (0, 10, 17, 15)], 0, fun _ => 0)
def m_T_same : mj_M := (⟨"CircuitTwin", "same", "(II)I"⟩, prog_1_method_10_code, 5, some .int, { frames := 7, cells := 3, slots := 18, locals := 121 }, [], 0, fun _ => 0)
def m_L_implies : mj_M := (⟨"CircuitTwinLaw", "implies", "(LCircuitTwin;III[J)I"⟩, method_12_code, 6, some .int, { frames := 8, cells := 3, slots := 18, locals := 145 }, [(0, 19, 22, 13)], 0, fun _ => 0)
def m_T_implies : mj_M := (⟨"CircuitTwin", "implies", "(III)Z"⟩, prog_1_method_11_code, 5, some .boolean, { frames := 7, cells := 3, slots := 18, locals := 121 }, [], 0, fun _ => 0)
def m_C_isWithin : mj_M := (⟨"CircuitTwin$Circuit", "isWithin", "(II)Z"⟩, prog_2_method_18_code, 10, some .boolean, { frames := 2, cells := 0, slots := 0, locals := 42 }, [], 0, fun _ => 0)
def m_L_depends : mj_M := (⟨"CircuitTwinLaw", "depends", "(LCircuitTwin;III[J)I"⟩, method_13_code, 6, some .int, { frames := 8, cells := 3, slots := 18, locals := 145 }, [(0, 19, 22, 13), (0, 19, 26, 25)], 0, fun _ => 0)
def m_T_depends : mj_M := (⟨"CircuitTwin", "depends", "(III)Z"⟩, prog_1_method_12_code, 5, some .boolean, { frames := 7, cells := 3, slots := 18, locals := 121 }, [], 0, fun _ => 0)
def m_T_requireInput : mj_M := (⟨"CircuitTwin", "requireInput", "(LCircuitTwin$Circuit;I)V"⟩, prog_1_method_23_code, 2, none, { frames := 6, cells := 1, slots := 6, locals := 100 }, [], 0, fun _ => 0)
def m_C_movesOf : mj_M := (⟨"CircuitTwin$Circuit", "movesOf", "(II)I"⟩, prog_2_method_19_code, 15, some .int, { frames := 2, cells := 0, slots := 0, locals := 42 }, [], 0, fun _ => 0)
def m_C_halfWithout : mj_M := (⟨"CircuitTwin$Circuit", "halfWithout", "(III)J"⟩, prog_2_method_20_code, 4, some .long, { frames := 0, cells := 0, slots := 0, locals := 0 }, [], 0, fun _ => 0)
def m_C_halfWith : mj_M := (⟨"CircuitTwin$Circuit", "halfWith", "(III)J"⟩, prog_2_method_21_code, 4, some .long, { frames := 0, cells := 0, slots := 0, locals := 0 }, [], 0, fun _ => 0)
def m_L_rises : mj_M := (⟨"CircuitTwinLaw", "rises", "(LCircuitTwin;III[J)I"⟩, method_14_code, 6, some .int, { frames := 8, cells := 3, slots := 18, locals := 146 }, [(0, 12, 15, 13), (0, 12, 19, 25)], 0, fun _ => 0)
def m_T_rises : mj_M := (⟨"CircuitTwin", "rises", "(III)I"⟩, prog_1_method_13_code, 6, some .int, { frames := 7, cells := 3, slots := 18, locals := 121 }, [], 0, fun _ => 0)
def m_L_leader : mj_M := (⟨"CircuitTwinLaw", "leader", "(LCircuitTwin;II[J)I"⟩, method_15_code, 5, some .int, { frames := 8, cells := 2, slots := 12, locals := 144 }, [(0, 10, 13, 13)], 0, fun _ => 0)
def m_T_leader : mj_M := (⟨"CircuitTwin", "leader", "(II)I"⟩, prog_1_method_14_code, 4, some .int, { frames := 7, cells := 2, slots := 12, locals := 121 }, [], 0, fun _ => 0)
def m_C_leaderOf : mj_M := (⟨"CircuitTwin$Circuit", "leaderOf", "(I)I"⟩, prog_2_method_10_code, 2, some .int, { frames := 1, cells := 0, slots := 0, locals := 21 }, [], 0, fun _ => 0)
def m_L_functions : mj_M := (⟨"CircuitTwinLaw", "functions", "(LCircuitTwin;I[J)I"⟩, method_16_code, 4, some .int, { frames := 8, cells := 1, slots := 6, locals := 142 }, [(0, 9, 12, 13)], 0, fun _ => 0)
def m_T_functions : mj_M := (⟨"CircuitTwin", "functions", "(I)I"⟩, prog_1_method_15_code, 2, some .int, { frames := 7, cells := 1, slots := 6, locals := 121 }, [], 0, fun _ => 0)
def m_L_allFunctions : mj_M := (⟨"CircuitTwinLaw", "allFunctions", "(LCircuitTwin;[J)I"⟩, method_17_code, 3, some .int, { frames := 8, cells := 1, slots := 6, locals := 140 }, [(0, 8, 11, 15)], 0, fun _ => 0)
def m_T_allFunctions : mj_M := (⟨"CircuitTwin", "allFunctions", "()I"⟩, prog_1_method_16_code, 1, some .int, { frames := 7, cells := 1, slots := 6, locals := 120 }, [], 0, fun _ => 0)
def m_C_kindsNotIn : mj_M := (⟨"CircuitTwin$Circuit", "kindsNotIn", "(LCircuitTwin$Circuit;)I"⟩, prog_2_method_9_code, 5, some .int, { frames := 3, cells := 0, slots := 0, locals := 74 }, [], 0, fun _ => 0)
def m_L_write : mj_M := (⟨"CircuitTwinLaw", "write", "(LCircuitTwin;IZZ[J)I"⟩, method_18_code, 6, some .int, { frames := 8, cells := 1, slots := 6, locals := 162 }, [(0, 12, 15, 13)], 0, fun _ => 0)
def m_T_write : mj_M := (⟨"CircuitTwin", "write", "(IZZ)I"⟩, prog_1_method_17_code, 4, some .int, { frames := 7, cells := 1, slots := 6, locals := 139 }, [], 0, fun _ => 0)
def m_W_writeText : mj_M := (⟨"CircuitTwin$Writer", "writeText", "(LCircuitTwin$Circuit;ZZ)I"⟩, prog_6_method_3_code, 5, some .int, { frames := 5, cells := 0, slots := 0, locals := 115 }, [], 0, fun _ => 0)
def m_W_measure : mj_M := (⟨"CircuitTwin$Writer", "measure", "(LCircuitTwin$Circuit;)V"⟩, prog_6_method_6_code, 7, none, { frames := 4, cells := 0, slots := 0, locals := 86 }, [], 0, fun _ => 0)
def m_W_finalSlot : mj_M := (⟨"CircuitTwin$Writer", "finalSlot", "(LCircuitTwin$Circuit;I)I"⟩, prog_6_method_5_code, 3, some .int, { frames := 3, cells := 0, slots := 0, locals := 64 }, [], 0, fun _ => 0)
def m_W_finalLiteral : mj_M := (⟨"CircuitTwin$Writer", "finalLiteral", "(LCircuitTwin$Circuit;I)I"⟩, prog_6_method_4_code, 3, some .int, { frames := 2, cells := 0, slots := 0, locals := 42 }, [], 0, fun _ => 0)
def m_H_max : mj_M := (⟨"java/lang/Math", "max", "(II)I"⟩, prog_14_method_65_code, 2, some .int, { frames := 0, cells := 0, slots := 0, locals := 0 }, [], 0, fun _ => 0)
def m_W_markNeeded : mj_M := (⟨"CircuitTwin$Writer", "markNeeded", "(LCircuitTwin$Circuit;)V"⟩, prog_6_method_7_code, 5, none, { frames := 4, cells := 0, slots := 0, locals := 86 }, [], 0, fun _ => 0)
def m_W_numberGates : mj_M := (⟨"CircuitTwin$Writer", "numberGates", "(LCircuitTwin$Net;)V"⟩, prog_6_method_8_code, 4, none, { frames := 2, cells := 0, slots := 0, locals := 45 }, [], 0, fun _ => 0)
def m_W_countDepths : mj_M := (⟨"CircuitTwin$Writer", "countDepths", "(LCircuitTwin$Net;)V"⟩, prog_6_method_9_code, 3, none, { frames := 1, cells := 0, slots := 0, locals := 23 }, [], 0, fun _ => 0)
def m_W_putFirstLine : mj_M := (⟨"CircuitTwin$Writer", "putFirstLine", "(LCircuitTwin$Net;Z)V"⟩, prog_6_method_11_code, 3, none, { frames := 2, cells := 0, slots := 0, locals := 43 }, [], 0, fun _ => 0)
def m_W_putByte : mj_M := (⟨"CircuitTwin$Writer", "putByte", "(I)V"⟩, prog_6_method_17_code, 2, none, { frames := 0, cells := 0, slots := 0, locals := 0 }, [], 0, fun _ => 0)
def m_W_putNumber : mj_M := (⟨"CircuitTwin$Writer", "putNumber", "(II)V"⟩, prog_6_method_16_code, 3, none, { frames := 1, cells := 0, slots := 0, locals := 21 }, [], 0, fun _ => 0)
def m_W_putInputs : mj_M := (⟨"CircuitTwin$Writer", "putInputs", "(LCircuitTwin$Net;)V"⟩, prog_6_method_12_code, 3, none, { frames := 2, cells := 0, slots := 0, locals := 43 }, [], 0, fun _ => 0)
def m_W_putOutputs : mj_M := (⟨"CircuitTwin$Writer", "putOutputs", "(LCircuitTwin$Circuit;)V"⟩, prog_6_method_13_code, 3, none, { frames := 4, cells := 0, slots := 0, locals := 87 }, [], 0, fun _ => 0)
def m_W_newLiteral : mj_M := (⟨"CircuitTwin$Writer", "newLiteral", "(LCircuitTwin$Circuit;I)I"⟩, prog_6_method_10_code, 4, some .int, { frames := 3, cells := 0, slots := 0, locals := 64 }, [], 0, fun _ => 0)
def m_W_putGate : mj_M := (⟨"CircuitTwin$Writer", "putGate", "(LCircuitTwin$Circuit;IZ)V"⟩, prog_6_method_14_code, 9, none, { frames := 4, cells := 0, slots := 0, locals := 87 }, [], 0, fun _ => 0)
def m_W_putStep : mj_M := (⟨"CircuitTwin$Writer", "putStep", "(I)V"⟩, prog_6_method_15_code, 2, none, { frames := 1, cells := 0, slots := 0, locals := 21 }, [], 0, fun _ => 0)
def m_L_out : mj_M := (⟨"CircuitTwinLaw", "out", "(LCircuitTwin;I[J)I"⟩, method_19_code, 4, some .int, { frames := 7, cells := 1, slots := 6, locals := 124 }, [(0, 8, 11, 25)], 0, fun _ => 0)
def m_T_out : mj_M := (⟨"CircuitTwin", "out", "(I)J"⟩, prog_1_method_18_code, 5, some .long, { frames := 6, cells := 1, slots := 6, locals := 100 }, [], 0, fun _ => 0)
def m_W_byteAt : mj_M := (⟨"CircuitTwin$Writer", "byteAt", "(I)I"⟩, prog_6_method_2_code, 2, some .int, { frames := 0, cells := 0, slots := 0, locals := 0 }, [], 0, fun _ => 0)
def m_L_look : mj_M := (⟨"CircuitTwinLaw", "look", "(LCircuitTwin;II[J)I"⟩, method_20_code, 5, some .int, { frames := 8, cells := 2, slots := 12, locals := 144 }, [(0, 10, 13, 13)], 0, fun _ => 0)
def m_T_look : mj_M := (⟨"CircuitTwin", "look", "(II)I"⟩, prog_1_method_19_code, 4, some .int, { frames := 7, cells := 2, slots := 12, locals := 121 }, [], 0, fun _ => 0)
def m_N_outputDepth : mj_M := (⟨"CircuitTwin$Net", "outputDepth", "()I"⟩, prog_4_method_9_code, 3, some .int, { frames := 1, cells := 0, slots := 0, locals := 21 }, [], 0, fun _ => 0)
def m_M_init : mj_M := (⟨"CircuitTwinModel", "<init>", "()V"⟩, prog_8_method_1_code, 3, none, { frames := 1, cells := 24, slots := 186905, locals := 20 }, [], 0, fun _ => 0)
def m_M_thrown : mj_M := (⟨"CircuitTwinModel", "thrown", "()I"⟩, prog_8_method_2_code, 1, some .int, { frames := 0, cells := 0, slots := 0, locals := 0 }, [], 0, fun _ => 0)
def m_M_feed : mj_M := (⟨"CircuitTwinModel", "feed", "(IJ)I"⟩, prog_8_method_5_code, 6, some .int, { frames := 1, cells := 0, slots := 0, locals := 22 }, [], 0, fun _ => 0)
def m_M_throwing : mj_M := (⟨"CircuitTwinModel", "throwing", "(ZZ)Z"⟩, prog_8_method_3_code, 3, some .boolean, { frames := 0, cells := 0, slots := 0, locals := 0 }, [], 0, fun _ => 0)
def m_M_load : mj_M := (⟨"CircuitTwinModel", "load", "(I)I"⟩, prog_8_method_25_code, 2, some .int, { frames := 4, cells := 0, slots := 0, locals := 95 }, [], 0, fun _ => 0)
def m_M_isCircuit : mj_M := (⟨"CircuitTwinModel", "isCircuit", "(I)Z"⟩, prog_8_method_4_code, 1, some .boolean, { frames := 0, cells := 0, slots := 0, locals := 0 }, [], 0, fun _ => 0)
def m_M_readText : mj_M := (⟨"CircuitTwinModel", "readText", "()V"⟩, prog_8_method_24_code, 3, none, { frames := 3, cells := 0, slots := 0, locals := 73 }, [], 0, fun _ => 0)
def m_M_fail : mj_M := (⟨"CircuitTwinModel", "fail", "(II)V"⟩, prog_8_method_6_code, 3, none, { frames := 0, cells := 0, slots := 0, locals := 0 }, [], 0, fun _ => 0)
def m_M_empty : mj_M := (⟨"CircuitTwinModel", "empty", "()V"⟩, prog_8_method_11_code, 2, none, { frames := 0, cells := 0, slots := 0, locals := 0 }, [], 0, fun _ => 0)
def m_M_header : mj_M := (⟨"CircuitTwinModel", "header", "(Z)V"⟩, prog_8_method_13_code, 6, none, { frames := 2, cells := 0, slots := 0, locals := 48 }, [], 0, fun _ => 0)
def m_M_line : mj_M := (⟨"CircuitTwinModel", "line", "(II)V"⟩, prog_8_method_9_code, 7, none, { frames := 1, cells := 0, slots := 0, locals := 22 }, [], 0, fun _ => 0)
def m_M_here : mj_M := (⟨"CircuitTwinModel", "here", "()I"⟩, prog_8_method_7_code, 1, some .int, { frames := 0, cells := 0, slots := 0, locals := 0 }, [], 0, fun _ => 0)
def m_M_isDigit : mj_M := (⟨"CircuitTwinModel", "isDigit", "(I)Z"⟩, prog_8_method_8_code, 1, some .boolean, { frames := 0, cells := 0, slots := 0, locals := 0 }, [], 0, fun _ => 0)
def m_M_readInputs : mj_M := (⟨"CircuitTwinModel", "readInputs", "(Z)V"⟩, prog_8_method_14_code, 4, none, { frames := 2, cells := 0, slots := 0, locals := 48 }, [], 0, fun _ => 0)
def m_M_stands : mj_M := (⟨"CircuitTwinModel", "stands", "(II)Z"⟩, prog_8_method_12_code, 3, some .boolean, { frames := 0, cells := 0, slots := 0, locals := 0 }, [], 0, fun _ => 0)
def m_M_readOutputs : mj_M := (⟨"CircuitTwinModel", "readOutputs", "()V"⟩, prog_8_method_15_code, 2, none, { frames := 2, cells := 0, slots := 0, locals := 48 }, [], 0, fun _ => 0)
def m_M_readSteps : mj_M := (⟨"CircuitTwinModel", "readSteps", "()V"⟩, prog_8_method_17_code, 7, none, { frames := 2, cells := 0, slots := 0, locals := 44 }, [], 0, fun _ => 0)
def m_M_step : mj_M := (⟨"CircuitTwinModel", "step", "()I"⟩, prog_8_method_10_code, 3, some .int, { frames := 1, cells := 0, slots := 0, locals := 22 }, [], 0, fun _ => 0)
def m_M_readGates : mj_M := (⟨"CircuitTwinModel", "readGates", "()V"⟩, prog_8_method_16_code, 3, none, { frames := 2, cells := 0, slots := 0, locals := 48 }, [], 0, fun _ => 0)
def m_M_connect : mj_M := (⟨"CircuitTwinModel", "connect", "()V"⟩, prog_8_method_20_code, 5, none, { frames := 2, cells := 0, slots := 0, locals := 48 }, [], 0, fun _ => 0)
def m_M_lesser : mj_M := (⟨"CircuitTwinModel", "lesser", "(II)I"⟩, prog_8_method_19_code, 3, some .int, { frames := 1, cells := 0, slots := 0, locals := 21 }, [], 0, fun _ => 0)
def m_M_lacks : mj_M := (⟨"CircuitTwinModel", "lacks", "(I)Z"⟩, prog_8_method_18_code, 2, some .boolean, { frames := 0, cells := 0, slots := 0, locals := 0 }, [], 0, fun _ => 0)
def m_M_arrange : mj_M := (⟨"CircuitTwinModel", "arrange", "()I"⟩, prog_8_method_22_code, 7, some .int, { frames := 1, cells := 0, slots := 0, locals := 22 }, [], 0, fun _ => 0)
def m_M_rowAt : mj_M := (⟨"CircuitTwinModel", "rowAt", "(II)I"⟩, prog_8_method_21_code, 3, some .int, { frames := 0, cells := 0, slots := 0, locals := 0 }, [], 0, fun _ => 0)
def m_M_comesBack : mj_M := (⟨"CircuitTwinModel", "comesBack", "(I)Z"⟩, prog_8_method_23_code, 6, some .boolean, { frames := 1, cells := 0, slots := 0, locals := 22 }, [], 0, fun _ => 0)
def m_M_take : mj_M := (⟨"CircuitTwinModel", "take", "(I)V"⟩, prog_8_method_26_code, 3, none, { frames := 3, cells := 0, slots := 0, locals := 73 }, [], 0, fun _ => 0)
def m_M_fillTables : mj_M := (⟨"CircuitTwinModel", "fillTables", "(I)V"⟩, prog_8_method_27_code, 7, none, { frames := 2, cells := 0, slots := 0, locals := 47 }, [], 0, fun _ => 0)
def m_M_words : mj_M := (⟨"CircuitTwinModel", "words", "(I)I"⟩, prog_8_method_28_code, 2, some .int, { frames := 0, cells := 0, slots := 0, locals := 0 }, [], 0, fun _ => 0)
def m_M_mask : mj_M := (⟨"CircuitTwinModel", "mask", "(I)J"⟩, prog_8_method_29_code, 2, some .long, { frames := 0, cells := 0, slots := 0, locals := 0 }, [], 0, fun _ => 0)
def m_M_word : mj_M := (⟨"CircuitTwinModel", "word", "(III)J"⟩, prog_8_method_30_code, 6, some .long, { frames := 1, cells := 0, slots := 0, locals := 22 }, [], 0, fun _ => 0)
def m_M_literal : mj_M := (⟨"CircuitTwinModel", "literal", "(III)I"⟩, prog_8_method_35_code, 6, some .int, { frames := 1, cells := 0, slots := 0, locals := 22 }, [], 0, fun _ => 0)
def m_M_value : mj_M := (⟨"CircuitTwinModel", "value", "(III)I"⟩, prog_8_method_36_code, 4, some .int, { frames := 3, cells := 0, slots := 0, locals := 70 }, [], 0, fun _ => 0)
def m_M_isLiteral : mj_M := (⟨"CircuitTwinModel", "isLiteral", "(II)Z"⟩, prog_8_method_31_code, 3, some .boolean, { frames := 1, cells := 0, slots := 0, locals := 22 }, [], 0, fun _ => 0)
def m_M_isVector : mj_M := (⟨"CircuitTwinModel", "isVector", "(II)Z"⟩, prog_8_method_32_code, 3, some .boolean, { frames := 0, cells := 0, slots := 0, locals := 0 }, [], 0, fun _ => 0)
def m_M_bit : mj_M := (⟨"CircuitTwinModel", "bit", "(III)I"⟩, prog_8_method_33_code, 4, some .int, { frames := 2, cells := 0, slots := 0, locals := 47 }, [], 0, fun _ => 0)
def m_M_compare : mj_M := (⟨"CircuitTwinModel", "compare", "()I"⟩, prog_8_method_39_code, 2, some .int, { frames := 3, cells := 0, slots := 0, locals := 72 }, [], 0, fun _ => 0)
def m_M_match : mj_M := (⟨"CircuitTwinModel", "match", "()Z"⟩, prog_8_method_37_code, 1, some .boolean, { frames := 0, cells := 0, slots := 0, locals := 0 }, [], 0, fun _ => 0)
def m_M_areSame : mj_M := (⟨"CircuitTwinModel", "areSame", "(IIII)Z"⟩, prog_8_method_34_code, 6, some .boolean, { frames := 2, cells := 0, slots := 0, locals := 47 }, [], 0, fun _ => 0)
def m_M_witness : mj_M := (⟨"CircuitTwinModel", "witness", "(I)I"⟩, prog_8_method_40_code, 2, some .int, { frames := 4, cells := 0, slots := 0, locals := 92 }, [], 0, fun _ => 0)
def m_M_difference : mj_M := (⟨"CircuitTwinModel", "difference", "(I)I"⟩, prog_8_method_38_code, 3, some .int, { frames := 3, cells := 0, slots := 0, locals := 70 }, [], 0, fun _ => 0)
def m_M_least : mj_M := (⟨"CircuitTwinModel", "least", "(III)I"⟩, prog_8_method_41_code, 5, some .int, { frames := 3, cells := 0, slots := 0, locals := 70 }, [], 0, fun _ => 0)
def m_M_greatest : mj_M := (⟨"CircuitTwinModel", "greatest", "(II)I"⟩, prog_8_method_42_code, 4, some .int, { frames := 3, cells := 0, slots := 0, locals := 70 }, [], 0, fun _ => 0)
def m_M_same : mj_M := (⟨"CircuitTwinModel", "same", "(II)I"⟩, prog_8_method_43_code, 3, some .int, { frames := 3, cells := 0, slots := 0, locals := 72 }, [], 0, fun _ => 0)
def m_M_implies : mj_M := (⟨"CircuitTwinModel", "implies", "(III)Z"⟩, prog_8_method_44_code, 6, some .boolean, { frames := 2, cells := 0, slots := 0, locals := 47 }, [], 0, fun _ => 0)
def m_M_depends : mj_M := (⟨"CircuitTwinModel", "depends", "(III)Z"⟩, prog_8_method_46_code, 5, some .boolean, { frames := 3, cells := 0, slots := 0, locals := 70 }, [], 0, fun _ => 0)
def m_M_lacksInput : mj_M := (⟨"CircuitTwinModel", "lacksInput", "(III)Z"⟩, prog_8_method_45_code, 5, some .boolean, { frames := 2, cells := 0, slots := 0, locals := 44 }, [], 0, fun _ => 0)
def m_M_rises : mj_M := (⟨"CircuitTwinModel", "rises", "(III)I"⟩, prog_8_method_47_code, 8, some .int, { frames := 3, cells := 0, slots := 0, locals := 70 }, [], 0, fun _ => 0)
def m_M_leader : mj_M := (⟨"CircuitTwinModel", "leader", "(II)I"⟩, prog_8_method_51_code, 3, some .int, { frames := 4, cells := 0, slots := 0, locals := 100 }, [], 0, fun _ => 0)
def m_M_leaderOf : mj_M := (⟨"CircuitTwinModel", "leaderOf", "(II)I"⟩, prog_8_method_50_code, 9, some .int, { frames := 3, cells := 0, slots := 0, locals := 72 }, [], 0, fun _ => 0)
def m_M_isRow : mj_M := (⟨"CircuitTwinModel", "isRow", "(II)Z"⟩, prog_8_method_49_code, 3, some .boolean, { frames := 0, cells := 0, slots := 0, locals := 0 }, [], 0, fun _ => 0)
def m_M_variableOf : mj_M := (⟨"CircuitTwinModel", "variableOf", "(II)I"⟩, prog_8_method_48_code, 3, some .int, { frames := 0, cells := 0, slots := 0, locals := 0 }, [], 0, fun _ => 0)
def m_M_functions : mj_M := (⟨"CircuitTwinModel", "functions", "(I)I"⟩, prog_8_method_54_code, 2, some .int, { frames := 5, cells := 0, slots := 0, locals := 124 }, [], 0, fun _ => 0)
def m_M_different : mj_M := (⟨"CircuitTwinModel", "different", "(II)I"⟩, prog_8_method_53_code, 6, some .int, { frames := 4, cells := 0, slots := 0, locals := 99 }, [], 0, fun _ => 0)
def m_M_isOld : mj_M := (⟨"CircuitTwinModel", "isOld", "(III)Z"⟩, prog_8_method_52_code, 8, some .boolean, { frames := 3, cells := 0, slots := 0, locals := 72 }, [], 0, fun _ => 0)
def m_M_allFunctions : mj_M := (⟨"CircuitTwinModel", "allFunctions", "()I"⟩, prog_8_method_55_code, 1, some .int, { frames := 5, cells := 0, slots := 0, locals := 124 }, [], 0, fun _ => 0)
def m_M_write : mj_M := (⟨"CircuitTwinModel", "write", "(IZZ)I"⟩, prog_8_method_63_code, 8, some .int, { frames := 5, cells := 0, slots := 0, locals := 127 }, [], 0, fun _ => 0)
def m_M_choose : mj_M := (⟨"CircuitTwinModel", "choose", "(IZ)I"⟩, prog_8_method_60_code, 8, some .int, { frames := 4, cells := 0, slots := 0, locals := 100 }, [], 0, fun _ => 0)
def m_M_turned : mj_M := (⟨"CircuitTwinModel", "turned", "(II)I"⟩, prog_8_method_59_code, 3, some .int, { frames := 1, cells := 0, slots := 0, locals := 22 }, [], 0, fun _ => 0)
def m_M_put : mj_M := (⟨"CircuitTwinModel", "put", "(I)V"⟩, prog_8_method_56_code, 2, none, { frames := 0, cells := 0, slots := 0, locals := 0 }, [], 0, fun _ => 0)
def m_M_putNumber : mj_M := (⟨"CircuitTwinModel", "putNumber", "(II)V"⟩, prog_8_method_57_code, 4, none, { frames := 1, cells := 0, slots := 0, locals := 21 }, [], 0, fun _ => 0)
def m_M_nextGate : mj_M := (⟨"CircuitTwinModel", "nextGate", "(I)I"⟩, prog_8_method_61_code, 4, some .int, { frames := 0, cells := 0, slots := 0, locals := 0 }, [], 0, fun _ => 0)
def m_M_written : mj_M := (⟨"CircuitTwinModel", "written", "(II)I"⟩, prog_8_method_62_code, 4, some .int, { frames := 2, cells := 0, slots := 0, locals := 44 }, [], 0, fun _ => 0)
def m_M_writeGate : mj_M := (⟨"CircuitTwinModel", "writeGate", "(IIZ)V"⟩, prog_8_method_64_code, 9, none, { frames := 3, cells := 0, slots := 0, locals := 67 }, [], 0, fun _ => 0)
def m_M_putStep : mj_M := (⟨"CircuitTwinModel", "putStep", "(I)V"⟩, prog_8_method_58_code, 2, none, { frames := 1, cells := 0, slots := 0, locals := 21 }, [], 0, fun _ => 0)
def m_M_out : mj_M := (⟨"CircuitTwinModel", "out", "(I)J"⟩, prog_8_method_65_code, 5, some .long, { frames := 1, cells := 0, slots := 0, locals := 22 }, [], 0, fun _ => 0)
def m_M_look : mj_M := (⟨"CircuitTwinModel", "look", "(II)I"⟩, prog_8_method_66_code, 7, some .int, { frames := 1, cells := 0, slots := 0, locals := 22 }, [], 0, fun _ => 0)
def m_L_law (L : Nat) (sc : Nat → Int) : mj_M := (⟨"CircuitTwinLaw", "law", "([I)Z"⟩, code, 8, some .boolean, { frames := 11, cells := 601024, slots := 7293034, locals := 392 }, [], L, sc)
end
section
def mj_w (z : Int) : Int := (z + 2147483648) % 4294967296 - 2147483648
theorem mj_w_id {z : Int} (h1 : -2147483648 ≤ z) (h2 : z < 2147483648) : mj_w z = z := by unfold mj_w; omega
theorem mj_w_lo (z : Int) : -2147483648 ≤ mj_w z := by unfold mj_w; omega
theorem mj_w_hi (z : Int) : mj_w z < 2147483648 := by unfold mj_w; omega
theorem mj_toInt (z : Int) : (Int32.ofInt z).toInt = mj_w z := by
  rw [Int32.toInt_ofInt]
  show z.bmod 4294967296 = mj_w z
  unfold Int.bmod mj_w
  dsimp only
  split <;> omega
theorem mj_ofw (z : Int) : Int32.ofInt (mj_w z) = Int32.ofInt z := by rw [← mj_toInt, Int32.ofInt_toInt]
theorem mj_lt (x y : Int) : (Int32.ofInt x < Int32.ofInt y) ↔ mj_w x < mj_w y := by rw [Int32.lt_iff_toInt_lt, mj_toInt, mj_toInt]
theorem mj_le (x y : Int) : (Int32.ofInt x ≤ Int32.ofInt y) ↔ mj_w x ≤ mj_w y := by rw [Int32.le_iff_toInt_le, mj_toInt, mj_toInt]
theorem mj_eq (x y : Int) : (Int32.ofInt x = Int32.ofInt y) ↔ mj_w x = mj_w y := by rw [← Int32.toInt_inj, mj_toInt, mj_toInt]
theorem mj_z : (0 : Int32) = Int32.ofInt 0 := rfl
theorem mj_w0 : mj_w 0 = 0 := by decide
theorem mj_clamp (z : Int) : (Int32.ofInt z).toNatClampNeg = (mj_w z).toNat := by
  show (Int32.ofInt z).toInt.toNat = _
  rw [mj_toInt]
theorem mj_clampi {j : Int} {i : Nat} (h : mj_w j = (i : Int)) : (Int32.ofInt j).toNatClampNeg = i := by rw [mj_clamp, h]; omega
theorem mj_vpin {j : Int} {i n : Nat} (h : mj_w j = (i : Int)) (hi : i < n) : vp_in (Int32.ofInt j) n := by
  unfold vp_in
  rw [mj_clampi h, mj_z, mj_lt, mj_w0, h]
  omega
def mj_rf (B : mj_B) (ad : Nat → Nat) (r : mj_R) : Value := match r with
  | .inl q => .ref (ad q)
  | .inr 0 => .null
  | .inr 1 => .ref B.1.1
  | .inr (_ + 2) => .ref B.2
def mj_tv (B : mj_B) (ad : Nat → Nat) (v : mj_V) : Value := match v with
  | .inl x => .int (Int32.ofInt x)
  | .inr (.inl x) => .long (Int64.ofBitVec x)
  | .inr (.inr r) => mj_rf B ad r
def mj_ct (v : mj_V) : Nat := match v with
  | .inl _ => 1
  | .inr (.inl _) => 2
  | .inr (.inr _) => 1
theorem mj_rf_cat (B : mj_B) (ad : Nat → Nat) (r : mj_R) : (mj_rf B ad r).category = 1 := by
  rcases r with q | q
  · rfl
  · rcases q with _ | _ | q <;> rfl
theorem mj_tv_cat (B : mj_B) (ad : Nat → Nat) (v : mj_V) : (mj_tv B ad v).category = mj_ct v := by
  rcases v with x | x | r
  · rfl
  · rfl
  · exact mj_rf_cat B ad r
def mj_cts : List mj_V → Nat
  | [] => 0
  | v :: r => mj_ct v + mj_cts r
theorem mj_cts_eq (B : mj_B) (ad : Nat → Nat) (st : List mj_V) : ((st.map (mj_tv B ad)).map fun v => v.category).sum = mj_cts st := by
  induction st with
  | nil => rfl
  | cons v r ih => simp only [List.map_cons, List.sum_cons, mj_tv_cat, ih, mj_cts]
def mj_up {α : Type} (F : Nat → Nat → α) (q k : Nat) (x : α) : Nat → Nat → α := fun a b => if a = q then (if b = k then x else F a b) else F a b
theorem mj_up_ne {α : Type} {F : Nat → Nat → α} {q k a : Nat} {x : α} (h : a ≠ q) : mj_up F q k x a = F a := by
  funext b
  simp [mj_up, h]
theorem mj_up_eq {α : Type} {F : Nat → Nat → α} {q k b : Nat} {x : α} : mj_up F q k x q b = if b = k then x else F q b := by simp [mj_up]
/-! the world -/
/-- field k of an object of the class ci: an int (0), a reference (1), a long (2) -/
def mj_fv (B : mj_B) (ad : Nat → Nat) (t : Nat) (r : mj_R) (x : Int) (y : BitVec 64) : Value := match t with
  | 0 => .int (Int32.ofInt x)
  | 1 => mj_rf B ad r
  | _ => .long (Int64.ofBitVec y)
def mj_fs (B : mj_B) (ad : Nat → Nat) (ci : Nat) (FR : Nat → mj_R) (IA : Nat → Int) (LA : Nat → BitVec 64) : List Value := (List.range (mj_nf ci)).map fun k => mj_fv B ad (mj_kd ci k) (FR k) (IA k) (LA k)
def mj_ce (cs : Nat → ClassId) (B : mj_B) (ad : Nat → Nat) (sh : Nat × Nat) (FR : Nat → mj_R) (IA : Nat → Int) (LA : Nat → BitVec 64) : va_E :=
  if sh.1 < 3 then .inl (cs sh.1, sh.2, .inl fun j => Int32.ofInt (IA j))
  else if sh.1 = 3 then .inl (cs 3, sh.2, .inr (.inl fun j => Int64.ofBitVec (LA j)))
  else .inr (sh.1 - 4, mj_fs B ad (sh.1 - 4) FR IA LA)
def mj_W (cs : Nat → ClassId) (B : mj_B) (ad : Nat → Nat) (sh : mj_Sh) (FR : mj_FR) (IA : mj_FI) (LA : mj_LA) (n : Nat) : va_W := (List.range n).map fun q => (ad q, mj_ce cs B ad (sh q) (FR q) (IA q) (LA q))
def mj_ty (cs : Nat → ClassId) : List (ClassId × FieldType) := [(cs 0, .int), (cs 1, .byte), (cs 2, .boolean), (cs 3, .long)]
def mj_is (sh : mj_Sh) (n q t len : Nat) : Prop := q < n ∧ sh q = (t, len)
section WW
variable {cs : Nat → ClassId} {B : mj_B} {ad : Nat → Nat} {sh : mj_Sh} {FR FR' : mj_FR} {IA IA' : mj_FI} {LA LA' : mj_LA} {n q t len i k : Nat}
theorem mj_W_at (h : q < n) : (mj_W cs B ad sh FR IA LA n)[q]? = some (ad q, mj_ce cs B ad (sh q) (FR q) (IA q) (LA q)) := by
  simp [mj_W, List.getElem?_map, List.getElem?_range h]
theorem mj_W_len : (mj_W cs B ad sh FR IA LA n).length = n := by simp [mj_W]
theorem mj_W_set {x : va_E} (hq : q < n) (h2 : ∀ a, a ≠ q → FR' a = FR a) (h3 : ∀ a, a ≠ q → IA' a = IA a) (h4 : ∀ a, a ≠ q → LA' a = LA a)
    (hx : x = mj_ce cs B ad (sh q) (FR' q) (IA' q) (LA' q)) : (mj_W cs B ad sh FR IA LA n).set q (ad q, x) = mj_W cs B ad sh FR' IA' LA' n := by
  refine List.ext_getElem? fun i => ?_
  by_cases hi : i < n
  · by_cases e : q = i
    · subst e
      rw [List.getElem?_set_self (by rw [mj_W_len]; exact hi), mj_W_at hi, hx]
    · rw [List.getElem?_set_ne e, mj_W_at hi, mj_W_at hi, h2 i (Ne.symm e), h3 i (Ne.symm e), h4 i (Ne.symm e)]
  · rw [List.getElem?_eq_none (by rw [List.length_set, mj_W_len]; omega), List.getElem?_eq_none (by rw [mj_W_len]; omega)]
theorem mj_W_arr (h : mj_is sh n q t len) (ht : t < 3) : (mj_W cs B ad sh FR IA LA n)[q]? = some (ad q, .inl (cs t, len, .inl fun j => Int32.ofInt (IA q j))) := by
  rw [mj_W_at h.1, h.2]
  simp only [mj_ce, ht, if_true]
theorem mj_W_la (h : mj_is sh n q 3 len) : (mj_W cs B ad sh FR IA LA n)[q]? = some (ad q, .inl (cs 3, len, .inr (.inl fun j => Int64.ofBitVec (LA q j)))) := by
  rw [mj_W_at h.1, h.2]
  rfl
theorem mj_ce_ob {ci : Nat} {F : Nat → mj_R} {G : Nat → Int} {J : Nat → BitVec 64} : mj_ce cs B ad (ci + 4, len) F G J = .inr (ci, mj_fs B ad ci F G J) := by
  have h1 : ¬ (ci + 4 < 3) := by omega
  have h2 : ¬ (ci + 4 = 3) := by omega
  have h3 : ci + 4 - 4 = ci := by omega
  simp only [mj_ce, h1, h2, h3, if_false]
theorem mj_W_ob {ci : Nat} (h : mj_is sh n q (ci + 4) len) : (mj_W cs B ad sh FR IA LA n)[q]? = some (ad q, .inr (ci, mj_fs B ad ci (FR q) (IA q) (LA q))) := by
  rw [mj_W_at h.1, h.2, mj_ce_ob]
theorem mj_W_sa {x : Int} (h : mj_is sh n q t len) (ht : t < 3) : (mj_W cs B ad sh FR IA LA n).set q (ad q, .inl (cs t, len, .inl (upd (fun j => Int32.ofInt (IA q j)) i (Int32.ofInt x)))) = mj_W cs B ad sh FR (mj_up IA q i x) LA n := by
  refine mj_W_set h.1 (fun _ _ => rfl) (fun a ha => mj_up_ne ha) (fun _ _ => rfl) ?_
  rw [h.2]
  simp only [mj_ce, ht, if_true]
  congr 4
  funext j
  simp only [upd, mj_up_eq]
  split <;> rfl
theorem mj_W_sl {x : BitVec 64} (h : mj_is sh n q 3 len) : (mj_W cs B ad sh FR IA LA n).set q (ad q, .inl (cs 3, len, .inr (.inl (vp_updL (fun j => Int64.ofBitVec (LA q j)) i (Int64.ofBitVec x))))) = mj_W cs B ad sh FR IA (mj_up LA q i x) n := by
  refine mj_W_set h.1 (fun _ _ => rfl) (fun _ _ => rfl) (fun a ha => mj_up_ne ha) ?_
  rw [h.2]
  show (Sum.inl (cs 3, len, Sum.inr (Sum.inl (vp_updL (fun j => Int64.ofBitVec (LA q j)) i (Int64.ofBitVec x)))) : va_E) = Sum.inl (cs 3, len, Sum.inr (Sum.inl fun j => Int64.ofBitVec (mj_up LA q i x q j)))
  congr 5
  funext j
  simp only [vp_updL, mj_up_eq]
  split <;> rfl
theorem mj_fs_at {ci : Nat} {F : Nat → mj_R} {G : Nat → Int} {J : Nat → BitVec 64} (h : k < mj_nf ci) : (mj_fs B ad ci F G J)[k]? = some (mj_fv B ad (mj_kd ci k) (F k) (G k) (J k)) := by
  simp [mj_fs, List.getElem?_map, List.getElem?_range h]
theorem mj_fs_len {ci : Nat} {F : Nat → mj_R} {G : Nat → Int} {J : Nat → BitVec 64} : (mj_fs B ad ci F G J).length = mj_nf ci := by simp [mj_fs]
theorem mj_fs_set {ci : Nat} {F F' : Nat → mj_R} {G G' : Nat → Int} {J J' : Nat → BitVec 64} {v : Value} (hk : k < mj_nf ci) (h : ∀ i, i ≠ k → F' i = F i ∧ G' i = G i ∧ J' i = J i) (hv : v = mj_fv B ad (mj_kd ci k) (F' k) (G' k) (J' k)) : (mj_fs B ad ci F G J).set k v = mj_fs B ad ci F' G' J' := by
  refine List.ext_getElem? fun i => ?_
  by_cases hi : i < mj_nf ci
  · by_cases e : k = i
    · subst e
      rw [List.getElem?_set_self (by rw [mj_fs_len]; exact hi), mj_fs_at hi, hv]
    · rw [List.getElem?_set_ne e, mj_fs_at hi, mj_fs_at hi, (h i (Ne.symm e)).1, (h i (Ne.symm e)).2.1, (h i (Ne.symm e)).2.2]
  · rw [List.getElem?_eq_none (by rw [List.length_set, mj_fs_len]; omega), List.getElem?_eq_none (by rw [mj_fs_len]; omega)]
theorem mj_W_sI {ci : Nat} {x : Int} (h : mj_is sh n q (ci + 4) len) (hk : k < mj_nf ci) (h0 : mj_kd ci k = 0) : (mj_W cs B ad sh FR IA LA n).set q (ad q, .inr (ci, (mj_fs B ad ci (FR q) (IA q) (LA q)).set k (Value.int (Int32.ofInt x)))) = mj_W cs B ad sh FR (mj_up IA q k x) LA n := by
  refine mj_W_set h.1 (fun _ _ => rfl) (fun a ha => mj_up_ne ha) (fun _ _ => rfl) ?_
  rw [h.2, mj_ce_ob, mj_fs_set (G' := mj_up IA q k x q) hk (fun i hi => ⟨rfl, by rw [mj_up_eq, if_neg hi], rfl⟩) (by rw [h0, mj_up_eq, if_pos rfl]; rfl)]
theorem mj_W_sL {ci : Nat} {x : BitVec 64} (h : mj_is sh n q (ci + 4) len) (hk : k < mj_nf ci) (h0 : mj_kd ci k = 2) : (mj_W cs B ad sh FR IA LA n).set q (ad q, .inr (ci, (mj_fs B ad ci (FR q) (IA q) (LA q)).set k (Value.long (Int64.ofBitVec x)))) = mj_W cs B ad sh FR IA (mj_up LA q k x) n := by
  refine mj_W_set h.1 (fun _ _ => rfl) (fun _ _ => rfl) (fun a ha => mj_up_ne ha) ?_
  rw [h.2, mj_ce_ob, mj_fs_set (J' := mj_up LA q k x q) hk (fun i hi => ⟨rfl, rfl, by rw [mj_up_eq, if_neg hi]⟩) (by rw [h0, mj_up_eq, if_pos rfl]; rfl)]
theorem mj_W_sR {ci : Nat} {r : mj_R} (h : mj_is sh n q (ci + 4) len) (hk : k < mj_nf ci) (h0 : mj_kd ci k = 1) : (mj_W cs B ad sh FR IA LA n).set q (ad q, .inr (ci, (mj_fs B ad ci (FR q) (IA q) (LA q)).set k (mj_rf B ad r))) = mj_W cs B ad sh (mj_up FR q k r) IA LA n := by
  refine mj_W_set h.1 (fun a ha => mj_up_ne ha) (fun _ _ => rfl) (fun _ _ => rfl) ?_
  rw [h.2, mj_ce_ob, mj_fs_set (F' := mj_up FR q k r q) hk (fun i hi => ⟨by rw [mj_up_eq, if_neg hi], rfl, rfl⟩) (by rw [h0, mj_up_eq, if_pos rfl]; rfl)]
end WW
/-! locals -/
def mj_get : mj_L → Nat → Option mj_V
  | [], _ => none
  | x :: _, 0 => x
  | _ :: r, i + 1 => mj_get r i
def mj_set : mj_L → Nat → Option mj_V → mj_L
  | [], _, _ => []
  | _ :: r, 0, v => v :: r
  | x :: r, i + 1, v => x :: mj_set r i v
def mj_kl (ls : mj_L) (i : Nat) : mj_L := match i with
  | 0 => ls
  | j + 1 => match mj_get ls j with
    | some (.inr (.inl _)) => mj_set ls j none
    | _ => ls
def mj_s1 (ls : mj_L) (i : Nat) (v : mj_V) : mj_L := mj_set (mj_kl ls i) i (some v)
def mj_s2 (ls : mj_L) (i : Nat) (v : mj_V) : mj_L := mj_set (mj_set (mj_kl ls i) i (some v)) (i + 1) none
theorem mj_get_set : ∀ (ls : mj_L) (i k : Nat) (v : Option mj_V) (x : mj_V), mj_get (mj_set ls i v) k = some x → (k = i ∧ v = some x) ∨ (k ≠ i ∧ mj_get ls k = some x)
  | [], _, _, _, _, h => by simp [mj_set, mj_get] at h
  | _ :: _, 0, 0, _, _, h => Or.inl ⟨rfl, h⟩
  | _ :: _, 0, k + 1, _, _, h => Or.inr ⟨by omega, h⟩
  | _ :: _, i + 1, 0, _, _, h => Or.inr ⟨by omega, h⟩
  | _ :: r, i + 1, k + 1, v, x, h => by
    rcases mj_get_set r i k v x h with ⟨e, f⟩ | ⟨e, f⟩
    · exact Or.inl ⟨by omega, f⟩
    · exact Or.inr ⟨by omega, f⟩
theorem mj_get_kl {ls : mj_L} {i k : Nat} {x : mj_V} (h : mj_get (mj_kl ls i) k = some x) : mj_get ls k = some x ∧ ¬ (k + 1 = i ∧ mj_ct x = 2) := by
  cases i with
  | zero => exact ⟨h, fun z => by omega⟩
  | succ j =>
    unfold mj_kl at h
    dsimp only at h
    split at h
    · rcases mj_get_set _ _ _ _ _ h with ⟨_, e⟩ | ⟨e, f⟩
      · cases e
      · exact ⟨f, fun z => by omega⟩
    · rename_i hn
      refine ⟨h, fun z => ?_⟩
      obtain ⟨z1, z2⟩ := z
      have e : k = j := by omega
      subst e
      rcases x with x | x | x
      · cases z2
      · exact hn x h
      · cases z2
def mj_lv (B : mj_B) (ad : Nat → Nat) : Nat → mj_L → List (Nat × Value)
  | _, [] => []
  | i, none :: r => mj_lv B ad (i + 1) r
  | i, some v :: r => (i, mj_tv B ad v) :: mj_lv B ad (i + 1) r
theorem mj_lv_in (B : mj_B) (ad : Nat → Nat) : ∀ (ls : mj_L) (i k : Nat) (v : mj_V), mj_get ls k = some v → (i + k, mj_tv B ad v) ∈ mj_lv B ad i ls
  | [], _, _, _, h => by simp [mj_get] at h
  | none :: _, _, 0, _, h => by cases h
  | some u :: _, i, 0, v, h => by
    cases h
    exact List.mem_cons_self
  | none :: r, i, k + 1, v, h => by
    have := mj_lv_in B ad r (i + 1) k v h
    rw [show i + (k + 1) = i + 1 + k by omega]
    exact this
  | some u :: r, i, k + 1, v, h => by
    have := mj_lv_in B ad r (i + 1) k v h
    rw [show i + (k + 1) = i + 1 + k by omega]
    exact List.mem_cons_of_mem _ this
theorem mj_lv_out (B : mj_B) (ad : Nat → Nat) : ∀ (ls : mj_L) (i : Nat) (q : Nat × Value), q ∈ mj_lv B ad i ls → ∃ k v, q = (i + k, mj_tv B ad v) ∧ mj_get ls k = some v
  | [], _, _, h => by cases h
  | none :: r, i, q, h => by
    obtain ⟨k, v, e, f⟩ := mj_lv_out B ad r (i + 1) q h
    exact ⟨k + 1, v, by rw [e, show i + (k + 1) = i + 1 + k by omega], f⟩
  | some u :: r, i, q, h => by
    rcases List.mem_cons.mp h with e | h
    · exact ⟨0, u, e, rfl⟩
    · obtain ⟨k, v, e, f⟩ := mj_lv_out B ad r (i + 1) q h
      exact ⟨k + 1, v, by rw [e, show i + (k + 1) = i + 1 + k by omega], f⟩
def mj_Lr (B : mj_B) (ad : Nat → Nat) (lsr : Array Slot) (nL : Nat) (ls : mj_L) : Prop := lsr.size = nL ∧ lv_wf lsr ∧ ∀ (i : Nat) (v : mj_V), mj_get ls i = some v → lsr[i]? = some (.val (mj_tv B ad v))
theorem mj_Lr.has {B : mj_B} {ad : Nat → Nat} {lsr : Array Slot} {nL : Nat} {ls : mj_L} (h : mj_Lr B ad lsr nL ls) : lv_has lsr nL (mj_lv B ad 0 ls) := by
  refine ⟨h.1, h.2.1, fun q hq => ?_⟩
  obtain ⟨k, v, e, f⟩ := mj_lv_out B ad ls 0 q hq
  subst e
  have := h.2.2 k v f
  simpa using this
theorem mj_Lr.s1 {B : mj_B} {ad : Nat → Nat} {lsr : Array Slot} {nL i : Nat} {ls : mj_L} {v : mj_V} (h : lv_has lsr nL ((i, mj_tv B ad v) :: (mj_lv B ad 0 ls).filter (fun q => !(q.1 == i) && !(q.1 + 1 == i && q.2.category == 2)))) : mj_Lr B ad lsr nL (mj_s1 ls i v) := by
  refine ⟨h.1, h.2.1, fun k x hx => ?_⟩
  unfold mj_s1 at hx
  rcases mj_get_set _ _ _ _ _ hx with ⟨e, f⟩ | ⟨hk, hx⟩
  · subst e
    cases f
    exact h.2.2 (k, _) List.mem_cons_self
  · obtain ⟨hx, hc⟩ := mj_get_kl hx
    have hm := mj_lv_in B ad ls 0 k x hx
    rw [Nat.zero_add] at hm
    refine h.2.2 (k, _) (List.mem_cons_of_mem _ (List.mem_filter.mpr ⟨hm, ?_⟩))
    simp only [mj_tv_cat, Bool.and_eq_true, Bool.not_eq_true', beq_eq_false_iff_ne, Bool.and_eq_false_iff]
    refine ⟨hk, ?_⟩
    by_cases e : k + 1 = i
    · exact Or.inr fun z => hc ⟨e, (mj_tv_cat B ad x).symm.trans z⟩
    · exact Or.inl e
theorem mj_Lr.s2 {B : mj_B} {ad : Nat → Nat} {lsr : Array Slot} {nL i : Nat} {ls : mj_L} {v : mj_V} (h : lv_has lsr nL ((i, mj_tv B ad v) :: (mj_lv B ad 0 ls).filter (fun q => !(q.1 == i) && (!(q.1 == i + 1) && !(q.1 + 1 == i && q.2.category == 2))))) : mj_Lr B ad lsr nL (mj_s2 ls i v) := by
  refine ⟨h.1, h.2.1, fun k x hx => ?_⟩
  unfold mj_s2 at hx
  rcases mj_get_set _ _ _ _ _ hx with ⟨e, f⟩ | ⟨hk2, hx⟩
  · cases f
  rcases mj_get_set _ _ _ _ _ hx with ⟨e, f⟩ | ⟨hk, hx⟩
  · subst e
    cases f
    exact h.2.2 (k, _) List.mem_cons_self
  · obtain ⟨hx, hc⟩ := mj_get_kl hx
    have hm := mj_lv_in B ad ls 0 k x hx
    rw [Nat.zero_add] at hm
    refine h.2.2 (k, _) (List.mem_cons_of_mem _ (List.mem_filter.mpr ⟨hm, ?_⟩))
    simp only [mj_tv_cat, Bool.and_eq_true, Bool.not_eq_true', beq_eq_false_iff_ne, Bool.and_eq_false_iff]
    refine ⟨hk, hk2, ?_⟩
    by_cases e : k + 1 = i
    · exact Or.inr fun z => hc ⟨e, (mj_tv_cat B ad x).symm.trans z⟩
    · exact Or.inl e
end
section
/-! THE JUDGEMENT -/
/-- a launch without stack traces -/
def mj_la (l : Launch) : Prop := ∀ e : Env, l.admits e → e.platform.stackTraces = false
/-- one of Throwable's statics that hold a reference or null -/
def mj_Ts (nm d : String) (A : Nat → Prop) (s : State) : Prop := ∃ (c : ClassId) (k : Class) (i : Nat) (f : Field) (a : Nat) (cell : Cell) (u : Value), s.vm.findClass Bundle.tN = some c ∧ s.fieldFound? Bundle.tN nm d = some (c, k, i, f) ∧ f.isStatic = true ∧ k.statics = some a ∧ s.heap[a]? = some cell ∧ cell.vm.isStatics = true ∧ cell.cls = c ∧
  f.slot < cell.slots.size ∧ k.staticTypes[f.slot]? = some f.type ∧ cell.slots[f.slot]? = some u ∧ u.isRef = true ∧ ¬ A a
theorem mj_Ts.move {nm d : String} {A A' : Nat → Prop} {s U : State} (h : mj_Ts nm d A s) (hk : ∀ q : Nat, q < s.heap.size → ¬ A q → U.heap[q]? = s.heap[q]?) (hv : s.vm.Alike U.vm) (hA : ∀ q, A' q → A q) : mj_Ts nm d A' U := by
  obtain ⟨c, k, i, f, a, cell, u, h1, h2, h3, h4, h5, h6, h7, h8, h9, h10, h11, h12⟩ := h
  obtain ⟨k', hi', he⟩ := State.fieldFound?_setVm hv h2
  exact ⟨c, k', i, f, a, cell, u, by rw [hv.findClass]; exact h1, hi', h3, by rw [he]; exact h4, by rw [hk a (Array.getElem?_eq_some_iff.mp h5).1 h12]; exact h5, h6, h7, h8, by rw [he]; exact h9, h10, h11, fun z => h12 (hA a z)⟩
theorem mj_Ts.lays {nm d : String} {A : Nat → Prop} {s : State} {args : Array Value} (h : mj_Ts nm d A s) : (Cond.laysStatic Bundle.tN nm d).before args s = true := by
  obtain ⟨c, k, i, f, a, cell, u, h1, h2, h3, h4, h5, h6, h7, h8, h9, h10, h11, h12⟩ := h
  simp [Cond.before, Cond.holds, Cond.value, h1, h2, h3, h4, h5, h6, h7, h8, h9]
theorem mj_Ts.isr {nm d : String} {A : Nat → Prop} {s : State} {args : Array Value} (h : mj_Ts nm d A s) : (Cond.isRef (.static Bundle.tN nm d)).before args s = true := by
  obtain ⟨c, k, i, f, a, cell, u, h1, h2, h3, h4, h5, h6, h7, h8, h9, h10, h11, h12⟩ := h
  have he : (Term.static Bundle.tN nm d).eval args s none [] s = some u := by
    simp [Term.eval, State.fieldNamed?, h2, h3, h4, h5, h6, h10]
  simp only [Cond.before, Cond.holds, Cond.value, he]
  cases u <;> first | rfl | (simp [Value.isRef] at h11)
/-- what throwing and the nest's constructors ask of the state -/
def mj_Nw (A : Nat → Prop) (s : State) : Prop := (∀ q ∈ mj_wn, va_Nw (.methodLinkNest q.1 q.2.1 q.2.2.1 q.2.2.2) s) ∧ (∀ q ∈ mj_tw, q.1.before #[] s = q.2) ∧ mj_Ts "UNASSIGNED_STACK" Bundle.steD A s ∧ mj_Ts "SUPPRESSED_SENTINEL" Bundle.listD A s ∧ (∀ q ∈ mj_wr, ∃ a, vk_R q.1 q.2.1 q.2.2 a s)
theorem mj_tw_move {s U : State} (hv : s.vm.Alike U.vm) : ∀ q ∈ mj_tw, q.1.before #[] U = q.1.before #[] s := by
  have hd : ∀ x, (Cond.declares x).before #[] U = (Cond.declares x).before #[] s := fun x => by
    rw [← Cond.declares_setVm hv]
    exact Cond.onTables_vm (A := #[]) (A' := #[]) (U := U) (U' := s) U.vm _ rfl
  have hc : ∀ x y, (Cond.castable x y).before #[] U = (Cond.castable x y).before #[] s := fun x y => by
    rw [← Cond.castable_setVm hv]
    exact Cond.onTables_vm (A := #[]) (A' := #[]) (U := U) (U' := s) U.vm _ rfl
  intro q hq
  simp only [mj_tw, List.mem_cons, List.not_mem_nil, or_false] at hq
  rcases hq with rfl | rfl | rfl | rfl | rfl | rfl | rfl | rfl | rfl | rfl | rfl | rfl
  · exact hd _
  · exact hd _
  · exact hd _
  · exact hc _ _
  · exact hc _ _
  · exact hc _ _
  · exact hc _ _
  · exact hc _ _
  · exact hc _ _
  · exact hc _ _
  · exact hc _ _
  · exact hc _ _
theorem mj_Nw_move {A A' : Nat → Prop} {s U : State} (h : mj_Nw A s) (hk : ∀ q : Nat, q < s.heap.size → ¬ A q → U.heap[q]? = s.heap[q]?) (hW : s.WarmedH U.vm) (hA : ∀ q, A' q → A q) : mj_Nw A' U :=
  ⟨fun q hq => va_Nw.warmM hW (h.1 q hq), fun q hq => (mj_tw_move hW.alike q hq).trans (h.2.1 q hq), h.2.2.1.move hk hW.alike hA, h.2.2.2.1.move hk hW.alike hA, fun q hq => by
    obtain ⟨a, ha⟩ := h.2.2.2.2 q hq
    exact ⟨a, ha.warm hW⟩⟩
/-- the script is there for the law alone -/
def mj_Sk (M : mj_M) (B : mj_B) (A : Nat → Prop) (s : State) : Prop := M.1.name = "law" → va_X B.1.1 M.2.2.2.2.2.2.1 (fun j => Int32.ofInt (M.2.2.2.2.2.2.2 j)) s s.heap ∧ B.1.1 < s.heap.size ∧ ¬ A B.1.1
def mj_Cx (M : mj_M) (p : Program) (l : Launch) (e : Env) (s : State) (m : MethodId) (args : Array Value) (meth : Method) (c : Code) (D : va_G) (cs : Nat → ClassId) (B : mj_B) (A : Nat → Prop) : Prop :=
  p.tables.exec = Jvm.exec ∧ c.code = M.2.1 ∧ meth.sig.returnType = M.2.2.2.1 ∧ c.maxLocals = M.2.2.1 ∧ s.vm.findClass M.1.cls = some m.cls ∧ (∀ w ∈ mj_wd, w.before args s = true) ∧ meth.locks = false ∧
  va_K D vwCl (mj_ty cs) s ∧ (∀ q : Nat, s.heap.size ≤ q → A q) ∧ meth.name = M.1.name ∧ c.exceptionTable.toList.map (fun h => (h.startPc, h.endPc, h.handlerPc, h.catchType)) = M.2.2.2.2.2.1 ∧ mj_la l ∧ mj_Sk M B A s ∧ mj_Sx B.2 A s ∧ mj_Nw A s
def mj_Rl (cs : Nat → ClassId) (B : mj_B) (D : va_G) (A : Nat → Prop) (H0 : Heap) (ad0 : Nat → Nat) (n0 : Nat) (sh : mj_Sh) (FR : mj_FR) (IA : mj_FI) (LA : mj_LA) (n : Nat) (ad : Nat → Nat) (H : Heap) (locs : List Loc) : Prop :=
  va_P D vwCl (mj_W cs B ad sh FR IA LA n) H ∧ va_D A (mj_W cs B ad sh FR IA LA n) ∧ va_S A H0 H locs ∧ (∀ i, i < n0 ∨ n ≤ i → ad i = ad0 i) ∧ n0 ≤ n
/-- an exception of the kind k lies at a -/
def mj_ex (k a : Nat) (t : State) : Prop := ∃ cell : Cell, t.heap[a]? = some cell ∧ t.vm.findClass (mj_xn k) = some cell.cls ∧ cell.vm = .none
def mj_ou (B : mj_B) (ad : Nat → Nat) (r : mj_O) (o : Outcome) (t : State) : Prop := match r with
  | .inl v => o = .returned (v.map (mj_tv B ad))
  | .inr k => ∃ a, o = .threw a ∧ mj_ex k a t
def mj_Qc (Q : mj_Q) (D : va_G) (cs : Nat → ClassId) (B : mj_B) (A : Nat → Prop) (ad0 : Nat → Nat) (n0 : Nat) (s : State) (o : Outcome) (t : State) : Prop :=
  ∃ (r : mj_O) (sh : mj_Sh) (FR : mj_FR) (IA : mj_FI) (LA : mj_LA) (n : Nat) (ad : Nat → Nat), Q r sh FR IA LA n ∧ mj_ou B ad r o t ∧ va_P D vwCl (mj_W cs B ad sh FR IA LA n) t.heap ∧ va_D A (mj_W cs B ad sh FR IA LA n) ∧ (∀ i, i < n0 ∨ n ≤ i → ad i = ad0 i) ∧ n0 ≤ n ∧ va_F A s t
def mj_FE (s t : State) (L : List Loc) (k n : Nat) : Prop := s.WarmedH t.vm ∧ s.sameButNew ({ t with vm := s.vm } : State) L k n
def mj_MQ (M : mj_M) (Q : mj_Q) (below : List Frame) (s : State) (D : va_G) (cs : Nat → ClassId) (B : mj_B) (A : Nat → Prop) (ad0 : Nat → Nat) (n0 : Nat) : State → Prop := fun t =>
  ∃ o, t.status = .running ∧ Ended t below o ∧ mj_Qc Q D cs B A ad0 n0 s o t ∧ ∃ L, mj_FE s t L M.2.2.2.2.1.cells M.2.2.2.2.1.slots ∧ ∀ q ∈ L, A q.base
def mj_G (M : mj_M) (Q : mj_Q) : mj_K := fun pc ls st sh FR IA LA n kc ks =>
  ∀ (p : Program) (l : Launch) (e : Env) (s : State) (m : MethodId) (args : Array Value) (below : List Frame) (meth : Method) (c : Code) (D : va_G) (cs : Nat → ClassId) (B : mj_B) (A : Nat → Prop) (ad0 : Nat → Nat) (n0 : Nat) (ad : Nat → Nat) (H : Heap) (locs : List Loc) (lsr : Array Slot),
    mj_Cx M p l e s m args meth c D cs B A → mj_Rl cs B D A s.heap ad0 n0 sh FR IA LA n ad H locs → mj_Lr B ad lsr M.2.2.1 ls →
    W p l e M.2.2.2.2.1 s m args below meth c H locs kc ks (mj_MQ M Q below s D cs B A ad0 n0) (F0 m pc lsr (st.map (mj_tv B ad)))
def mj_ok (M : mj_M) (pc : Nat) (o : mj_Sem) : Prop := ∀ (Q : mj_Q) (K : mj_K), (∀ pc ls st sh FR IA LA n kc ks, K pc ls st sh FR IA LA n kc ks → mj_G M Q pc ls st sh FR IA LA n kc ks) →
  ∀ ls st sh FR IA LA n kc ks, o Q K pc ls st sh FR IA LA n kc ks → mj_G M Q pc ls st sh FR IA LA n kc ks
def mj_fnd : List (Nat × mj_Sem) → Nat → Option mj_Sem
  | [], _ => none
  | q :: r, pc => match Nat.beq q.1 pc with
    | true => some q.2
    | false => mj_fnd r pc
def mj_Code (M : mj_M) (code : List (Nat × mj_Sem)) : Prop := ∀ q ∈ code, mj_ok M q.1 q.2
def mj_el : List Nat → Nat → Bool
  | [], _ => false
  | q :: r, pc => match Nat.beq q pc with
    | true => true
    | false => mj_el r pc
def mj_wps (M : mj_M) (code : List (Nat × mj_Sem)) (Q : mj_Q) (cuts : List Nat) : Nat → mj_K
  | 0 => mj_G M Q
  | f + 1 => fun pc ls st sh FR IA LA n kc ks => match mj_el cuts pc with
    | true => mj_G M Q pc ls st sh FR IA LA n kc ks
    | false => match mj_fnd code pc with
      | some o => o Q (mj_wps M code Q cuts f) pc ls st sh FR IA LA n kc ks
      | none => False
def mj_nx (M : mj_M) (code : List (Nat × mj_Sem)) (Q : mj_Q) (cuts : List Nat) (f : Nat) : mj_K := fun pc ls st sh FR IA LA n kc ks => match mj_fnd code pc with
  | some o => o Q (mj_wps M code Q cuts f) pc ls st sh FR IA LA n kc ks
  | none => False
theorem mj_fnd_in : ∀ (code : List (Nat × mj_Sem)) (pc : Nat) (o : mj_Sem), mj_fnd code pc = some o → (pc, o) ∈ code
  | [], _, _, h => by cases h
  | q :: r, pc, o, h => by
    unfold mj_fnd at h
    split at h
    · rename_i hb
      cases h
      rw [← Nat.eq_of_beq_eq_true hb]
      exact List.mem_cons_self
    · exact List.mem_cons_of_mem _ (mj_fnd_in r pc o h)
theorem mj_wps_ok {M : mj_M} {code : List (Nat × mj_Sem)} (hc : mj_Code M code) {Q : mj_Q} {cuts : List Nat} : ∀ (f : Nat) (pc : Nat) (ls : mj_L) (st : List mj_V) (sh : mj_Sh) (FR : mj_FR) (IA : mj_FI) (LA : mj_LA) (n kc ks : Nat), mj_wps M code Q cuts f pc ls st sh FR IA LA n kc ks → mj_G M Q pc ls st sh FR IA LA n kc ks
  | 0, _, _, _, _, _, _, _, _, _, _, h => h
  | f + 1, pc, ls, st, sh, FR, IA, LA, n, kc, ks, h => by
    unfold mj_wps at h
    split at h
    · exact h
    · split at h
      · rename_i o ho
        exact hc _ (mj_fnd_in code pc o ho) Q _ (mj_wps_ok hc f) ls st sh FR IA LA n kc ks h
      · exact False.elim h
/-- run from pc (at least one instruction), f instructions at most, up to the cuts -/
theorem mj_go {M : mj_M} {code : List (Nat × mj_Sem)} (hc : mj_Code M code) (cuts : List Nat) (f : Nat) {Q : mj_Q} {pc : Nat} {ls : mj_L} {st : List mj_V} {sh : mj_Sh} {FR : mj_FR} {IA : mj_FI} {LA : mj_LA} {n kc ks : Nat} (h : mj_nx M code Q cuts f pc ls st sh FR IA LA n kc ks) : mj_G M Q pc ls st sh FR IA LA n kc ks := by
  unfold mj_nx at h
  split at h
  · rename_i o ho
    exact hc _ (mj_fnd_in code pc o ho) Q _ (mj_wps_ok hc f) ls st sh FR IA LA n kc ks h
  · exact False.elim h
theorem mj_mono {p : Program} {l : Launch} {e : Env} {R : Room} {s : State} {m : MethodId} {args : Array Value} {below : List Frame} {meth : Method} {c : Code} {H : Heap} {locs : List Loc} {cells slots : Nat} {Q Q' : State → Prop} {g : JFrame} (h : ∀ t, Q t → Q' t) (k : W p l e R s m args below meth c H locs cells slots Q g) : W p l e R s m args below meth c H locs cells slots Q' g := by
  intro T hT X
  obtain ⟨t, a, b⟩ := k T hT X
  exact ⟨t, a, h t b⟩
end
section
theorem mj_i2l (x : Int) : (Int32.ofInt x).toInt64 = Int64.ofBitVec (BitVec.ofInt 64 (mj_w x)) := by
  rw [← mj_toInt]
  rfl
theorem mj_l2i (x : BitVec 64) : (Int64.ofBitVec x).toInt32 = Int32.ofInt x.toInt := by
  refine Int32.toInt_inj.mp ?_
  rw [Int64.toInt_toInt32, Int32.toInt_ofInt]
  rfl
def mj_b (z : Int) : Int := (z + 128) % 256 - 128
theorem mj_i2b (x : Int) : (Int32.ofInt x).toInt8.toInt32 = Int32.ofInt (mj_b x) := by
  rw [← Int32.ofInt_int8ToInt, Int32.toInt_toInt8, mj_toInt]
  congr 1
  show (mj_w x).bmod 256 = mj_b x
  unfold Int.bmod mj_w mj_b
  dsimp only
  split <;> omega
def mj_lc (x y : BitVec 64) : Int := if y.toInt < x.toInt then 1 else if x = y then 0 else -1
theorem mj_lcmp (x y : BitVec 64) : lg_cmp (Int64.ofBitVec x) (Int64.ofBitVec y) = Int32.ofInt (mj_lc x y) := by
  unfold lg_cmp mj_lc
  have h1 : (Int64.ofBitVec x > Int64.ofBitVec y) ↔ y.toInt < x.toInt := Int64.lt_iff_toInt_lt
  have h2 : (Int64.ofBitVec x = Int64.ofBitVec y) ↔ x = y := ⟨fun h => congrArg Int64.toBitVec h, fun h => by rw [h]⟩
  by_cases a : y.toInt < x.toInt
  · rw [if_pos (h1.mpr a), if_pos a]; rfl
  · rw [if_neg (fun q => a (h1.mp q)), if_neg a]
    by_cases b : x = y
    · rw [if_pos (h2.mpr b), if_pos b]; rfl
    · rw [if_neg (fun q => b (h2.mp q)), if_neg b]; rfl
def o_ic (v : Int) (nx : Nat) : mj_Sem := fun Q K pc ls st sh FR IA LA n kc ks => K nx ls (.inl v :: st) sh FR IA LA n kc ks
theorem k_iconst {M : mj_M} {pc : Nat} {v : Int} (hd : decode M.2.1 pc = .ok (.iconst v, 1)) : mj_ok M pc (o_ic v (pc + 1)) := by
  intro Q K hK ls st sh FR IA LA n kc ks h
  intro p l e s m args below meth c D cs B A ad0 n0 ad H locs lsr hC hR hL
  exact lv_iconst hC.1 hC.2.1 hd rfl (hK _ _ _ _ _ _ _ _ _ _ h p l e s m args below meth c D cs B A ad0 n0 ad H locs lsr hC hR hL)
theorem k_bipush {M : mj_M} {pc : Nat} {v : Int} (hd : decode M.2.1 pc = .ok (.bipush v, 2)) (hv : (Int8.ofInt v).toInt32 = Int32.ofInt v) : mj_ok M pc (o_ic v (pc + 2)) := by
  intro Q K hK ls st sh FR IA LA n kc ks h
  intro p l e s m args below meth c D cs B A ad0 n0 ad H locs lsr hC hR hL
  exact lv_bipush hC.1 hC.2.1 hd hv (hK _ _ _ _ _ _ _ _ _ _ h p l e s m args below meth c D cs B A ad0 n0 ad H locs lsr hC hR hL)
theorem k_sipush {M : mj_M} {pc : Nat} {v : Int} (hd : decode M.2.1 pc = .ok (.sipush v, 3)) (hv : (Int16.ofInt v).toInt32 = Int32.ofInt v) : mj_ok M pc (o_ic v (pc + 3)) := by
  intro Q K hK ls st sh FR IA LA n kc ks h
  intro p l e s m args below meth c D cs B A ad0 n0 ad H locs lsr hC hR hL
  exact lv_sipush hC.1 hC.2.1 hd hv (hK _ _ _ _ _ _ _ _ _ _ h p l e s m args below meth c D cs B A ad0 n0 ad H locs lsr hC hR hL)
theorem k_ldc {M : mj_M} {pc : Nat} {v : Int} {idx : Nat} (hd : decode M.2.1 pc = .ok (.ldc idx, 2)) (hw : Cond.constant M.1.cls idx (Int32.ofInt v) ∈ mj_wd) : mj_ok M pc (o_ic v (pc + 2)) := by
  intro Q K hK ls st sh FR IA LA n kc ks h
  intro p l e s m args below meth c D cs B A ad0 n0 ad H locs lsr hC hR hL
  exact lv_ldc hC.1 hC.2.1 hC.2.2.2.2.1 (hC.2.2.2.2.2.1 _ hw) hd (hK _ _ _ _ _ _ _ _ _ _ h p l e s m args below meth c D cs B A ad0 n0 ad H locs lsr hC hR hL)
def o_lc (v : BitVec 64) (nx : Nat) : mj_Sem := fun Q K pc ls st sh FR IA LA n kc ks => K nx ls (.inr (.inl v) :: st) sh FR IA LA n kc ks
theorem k_lconst {M : mj_M} {pc : Nat} {k : Fin 2} {v : BitVec 64} (hd : decode M.2.1 pc = .ok (.lconst k, 1)) (hv : Int64.ofNat (k : Nat) = Int64.ofBitVec v) : mj_ok M pc (o_lc v (pc + 1)) := by
  intro Q K hK ls st sh FR IA LA n kc ks h
  intro p l e s m args below meth c D cs B A ad0 n0 ad H locs lsr hC hR hL
  exact lv_lconst hC.1 hC.2.1 hd hv (hK _ _ _ _ _ _ _ _ _ _ h p l e s m args below meth c D cs B A ad0 n0 ad H locs lsr hC hR hL)
theorem k_ldc2 {M : mj_M} {pc : Nat} {v : BitVec 64} {idx : Nat} (hd : decode M.2.1 pc = .ok (.ldc2_w idx, 3)) (hw : Cond.constantLong M.1.cls idx (Int64.ofBitVec v) ∈ mj_wd) : mj_ok M pc (o_lc v (pc + 3)) := by
  intro Q K hK ls st sh FR IA LA n kc ks h
  intro p l e s m args below meth c D cs B A ad0 n0 ad H locs lsr hC hR hL
  exact lv_ldc2 hC.1 hC.2.1 hC.2.2.2.2.1 (hC.2.2.2.2.2.1 _ hw) hd (hK _ _ _ _ _ _ _ _ _ _ h p l e s m args below meth c D cs B A ad0 n0 ad H locs lsr hC hR hL)
def o_il (i nx : Nat) : mj_Sem := fun Q K pc ls st sh FR IA LA n kc ks => match mj_get ls i with
  | some (.inl x) => K nx ls ((.inl x) :: st) sh FR IA LA n kc ks
  | _ => False
theorem k_iloadn {M : mj_M} {pc : Nat} {k : Fin 4} {i : Nat} (hd : decode M.2.1 pc = .ok (.iload_n k, 1)) (hi : (k : Nat) = i) : mj_ok M pc (o_il i (pc + 1)) := by
  intro Q K hK ls st sh FR IA LA n kc ks h
  unfold o_il at h
  split at h
  · rename_i x hx
    intro p l e s m args below meth c D cs B A ad0 n0 ad H locs lsr hC hR hL
    exact lv_iload_n hC.1 hC.2.1 hd hi (hL.2.2 i _ hx) (hK _ _ _ _ _ _ _ _ _ _ h p l e s m args below meth c D cs B A ad0 n0 ad H locs lsr hC hR hL)
  · exact False.elim h
theorem k_iload {M : mj_M} {pc : Nat} {i : Nat} (hd : decode M.2.1 pc = .ok (.iload i, 2)) : mj_ok M pc (o_il i (pc + 2)) := by
  intro Q K hK ls st sh FR IA LA n kc ks h
  unfold o_il at h
  split at h
  · rename_i x hx
    intro p l e s m args below meth c D cs B A ad0 n0 ad H locs lsr hC hR hL
    exact lv_iload hC.1 hC.2.1 hd (hL.2.2 i _ hx) (hK _ _ _ _ _ _ _ _ _ _ h p l e s m args below meth c D cs B A ad0 n0 ad H locs lsr hC hR hL)
  · exact False.elim h
def o_ll (i nx : Nat) : mj_Sem := fun Q K pc ls st sh FR IA LA n kc ks => match mj_get ls i with
  | some (.inr (.inl x)) => K nx ls ((.inr (.inl x)) :: st) sh FR IA LA n kc ks
  | _ => False
theorem k_lloadn {M : mj_M} {pc : Nat} {k : Fin 4} {i : Nat} (hd : decode M.2.1 pc = .ok (.lload_n k, 1)) (hi : (k : Nat) = i) : mj_ok M pc (o_ll i (pc + 1)) := by
  intro Q K hK ls st sh FR IA LA n kc ks h
  unfold o_ll at h
  split at h
  · rename_i x hx
    intro p l e s m args below meth c D cs B A ad0 n0 ad H locs lsr hC hR hL
    exact lv_lload_n hC.1 hC.2.1 hd hi (hL.2.2 i _ hx) (hK _ _ _ _ _ _ _ _ _ _ h p l e s m args below meth c D cs B A ad0 n0 ad H locs lsr hC hR hL)
  · exact False.elim h
theorem k_lload {M : mj_M} {pc : Nat} {i : Nat} (hd : decode M.2.1 pc = .ok (.lload i, 2)) : mj_ok M pc (o_ll i (pc + 2)) := by
  intro Q K hK ls st sh FR IA LA n kc ks h
  unfold o_ll at h
  split at h
  · rename_i x hx
    intro p l e s m args below meth c D cs B A ad0 n0 ad H locs lsr hC hR hL
    exact lv_lload hC.1 hC.2.1 hd (hL.2.2 i _ hx) (hK _ _ _ _ _ _ _ _ _ _ h p l e s m args below meth c D cs B A ad0 n0 ad H locs lsr hC hR hL)
  · exact False.elim h
def o_al (i nx : Nat) : mj_Sem := fun Q K pc ls st sh FR IA LA n kc ks => match mj_get ls i with
  | some (.inr (.inr (.inl x))) => K nx ls (.inr (.inr (.inl x)) :: st) sh FR IA LA n kc ks
  | some (.inr (.inr (.inr 1))) => K nx ls (.inr (.inr (.inr 1)) :: st) sh FR IA LA n kc ks
  | _ => False
theorem k_aloadn {M : mj_M} {pc : Nat} {k : Fin 4} {i : Nat} (hd : decode M.2.1 pc = .ok (.aload_n k, 1)) (hi : (k : Nat) = i) : mj_ok M pc (o_al i (pc + 1)) := by
  intro Q K hK ls st sh FR IA LA n kc ks h
  unfold o_al at h
  split at h
  · rename_i x hx
    intro p l e s m args below meth c D cs B A ad0 n0 ad H locs lsr hC hR hL
    exact lv_aload_n hC.1 hC.2.1 hd hi (hL.2.2 i _ hx) (hK _ _ _ _ _ _ _ _ _ _ h p l e s m args below meth c D cs B A ad0 n0 ad H locs lsr hC hR hL)
  · rename_i hx
    intro p l e s m args below meth c D cs B A ad0 n0 ad H locs lsr hC hR hL
    exact lv_aload_n hC.1 hC.2.1 hd hi (hL.2.2 i _ hx) (hK _ _ _ _ _ _ _ _ _ _ h p l e s m args below meth c D cs B A ad0 n0 ad H locs lsr hC hR hL)
  · exact False.elim h
theorem k_aload {M : mj_M} {pc : Nat} {i : Nat} (hd : decode M.2.1 pc = .ok (.aload i, 2)) : mj_ok M pc (o_al i (pc + 2)) := by
  intro Q K hK ls st sh FR IA LA n kc ks h
  unfold o_al at h
  split at h
  · rename_i x hx
    intro p l e s m args below meth c D cs B A ad0 n0 ad H locs lsr hC hR hL
    exact lv_aload hC.1 hC.2.1 hd (hL.2.2 i _ hx) (hK _ _ _ _ _ _ _ _ _ _ h p l e s m args below meth c D cs B A ad0 n0 ad H locs lsr hC hR hL)
  · rename_i hx
    intro p l e s m args below meth c D cs B A ad0 n0 ad H locs lsr hC hR hL
    exact lv_aload hC.1 hC.2.1 hd (hL.2.2 i _ hx) (hK _ _ _ _ _ _ _ _ _ _ h p l e s m args below meth c D cs B A ad0 n0 ad H locs lsr hC hR hL)
  · exact False.elim h
def o_is (i nx : Nat) : mj_Sem := fun Q K pc ls st sh FR IA LA n kc ks => match st with
  | (.inl x) :: st => K nx (mj_s1 ls i (.inl x)) st sh FR IA LA n kc ks
  | _ => False
theorem k_istoren {M : mj_M} {pc : Nat} {k : Fin 4} {i : Nat} (hd : decode M.2.1 pc = .ok (.istore_n k, 1)) (hi : (k : Nat) = i) (hn : i < M.2.2.1) : mj_ok M pc (o_is i (pc + 1)) := by
  intro Q K hK ls st sh FR IA LA n kc ks h
  rcases st with _ | ⟨x | x, st⟩ <;> first | exact False.elim h | skip
  intro p l e s m args below meth c D cs B A ad0 n0 ad H locs lsr hC hR hL
  exact lv_istore_n hC.1 hC.2.1 hd hi hL.has hn rfl fun ls' hl' => hK _ _ _ _ _ _ _ _ _ _ h p l e s m args below meth c D cs B A ad0 n0 ad H locs ls' hC hR (mj_Lr.s1 hl')
theorem k_istore {M : mj_M} {pc : Nat} {i : Nat} (hd : decode M.2.1 pc = .ok (.istore i, 2)) (hn : i < M.2.2.1) : mj_ok M pc (o_is i (pc + 2)) := by
  intro Q K hK ls st sh FR IA LA n kc ks h
  rcases st with _ | ⟨x | x, st⟩ <;> first | exact False.elim h | skip
  intro p l e s m args below meth c D cs B A ad0 n0 ad H locs lsr hC hR hL
  exact lv_istore hC.1 hC.2.1 hd hL.has hn rfl fun ls' hl' => hK _ _ _ _ _ _ _ _ _ _ h p l e s m args below meth c D cs B A ad0 n0 ad H locs ls' hC hR (mj_Lr.s1 hl')
def o_ls (i nx : Nat) : mj_Sem := fun Q K pc ls st sh FR IA LA n kc ks => match st with
  | (.inr (.inl x)) :: st => K nx (mj_s2 ls i (.inr (.inl x))) st sh FR IA LA n kc ks
  | _ => False
theorem k_lstoren {M : mj_M} {pc : Nat} {k : Fin 4} {i : Nat} (hd : decode M.2.1 pc = .ok (.lstore_n k, 1)) (hi : (k : Nat) = i) (hn : i + 1 < M.2.2.1) : mj_ok M pc (o_ls i (pc + 1)) := by
  intro Q K hK ls st sh FR IA LA n kc ks h
  rcases st with _ | ⟨x | x | x, st⟩ <;> first | exact False.elim h | skip
  intro p l e s m args below meth c D cs B A ad0 n0 ad H locs lsr hC hR hL
  exact lv_lstore_n hC.1 hC.2.1 hd hi hL.has hn rfl fun ls' hl' => hK _ _ _ _ _ _ _ _ _ _ h p l e s m args below meth c D cs B A ad0 n0 ad H locs ls' hC hR (mj_Lr.s2 hl')
theorem k_lstore {M : mj_M} {pc : Nat} {i : Nat} (hd : decode M.2.1 pc = .ok (.lstore i, 2)) (hn : i + 1 < M.2.2.1) : mj_ok M pc (o_ls i (pc + 2)) := by
  intro Q K hK ls st sh FR IA LA n kc ks h
  rcases st with _ | ⟨x | x | x, st⟩ <;> first | exact False.elim h | skip
  intro p l e s m args below meth c D cs B A ad0 n0 ad H locs lsr hC hR hL
  exact lv_lstore hC.1 hC.2.1 hd hL.has hn rfl fun ls' hl' => hK _ _ _ _ _ _ _ _ _ _ h p l e s m args below meth c D cs B A ad0 n0 ad H locs ls' hC hR (mj_Lr.s2 hl')
def o_as (i nx : Nat) : mj_Sem := fun Q K pc ls st sh FR IA LA n kc ks => match st with
  | (.inr (.inr (.inl x))) :: st => K nx (mj_s1 ls i (.inr (.inr (.inl x)))) st sh FR IA LA n kc ks
  | _ => False
theorem k_astoren {M : mj_M} {pc : Nat} {k : Fin 4} {i : Nat} (hd : decode M.2.1 pc = .ok (.astore_n k, 1)) (hi : (k : Nat) = i) (hn : i < M.2.2.1) : mj_ok M pc (o_as i (pc + 1)) := by
  intro Q K hK ls st sh FR IA LA n kc ks h
  rcases st with _ | ⟨x | x | x | x, st⟩ <;> first | exact False.elim h | skip
  intro p l e s m args below meth c D cs B A ad0 n0 ad H locs lsr hC hR hL
  exact lv_astore_n hC.1 hC.2.1 hd hi hL.has hn rfl fun ls' hl' => hK _ _ _ _ _ _ _ _ _ _ h p l e s m args below meth c D cs B A ad0 n0 ad H locs ls' hC hR (mj_Lr.s1 hl')
theorem k_astore {M : mj_M} {pc : Nat} {i : Nat} (hd : decode M.2.1 pc = .ok (.astore i, 2)) (hn : i < M.2.2.1) : mj_ok M pc (o_as i (pc + 2)) := by
  intro Q K hK ls st sh FR IA LA n kc ks h
  rcases st with _ | ⟨x | x | x | x, st⟩ <;> first | exact False.elim h | skip
  intro p l e s m args below meth c D cs B A ad0 n0 ad H locs lsr hC hR hL
  exact lv_astore hC.1 hC.2.1 hd hL.has hn rfl fun ls' hl' => hK _ _ _ _ _ _ _ _ _ _ h p l e s m args below meth c D cs B A ad0 n0 ad H locs ls' hC hR (mj_Lr.s1 hl')
def o_inc (i : Nat) (v : Int) (nx : Nat) : mj_Sem := fun Q K pc ls st sh FR IA LA n kc ks => match mj_get ls i with
  | some (.inl x) => ∃ z, mj_w (x + v) = z ∧ K nx (mj_s1 ls i (.inl z)) st sh FR IA LA n kc ks
  | _ => False
theorem k_iinc {M : mj_M} {pc : Nat} {i : Nat} {v : Int} (hd : decode M.2.1 pc = .ok (.iinc i v, 3)) (hn : i < M.2.2.1) : mj_ok M pc (o_inc i v (pc + 3)) := by
  intro Q K hK ls st sh FR IA LA n kc ks h
  unfold o_inc at h
  split at h
  · rename_i x hx
    obtain ⟨z, hz, h⟩ := h
    intro p l e s m args below meth c D cs B A ad0 n0 ad H locs lsr hC hR hL
    have hm := mj_lv_in B ad ls 0 i _ hx
    rw [Nat.zero_add] at hm
    obtain ⟨k, hk⟩ := List.getElem?_of_mem hm
    have ev : Int32.ofInt x + Int32.ofInt v = Int32.ofInt z := by rw [← Int32.ofInt_add, ← mj_ofw, hz]
    exact lv_iinc hC.1 hC.2.1 hd hL.has hk ev hn rfl fun ls' hl' => hK _ _ _ _ _ _ _ _ _ _ h p l e s m args below meth c D cs B A ad0 n0 ad H locs ls' hC hR (mj_Lr.s1 hl')
  · exact False.elim h
def o_iadd (nx : Nat) : mj_Sem := fun Q K pc ls st sh FR IA LA n kc ks => match st with
  | .inl y :: .inl x :: st => ∃ z, mj_w (x + y) = z ∧ K nx ls (.inl z :: st) sh FR IA LA n kc ks
  | _ => False
theorem k_iadd {M : mj_M} {pc : Nat} (hd : decode M.2.1 pc = .ok (.iadd, 1)) : mj_ok M pc (o_iadd (pc + 1)) := by
  intro Q K hK ls st sh FR IA LA n kc ks h
  rcases st with _ | ⟨y | y, _ | ⟨x | x, st⟩⟩ <;> first | exact False.elim h | skip
  obtain ⟨z, hz, h⟩ := h
  intro p l e s m args below meth c D cs B A ad0 n0 ad H locs lsr hC hR hL
  refine lv_iadd hC.1 hC.2.1 hd ?_
  rw [show Int32.ofInt x + Int32.ofInt y = Int32.ofInt z by rw [← Int32.ofInt_add, ← mj_ofw, hz]]
  exact hK _ _ _ _ _ _ _ _ _ _ h p l e s m args below meth c D cs B A ad0 n0 ad H locs lsr hC hR hL
def o_isub (nx : Nat) : mj_Sem := fun Q K pc ls st sh FR IA LA n kc ks => match st with
  | .inl y :: .inl x :: st => ∃ z, mj_w (x - y) = z ∧ K nx ls (.inl z :: st) sh FR IA LA n kc ks
  | _ => False
theorem k_isub {M : mj_M} {pc : Nat} (hd : decode M.2.1 pc = .ok (.isub, 1)) : mj_ok M pc (o_isub (pc + 1)) := by
  intro Q K hK ls st sh FR IA LA n kc ks h
  rcases st with _ | ⟨y | y, _ | ⟨x | x, st⟩⟩ <;> first | exact False.elim h | skip
  obtain ⟨z, hz, h⟩ := h
  intro p l e s m args below meth c D cs B A ad0 n0 ad H locs lsr hC hR hL
  refine lv_isub hC.1 hC.2.1 hd ?_
  rw [show Int32.ofInt x - Int32.ofInt y = Int32.ofInt z by rw [← Int32.ofInt_sub, ← mj_ofw, hz]]
  exact hK _ _ _ _ _ _ _ _ _ _ h p l e s m args below meth c D cs B A ad0 n0 ad H locs lsr hC hR hL
def o_imul (nx : Nat) : mj_Sem := fun Q K pc ls st sh FR IA LA n kc ks => match st with
  | .inl y :: .inl x :: st => ∃ z, mj_w (x * y) = z ∧ K nx ls (.inl z :: st) sh FR IA LA n kc ks
  | _ => False
theorem k_imul {M : mj_M} {pc : Nat} (hd : decode M.2.1 pc = .ok (.imul, 1)) : mj_ok M pc (o_imul (pc + 1)) := by
  intro Q K hK ls st sh FR IA LA n kc ks h
  rcases st with _ | ⟨y | y, _ | ⟨x | x, st⟩⟩ <;> first | exact False.elim h | skip
  obtain ⟨z, hz, h⟩ := h
  intro p l e s m args below meth c D cs B A ad0 n0 ad H locs lsr hC hR hL
  refine lv_imul hC.1 hC.2.1 hd ?_
  rw [show Int32.ofInt x * Int32.ofInt y = Int32.ofInt z by rw [← Int32.ofInt_mul, ← mj_ofw, hz]]
  exact hK _ _ _ _ _ _ _ _ _ _ h p l e s m args below meth c D cs B A ad0 n0 ad H locs lsr hC hR hL
def o_iand (nx : Nat) : mj_Sem := fun Q K pc ls st sh FR IA LA n kc ks => match st with
  | .inl y :: .inl x :: st => ∃ z, (Int32.ofInt x &&& Int32.ofInt y).toInt = z ∧ K nx ls (.inl z :: st) sh FR IA LA n kc ks
  | _ => False
theorem k_iand {M : mj_M} {pc : Nat} (hd : decode M.2.1 pc = .ok (.iand, 1)) : mj_ok M pc (o_iand (pc + 1)) := by
  intro Q K hK ls st sh FR IA LA n kc ks h
  rcases st with _ | ⟨y | y, _ | ⟨x | x, st⟩⟩ <;> first | exact False.elim h | skip
  obtain ⟨z, hz, h⟩ := h
  intro p l e s m args below meth c D cs B A ad0 n0 ad H locs lsr hC hR hL
  refine lv_iand hC.1 hC.2.1 hd ?_
  rw [show Int32.ofInt x &&& Int32.ofInt y = Int32.ofInt z by rw [← hz, Int32.ofInt_toInt]]
  exact hK _ _ _ _ _ _ _ _ _ _ h p l e s m args below meth c D cs B A ad0 n0 ad H locs lsr hC hR hL
def o_ior (nx : Nat) : mj_Sem := fun Q K pc ls st sh FR IA LA n kc ks => match st with
  | .inl y :: .inl x :: st => ∃ z, (Int32.ofInt x ||| Int32.ofInt y).toInt = z ∧ K nx ls (.inl z :: st) sh FR IA LA n kc ks
  | _ => False
theorem k_ior {M : mj_M} {pc : Nat} (hd : decode M.2.1 pc = .ok (.ior, 1)) : mj_ok M pc (o_ior (pc + 1)) := by
  intro Q K hK ls st sh FR IA LA n kc ks h
  rcases st with _ | ⟨y | y, _ | ⟨x | x, st⟩⟩ <;> first | exact False.elim h | skip
  obtain ⟨z, hz, h⟩ := h
  intro p l e s m args below meth c D cs B A ad0 n0 ad H locs lsr hC hR hL
  refine lv_ior hC.1 hC.2.1 hd ?_
  rw [show Int32.ofInt x ||| Int32.ofInt y = Int32.ofInt z by rw [← hz, Int32.ofInt_toInt]]
  exact hK _ _ _ _ _ _ _ _ _ _ h p l e s m args below meth c D cs B A ad0 n0 ad H locs lsr hC hR hL
def o_ixor (nx : Nat) : mj_Sem := fun Q K pc ls st sh FR IA LA n kc ks => match st with
  | .inl y :: .inl x :: st => ∃ z, (Int32.ofInt x ^^^ Int32.ofInt y).toInt = z ∧ K nx ls (.inl z :: st) sh FR IA LA n kc ks
  | _ => False
theorem k_ixor {M : mj_M} {pc : Nat} (hd : decode M.2.1 pc = .ok (.ixor, 1)) : mj_ok M pc (o_ixor (pc + 1)) := by
  intro Q K hK ls st sh FR IA LA n kc ks h
  rcases st with _ | ⟨y | y, _ | ⟨x | x, st⟩⟩ <;> first | exact False.elim h | skip
  obtain ⟨z, hz, h⟩ := h
  intro p l e s m args below meth c D cs B A ad0 n0 ad H locs lsr hC hR hL
  refine lv_ixor hC.1 hC.2.1 hd ?_
  rw [show Int32.ofInt x ^^^ Int32.ofInt y = Int32.ofInt z by rw [← hz, Int32.ofInt_toInt]]
  exact hK _ _ _ _ _ _ _ _ _ _ h p l e s m args below meth c D cs B A ad0 n0 ad H locs lsr hC hR hL
def o_ishl (nx : Nat) : mj_Sem := fun Q K pc ls st sh FR IA LA n kc ks => match st with
  | .inl y :: .inl x :: st => ∃ z, (Int32.ofInt x <<< (Int32.ofInt y &&& 31)).toInt = z ∧ K nx ls (.inl z :: st) sh FR IA LA n kc ks
  | _ => False
theorem k_ishl {M : mj_M} {pc : Nat} (hd : decode M.2.1 pc = .ok (.ishl, 1)) : mj_ok M pc (o_ishl (pc + 1)) := by
  intro Q K hK ls st sh FR IA LA n kc ks h
  rcases st with _ | ⟨y | y, _ | ⟨x | x, st⟩⟩ <;> first | exact False.elim h | skip
  obtain ⟨z, hz, h⟩ := h
  intro p l e s m args below meth c D cs B A ad0 n0 ad H locs lsr hC hR hL
  refine lv_ishl hC.1 hC.2.1 hd ?_
  rw [show Int32.ofInt x <<< (Int32.ofInt y &&& 31) = Int32.ofInt z by rw [← hz, Int32.ofInt_toInt]]
  exact hK _ _ _ _ _ _ _ _ _ _ h p l e s m args below meth c D cs B A ad0 n0 ad H locs lsr hC hR hL
def o_ishr (nx : Nat) : mj_Sem := fun Q K pc ls st sh FR IA LA n kc ks => match st with
  | .inl y :: .inl x :: st => ∃ z, (Int32.ofInt x >>> (Int32.ofInt y &&& 31)).toInt = z ∧ K nx ls (.inl z :: st) sh FR IA LA n kc ks
  | _ => False
theorem k_ishr {M : mj_M} {pc : Nat} (hd : decode M.2.1 pc = .ok (.ishr, 1)) : mj_ok M pc (o_ishr (pc + 1)) := by
  intro Q K hK ls st sh FR IA LA n kc ks h
  rcases st with _ | ⟨y | y, _ | ⟨x | x, st⟩⟩ <;> first | exact False.elim h | skip
  obtain ⟨z, hz, h⟩ := h
  intro p l e s m args below meth c D cs B A ad0 n0 ad H locs lsr hC hR hL
  refine lv_ishr hC.1 hC.2.1 hd ?_
  rw [show Int32.ofInt x >>> (Int32.ofInt y &&& 31) = Int32.ofInt z by rw [← hz, Int32.ofInt_toInt]]
  exact hK _ _ _ _ _ _ _ _ _ _ h p l e s m args below meth c D cs B A ad0 n0 ad H locs lsr hC hR hL
def o_idiv (nx : Nat) : mj_Sem := fun Q K pc ls st sh FR IA LA n kc ks => match st with
  | .inl y :: .inl x :: st => ¬ mj_w y = 0 ∧ ∃ z, (Int32.ofInt x / Int32.ofInt y).toInt = z ∧ K nx ls (.inl z :: st) sh FR IA LA n kc ks
  | _ => False
theorem k_idiv {M : mj_M} {pc : Nat} (hd : decode M.2.1 pc = .ok (.idiv, 1)) : mj_ok M pc (o_idiv (pc + 1)) := by
  intro Q K hK ls st sh FR IA LA n kc ks h
  rcases st with _ | ⟨y | y, _ | ⟨x | x, st⟩⟩ <;> first | exact False.elim h | skip
  obtain ⟨h0, z, hz, h⟩ := h
  intro p l e s m args below meth c D cs B A ad0 n0 ad H locs lsr hC hR hL
  refine lv_idiv hC.1 hC.2.1 hd (fun q => h0 (by rw [mj_z, mj_eq, mj_w0] at q; exact q)) ?_
  rw [show Int32.ofInt x / Int32.ofInt y = Int32.ofInt z by rw [← hz, Int32.ofInt_toInt]]
  exact hK _ _ _ _ _ _ _ _ _ _ h p l e s m args below meth c D cs B A ad0 n0 ad H locs lsr hC hR hL
def o_irem (nx : Nat) : mj_Sem := fun Q K pc ls st sh FR IA LA n kc ks => match st with
  | .inl y :: .inl x :: st => ¬ mj_w y = 0 ∧ ∃ z, (Int32.ofInt x - Int32.ofInt x / Int32.ofInt y * Int32.ofInt y).toInt = z ∧ K nx ls (.inl z :: st) sh FR IA LA n kc ks
  | _ => False
theorem k_irem {M : mj_M} {pc : Nat} (hd : decode M.2.1 pc = .ok (.irem, 1)) : mj_ok M pc (o_irem (pc + 1)) := by
  intro Q K hK ls st sh FR IA LA n kc ks h
  rcases st with _ | ⟨y | y, _ | ⟨x | x, st⟩⟩ <;> first | exact False.elim h | skip
  obtain ⟨h0, z, hz, h⟩ := h
  intro p l e s m args below meth c D cs B A ad0 n0 ad H locs lsr hC hR hL
  refine lv_irem hC.1 hC.2.1 hd (fun q => h0 (by rw [mj_z, mj_eq, mj_w0] at q; exact q)) ?_
  rw [show Int32.ofInt x - Int32.ofInt x / Int32.ofInt y * Int32.ofInt y = Int32.ofInt z by rw [← hz, Int32.ofInt_toInt]]
  exact hK _ _ _ _ _ _ _ _ _ _ h p l e s m args below meth c D cs B A ad0 n0 ad H locs lsr hC hR hL
def o_iushr (nx : Nat) : mj_Sem := fun Q K pc ls st sh FR IA LA n kc ks => match st with
  | .inl y :: .inl x :: st => ∃ z, ((Int32.ofInt x).toUInt32 >>> ((Int32.ofInt y).toUInt32 &&& Int32.toUInt32 31)).toInt32.toInt = z ∧ K nx ls (.inl z :: st) sh FR IA LA n kc ks
  | _ => False
theorem k_iushr {M : mj_M} {pc : Nat} (hd : decode M.2.1 pc = .ok (.iushr, 1)) : mj_ok M pc (o_iushr (pc + 1)) := by
  intro Q K hK ls st sh FR IA LA n kc ks h
  rcases st with _ | ⟨y | y, _ | ⟨x | x, st⟩⟩ <;> first | exact False.elim h | skip
  obtain ⟨z, hz, h⟩ := h
  intro p l e s m args below meth c D cs B A ad0 n0 ad H locs lsr hC hR hL
  exact lv_iushr hC.1 hC.2.1 hd (by rw [← hz, Int32.ofInt_toInt]) (hK _ _ _ _ _ _ _ _ _ _ h p l e s m args below meth c D cs B A ad0 n0 ad H locs lsr hC hR hL)
def o_ladd (nx : Nat) : mj_Sem := fun Q K pc ls st sh FR IA LA n kc ks => match st with
  | .inr (.inl y) :: .inr (.inl x) :: st => K nx ls (.inr (.inl (x + y)) :: st) sh FR IA LA n kc ks
  | _ => False
theorem k_ladd {M : mj_M} {pc : Nat} (hd : decode M.2.1 pc = .ok (.ladd, 1)) : mj_ok M pc (o_ladd (pc + 1)) := by
  intro Q K hK ls st sh FR IA LA n kc ks h
  rcases st with _ | ⟨y | y | y, _ | ⟨x | x | x, st⟩⟩ <;> first | exact False.elim h | skip
  intro p l e s m args below meth c D cs B A ad0 n0 ad H locs lsr hC hR hL
  exact lv_ladd hC.1 hC.2.1 hd (hK _ _ _ _ _ _ _ _ _ _ h p l e s m args below meth c D cs B A ad0 n0 ad H locs lsr hC hR hL)
def o_lsub (nx : Nat) : mj_Sem := fun Q K pc ls st sh FR IA LA n kc ks => match st with
  | .inr (.inl y) :: .inr (.inl x) :: st => K nx ls (.inr (.inl (x - y)) :: st) sh FR IA LA n kc ks
  | _ => False
theorem k_lsub {M : mj_M} {pc : Nat} (hd : decode M.2.1 pc = .ok (.lsub, 1)) : mj_ok M pc (o_lsub (pc + 1)) := by
  intro Q K hK ls st sh FR IA LA n kc ks h
  rcases st with _ | ⟨y | y | y, _ | ⟨x | x | x, st⟩⟩ <;> first | exact False.elim h | skip
  intro p l e s m args below meth c D cs B A ad0 n0 ad H locs lsr hC hR hL
  exact lv_lsub hC.1 hC.2.1 hd (hK _ _ _ _ _ _ _ _ _ _ h p l e s m args below meth c D cs B A ad0 n0 ad H locs lsr hC hR hL)
def o_lmul (nx : Nat) : mj_Sem := fun Q K pc ls st sh FR IA LA n kc ks => match st with
  | .inr (.inl y) :: .inr (.inl x) :: st => K nx ls (.inr (.inl (x * y)) :: st) sh FR IA LA n kc ks
  | _ => False
theorem k_lmul {M : mj_M} {pc : Nat} (hd : decode M.2.1 pc = .ok (.lmul, 1)) : mj_ok M pc (o_lmul (pc + 1)) := by
  intro Q K hK ls st sh FR IA LA n kc ks h
  rcases st with _ | ⟨y | y | y, _ | ⟨x | x | x, st⟩⟩ <;> first | exact False.elim h | skip
  intro p l e s m args below meth c D cs B A ad0 n0 ad H locs lsr hC hR hL
  exact lv_lmul hC.1 hC.2.1 hd (hK _ _ _ _ _ _ _ _ _ _ h p l e s m args below meth c D cs B A ad0 n0 ad H locs lsr hC hR hL)
def o_land (nx : Nat) : mj_Sem := fun Q K pc ls st sh FR IA LA n kc ks => match st with
  | .inr (.inl y) :: .inr (.inl x) :: st => K nx ls (.inr (.inl (x &&& y)) :: st) sh FR IA LA n kc ks
  | _ => False
theorem k_land {M : mj_M} {pc : Nat} (hd : decode M.2.1 pc = .ok (.land, 1)) : mj_ok M pc (o_land (pc + 1)) := by
  intro Q K hK ls st sh FR IA LA n kc ks h
  rcases st with _ | ⟨y | y | y, _ | ⟨x | x | x, st⟩⟩ <;> first | exact False.elim h | skip
  intro p l e s m args below meth c D cs B A ad0 n0 ad H locs lsr hC hR hL
  exact lv_land hC.1 hC.2.1 hd (hK _ _ _ _ _ _ _ _ _ _ h p l e s m args below meth c D cs B A ad0 n0 ad H locs lsr hC hR hL)
def o_lor (nx : Nat) : mj_Sem := fun Q K pc ls st sh FR IA LA n kc ks => match st with
  | .inr (.inl y) :: .inr (.inl x) :: st => K nx ls (.inr (.inl (x ||| y)) :: st) sh FR IA LA n kc ks
  | _ => False
theorem k_lor {M : mj_M} {pc : Nat} (hd : decode M.2.1 pc = .ok (.lor, 1)) : mj_ok M pc (o_lor (pc + 1)) := by
  intro Q K hK ls st sh FR IA LA n kc ks h
  rcases st with _ | ⟨y | y | y, _ | ⟨x | x | x, st⟩⟩ <;> first | exact False.elim h | skip
  intro p l e s m args below meth c D cs B A ad0 n0 ad H locs lsr hC hR hL
  exact lv_lor hC.1 hC.2.1 hd (hK _ _ _ _ _ _ _ _ _ _ h p l e s m args below meth c D cs B A ad0 n0 ad H locs lsr hC hR hL)
def o_lxor (nx : Nat) : mj_Sem := fun Q K pc ls st sh FR IA LA n kc ks => match st with
  | .inr (.inl y) :: .inr (.inl x) :: st => K nx ls (.inr (.inl (x ^^^ y)) :: st) sh FR IA LA n kc ks
  | _ => False
theorem k_lxor {M : mj_M} {pc : Nat} (hd : decode M.2.1 pc = .ok (.lxor, 1)) : mj_ok M pc (o_lxor (pc + 1)) := by
  intro Q K hK ls st sh FR IA LA n kc ks h
  rcases st with _ | ⟨y | y | y, _ | ⟨x | x | x, st⟩⟩ <;> first | exact False.elim h | skip
  intro p l e s m args below meth c D cs B A ad0 n0 ad H locs lsr hC hR hL
  exact lv_lxor hC.1 hC.2.1 hd (hK _ _ _ _ _ _ _ _ _ _ h p l e s m args below meth c D cs B A ad0 n0 ad H locs lsr hC hR hL)
def o_lshl (nx : Nat) : mj_Sem := fun Q K pc ls st sh FR IA LA n kc ks => match st with
  | .inl y :: .inr (.inl x) :: st => ∃ z, (Int64.ofBitVec x <<< ((Int32.ofInt y).toInt64 &&& 63)).toBitVec = z ∧ K nx ls (.inr (.inl z) :: st) sh FR IA LA n kc ks
  | _ => False
theorem k_lshl {M : mj_M} {pc : Nat} (hd : decode M.2.1 pc = .ok (.lshl, 1)) : mj_ok M pc (o_lshl (pc + 1)) := by
  intro Q K hK ls st sh FR IA LA n kc ks h
  rcases st with _ | ⟨y | y, _ | ⟨x | x | x, st⟩⟩ <;> first | exact False.elim h | skip
  obtain ⟨z, hz, h⟩ := h
  intro p l e s m args below meth c D cs B A ad0 n0 ad H locs lsr hC hR hL
  exact lv_lshl hC.1 hC.2.1 hd (by rw [← hz]; rfl) (hK _ _ _ _ _ _ _ _ _ _ h p l e s m args below meth c D cs B A ad0 n0 ad H locs lsr hC hR hL)
def o_lshr (nx : Nat) : mj_Sem := fun Q K pc ls st sh FR IA LA n kc ks => match st with
  | .inl y :: .inr (.inl x) :: st => ∃ z, (Int64.ofBitVec x >>> ((Int32.ofInt y).toInt64 &&& 63)).toBitVec = z ∧ K nx ls (.inr (.inl z) :: st) sh FR IA LA n kc ks
  | _ => False
theorem k_lshr {M : mj_M} {pc : Nat} (hd : decode M.2.1 pc = .ok (.lshr, 1)) : mj_ok M pc (o_lshr (pc + 1)) := by
  intro Q K hK ls st sh FR IA LA n kc ks h
  rcases st with _ | ⟨y | y, _ | ⟨x | x | x, st⟩⟩ <;> first | exact False.elim h | skip
  obtain ⟨z, hz, h⟩ := h
  intro p l e s m args below meth c D cs B A ad0 n0 ad H locs lsr hC hR hL
  exact lv_lshr hC.1 hC.2.1 hd (by rw [← hz]; rfl) (hK _ _ _ _ _ _ _ _ _ _ h p l e s m args below meth c D cs B A ad0 n0 ad H locs lsr hC hR hL)
def o_lushr (nx : Nat) : mj_Sem := fun Q K pc ls st sh FR IA LA n kc ks => match st with
  | .inl y :: .inr (.inl x) :: st => ∃ z, ((Int64.ofBitVec x).toUInt64 >>> ((Int32.ofInt y).toInt64.toUInt64 &&& Int64.toUInt64 63)).toInt64.toBitVec = z ∧ K nx ls (.inr (.inl z) :: st) sh FR IA LA n kc ks
  | _ => False
theorem k_lushr {M : mj_M} {pc : Nat} (hd : decode M.2.1 pc = .ok (.lushr, 1)) : mj_ok M pc (o_lushr (pc + 1)) := by
  intro Q K hK ls st sh FR IA LA n kc ks h
  rcases st with _ | ⟨y | y, _ | ⟨x | x | x, st⟩⟩ <;> first | exact False.elim h | skip
  obtain ⟨z, hz, h⟩ := h
  intro p l e s m args below meth c D cs B A ad0 n0 ad H locs lsr hC hR hL
  exact lv_lushr hC.1 hC.2.1 hd (by rw [← hz]; rfl) (hK _ _ _ _ _ _ _ _ _ _ h p l e s m args below meth c D cs B A ad0 n0 ad H locs lsr hC hR hL)
def o_i2l (nx : Nat) : mj_Sem := fun Q K pc ls st sh FR IA LA n kc ks => match st with
  | .inl x :: st => K nx ls (.inr (.inl (BitVec.ofInt 64 (mj_w x))) :: st) sh FR IA LA n kc ks
  | _ => False
theorem k_i2l {M : mj_M} {pc : Nat} (hd : decode M.2.1 pc = .ok (.i2l, 1)) : mj_ok M pc (o_i2l (pc + 1)) := by
  intro Q K hK ls st sh FR IA LA n kc ks h
  rcases st with _ | ⟨x | x, st⟩ <;> first | exact False.elim h | skip
  intro p l e s m args below meth c D cs B A ad0 n0 ad H locs lsr hC hR hL
  exact lv_i2l hC.1 hC.2.1 hd (mj_i2l x) (hK _ _ _ _ _ _ _ _ _ _ h p l e s m args below meth c D cs B A ad0 n0 ad H locs lsr hC hR hL)
def o_l2i (nx : Nat) : mj_Sem := fun Q K pc ls st sh FR IA LA n kc ks => match st with
  | .inr (.inl x) :: st => ∃ z, mj_w x.toInt = z ∧ K nx ls (.inl z :: st) sh FR IA LA n kc ks
  | _ => False
theorem k_l2i {M : mj_M} {pc : Nat} (hd : decode M.2.1 pc = .ok (.l2i, 1)) : mj_ok M pc (o_l2i (pc + 1)) := by
  intro Q K hK ls st sh FR IA LA n kc ks h
  rcases st with _ | ⟨x | x | x, st⟩ <;> first | exact False.elim h | skip
  obtain ⟨z, hz, h⟩ := h
  intro p l e s m args below meth c D cs B A ad0 n0 ad H locs lsr hC hR hL
  exact lv_l2i hC.1 hC.2.1 hd (by rw [mj_l2i, ← mj_ofw, hz]) (hK _ _ _ _ _ _ _ _ _ _ h p l e s m args below meth c D cs B A ad0 n0 ad H locs lsr hC hR hL)
def o_i2b (nx : Nat) : mj_Sem := fun Q K pc ls st sh FR IA LA n kc ks => match st with
  | .inl x :: st => ∃ z, mj_b x = z ∧ K nx ls (.inl z :: st) sh FR IA LA n kc ks
  | _ => False
theorem k_i2b {M : mj_M} {pc : Nat} (hd : decode M.2.1 pc = .ok (.i2b, 1)) : mj_ok M pc (o_i2b (pc + 1)) := by
  intro Q K hK ls st sh FR IA LA n kc ks h
  rcases st with _ | ⟨x | x, st⟩ <;> first | exact False.elim h | skip
  obtain ⟨z, hz, h⟩ := h
  intro p l e s m args below meth c D cs B A ad0 n0 ad H locs lsr hC hR hL
  exact lv_i2b hC.1 hC.2.1 hd (by rw [mj_i2b, hz]) (hK _ _ _ _ _ _ _ _ _ _ h p l e s m args below meth c D cs B A ad0 n0 ad H locs lsr hC hR hL)
def o_lcmp (nx : Nat) : mj_Sem := fun Q K pc ls st sh FR IA LA n kc ks => match st with
  | .inr (.inl y) :: .inr (.inl x) :: st => ∃ z, mj_lc x y = z ∧ K nx ls (.inl z :: st) sh FR IA LA n kc ks
  | _ => False
theorem k_lcmp {M : mj_M} {pc : Nat} (hd : decode M.2.1 pc = .ok (.lcmp, 1)) : mj_ok M pc (o_lcmp (pc + 1)) := by
  intro Q K hK ls st sh FR IA LA n kc ks h
  rcases st with _ | ⟨y | y | y, _ | ⟨x | x | x, st⟩⟩ <;> first | exact False.elim h | skip
  obtain ⟨z, hz, h⟩ := h
  intro p l e s m args below meth c D cs B A ad0 n0 ad H locs lsr hC hR hL
  refine W.lcmp hC.1 hC.2.1 hd ?_
  rw [mj_lcmp, hz]
  exact hK _ _ _ _ _ _ _ _ _ _ h p l e s m args below meth c D cs B A ad0 n0 ad H locs lsr hC hR hL
def o_dup (nx : Nat) : mj_Sem := fun Q K pc ls st sh FR IA LA n kc ks => match st with
  | v :: st => mj_ct v = 1 ∧ K nx ls (v :: v :: st) sh FR IA LA n kc ks
  | _ => False
theorem k_dup {M : mj_M} {pc : Nat} (hd : decode M.2.1 pc = .ok (.dup, 1)) : mj_ok M pc (o_dup (pc + 1)) := by
  intro Q K hK ls st sh FR IA LA n kc ks h
  rcases st with _ | ⟨v, st⟩ <;> first | exact False.elim h | skip
  obtain ⟨hv, h⟩ := h
  intro p l e s m args below meth c D cs B A ad0 n0 ad H locs lsr hC hR hL
  exact lv_dup hC.1 hC.2.1 hd ((mj_tv_cat B ad v).trans hv) (hK _ _ _ _ _ _ _ _ _ _ h p l e s m args below meth c D cs B A ad0 n0 ad H locs lsr hC hR hL)
def o_pop (nx : Nat) : mj_Sem := fun Q K pc ls st sh FR IA LA n kc ks => match st with
  | v :: st => mj_ct v = 1 ∧ K nx ls st sh FR IA LA n kc ks
  | _ => False
theorem k_pop {M : mj_M} {pc : Nat} (hd : decode M.2.1 pc = .ok (.pop, 1)) : mj_ok M pc (o_pop (pc + 1)) := by
  intro Q K hK ls st sh FR IA LA n kc ks h
  rcases st with _ | ⟨v, st⟩ <;> first | exact False.elim h | skip
  obtain ⟨hv, h⟩ := h
  intro p l e s m args below meth c D cs B A ad0 n0 ad H locs lsr hC hR hL
  exact lv_pop hC.1 hC.2.1 hd ((mj_tv_cat B ad v).trans hv) (hK _ _ _ _ _ _ _ _ _ _ h p l e s m args below meth c D cs B A ad0 n0 ad H locs lsr hC hR hL)
def o_dup2 (nx : Nat) : mj_Sem := fun Q K pc ls st sh FR IA LA n kc ks => match st with
  | v :: u :: st => mj_ct v = 1 ∧ mj_ct u = 1 ∧ K nx ls (v :: u :: v :: u :: st) sh FR IA LA n kc ks
  | _ => False
theorem k_dup2 {M : mj_M} {pc : Nat} (hd : decode M.2.1 pc = .ok (.dup2, 1)) : mj_ok M pc (o_dup2 (pc + 1)) := by
  intro Q K hK ls st sh FR IA LA n kc ks h
  rcases st with _ | ⟨v, _ | ⟨u, st⟩⟩ <;> first | exact False.elim h | skip
  obtain ⟨hv, hu, h⟩ := h
  intro p l e s m args below meth c D cs B A ad0 n0 ad H locs lsr hC hR hL
  exact lv_dup2_11 hC.1 hC.2.1 hd ((mj_tv_cat B ad v).trans hv) ((mj_tv_cat B ad u).trans hu) (hK _ _ _ _ _ _ _ _ _ _ h p l e s m args below meth c D cs B A ad0 n0 ad H locs lsr hC hR hL)
def o_ifeq (tgt : Nat) (nx : Nat) : mj_Sem := fun Q K pc ls st sh FR IA LA n kc ks => match st with
  | .inl x :: st => (mj_w x = 0 → K tgt ls st sh FR IA LA n kc ks) ∧ (¬ (mj_w x = 0) → K nx ls st sh FR IA LA n kc ks)
  | _ => False
theorem k_ifeq {M : mj_M} {pc : Nat} {off : Int} {tgt : Nat} (hd : decode M.2.1 pc = .ok (.ifCond .eq off, 3)) (ht : (pc : Int) + off = (tgt : Int)) : mj_ok M pc (o_ifeq tgt (pc + 3)) := by
  intro Q K hK ls st sh FR IA LA n kc ks h
  rcases st with _ | ⟨x | x, st⟩ <;> first | exact False.elim h | skip
  intro p l e s m args below meth c D cs B A ad0 n0 ad H locs lsr hC hR hL
  exact lv_if_eq hC.1 hC.2.1 hd ht (fun q => hK _ _ _ _ _ _ _ _ _ _ (h.1 (by rw [mj_z, mj_eq, mj_w0] at q; exact q)) p l e s m args below meth c D cs B A ad0 n0 ad H locs lsr hC hR hL) (fun q => hK _ _ _ _ _ _ _ _ _ _ (h.2 (fun z => q (by rw [mj_z, mj_eq, mj_w0]; exact z))) p l e s m args below meth c D cs B A ad0 n0 ad H locs lsr hC hR hL)
def o_iceq (tgt : Nat) (nx : Nat) : mj_Sem := fun Q K pc ls st sh FR IA LA n kc ks => match st with
  | .inl y :: .inl x :: st => (mj_w x = mj_w y → K tgt ls st sh FR IA LA n kc ks) ∧ (¬ (mj_w x = mj_w y) → K nx ls st sh FR IA LA n kc ks)
  | _ => False
theorem k_iceq {M : mj_M} {pc : Nat} {off : Int} {tgt : Nat} (hd : decode M.2.1 pc = .ok (.if_icmp .eq off, 3)) (ht : (pc : Int) + off = (tgt : Int)) : mj_ok M pc (o_iceq tgt (pc + 3)) := by
  intro Q K hK ls st sh FR IA LA n kc ks h
  rcases st with _ | ⟨y | y, _ | ⟨x | x, st⟩⟩ <;> first | exact False.elim h | skip
  intro p l e s m args below meth c D cs B A ad0 n0 ad H locs lsr hC hR hL
  exact lv_icmp_eq hC.1 hC.2.1 hd ht (fun q => hK _ _ _ _ _ _ _ _ _ _ (h.1 (by rw [mj_eq] at q; exact q)) p l e s m args below meth c D cs B A ad0 n0 ad H locs lsr hC hR hL) (fun q => hK _ _ _ _ _ _ _ _ _ _ (h.2 (fun z => q (by rw [mj_eq]; exact z))) p l e s m args below meth c D cs B A ad0 n0 ad H locs lsr hC hR hL)
def o_ifne (tgt : Nat) (nx : Nat) : mj_Sem := fun Q K pc ls st sh FR IA LA n kc ks => match st with
  | .inl x :: st => (¬ mj_w x = 0 → K tgt ls st sh FR IA LA n kc ks) ∧ (¬ (¬ mj_w x = 0) → K nx ls st sh FR IA LA n kc ks)
  | _ => False
theorem k_ifne {M : mj_M} {pc : Nat} {off : Int} {tgt : Nat} (hd : decode M.2.1 pc = .ok (.ifCond .ne off, 3)) (ht : (pc : Int) + off = (tgt : Int)) : mj_ok M pc (o_ifne tgt (pc + 3)) := by
  intro Q K hK ls st sh FR IA LA n kc ks h
  rcases st with _ | ⟨x | x, st⟩ <;> first | exact False.elim h | skip
  intro p l e s m args below meth c D cs B A ad0 n0 ad H locs lsr hC hR hL
  exact lv_if_ne hC.1 hC.2.1 hd ht (fun q => hK _ _ _ _ _ _ _ _ _ _ (h.1 (fun z => q (by rw [mj_z, mj_eq, mj_w0]; exact z))) p l e s m args below meth c D cs B A ad0 n0 ad H locs lsr hC hR hL) (fun q => hK _ _ _ _ _ _ _ _ _ _ (h.2 (fun z => z (by rw [mj_z, mj_eq, mj_w0] at q; exact q))) p l e s m args below meth c D cs B A ad0 n0 ad H locs lsr hC hR hL)
def o_icne (tgt : Nat) (nx : Nat) : mj_Sem := fun Q K pc ls st sh FR IA LA n kc ks => match st with
  | .inl y :: .inl x :: st => (¬ mj_w x = mj_w y → K tgt ls st sh FR IA LA n kc ks) ∧ (¬ (¬ mj_w x = mj_w y) → K nx ls st sh FR IA LA n kc ks)
  | _ => False
theorem k_icne {M : mj_M} {pc : Nat} {off : Int} {tgt : Nat} (hd : decode M.2.1 pc = .ok (.if_icmp .ne off, 3)) (ht : (pc : Int) + off = (tgt : Int)) : mj_ok M pc (o_icne tgt (pc + 3)) := by
  intro Q K hK ls st sh FR IA LA n kc ks h
  rcases st with _ | ⟨y | y, _ | ⟨x | x, st⟩⟩ <;> first | exact False.elim h | skip
  intro p l e s m args below meth c D cs B A ad0 n0 ad H locs lsr hC hR hL
  exact lv_icmp_ne hC.1 hC.2.1 hd ht (fun q => hK _ _ _ _ _ _ _ _ _ _ (h.1 (fun z => q (by rw [mj_eq]; exact z))) p l e s m args below meth c D cs B A ad0 n0 ad H locs lsr hC hR hL) (fun q => hK _ _ _ _ _ _ _ _ _ _ (h.2 (fun z => z (by rw [mj_eq] at q; exact q))) p l e s m args below meth c D cs B A ad0 n0 ad H locs lsr hC hR hL)
def o_iflt (tgt : Nat) (nx : Nat) : mj_Sem := fun Q K pc ls st sh FR IA LA n kc ks => match st with
  | .inl x :: st => (mj_w x < 0 → K tgt ls st sh FR IA LA n kc ks) ∧ (¬ (mj_w x < 0) → K nx ls st sh FR IA LA n kc ks)
  | _ => False
theorem k_iflt {M : mj_M} {pc : Nat} {off : Int} {tgt : Nat} (hd : decode M.2.1 pc = .ok (.ifCond .lt off, 3)) (ht : (pc : Int) + off = (tgt : Int)) : mj_ok M pc (o_iflt tgt (pc + 3)) := by
  intro Q K hK ls st sh FR IA LA n kc ks h
  rcases st with _ | ⟨x | x, st⟩ <;> first | exact False.elim h | skip
  intro p l e s m args below meth c D cs B A ad0 n0 ad H locs lsr hC hR hL
  exact lv_if_lt hC.1 hC.2.1 hd ht (fun q => hK _ _ _ _ _ _ _ _ _ _ (h.1 (by rw [mj_z, mj_lt, mj_w0] at q; exact q)) p l e s m args below meth c D cs B A ad0 n0 ad H locs lsr hC hR hL) (fun q => hK _ _ _ _ _ _ _ _ _ _ (h.2 (fun z => q (by rw [mj_z, mj_lt, mj_w0]; exact z))) p l e s m args below meth c D cs B A ad0 n0 ad H locs lsr hC hR hL)
def o_iclt (tgt : Nat) (nx : Nat) : mj_Sem := fun Q K pc ls st sh FR IA LA n kc ks => match st with
  | .inl y :: .inl x :: st => (mj_w x < mj_w y → K tgt ls st sh FR IA LA n kc ks) ∧ (¬ (mj_w x < mj_w y) → K nx ls st sh FR IA LA n kc ks)
  | _ => False
theorem k_iclt {M : mj_M} {pc : Nat} {off : Int} {tgt : Nat} (hd : decode M.2.1 pc = .ok (.if_icmp .lt off, 3)) (ht : (pc : Int) + off = (tgt : Int)) : mj_ok M pc (o_iclt tgt (pc + 3)) := by
  intro Q K hK ls st sh FR IA LA n kc ks h
  rcases st with _ | ⟨y | y, _ | ⟨x | x, st⟩⟩ <;> first | exact False.elim h | skip
  intro p l e s m args below meth c D cs B A ad0 n0 ad H locs lsr hC hR hL
  exact lv_icmp_lt hC.1 hC.2.1 hd ht (fun q => hK _ _ _ _ _ _ _ _ _ _ (h.1 (by rw [mj_lt] at q; exact q)) p l e s m args below meth c D cs B A ad0 n0 ad H locs lsr hC hR hL) (fun q => hK _ _ _ _ _ _ _ _ _ _ (h.2 (fun z => q (by rw [mj_lt]; exact z))) p l e s m args below meth c D cs B A ad0 n0 ad H locs lsr hC hR hL)
def o_ifge (tgt : Nat) (nx : Nat) : mj_Sem := fun Q K pc ls st sh FR IA LA n kc ks => match st with
  | .inl x :: st => (0 ≤ mj_w x → K tgt ls st sh FR IA LA n kc ks) ∧ (¬ (0 ≤ mj_w x) → K nx ls st sh FR IA LA n kc ks)
  | _ => False
theorem k_ifge {M : mj_M} {pc : Nat} {off : Int} {tgt : Nat} (hd : decode M.2.1 pc = .ok (.ifCond .ge off, 3)) (ht : (pc : Int) + off = (tgt : Int)) : mj_ok M pc (o_ifge tgt (pc + 3)) := by
  intro Q K hK ls st sh FR IA LA n kc ks h
  rcases st with _ | ⟨x | x, st⟩ <;> first | exact False.elim h | skip
  intro p l e s m args below meth c D cs B A ad0 n0 ad H locs lsr hC hR hL
  exact lv_if_ge hC.1 hC.2.1 hd ht (fun q => hK _ _ _ _ _ _ _ _ _ _ (h.1 (by rw [mj_z, mj_le, mj_w0] at q; exact q)) p l e s m args below meth c D cs B A ad0 n0 ad H locs lsr hC hR hL) (fun q => hK _ _ _ _ _ _ _ _ _ _ (h.2 (fun z => q (by rw [mj_z, mj_le, mj_w0]; exact z))) p l e s m args below meth c D cs B A ad0 n0 ad H locs lsr hC hR hL)
def o_icge (tgt : Nat) (nx : Nat) : mj_Sem := fun Q K pc ls st sh FR IA LA n kc ks => match st with
  | .inl y :: .inl x :: st => (mj_w y ≤ mj_w x → K tgt ls st sh FR IA LA n kc ks) ∧ (¬ (mj_w y ≤ mj_w x) → K nx ls st sh FR IA LA n kc ks)
  | _ => False
theorem k_icge {M : mj_M} {pc : Nat} {off : Int} {tgt : Nat} (hd : decode M.2.1 pc = .ok (.if_icmp .ge off, 3)) (ht : (pc : Int) + off = (tgt : Int)) : mj_ok M pc (o_icge tgt (pc + 3)) := by
  intro Q K hK ls st sh FR IA LA n kc ks h
  rcases st with _ | ⟨y | y, _ | ⟨x | x, st⟩⟩ <;> first | exact False.elim h | skip
  intro p l e s m args below meth c D cs B A ad0 n0 ad H locs lsr hC hR hL
  exact lv_icmp_ge hC.1 hC.2.1 hd ht (fun q => hK _ _ _ _ _ _ _ _ _ _ (h.1 (by rw [mj_le] at q; exact q)) p l e s m args below meth c D cs B A ad0 n0 ad H locs lsr hC hR hL) (fun q => hK _ _ _ _ _ _ _ _ _ _ (h.2 (fun z => q (by rw [mj_le]; exact z))) p l e s m args below meth c D cs B A ad0 n0 ad H locs lsr hC hR hL)
def o_ifgt (tgt : Nat) (nx : Nat) : mj_Sem := fun Q K pc ls st sh FR IA LA n kc ks => match st with
  | .inl x :: st => (0 < mj_w x → K tgt ls st sh FR IA LA n kc ks) ∧ (¬ (0 < mj_w x) → K nx ls st sh FR IA LA n kc ks)
  | _ => False
theorem k_ifgt {M : mj_M} {pc : Nat} {off : Int} {tgt : Nat} (hd : decode M.2.1 pc = .ok (.ifCond .gt off, 3)) (ht : (pc : Int) + off = (tgt : Int)) : mj_ok M pc (o_ifgt tgt (pc + 3)) := by
  intro Q K hK ls st sh FR IA LA n kc ks h
  rcases st with _ | ⟨x | x, st⟩ <;> first | exact False.elim h | skip
  intro p l e s m args below meth c D cs B A ad0 n0 ad H locs lsr hC hR hL
  exact lv_if_gt hC.1 hC.2.1 hd ht (fun q => hK _ _ _ _ _ _ _ _ _ _ (h.1 (by rw [mj_z, mj_lt, mj_w0] at q; exact q)) p l e s m args below meth c D cs B A ad0 n0 ad H locs lsr hC hR hL) (fun q => hK _ _ _ _ _ _ _ _ _ _ (h.2 (fun z => q (by rw [mj_z, mj_lt, mj_w0]; exact z))) p l e s m args below meth c D cs B A ad0 n0 ad H locs lsr hC hR hL)
def o_icgt (tgt : Nat) (nx : Nat) : mj_Sem := fun Q K pc ls st sh FR IA LA n kc ks => match st with
  | .inl y :: .inl x :: st => (mj_w y < mj_w x → K tgt ls st sh FR IA LA n kc ks) ∧ (¬ (mj_w y < mj_w x) → K nx ls st sh FR IA LA n kc ks)
  | _ => False
theorem k_icgt {M : mj_M} {pc : Nat} {off : Int} {tgt : Nat} (hd : decode M.2.1 pc = .ok (.if_icmp .gt off, 3)) (ht : (pc : Int) + off = (tgt : Int)) : mj_ok M pc (o_icgt tgt (pc + 3)) := by
  intro Q K hK ls st sh FR IA LA n kc ks h
  rcases st with _ | ⟨y | y, _ | ⟨x | x, st⟩⟩ <;> first | exact False.elim h | skip
  intro p l e s m args below meth c D cs B A ad0 n0 ad H locs lsr hC hR hL
  exact lv_icmp_gt hC.1 hC.2.1 hd ht (fun q => hK _ _ _ _ _ _ _ _ _ _ (h.1 (by rw [mj_lt] at q; exact q)) p l e s m args below meth c D cs B A ad0 n0 ad H locs lsr hC hR hL) (fun q => hK _ _ _ _ _ _ _ _ _ _ (h.2 (fun z => q (by rw [mj_lt]; exact z))) p l e s m args below meth c D cs B A ad0 n0 ad H locs lsr hC hR hL)
def o_ifle (tgt : Nat) (nx : Nat) : mj_Sem := fun Q K pc ls st sh FR IA LA n kc ks => match st with
  | .inl x :: st => (mj_w x ≤ 0 → K tgt ls st sh FR IA LA n kc ks) ∧ (¬ (mj_w x ≤ 0) → K nx ls st sh FR IA LA n kc ks)
  | _ => False
theorem k_ifle {M : mj_M} {pc : Nat} {off : Int} {tgt : Nat} (hd : decode M.2.1 pc = .ok (.ifCond .le off, 3)) (ht : (pc : Int) + off = (tgt : Int)) : mj_ok M pc (o_ifle tgt (pc + 3)) := by
  intro Q K hK ls st sh FR IA LA n kc ks h
  rcases st with _ | ⟨x | x, st⟩ <;> first | exact False.elim h | skip
  intro p l e s m args below meth c D cs B A ad0 n0 ad H locs lsr hC hR hL
  exact lv_if_le hC.1 hC.2.1 hd ht (fun q => hK _ _ _ _ _ _ _ _ _ _ (h.1 (by rw [mj_z, mj_le, mj_w0] at q; exact q)) p l e s m args below meth c D cs B A ad0 n0 ad H locs lsr hC hR hL) (fun q => hK _ _ _ _ _ _ _ _ _ _ (h.2 (fun z => q (by rw [mj_z, mj_le, mj_w0]; exact z))) p l e s m args below meth c D cs B A ad0 n0 ad H locs lsr hC hR hL)
def o_icle (tgt : Nat) (nx : Nat) : mj_Sem := fun Q K pc ls st sh FR IA LA n kc ks => match st with
  | .inl y :: .inl x :: st => (mj_w x ≤ mj_w y → K tgt ls st sh FR IA LA n kc ks) ∧ (¬ (mj_w x ≤ mj_w y) → K nx ls st sh FR IA LA n kc ks)
  | _ => False
theorem k_icle {M : mj_M} {pc : Nat} {off : Int} {tgt : Nat} (hd : decode M.2.1 pc = .ok (.if_icmp .le off, 3)) (ht : (pc : Int) + off = (tgt : Int)) : mj_ok M pc (o_icle tgt (pc + 3)) := by
  intro Q K hK ls st sh FR IA LA n kc ks h
  rcases st with _ | ⟨y | y, _ | ⟨x | x, st⟩⟩ <;> first | exact False.elim h | skip
  intro p l e s m args below meth c D cs B A ad0 n0 ad H locs lsr hC hR hL
  exact lv_icmp_le hC.1 hC.2.1 hd ht (fun q => hK _ _ _ _ _ _ _ _ _ _ (h.1 (by rw [mj_le] at q; exact q)) p l e s m args below meth c D cs B A ad0 n0 ad H locs lsr hC hR hL) (fun q => hK _ _ _ _ _ _ _ _ _ _ (h.2 (fun z => q (by rw [mj_le]; exact z))) p l e s m args below meth c D cs B A ad0 n0 ad H locs lsr hC hR hL)
def o_goto (tgt : Nat) : mj_Sem := fun Q K pc ls st sh FR IA LA n kc ks => K tgt ls st sh FR IA LA n kc ks
theorem k_goto {M : mj_M} {pc : Nat} {off : Int} {tgt : Nat} (hd : decode M.2.1 pc = .ok (.goto off, 3)) (ht : (pc : Int) + off = (tgt : Int)) : mj_ok M pc (o_goto tgt) := by
  intro Q K hK ls st sh FR IA LA n kc ks h
  intro p l e s m args below meth c D cs B A ad0 n0 ad H locs lsr hC hR hL
  exact lv_goto hC.1 hC.2.1 hd ht (hK _ _ _ _ _ _ _ _ _ _ h p l e s m args below meth c D cs B A ad0 n0 ad H locs lsr hC hR hL)
def o_tsw (ts : List Nat) (dflt : Nat) : mj_Sem := fun Q K pc ls st sh FR IA LA n kc ks => match st with
  | .inl x :: st => (∀ i t : Nat, ts[i]? = some t → mj_w x = (i : Int) → K t ls st sh FR IA LA n kc ks) ∧ ((mj_w x < 0 ∨ (ts.length : Int) ≤ mj_w x) → K dflt ls st sh FR IA LA n kc ks)
  | _ => False
theorem k_tsw {M : mj_M} {pc : Nat} {d lo hi : Int} {offs : Array Int} {len dflt : Nat} {ts : List Nat} (hd : decode M.2.1 pc = .ok (.tableswitch d lo hi offs, len)) (hlo : lo = 0) (hhi : hi + 1 = (ts.length : Int)) (ht : (pc : Int) + d = (dflt : Int)) (ho : ∀ i : Nat, i < ts.length → (offs[i]?).map (fun o => (pc : Int) + o) = (ts[i]?).map (fun t => (t : Int))) : mj_ok M pc (o_tsw ts dflt) := by
  intro Q K hK ls st sh FR IA LA n kc ks h
  rcases st with _ | ⟨x | x, st⟩ <;> first | exact False.elim h | skip
  intro p l e s m args below meth c D cs B A ad0 n0 ad H locs lsr hC hR hL
  have ex : (Int32.ofInt x).toInt = mj_w x := mj_toInt x
  by_cases hx : mj_w x < 0 ∨ (ts.length : Int) ≤ mj_w x
  · exact lv_tableOut hC.1 hC.2.1 hd (by rw [ex]; omega) ht (hK _ _ _ _ _ _ _ _ _ _ (h.2 hx) p l e s m args below meth c D cs B A ad0 n0 ad H locs lsr hC hR hL)
  · have hi : (mj_w x).toNat < ts.length := by omega
    have h1 := ho (mj_w x).toNat hi
    obtain ⟨t, ht1⟩ : ∃ t, ts[(mj_w x).toNat]? = some t := ⟨_, List.getElem?_eq_getElem hi⟩
    rw [ht1] at h1
    obtain ⟨o, ho1, ho3⟩ := Option.map_eq_some_iff.mp h1
    refine lv_tableIn (off := o) (tgt := t) hC.1 hC.2.1 hd (by rw [ex]; omega) (by rw [ex]; omega) (by rw [ex, hlo, Int.sub_zero]; exact ho1) ho3 ?_
    exact hK _ _ _ _ _ _ _ _ _ _ (h.1 _ t ht1 (by omega)) p l e s m args below meth c D cs B A ad0 n0 ad H locs lsr hC hR hL
def o_ial (nx : Nat) : mj_Sem := fun Q K pc ls st sh FR IA LA n kc ks => match st with
  | .inl j :: .inr (.inr (.inl q)) :: st => ∃ len i : Nat, mj_is sh n q 0 len ∧ mj_w j = (i : Int) ∧ i < len ∧ K nx ls (.inl (IA q i) :: st) sh FR IA LA n kc ks
  | _ => False
theorem k_ial {M : mj_M} {pc : Nat} (hd : decode M.2.1 pc = .ok (.iaload, 1)) : mj_ok M pc (o_ial (pc + 1)) := by
  intro Q K hK ls st sh FR IA LA n kc ks h
  rcases st with _ | ⟨j | j, _ | ⟨q | q | q | q, st⟩⟩ <;> first | exact False.elim h | skip
  obtain ⟨len, i, hq, hj, hi, h⟩ := h
  intro p l e s m args below meth c D cs B A ad0 n0 ad H locs lsr hC hR hL
  refine va_iald hC.1 hC.2.1 hC.2.2.2.2.2.2.2.1 hR.1 q 0 (mj_W_arr hq (by decide)) rfl (mj_vpin hj hi) hd ?_
  rw [mj_clampi hj]
  exact hK _ _ _ _ _ _ _ _ _ _ h p l e s m args below meth c D cs B A ad0 n0 ad H locs lsr hC hR hL
def o_bal (nx : Nat) : mj_Sem := fun Q K pc ls st sh FR IA LA n kc ks => match st with
  | .inl j :: .inr (.inr (.inl q)) :: st => ∃ len i : Nat, mj_is sh n q 1 len ∧ mj_w j = (i : Int) ∧ i < len ∧ K nx ls (.inl (IA q i) :: st) sh FR IA LA n kc ks
  | _ => False
theorem k_bal {M : mj_M} {pc : Nat} (hd : decode M.2.1 pc = .ok (.baload, 1)) : mj_ok M pc (o_bal (pc + 1)) := by
  intro Q K hK ls st sh FR IA LA n kc ks h
  rcases st with _ | ⟨j | j, _ | ⟨q | q | q | q, st⟩⟩ <;> first | exact False.elim h | skip
  obtain ⟨len, i, hq, hj, hi, h⟩ := h
  intro p l e s m args below meth c D cs B A ad0 n0 ad H locs lsr hC hR hL
  refine va_bald hC.1 hC.2.1 hC.2.2.2.2.2.2.2.1 hR.1 q 1 (mj_W_arr hq (by decide)) rfl (mj_vpin hj hi) hd ?_
  rw [mj_clampi hj]
  exact hK _ _ _ _ _ _ _ _ _ _ h p l e s m args below meth c D cs B A ad0 n0 ad H locs lsr hC hR hL
def o_zal (nx : Nat) : mj_Sem := fun Q K pc ls st sh FR IA LA n kc ks => match st with
  | .inl j :: .inr (.inr (.inl q)) :: st => ∃ len i : Nat, mj_is sh n q 2 len ∧ mj_w j = (i : Int) ∧ i < len ∧ K nx ls (.inl (IA q i) :: st) sh FR IA LA n kc ks
  | _ => False
theorem k_zal {M : mj_M} {pc : Nat} (hd : decode M.2.1 pc = .ok (.baload, 1)) : mj_ok M pc (o_zal (pc + 1)) := by
  intro Q K hK ls st sh FR IA LA n kc ks h
  rcases st with _ | ⟨j | j, _ | ⟨q | q | q | q, st⟩⟩ <;> first | exact False.elim h | skip
  obtain ⟨len, i, hq, hj, hi, h⟩ := h
  intro p l e s m args below meth c D cs B A ad0 n0 ad H locs lsr hC hR hL
  refine va_zald hC.1 hC.2.1 hC.2.2.2.2.2.2.2.1 hR.1 q 2 (mj_W_arr hq (by decide)) rfl (mj_vpin hj hi) hd ?_
  rw [mj_clampi hj]
  exact hK _ _ _ _ _ _ _ _ _ _ h p l e s m args below meth c D cs B A ad0 n0 ad H locs lsr hC hR hL
def o_lal (nx : Nat) : mj_Sem := fun Q K pc ls st sh FR IA LA n kc ks => match st with
  | .inl j :: .inr (.inr (.inl q)) :: st => ∃ len i : Nat, mj_is sh n q 3 len ∧ mj_w j = (i : Int) ∧ i < len ∧ K nx ls (.inr (.inl (LA q i)) :: st) sh FR IA LA n kc ks
  | _ => False
theorem k_lal {M : mj_M} {pc : Nat} (hd : decode M.2.1 pc = .ok (.laload, 1)) : mj_ok M pc (o_lal (pc + 1)) := by
  intro Q K hK ls st sh FR IA LA n kc ks h
  rcases st with _ | ⟨j | j, _ | ⟨q | q | q | q, st⟩⟩ <;> first | exact False.elim h | skip
  obtain ⟨len, i, hq, hj, hi, h⟩ := h
  intro p l e s m args below meth c D cs B A ad0 n0 ad H locs lsr hC hR hL
  refine va_lald hC.1 hC.2.1 hC.2.2.2.2.2.2.2.1 hR.1 q 3 (mj_W_la hq) rfl (mj_vpin hj hi) hd ?_
  rw [mj_clampi hj]
  exact hK _ _ _ _ _ _ _ _ _ _ h p l e s m args below meth c D cs B A ad0 n0 ad H locs lsr hC hR hL
def o_ias (nx : Nat) : mj_Sem := fun Q K pc ls st sh FR IA LA n kc ks => match st with
  | .inl x :: .inl j :: .inr (.inr (.inl q)) :: st => ∃ len i : Nat, mj_is sh n q 0 len ∧ mj_w j = (i : Int) ∧ i < len ∧ K nx ls st sh FR (mj_up IA q i x) LA n kc ks
  | _ => False
theorem k_ias {M : mj_M} {pc : Nat} (hd : decode M.2.1 pc = .ok (.iastore, 1)) : mj_ok M pc (o_ias (pc + 1)) := by
  intro Q K hK ls st sh FR IA LA n kc ks h
  rcases st with _ | ⟨x | x, _ | ⟨j | j, _ | ⟨q | q | q | q, st⟩⟩⟩ <;> first | exact False.elim h | skip
  obtain ⟨len, i, hq, hj, hi, h⟩ := h
  intro p l e s m args below meth c D cs B A ad0 n0 ad H locs lsr hC hR hL
  refine va_iast hC.1 hC.2.1 hC.2.2.2.2.2.2.2.1 hR.1 hR.2.1 hR.2.2.1 q 0 (mj_W_arr hq (by decide)) rfl (mj_vpin hj hi) hd fun H1 locs1 hP1 hD1 hS1 => ?_
  rw [mj_clampi hj, mj_W_sa hq (by decide)] at hP1 hD1
  exact hK _ _ _ _ _ _ _ _ _ _ h p l e s m args below meth c D cs B A ad0 n0 ad H1 locs1 lsr hC ⟨hP1, hD1, hS1, hR.2.2.2⟩ hL
def o_bas (nx : Nat) : mj_Sem := fun Q K pc ls st sh FR IA LA n kc ks => match st with
  | .inl x :: .inl j :: .inr (.inr (.inl q)) :: st => ∃ len i : Nat, mj_is sh n q 1 len ∧ mj_w j = (i : Int) ∧ i < len ∧ K nx ls st sh FR (mj_up IA q i (mj_b x)) LA n kc ks
  | _ => False
theorem k_bas {M : mj_M} {pc : Nat} (hd : decode M.2.1 pc = .ok (.bastore, 1)) : mj_ok M pc (o_bas (pc + 1)) := by
  intro Q K hK ls st sh FR IA LA n kc ks h
  rcases st with _ | ⟨x | x, _ | ⟨j | j, _ | ⟨q | q | q | q, st⟩⟩⟩ <;> first | exact False.elim h | skip
  obtain ⟨len, i, hq, hj, hi, h⟩ := h
  intro p l e s m args below meth c D cs B A ad0 n0 ad H locs lsr hC hR hL
  refine va_bast hC.1 hC.2.1 hC.2.2.2.2.2.2.2.1 hR.1 hR.2.1 hR.2.2.1 q 1 (mj_W_arr hq (by decide)) rfl (mj_vpin hj hi) hd fun H1 locs1 hP1 hD1 hS1 => ?_
  rw [mj_clampi hj, show vp_nar .byte (Int32.ofInt x) = Int32.ofInt (mj_b x) from mj_i2b x, mj_W_sa hq (by decide)] at hP1 hD1
  exact hK _ _ _ _ _ _ _ _ _ _ h p l e s m args below meth c D cs B A ad0 n0 ad H1 locs1 lsr hC ⟨hP1, hD1, hS1, hR.2.2.2⟩ hL
def o_zas (nx : Nat) : mj_Sem := fun Q K pc ls st sh FR IA LA n kc ks => match st with
  | .inl x :: .inl j :: .inr (.inr (.inl q)) :: st => ∃ len i : Nat, mj_is sh n q 2 len ∧ mj_w j = (i : Int) ∧ i < len ∧ (x = 0 ∨ x = 1) ∧ K nx ls st sh FR (mj_up IA q i x) LA n kc ks
  | _ => False
theorem k_zas {M : mj_M} {pc : Nat} (hd : decode M.2.1 pc = .ok (.bastore, 1)) : mj_ok M pc (o_zas (pc + 1)) := by
  intro Q K hK ls st sh FR IA LA n kc ks h
  rcases st with _ | ⟨x | x, _ | ⟨j | j, _ | ⟨q | q | q | q, st⟩⟩⟩ <;> first | exact False.elim h | skip
  obtain ⟨len, i, hq, hj, hi, hx, h⟩ := h
  intro p l e s m args below meth c D cs B A ad0 n0 ad H locs lsr hC hR hL
  refine va_zast hC.1 hC.2.1 hC.2.2.2.2.2.2.2.1 hR.1 hR.2.1 hR.2.2.1 q 2 (mj_W_arr hq (by decide)) rfl (mj_vpin hj hi) hd fun H1 locs1 hP1 hD1 hS1 => ?_
  rw [mj_clampi hj, show vp_nar .boolean (Int32.ofInt x) = Int32.ofInt x by rcases hx with rfl | rfl <;> rfl, mj_W_sa hq (by decide)] at hP1 hD1
  exact hK _ _ _ _ _ _ _ _ _ _ h p l e s m args below meth c D cs B A ad0 n0 ad H1 locs1 lsr hC ⟨hP1, hD1, hS1, hR.2.2.2⟩ hL
def o_las (nx : Nat) : mj_Sem := fun Q K pc ls st sh FR IA LA n kc ks => match st with
  | .inr (.inl x) :: .inl j :: .inr (.inr (.inl q)) :: st => ∃ len i : Nat, mj_is sh n q 3 len ∧ mj_w j = (i : Int) ∧ i < len ∧ K nx ls st sh FR IA (mj_up LA q i x) n kc ks
  | _ => False
theorem k_las {M : mj_M} {pc : Nat} (hd : decode M.2.1 pc = .ok (.lastore, 1)) : mj_ok M pc (o_las (pc + 1)) := by
  intro Q K hK ls st sh FR IA LA n kc ks h
  rcases st with _ | ⟨x | x | x, _ | ⟨j | j, _ | ⟨q | q | q | q, st⟩⟩⟩ <;> first | exact False.elim h | skip
  obtain ⟨len, i, hq, hj, hi, h⟩ := h
  intro p l e s m args below meth c D cs B A ad0 n0 ad H locs lsr hC hR hL
  refine va_last hC.1 hC.2.1 hC.2.2.2.2.2.2.2.1 hR.1 hR.2.1 hR.2.2.1 q 3 (mj_W_la hq) rfl (mj_vpin hj hi) hd fun H1 locs1 hP1 hD1 hS1 => ?_
  rw [mj_clampi hj, mj_W_sl hq] at hP1 hD1
  exact hK _ _ _ _ _ _ _ _ _ _ h p l e s m args below meth c D cs B A ad0 n0 ad H1 locs1 lsr hC ⟨hP1, hD1, hS1, hR.2.2.2⟩ hL
def o_alen (t : Nat) (nx : Nat) : mj_Sem := fun Q K pc ls st sh FR IA LA n kc ks => match st with
  | .inr (.inr (.inl q)) :: st => ∃ len : Nat, mj_is sh n q t len ∧ K nx ls (.inl (len : Int) :: st) sh FR IA LA n kc ks
  | _ => False
theorem k_alen {M : mj_M} {pc : Nat} {t : Nat} (hd : decode M.2.1 pc = .ok (.arraylength, 1)) (ht : t < 3) : mj_ok M pc (o_alen t (pc + 1)) := by
  intro Q K hK ls st sh FR IA LA n kc ks h
  rcases st with _ | ⟨q | q | q | q, st⟩ <;> first | exact False.elim h | skip
  obtain ⟨len, hq, h⟩ := h
  intro p l e s m args below meth c D cs B A ad0 n0 ad H locs lsr hC hR hL
  obtain ⟨ty, hty⟩ : ∃ ty, (mj_ty cs)[t]? = some (cs t, ty) := by
    rcases (show t = 0 ∨ t = 1 ∨ t = 2 by omega) with rfl | rfl | rfl
    · exact ⟨_, rfl⟩
    · exact ⟨_, rfl⟩
    · exact ⟨_, rfl⟩
  exact va_alen hC.1 hC.2.1 hC.2.2.2.2.2.2.2.1 hR.1 q t (mj_W_arr hq ht) hty (show Int32.ofNat len = Int32.ofInt (len : Int) from Int32.ofInt_eq_ofNat.symm) hd (hK _ _ _ _ _ _ _ _ _ _ h p l e s m args below meth c D cs B A ad0 n0 ad H locs lsr hC hR hL)
end
section
/-! CONTRACTS AND CALLS -/
def mj_cw (M : mj_M) : Cond := .codeWith M.1 M.2.1 M.2.2.1 M.2.2.2.1 M.2.2.2.2.2.1
theorem mj_cw_good (M : mj_M) : ((mj_cw M).onTables && (mj_cw M).keeps) = true := rfl
/-- the contract of a method at arguments and a state: it ends, and its outcome has Q -/
def mj_Pc (as : List mj_V) (sh : mj_Sh) (FR : mj_FR) (IA : mj_FI) (LA : mj_LA) (n : Nat) (D : va_G) (cs : Nat → ClassId) (B : mj_B) (ad : Nat → Nat) (sz : Nat) (v : Array Value) (U : State) : Prop :=
  v = (as.map (mj_tv B ad)).toArray ∧ U.heap.size = sz ∧ va_P D vwCl (mj_W cs B ad sh FR IA LA n) U.heap ∧ va_K D vwCl (mj_ty cs) U ∧ va_D (fun _ => True) (mj_W cs B ad sh FR IA LA n) ∧ mj_Sx B.2 (va_A (mj_W cs B ad sh FR IA LA n) sz) U ∧ mj_Nw (va_A (mj_W cs B ad sh FR IA LA n) sz) U
def mj_Ct (M : mj_M) (as : List mj_V) (sh : mj_Sh) (FR : mj_FR) (IA : mj_FI) (LA : mj_LA) (n : Nat) (Q : mj_Q) : Prop :=
  ∀ (l : Launch), mj_la l → ∀ (D : va_G) (cs : Nat → ClassId) (B : mj_B) (ad : Nat → Nat) (sz : Nat), MetFree l M.1 (headSpec (mj_cw M :: mj_wd) M.2.2.2.2.1) (mj_Pc as sh FR IA LA n D cs B ad sz) (fun _ _ _ _ _ => True)
    (fun _ st o t => mj_Qc Q D cs B (va_A (mj_W cs B ad sh FR IA LA n) sz) ad n st o t ∧ ∃ L, mj_FE st t L M.2.2.2.2.1.cells M.2.2.2.2.1.slots ∧ ∀ q ∈ L, va_A (mj_W cs B ad sh FR IA LA n) sz q.base)
def mj_en : List mj_V → Nat → mj_L
  | [], k => List.replicate k none
  | v :: r, k => match mj_ct v with
    | 2 => some v :: none :: mj_en r (k - 2)
    | _ => some v :: mj_en r (k - 1)
theorem mj_rep_get : ∀ (k i : Nat) (v : mj_V), mj_get (List.replicate k none) i = some v → False
  | 0, _, _, h => by cases h
  | _ + 1, 0, _, h => by cases h
  | k + 1, i + 1, v, h => mj_rep_get k i v h
theorem mj_en_get (B : mj_B) (ad : Nat → Nat) : ∀ (as : List mj_V) (k i j : Nat) (v : mj_V), mj_get (mj_en as k) i = some v → (j + i, mj_tv B ad v) ∈ lv_args j (as.map (mj_tv B ad))
  | [], k, i, j, v, h => (mj_rep_get k i v h).elim
  | a :: r, k, i, j, v, h => by
    show (j + i, mj_tv B ad v) ∈ (j, mj_tv B ad a) :: lv_args (if (mj_tv B ad a).category = 2 then j + 2 else j + 1) (r.map (mj_tv B ad))
    rw [mj_tv_cat]
    unfold mj_en at h
    by_cases hc : mj_ct a = 2
    · rw [hc] at h
      rw [if_pos hc]
      rcases i with _ | _ | i
      · cases h
        exact List.mem_cons_self
      · cases h
      · have := mj_en_get B ad r (k - 2) i (j + 2) v h
        rw [show j + (i + 1 + 1) = j + 2 + i by omega]
        exact List.mem_cons_of_mem _ this
    · rw [if_neg hc]
      have h : mj_get (some a :: mj_en r (k - 1)) i = some v := by
        rcases a with x | x | x
        · exact h
        · exact absurd rfl hc
        · exact h
      rcases i with _ | i
      · cases h
        exact List.mem_cons_self
      · have := mj_en_get B ad r (k - 1) i (j + 1) v h
        rw [show j + (i + 1) = j + 1 + i by omega]
        exact List.mem_cons_of_mem _ this
def mj_sl : List mj_V → Nat
  | [] => 0
  | v :: r => mj_ct v + mj_sl r
theorem mj_sl_eq (B : mj_B) (ad : Nat → Nat) : ∀ as : List mj_V, (lg_sl (as.map (mj_tv B ad))).length = mj_sl as
  | [] => rfl
  | v :: r => by
    have ih := mj_sl_eq B ad r
    unfold lg_sl at ih ⊢
    rw [List.map_cons, List.flatMap_cons, List.length_append, ih, mj_tv_cat]
    rcases v with x | x | x
    · rfl
    · rfl
    · rfl
theorem mj_Ct_of {M : mj_M} {as : List mj_V} {sh : mj_Sh} {FR : mj_FR} {IA : mj_FI} {LA : mj_LA} {n : Nat} {Q : mj_Q} (hy : plainFor M.1 = true) (hlw : ¬ M.1.name = "law") (hsl : mj_sl as ≤ M.2.2.1)
    (h : mj_G M Q 0 (mj_en as M.2.2.1) [] sh FR IA LA n 0 0) : mj_Ct M as sh FR IA LA n Q := by
  intro l hl D cs B ad sz
  refine MetFree.of_bodySF (code := M.2.1) (maxLocals := M.2.2.1) (ret := M.2.2.2.1) hy ?_ ?_
  · intro args s m hpre hn
    obtain ⟨m', meth, c, hn', h1, h2, h3, h4, -, h5, h6, -⟩ := Cond.codeWith_spec (atoms_spec (ws := mj_cw M :: mj_wd) hpre _ List.mem_cons_self)
    cases hn.symm.trans hn'
    exact ⟨meth, c, h1, h2, h3, h4, h5, h6⟩
  · intro p e s m args below meth c s₁ Bd hml hP _
    obtain ⟨hargs, hsz, hP, hK, hD0, hSx, hNw⟩ := hP
    subst hargs
    subst hsz
    have hh0 : s₁.heap = s.heap := by rw [Bd.state]; rfl
    have X := Stand.of_body Bd
    have hts := atoms_spec (ws := mj_cw M :: mj_wd) Bd.pre
    obtain ⟨m', meth', c', hn', h1, h2, h3, h4, h7, h5, h6, -⟩ := Cond.codeWith_spec (hts _ List.mem_cons_self)
    cases Bd.named.symm.trans hn'
    cases Bd.method.symm.trans h1
    cases X.code.symm.trans h2
    have hD := hD0.self (sz := s.heap.size)
    have hC : mj_Cx M p l e s m ((as.map (mj_tv B ad)).toArray) meth c D cs B (va_A (mj_W cs B ad sh FR IA LA n) s.heap.size) :=
      ⟨Bd.exec, Bd.bytes, Bd.returns, hml, findClass_of_methodNamed Bd.named, fun w hw => hts w (List.mem_cons_of_mem _ hw), Bd.notSynchronized, hK, fun q hq => Or.inr hq, (name_of_methodNamed Bd.named Bd.method).1, h7, hl, fun z => absurd z hlw, hSx, hNw⟩
    have hlr := lv_entry (as.map (mj_tv B ad)) (n := M.2.2.1) (by rw [mj_sl_eq]; exact hsl)
    have hL : mj_Lr B ad ((lg_sl (as.map (mj_tv B ad)) ++ List.replicate (M.2.2.1 - (lg_sl (as.map (mj_tv B ad))).length) Slot.unset).toArray) M.2.2.1 (mj_en as M.2.2.1) :=
      ⟨hlr.1, hlr.2.1, fun i v hv => by
        have := mj_en_get B ad as _ i 0 v hv
        rw [Nat.zero_add] at this
        exact hlr.2.2 _ this⟩
    have hW := h p l e s m ((as.map (mj_tv B ad)).toArray) below meth c D cs B (va_A (mj_W cs B ad sh FR IA LA n) s.heap.size) ad n ad s.heap [] _ hC ⟨hP, hD, va_S.rf, fun _ _ => rfl, Nat.le_refl _⟩ hL s₁ hh0 X
    obtain ⟨t, hst, o, hrun, hend, hq, hfr⟩ := hW
    rw [lg_entry_eq]
    exact ⟨t, o, hst, hrun, hend, hq, hfr⟩
/-! returns -/
section RR
variable {p : Program} {l : Launch} {e : Env} {s : State} {m : MethodId} {args : Array Value} {below : List Frame} {meth : Method} {c : Code} {D : va_G} {cs : Nat → ClassId} {B : mj_B} {A : Nat → Prop} {ad0 ad : Nat → Nat} {n0 n kc ks : Nat} {H : Heap} {locs : List Loc} {M : mj_M} {Q : mj_Q} {sh : mj_Sh} {FR : mj_FR} {IA : mj_FI} {LA : mj_LA} {g : JFrame}
theorem mj_ret {v : Option mj_V} {ov : Option Value} (hov : ov = v.map (mj_tv B ad)) (hR : mj_Rl cs B D A s.heap ad0 n0 sh FR IA LA n ad H locs) (hQ : Q (.inl v) sh FR IA LA n) (hk : kc ≤ M.2.2.2.2.1.cells) (hs : ks ≤ M.2.2.2.2.1.slots)
    (row : (∀ t : State, t.heap = H → s.WarmedH t.vm → (fun (_ : Array Value) s o t => mj_Qc Q D cs B A ad0 n0 s o t) args s (.returned ov) t) → (∀ q ∈ locs, A q.base) → W p l e M.2.2.2.2.1 s m args below meth c H locs M.2.2.2.2.1.cells M.2.2.2.2.1.slots (MQ below (fun _ s o t => mj_Qc Q D cs B A ad0 n0 s o t) args s M.2.2.2.2.1.cells M.2.2.2.2.1.slots A) g) :
    W p l e M.2.2.2.2.1 s m args below meth c H locs kc ks (mj_MQ M Q below s D cs B A ad0 n0) g := by
  refine W.widen hk hs (mj_mono ?_ (row ?_ hR.2.2.1.2.2))
  · intro t h
    obtain ⟨o, h1, h2, h3, L, h4, h5⟩ := h
    exact ⟨o, h1, h2, h3, L, ⟨h4.2.1, h4.2.2⟩, h5⟩
  · intro t ht hW
    refine ⟨.inl v, sh, FR, IA, LA, n, ad, hQ, ?_, by rw [ht]; exact hR.1, hR.2.1, hR.2.2.2.1, hR.2.2.2.2, hR.2.2.1.F ht⟩
    show Outcome.returned ov = _
    rw [hov]
end RR
def o_retv (C S : Nat) : mj_Sem := fun Q _ _ _ st sh FR IA LA n kc ks => match st with
  | [] => Q (.inl none) sh FR IA LA n ∧ kc ≤ C ∧ ks ≤ S
  | _ => False
def o_iret (C S : Nat) : mj_Sem := fun Q _ _ _ st sh FR IA LA n kc ks => match st with
  | [.inl x] => Q (.inl (some (.inl x))) sh FR IA LA n ∧ kc ≤ C ∧ ks ≤ S
  | _ => False
def o_zret (C S : Nat) : mj_Sem := fun Q _ _ _ st sh FR IA LA n kc ks => match st with
  | [.inl x] => (x = 0 ∨ x = 1) ∧ Q (.inl (some (.inl x))) sh FR IA LA n ∧ kc ≤ C ∧ ks ≤ S
  | _ => False
def o_lret (C S : Nat) : mj_Sem := fun Q _ _ _ st sh FR IA LA n kc ks => match st with
  | [.inr (.inl x)] => Q (.inl (some (.inr (.inl x)))) sh FR IA LA n ∧ kc ≤ C ∧ ks ≤ S
  | _ => False
def o_aret (C S : Nat) : mj_Sem := fun Q _ _ _ st sh FR IA LA n kc ks => match st with
  | [.inr (.inr (.inl q))] => Q (.inl (some (.inr (.inr (.inl q))))) sh FR IA LA n ∧ kc ≤ C ∧ ks ≤ S
  | _ => False
theorem k_retv {M : mj_M} {pc : Nat} (hd : decode M.2.1 pc = .ok (.return_, 1)) (hr : M.2.2.2.1 = none) : mj_ok M pc (o_retv M.2.2.2.2.1.cells M.2.2.2.2.1.slots) := by
  intro Q K hK ls st sh FR IA LA n kc ks h
  rcases st with _ | ⟨v, st⟩ <;> first | exact False.elim h | skip
  obtain ⟨hQ, hk, hs⟩ := h
  intro p l e s m args below meth c D cs B A ad0 n0 ad H locs lsr hC hR hL
  exact mj_ret (v := none) rfl hR hQ hk hs fun a b => W.vret hC.1 hC.2.1 (hC.2.2.1.trans hr) a b hd hC.2.2.2.2.2.2.1
theorem k_iret {M : mj_M} {pc : Nat} (hd : decode M.2.1 pc = .ok (.ireturn, 1)) (hr : M.2.2.2.1 = some .int) : mj_ok M pc (o_iret M.2.2.2.2.1.cells M.2.2.2.2.1.slots) := by
  intro Q K hK ls st sh FR IA LA n kc ks h
  rcases st with _ | ⟨x | x, _ | ⟨y, st⟩⟩ <;> first | exact False.elim h | skip
  obtain ⟨hQ, hk, hs⟩ := h
  intro p l e s m args below meth c D cs B A ad0 n0 ad H locs lsr hC hR hL
  exact mj_ret (v := some (.inl x)) rfl hR hQ hk hs fun a b => W.iret hC.1 hC.2.1 (hC.2.2.1.trans hr) a b hd hC.2.2.2.2.2.2.1
theorem k_zret {M : mj_M} {pc : Nat} (hd : decode M.2.1 pc = .ok (.ireturn, 1)) (hr : M.2.2.2.1 = some .boolean) : mj_ok M pc (o_zret M.2.2.2.2.1.cells M.2.2.2.2.1.slots) := by
  intro Q K hK ls st sh FR IA LA n kc ks h
  rcases st with _ | ⟨x | x, _ | ⟨y, st⟩⟩ <;> first | exact False.elim h | skip
  obtain ⟨hx, hQ, hk, hs⟩ := h
  intro p l e s m args below meth c D cs B A ad0 n0 ad H locs lsr hC hR hL
  exact mj_ret (v := some (.inl x)) rfl hR hQ hk hs fun a b => W.zret hC.1 hC.2.1 (hC.2.2.1.trans hr) (by rcases hx with rfl | rfl <;> rfl) a b hd hC.2.2.2.2.2.2.1
theorem k_lret {M : mj_M} {pc : Nat} (hd : decode M.2.1 pc = .ok (.lreturn, 1)) (hr : M.2.2.2.1 = some .long) : mj_ok M pc (o_lret M.2.2.2.2.1.cells M.2.2.2.2.1.slots) := by
  intro Q K hK ls st sh FR IA LA n kc ks h
  rcases st with _ | ⟨x | x | x, _ | ⟨y, st⟩⟩ <;> first | exact False.elim h | skip
  obtain ⟨hQ, hk, hs⟩ := h
  intro p l e s m args below meth c D cs B A ad0 n0 ad H locs lsr hC hR hL
  exact mj_ret (v := some (.inr (.inl x))) rfl hR hQ hk hs fun a b => W.lret hC.1 hC.2.1 (hC.2.2.1.trans hr) a b hd hC.2.2.2.2.2.2.1
theorem k_aret {M : mj_M} {pc : Nat} {rt : FieldType} (hd : decode M.2.1 pc = .ok (.areturn, 1)) (hr : M.2.2.2.1 = some rt) (hrt : (∃ n, rt = .object n) ∨ ∃ t, rt = .array t) : mj_ok M pc (o_aret M.2.2.2.2.1.cells M.2.2.2.2.1.slots) := by
  intro Q K hK ls st sh FR IA LA n kc ks h
  rcases st with _ | ⟨x | x | x | x, _ | ⟨y, st⟩⟩ <;> first | exact False.elim h | skip
  obtain ⟨hQ, hk, hs⟩ := h
  intro p l e s m args below meth c D cs B A ad0 n0 ad H locs lsr hC hR hL
  exact mj_ret (v := some (.inr (.inr (.inl x)))) rfl hR hQ hk hs fun a b => W.aret hC.1 hC.2.1 (hC.2.2.1.trans hr) hrt (Or.inr ⟨_, rfl⟩) a b hd hC.2.2.2.2.2.2.1
/-! scoped values: the places that they name are there -/
def mj_scv (n : Nat) (v : mj_V) : Prop := match v with
  | .inr (.inr (.inl q)) => q < n
  | _ => True
def mj_scs (n : Nat) : List mj_V → Prop
  | [] => True
  | v :: r => mj_scv n v ∧ mj_scs n r
def mj_scl (n : Nat) : mj_L → Prop
  | [] => True
  | none :: r => mj_scl n r
  | some v :: r => mj_scv n v ∧ mj_scl n r
theorem mj_scv_tv {B : mj_B} {ad ad' : Nat → Nat} {n : Nat} (had : ∀ i, i < n → ad' i = ad i) {v : mj_V} (h : mj_scv n v) : mj_tv B ad' v = mj_tv B ad v := by
  rcases v with x | x | x | x
  · rfl
  · rfl
  · show Value.ref (ad' x) = Value.ref (ad x)
    rw [had x h]
  · rcases x with _ | _ | x <;> rfl
theorem mj_scs_tv {B : mj_B} {ad ad' : Nat → Nat} {n : Nat} (had : ∀ i, i < n → ad' i = ad i) : ∀ {st : List mj_V}, mj_scs n st → st.map (mj_tv B ad') = st.map (mj_tv B ad)
  | [], _ => rfl
  | v :: r, h => by rw [List.map_cons, List.map_cons, mj_scv_tv had h.1, mj_scs_tv had h.2]
theorem mj_scl_get {n : Nat} : ∀ {ls : mj_L} {i : Nat} {v : mj_V}, mj_scl n ls → mj_get ls i = some v → mj_scv n v
  | [], _, _, _, h => by cases h
  | none :: _, 0, _, _, h => by cases h
  | some u :: _, 0, v, hs, h => by
    cases h
    exact hs.1
  | none :: r, i + 1, v, hs, h => mj_scl_get (ls := r) hs h
  | some u :: r, i + 1, v, hs, h => mj_scl_get (ls := r) hs.2 h
theorem mj_Lr.sc {B : mj_B} {ad ad' : Nat → Nat} {n nL : Nat} {lsr : Array Slot} {ls : mj_L} (hL : mj_Lr B ad lsr nL ls) (had : ∀ i, i < n → ad' i = ad i) (h : mj_scl n ls) : mj_Lr B ad' lsr nL ls :=
  ⟨hL.1, hL.2.1, fun i v hv => by rw [mj_scv_tv had (mj_scl_get h hv)]; exact hL.2.2 i v hv⟩
def mj_aft (Q : mj_Q) (K : mj_K) (pc : Nat) (ls : mj_L) (st : List mj_V) (n kc ks : Nat) (r : mj_O) (sh : mj_Sh) (FR : mj_FR) (IA : mj_FI) (LA : mj_LA) (n' : Nat) : Prop := match r with
  | .inl v => (n' = n ∨ (mj_scl n ls ∧ mj_scs n st)) ∧ K pc ls (v.toList ++ st) sh FR IA LA n' kc ks
  | .inr k => Q (.inr k) sh FR IA LA n'
section CC
variable {p : Program} {l : Launch} {e : Env} {R : Room} {s : State} {m : MethodId} {args : Array Value} {below : List Frame} {meth : Method} {c : Code} {T : State} {locs : List Loc} {kc ks : Nat}
theorem mj_inv (X : Stand p l e R s m args below meth c T locs kc ks) {N : mj_M} {P : Array Value → State → Prop} {Q' : Array Value → State → Outcome → State → Prop} (hM : MetFree l N.1 (headSpec (mj_cw N :: mj_wd) N.2.2.2.2.1) P (fun _ _ _ _ _ => True) Q')
    {g : JFrame} (hg : g.method = m) (hsize : g.locals.size = c.maxLocals) {ig : Instr} {len : Nat} (hdg : decode c.code g.pc = .ok (ig, len)) {mk : MethodId} (hn : T.methodNamed? N.1 = some mk)
    (hcw : (mj_cw N).before args s = true) (hini : (Cond.initialized N.1.cls).before args s = true) (hwd : ∀ w ∈ mj_wd, w.before args s = true)
    (hframes : N.2.2.2.2.1.frames + 1 ≤ R.frames) (hlocals : 2 * g.monitorRoom + (g.stack.map fun v => v.category).sum + (N.2.2.1 + 11) + N.2.2.2.2.1.locals ≤ R.locals) (hcells : kc + N.2.2.2.2.1.cells ≤ R.cells) (hslots : ks + N.2.2.2.2.1.slots ≤ R.slots)
    {a : Array Value} (hP : P a (T.calling g mk a)) :
    ∃ o t, Steps p.tables e below (doInvoke e (T.setTop g) [] mk a).1 t ∧ t.status = .running ∧ Ended t (.java g :: below) o ∧ Q' a (T.calling g mk a) o t := by
  have hwT : ∀ w ∈ mj_cw N :: mj_wd, w.before a T = true := by
    intro w hw
    rcases List.mem_cons.mp hw with rfl | hw
    · exact word_at X.warmed (Or.inl (mj_cw_good N)) hcw
    · exact word_at X.warmed (mj_wd_good w hw) (hwd w hw)
  obtain ⟨m', methY, cY, hn', hmY, hcY, -, hlY, -, -, -, -⟩ := Cond.codeWith_spec (hwT _ List.mem_cons_self)
  cases hn.symm.trans hn'
  obtain ⟨kY, hkY, -⟩ := className_of_methodNamed hn
  have hiT : (Cond.initialized N.1.cls).before a T = true := word_at X.warmed (Or.inl rfl) hini
  have hinitY : kY.init = .initialized := Cond.initialized_spec (findClass_of_methodNamed hn) hkY hiT
  have h : At T g.method c below := by rw [hg]; exact X.here
  have happ : (headSpec (mj_cw N :: mj_wd) N.2.2.2.2.1).appliesLoose N.1 e.platform (T.calling g mk a) = true :=
    Spec.appliesLoose_calling (g := g) h hdg hn hkY hinitY (X.room_calling (g := g) (R' := N.2.2.2.2.1) hsize hmY hcY hframes (by rw [hlY]; exact hlocals) hcells hslots) (atoms_intro hwT)
  have hfr : (T.setTop g).frames = [.java g] ++ below := by rw [State.frames_setTop' g h.top, X.tail]; rfl
  obtain ⟨o, t, hst, hrun, hend, hq⟩ := Steps.callFree hM p X.admits X.cas X.clock (acts := []) hfr happ hP trivial
  rw [hfr] at hend
  exact ⟨o, t, hst, hrun, hend, hq⟩
/-- what a caller must know of a callee, once for the pair -/
def mj_fit (M N : mj_M) : Prop := (Cond.code N.1 N.2.1 N.2.2.1 N.2.2.2.1 ∈ mj_wd ∧ N.2.2.2.2.2.1 = [] ∨ mj_cw N ∈ mj_wd) ∧ Cond.initialized N.1.cls ∈ mj_wd ∧ N.2.2.2.2.1.frames + 1 ≤ M.2.2.2.2.1.frames ∧ 8 + (N.2.2.1 + 11) + N.2.2.2.2.1.locals ≤ M.2.2.2.2.1.locals
theorem mj_fit.cw {M N : mj_M} (h : mj_fit M N) (hw : ∀ w ∈ mj_wd, w.before args s = true) : (mj_cw N).before args s = true := by
  rcases h.1 with ⟨a, b⟩ | a
  · have h1 := hw _ a
    unfold mj_cw
    rw [b]
    unfold Cond.before Cond.holds at h1 ⊢
    rw [← Cond.code_iff_codeWith_nil]
    exact h1
  · exact hw _ a
theorem mj_core {M N : mj_M} {Q Q' : mj_Q} {K : mj_K} {D : va_G} {cs : Nat → ClassId} {B : mj_B} {A : Nat → Prop} {ad0 ad : Nat → Nat} {n0 n : Nat} {sh : mj_Sh} {FR : mj_FR} {IA : mj_FI} {LA : mj_LA} (hC : mj_Cx M p l e s m args meth c D cs B A) (hR : mj_Rl cs B D A s.heap ad0 n0 sh FR IA LA n ad T.heap locs)
    (X : Stand p l e M.2.2.2.2.1 s m args below meth c T locs kc ks) {lsr : Array Slot} {ls : mj_L} (hL : mj_Lr B ad lsr M.2.2.1 ls) {as st : List mj_V} {pc : Nat} {ig : Instr} (hd : decode M.2.1 pc = .ok (ig, 3)) {mk : MethodId} (hn : T.methodNamed? N.1 = some mk)
    (hCt : mj_Ct N as sh FR IA LA n Q') (hf : mj_fit M N) (hh : M.2.2.2.2.2.1 = []) (h8 : mj_cts st ≤ 8) (hcells : kc + N.2.2.2.2.1.cells ≤ M.2.2.2.2.1.cells) (hslots : ks + N.2.2.2.2.1.slots ≤ M.2.2.2.2.1.slots)
    (hKG : ∀ pc ls st sh FR IA LA n kc ks, K pc ls st sh FR IA LA n kc ks → mj_G M Q pc ls st sh FR IA LA n kc ks)
    (hK : ∀ r sh' FR' IA' LA' n', Q' r sh' FR' IA' LA' n' → mj_aft Q K (pc + 3) ls st n (kc + N.2.2.2.2.1.cells) (ks + N.2.2.2.2.1.slots) r sh' FR' IA' LA' n') :
    ∃ t, Steps p.tables e below (doInvoke e (T.setTop (F0 m pc lsr (st.map (mj_tv B ad)))) [] mk ((as.map (mj_tv B ad)).toArray)).1 t ∧ mj_MQ M Q below s D cs B A ad0 n0 t := by
  have hdc : decode c.code pc = .ok (ig, 3) := by rw [hC.2.1]; exact hd
  have hAA : ∀ q, va_A (mj_W cs B ad sh FR IA LA n) T.heap.size q → A q := by
    intro q hq
    rcases hq with ⟨k, x, hk⟩ | hq
    · exact hR.2.1.2 k _ hk
    · exact hC.2.2.2.2.2.2.2.2.1 q (Nat.le_trans hR.2.2.1.1 hq)
  obtain ⟨o, t, hs1, hrun, hend, hq, L, hFE, hLA⟩ := mj_inv X (hCt l hC.2.2.2.2.2.2.2.2.2.2.2.1 D cs B ad T.heap.size) (g := F0 m pc lsr (st.map (mj_tv B ad))) rfl (hL.1.trans hC.2.2.2.1.symm) hdc hn (hf.cw hC.2.2.2.2.2.1) (hC.2.2.2.2.2.1 _ hf.2.1) hC.2.2.2.2.2.1 hf.2.2.1
    (by
      show 2 * 0 + ((st.map (mj_tv B ad)).map fun v => v.category).sum + (N.2.2.1 + 11) + N.2.2.2.2.1.locals ≤ _
      rw [mj_cts_eq]
      have := hf.2.2.2
      omega) hcells hslots (a := (as.map (mj_tv B ad)).toArray)
    ⟨rfl, rfl, hR.1, va_K.moved (U := T.calling (F0 m pc lsr (st.map (mj_tv B ad))) mk (as.map (mj_tv B ad)).toArray) X.warmed.alike hC.2.2.2.2.2.2.2.1, hR.2.1.weaken (fun _ _ _ _ => trivial),
      mj_Sx_move (U := T.calling (F0 m pc lsr (st.map (mj_tv B ad))) mk (as.map (mj_tv B ad)).toArray) hC.2.2.2.2.2.2.2.2.2.2.2.2.2.1 (fun q h1 h2 => hR.2.2.1.2.1 q h1 h2) X.warmed.alike hAA,
      mj_Nw_move (U := T.calling (F0 m pc lsr (st.map (mj_tv B ad))) mk (as.map (mj_tv B ad)).toArray) hC.2.2.2.2.2.2.2.2.2.2.2.2.2.2 (fun q h1 h2 => hR.2.2.1.2.1 q h1 h2) X.warmed hAA⟩
  obtain ⟨r, sh', FR', IA', LA', n', ad', hQ', hou, hP', hD', had', hnn, hF'⟩ := hq
  have hF1 : T.heap.size ≤ t.heap.size := hF'.1
  have hF2 : ∀ q : Nat, q < T.heap.size → ¬ va_A (mj_W cs B ad sh FR IA LA n) T.heap.size q → t.heap[q]? = T.heap[q]? := hF'.2
  have hS' : va_S A s.heap t.heap (locs ++ L) := by
    refine ⟨Nat.le_trans hR.2.2.1.1 hF1, fun q h1 h2 => ?_, fun q hq => ?_⟩
    · rw [hF2 q (Nat.lt_of_lt_of_le h1 hR.2.2.1.1) (fun z => h2 (hAA q z))]
      exact hR.2.2.1.2.1 q h1 h2
    · rcases List.mem_append.mp hq with h1 | h1
      · exact hR.2.2.1.2.2 q h1
      · exact hAA _ (hLA q h1)
  have had1 : ∀ i, i < n0 ∨ n' ≤ i → ad' i = ad0 i := by
    intro i hi
    have hn0 := hR.2.2.2.2
    rcases hi with hi | hi
    · rw [had' i (Or.inl (by omega)), hR.2.2.2.1 i (Or.inl hi)]
    · rw [had' i (Or.inr hi), hR.2.2.2.1 i (Or.inr (by omega))]
  have hR' : mj_Rl cs B D A s.heap ad0 n0 sh' FR' IA' LA' n' ad' t.heap (locs ++ L) := ⟨hP', hD'.weaken (fun _ q _ hq => hAA q.1 hq), hS', had1, Nat.le_trans hR.2.2.2.2 hnn⟩
  have hK1 := hK _ _ _ _ _ _ hQ'
  rcases r with v | k
  · have hou : o = .returned (v.map (mj_tv B ad')) := hou
    subst hou
    obtain ⟨T', X', -, -, ht⟩ := X.outOf (g := F0 m pc lsr (st.map (mj_tv B ad))) rfl hdc hend hFE.1 hFE.2
    obtain ⟨hsc, hk⟩ := hK1
    have hTt : T'.heap = t.heap := by rw [ht]; rfl
    have hpair : mj_Lr B ad' lsr M.2.2.1 ls ∧ st.map (mj_tv B ad') = st.map (mj_tv B ad) := by
      rcases hsc with e1 | ⟨e1, e2⟩
      · subst e1
        have : ad' = ad := funext fun i => had' i (by omega)
        rw [this]
        exact ⟨hL, rfl⟩
      · exact ⟨hL.sc (fun i hi => had' i (Or.inl hi)) e1, mj_scs_tv (fun i hi => had' i (Or.inl hi)) e2⟩
    obtain ⟨t2, hs2, hm⟩ := hKG _ _ _ _ _ _ _ _ _ _ hk p l e s m args below meth c D cs B A ad0 n0 ad' t.heap (locs ++ L) lsr hC hR' hpair.1 T' hTt X'
    refine ⟨t2, hs1.trans ?_, hm⟩
    rw [ht]
    have he : (v.map (mj_tv B ad')).toList ++ st.map (mj_tv B ad) = (v.toList ++ st).map (mj_tv B ad') := by
      rw [List.map_append, hpair.2]
      cases v <;> rfl
    show Steps p.tables e below (T'.setTop (F0 m (pc + 3) lsr ((v.map (mj_tv B ad')).toList ++ st.map (mj_tv B ad)))) t2
    rw [he]
    exact hs2
  · obtain ⟨x, hou, hex⟩ := hou
    subst hou
    obtain ⟨T', X', -, -, ht⟩ := X.outOfThrown (g := F0 m pc lsr (st.map (mj_tv B ad))) rfl hend hFE.1 hFE.2
    have hTt : T'.heap = t.heap := by rw [ht]; rfl
    have hTv : T'.vm = t.vm := by rw [ht]; rfl
    have hxt : ∀ x ∈ c.exceptionTable.toList, covers x pc = false := by
      intro x hx
      have h9 := hC.2.2.2.2.2.2.2.2.2.2.1
      rw [hh, List.map_eq_nil_iff] at h9
      rw [h9] at hx
      cases hx
    obtain ⟨hst2, hrun2, hend2, hW2, hsame2⟩ := X'.leaveThrown x (g := F0 m pc lsr (st.map (mj_tv B ad))) rfl rfl rfl hxt hC.2.2.2.2.2.2.1
    refine ⟨T'.setFrames (.throwing x :: below), hs1.trans ?_, .threw x, hrun2, hend2, ?_, locs ++ L, ⟨hW2, hsame2.mono hcells hslots⟩, hS'.2.2⟩
    · rw [ht]
      exact hst2
    · refine ⟨.inr k, sh', FR', IA', LA', n', ad', hK1, ⟨x, rfl, ?_⟩, ?_, hR'.2.1, had1, hR'.2.2.2.2, ?_⟩
      · obtain ⟨cell, q1, q2, q3⟩ := hex
        exact ⟨cell, by rw [show (T'.setFrames (.throwing x :: below)).heap = T'.heap from rfl, hTt]; exact q1, by rw [show (T'.setFrames (.throwing x :: below)).vm = T'.vm from rfl, hTv]; exact q2, q3⟩
      · rw [show (T'.setFrames (.throwing x :: below)).heap = T'.heap from rfl, hTt]
        exact hR'.1
      · exact hS'.F (t := T'.setFrames (.throwing x :: below)) hTt
end CC
def mj_tk : Nat → List mj_V → List mj_V → Option (List mj_V × List mj_V)
  | 0, st, acc => some (acc, st)
  | _ + 1, [], _ => none
  | k + 1, v :: st, acc => mj_tk k st (v :: acc)
theorem mj_tk_eq : ∀ (k : Nat) (st acc as r : List mj_V), mj_tk k st acc = some (as, r) → ∃ a0, as = a0 ++ acc ∧ st = a0.reverse ++ r ∧ a0.length = k
  | 0, st, acc, as, r, h => by
    cases h
    exact ⟨[], rfl, rfl, rfl⟩
  | _ + 1, [], _, _, _, h => by cases h
  | k + 1, v :: st, acc, as, r, h => by
    obtain ⟨a0, h1, h2, h3⟩ := mj_tk_eq k st (v :: acc) as r h
    refine ⟨a0 ++ [v], by rw [h1]; simp, by rw [h2]; simp, by simp [h3]⟩
/-- a call: na arguments (the receiver with them) -/
def o_call (N : mj_M) (na C S nx : Nat) (rc : List mj_V → mj_Sh → Nat → Prop) : mj_Sem := fun Q K pc ls st sh FR IA LA n kc ks => match mj_tk na st [] with
  | some (as, st) => rc as sh n ∧ mj_cts st ≤ 8 ∧ kc + N.2.2.2.2.1.cells ≤ C ∧ ks + N.2.2.2.2.1.slots ≤ S ∧ ∃ Q', mj_Ct N as sh FR IA LA n Q' ∧
      ∀ r sh' FR' IA' LA' n', Q' r sh' FR' IA' LA' n' → mj_aft Q K nx ls st n (kc + N.2.2.2.2.1.cells) (ks + N.2.2.2.2.1.slots) r sh' FR' IA' LA' n'
  | none => False
/-- the receiver is a place of the class ci / any place / there is none -/
def mj_rv (ci : Nat) (as : List mj_V) (sh : mj_Sh) (n : Nat) : Prop := match as with
  | .inr (.inr (.inl q)) :: _ => mj_is sh n q (ci + 4) 0
  | _ => False
def mj_ri (as : List mj_V) (_ : mj_Sh) (_ : Nat) : Prop := match as with
  | .inr (.inr (.inl _)) :: _ => True
  | _ => False
def mj_rs (_ : List mj_V) (_ : mj_Sh) (_ : Nat) : Prop := True
theorem k_callV {M N : mj_M} {pc idx na ci : Nat} {T : u_T} {nf : Nat} (hd : decode M.2.1 pc = .ok (.invokevirtual idx, 3)) (hf : mj_fit M N) (hh : M.2.2.2.2.2.1 = []) (hcl : vwCl[ci]? = some (N.1.cls, T, nf)) (hl : Cond.methodLink M.1.cls idx N.1 ∈ mj_wd) (hi : Cond.instanceMethod N.1 ∈ mj_wd) (hs : Cond.selects N.1.cls N.1 N.1 ∈ mj_wd)
    (hy : N.1.cls ≠ "java/lang/invoke/MethodHandle" ∧ N.1.cls ≠ "java/lang/invoke/VarHandle") (hna : (parseMethodDescriptor N.1.desc).map (fun d => d.parameters.length + 1) = some na) : mj_ok M pc (o_call N na M.2.2.2.2.1.cells M.2.2.2.2.1.slots (pc + 3) (mj_rv ci)) := by
  intro Q K hK ls st sh FR IA LA n kc ks h
  unfold o_call at h
  split at h
  · rename_i as st2 htk
    obtain ⟨hrc, h8, hc, hsl, Q', hCt, hk⟩ := h
    obtain ⟨a0, e1, e2, e3⟩ := mj_tk_eq _ _ _ _ _ htk
    rw [List.append_nil] at e1
    subst e1
    subst e2
    rcases as with _ | ⟨v | v | q | v, as⟩ <;> first | exact False.elim hrc | skip
    have hrc : mj_is sh n q (ci + 4) 0 := hrc
    intro p l e s m args below meth c D cs B A ad0 n0 ad H locs lsr hC hR hL T0 hT X
    subst hT
    have hw := hC.2.2.2.2.2.1
    have hcw := hf.cw hw
    obtain ⟨m', methM, cM, hnamed, hmethM, -, -, -, -, -, -, hsigM⟩ := Cond.codeWith_spec hcw
    obtain ⟨mk, methM', hnamed', hmethM', hstM, habM⟩ := Cond.instanceMethod_spec (hw _ hi)
    cases hnamed.symm.trans hnamed'
    cases hmethM.symm.trans hmethM'
    obtain ⟨c2, r2, m2, q1, q2, q3, q4, kP, hkP, hkPi⟩ := Cond.selects_spec (hw _ hs)
    obtain ⟨cellB, hcB, hoB, hclB⟩ := va_recv hC.2.2.2.2.2.2.2.1 hR.1 hcl (mj_W_ob hrc)
    cases hclB.symm.trans q1
    cases (State.methodFound?_of_named hnamed hy).symm.trans q2
    cases hnamed.symm.trans q3
    have hselP : selectMethod e.platform s.vm cellB.cls m' = .method m' := by rw [Launch.admits_selectMethod X.admits]; exact q4
    have hlen : (as.map (mj_tv B ad)).length = methM.sig.parameters.length := by
      rw [hsigM] at hna
      have h0 := Option.some.inj hna
      rw [List.length_map]
      rw [List.length_cons] at e3
      have h1 : methM.sig.parameters.length + 1 = na := h0
      omega
    obtain ⟨vm₁, X₁, hstep₁⟩ := X.invokevirtual hC.1 hC.2.2.2.2.1 (hw _ hl) hnamed hmethM hstM hkP hkPi hy (a := ad q) (cell := cellB) hcB
      (fun z h => by rw [h] at hoB; cases hoB) hselP hmethM habM hkP hkPi (g := F0 m pc lsr (((.inr (.inr (.inl q)) :: as).reverse ++ st2).map (mj_tv B ad))) rfl (argsL := as.map (mj_tv B ad)) (rest := st2.map (mj_tv B ad)) hlen
      (by simp [mj_tv, mj_rf]) (by rw [hC.2.1]; exact hd)
    obtain ⟨t, hst, hm⟩ := mj_core (T := T0.setVm vm₁) hC hR X₁ hL hd (X₁.named hnamed) hCt hf hh h8 hc hsl hK hk
    exact ⟨t, hstep₁ _ (fun acts => by rw [doInvoke_state]; exact hst), hm⟩
  · exact False.elim h
theorem k_callS {M N : mj_M} {pc idx na : Nat} (hd : decode M.2.1 pc = .ok (.invokestatic idx, 3)) (hf : mj_fit M N) (hh : M.2.2.2.2.2.1 = []) (hl : Cond.methodLink M.1.cls idx N.1 ∈ mj_wd) (hi : Cond.static N.1 ∈ mj_wd)
    (hy : N.1.cls ≠ "java/lang/invoke/MethodHandle" ∧ N.1.cls ≠ "java/lang/invoke/VarHandle") (hna : (parseMethodDescriptor N.1.desc).map (fun d => d.parameters.length) = some na) : mj_ok M pc (o_call N na M.2.2.2.2.1.cells M.2.2.2.2.1.slots (pc + 3) mj_rs) := by
  intro Q K hK ls st sh FR IA LA n kc ks h
  unfold o_call at h
  split at h
  · rename_i as st2 htk
    obtain ⟨hrc, h8, hc, hsl, Q', hCt, hk⟩ := h
    obtain ⟨a0, e1, e2, e3⟩ := mj_tk_eq _ _ _ _ _ htk
    rw [List.append_nil] at e1
    subst e1
    subst e2
    intro p l e s m args below meth c D cs B A ad0 n0 ad H locs lsr hC hR hL T0 hT X
    subst hT
    have hw := hC.2.2.2.2.2.1
    have hcw := hf.cw hw
    obtain ⟨m', methM, cM, hnamed, hmethM, -, -, -, -, -, -, hsigM⟩ := Cond.codeWith_spec hcw
    have hstatic : methM.isStatic = true := Cond.static_spec hnamed hmethM (hw _ hi)
    obtain ⟨kP, hkP, -⟩ := className_of_methodNamed hnamed
    have hinitP : kP.init = .initialized := Cond.initialized_spec (findClass_of_methodNamed hnamed) hkP (hw _ hf.2.1)
    have hlen : (as.map (mj_tv B ad)).length = methM.sig.parameters.length := by
      rw [hsigM] at hna
      have h0 := Option.some.inj hna
      rw [List.length_map, e3]
      exact h0.symm
    obtain ⟨vm₁, X₁, hstep₁⟩ := X.invokestatic hC.1 hC.2.2.2.2.1 (hw _ hl) hnamed hmethM hstatic hkP hinitP hy (g := F0 m pc lsr ((as.reverse ++ st2).map (mj_tv B ad))) rfl (argsL := as.map (mj_tv B ad)) (rest := st2.map (mj_tv B ad)) hlen
      (by simp) (by rw [hC.2.1]; exact hd)
    obtain ⟨t, hst, hm⟩ := mj_core (T := T0.setVm vm₁) hC hR X₁ hL hd (X₁.named hnamed) hCt hf hh h8 hc hsl hK hk
    exact ⟨t, hstep₁ _ (fun acts => by rw [doInvoke_state]; exact hst), hm⟩
  · exact False.elim h
end
section
/-! FIELDS -/
def mj_cl (ci : Nat) (C : String) (T : u_T) (N : Nat) (ty : Nat → FieldType) : Prop := vwCl[ci]? = some (C, T, N) ∧ (∀ w ∈ u_ws C T N, w ∈ mj_wd) ∧ (∀ k, k < N → parseFieldDescriptor (T k).2.2.1 = some (ty k)) ∧ (∀ a, a < N → ∀ b, b < N → a ≠ b → (T a).2.1 ≠ (T b).2.1) ∧ mj_nf ci = N
def o_gI (ci k nx : Nat) : mj_Sem := fun _ K pc ls st sh FR IA LA n kc ks => match st with
  | .inr (.inr (.inl q)) :: st => mj_is sh n q (ci + 4) 0 ∧ K nx ls (.inl (IA q k) :: st) sh FR IA LA n kc ks
  | _ => False
def o_gR (ci k nx : Nat) : mj_Sem := fun _ K pc ls st sh FR IA LA n kc ks => match st with
  | .inr (.inr (.inl q)) :: st => mj_is sh n q (ci + 4) 0 ∧ ∃ r, FR q k = r ∧ K nx ls (.inr (.inr r) :: st) sh FR IA LA n kc ks
  | _ => False
def o_pI (ci k nx : Nat) : mj_Sem := fun _ K pc ls st sh FR IA LA n kc ks => match st with
  | .inl x :: .inr (.inr (.inl q)) :: st => mj_is sh n q (ci + 4) 0 ∧ K nx ls st sh FR (mj_up IA q k x) LA n kc ks
  | _ => False
def o_pZ (ci k nx : Nat) : mj_Sem := fun _ K pc ls st sh FR IA LA n kc ks => match st with
  | .inl x :: .inr (.inr (.inl q)) :: st => mj_is sh n q (ci + 4) 0 ∧ (x = 0 ∨ x = 1) ∧ K nx ls st sh FR (mj_up IA q k x) LA n kc ks
  | _ => False
def o_pR (ci k nx : Nat) : mj_Sem := fun _ K pc ls st sh FR IA LA n kc ks => match st with
  | .inr (.inr (.inl r)) :: .inr (.inr (.inl q)) :: st => mj_is sh n q (ci + 4) 0 ∧ K nx ls st sh (mj_up FR q k (.inl r)) IA LA n kc ks
  | _ => False
def o_gL (ci k nx : Nat) : mj_Sem := fun _ K pc ls st sh FR IA LA n kc ks => match st with
  | .inr (.inr (.inl q)) :: st => mj_is sh n q (ci + 4) 0 ∧ K nx ls (.inr (.inl (LA q k)) :: st) sh FR IA LA n kc ks
  | _ => False
def o_pL (ci k nx : Nat) : mj_Sem := fun _ K pc ls st sh FR IA LA n kc ks => match st with
  | .inr (.inl x) :: .inr (.inr (.inl q)) :: st => mj_is sh n q (ci + 4) 0 ∧ K nx ls st sh FR IA (mj_up LA q k x) n kc ks
  | _ => False
theorem k_gL {M : mj_M} {pc : Nat} {ci k idx N : Nat} {C : String} {T : u_T} {ty : Nat → FieldType} (hcl : mj_cl ci C T N ty) (hk : k < N) (h0 : mj_kd ci k = 2) (hw : Cond.fieldLink M.1.cls idx (T k).1 (T k).2.1 (T k).2.2.1 ∈ mj_wd) (hd : decode M.2.1 pc = .ok (.getfield idx, 3)) : mj_ok M pc (o_gL ci k (pc + 3)) := by
  intro Q K hK ls st sh FR IA LA n kc ks h
  rcases st with _ | ⟨q | q | q | q, st⟩ <;> first | exact False.elim h | skip
  obtain ⟨hq, h⟩ := h
  intro p l e s m args below meth c D cs B A ad0 n0 ad H locs lsr hC hR hL
  exact va_get (v := .long (Int64.ofBitVec (LA q k))) hC.1 hC.2.1 hC.2.2.2.2.2.1 hcl.2.1 hC.2.2.2.2.1 hC.2.2.2.2.2.2.2.1 hR.1 q (mj_W_ob hq) hcl.1 k hk (hC.2.2.2.2.2.1 _ hw) (fun _ z => z) (by rw [mj_fs_at (by rw [hcl.2.2.2.2]; exact hk), h0]; rfl) hd (hK _ _ _ _ _ _ _ _ _ _ h p l e s m args below meth c D cs B A ad0 n0 ad H locs lsr hC hR hL)
theorem k_gI {M : mj_M} {pc : Nat} {ci k idx N : Nat} {C : String} {T : u_T} {ty : Nat → FieldType} (hcl : mj_cl ci C T N ty) (hk : k < N) (h0 : mj_kd ci k = 0) (hw : Cond.fieldLink M.1.cls idx (T k).1 (T k).2.1 (T k).2.2.1 ∈ mj_wd) (hd : decode M.2.1 pc = .ok (.getfield idx, 3)) : mj_ok M pc (o_gI ci k (pc + 3)) := by
  intro Q K hK ls st sh FR IA LA n kc ks h
  rcases st with _ | ⟨q | q | q | q, st⟩ <;> first | exact False.elim h | skip
  obtain ⟨hq, h⟩ := h
  intro p l e s m args below meth c D cs B A ad0 n0 ad H locs lsr hC hR hL
  exact va_get (v := .int (Int32.ofInt (IA q k))) hC.1 hC.2.1 hC.2.2.2.2.2.1 hcl.2.1 hC.2.2.2.2.1 hC.2.2.2.2.2.2.2.1 hR.1 q (mj_W_ob hq) hcl.1 k hk (hC.2.2.2.2.2.1 _ hw) (fun _ z => z) (by rw [mj_fs_at (by rw [hcl.2.2.2.2]; exact hk), h0]; rfl) hd (hK _ _ _ _ _ _ _ _ _ _ h p l e s m args below meth c D cs B A ad0 n0 ad H locs lsr hC hR hL)
theorem k_gR {M : mj_M} {pc : Nat} {ci k idx N : Nat} {C : String} {T : u_T} {ty : Nat → FieldType} (hcl : mj_cl ci C T N ty) (hk : k < N) (h0 : mj_kd ci k = 1) (hw : Cond.fieldLink M.1.cls idx (T k).1 (T k).2.1 (T k).2.2.1 ∈ mj_wd) (hd : decode M.2.1 pc = .ok (.getfield idx, 3)) : mj_ok M pc (o_gR ci k (pc + 3)) := by
  intro Q K hK ls st sh FR IA LA n kc ks h
  rcases st with _ | ⟨q | q | q | q, st⟩ <;> first | exact False.elim h | skip
  obtain ⟨hq, r, hr, h⟩ := h
  intro p l e s m args below meth c D cs B A ad0 n0 ad H locs lsr hC hR hL
  subst hr
  exact va_get (v := mj_rf B ad (FR q k)) hC.1 hC.2.1 hC.2.2.2.2.2.1 hcl.2.1 hC.2.2.2.2.1 hC.2.2.2.2.2.2.2.1 hR.1 q (mj_W_ob hq) hcl.1 k hk (hC.2.2.2.2.2.1 _ hw) (fun _ z => z) (by rw [mj_fs_at (by rw [hcl.2.2.2.2]; exact hk), h0]; rfl) hd (hK _ _ _ _ _ _ _ _ _ _ h p l e s m args below meth c D cs B A ad0 n0 ad H locs lsr hC hR hL)
theorem k_pI {M : mj_M} {pc : Nat} {ci k idx N : Nat} {C : String} {T : u_T} {ty : Nat → FieldType} (hcl : mj_cl ci C T N ty) (hk : k < N) (h0 : mj_kd ci k = 0) (hty : ty k = .int) (hw : Cond.fieldLink M.1.cls idx (T k).1 (T k).2.1 (T k).2.2.1 ∈ mj_wd) (hfin : (T k).2.2.2 = false) (hd : decode M.2.1 pc = .ok (.putfield idx, 3)) : mj_ok M pc (o_pI ci k (pc + 3)) := by
  intro Q K hK ls st sh FR IA LA n kc ks h
  rcases st with _ | ⟨x | x, _ | ⟨q | q | q | q, st⟩⟩ <;> first | exact False.elim h | skip
  obtain ⟨hq, h⟩ := h
  intro p l e s m args below meth c D cs B A ad0 n0 ad H locs lsr hC hR hL
  refine va_put (v := Value.int (Int32.ofInt x)) (ty := .int) hC.1 hC.2.1 hC.2.2.2.2.2.1 hcl.2.1 ty hcl.2.2.1 hcl.2.2.2.1 hC.2.2.2.2.1 hC.2.2.2.2.2.2.2.1 hR.1 hR.2.1 hR.2.2.1 q (mj_W_ob hq) hcl.1 k hk (hC.2.2.2.2.2.1 _ hw) (fun _ z => z) hfin (by rw [hcl.2.2.1 k hk, hty]) rfl rfl (by rw [mj_fs_len, hcl.2.2.2.2]; exact hk) hd fun H1 locs1 hP1 hD1 hS1 => ?_
  rw [mj_W_sI hq (by rw [hcl.2.2.2.2]; exact hk) h0] at hP1 hD1
  exact hK _ _ _ _ _ _ _ _ _ _ h p l e s m args below meth c D cs B A ad0 n0 ad H1 locs1 lsr hC ⟨hP1, hD1, hS1, hR.2.2.2⟩ hL
theorem k_pZ {M : mj_M} {pc : Nat} {ci k idx N : Nat} {C : String} {T : u_T} {ty : Nat → FieldType} (hcl : mj_cl ci C T N ty) (hk : k < N) (h0 : mj_kd ci k = 0) (hty : ty k = .boolean) (hw : Cond.fieldLink M.1.cls idx (T k).1 (T k).2.1 (T k).2.2.1 ∈ mj_wd) (hfin : (T k).2.2.2 = false) (hd : decode M.2.1 pc = .ok (.putfield idx, 3)) : mj_ok M pc (o_pZ ci k (pc + 3)) := by
  intro Q K hK ls st sh FR IA LA n kc ks h
  rcases st with _ | ⟨x | x, _ | ⟨q | q | q | q, st⟩⟩ <;> first | exact False.elim h | skip
  obtain ⟨hq, hx, h⟩ := h
  intro p l e s m args below meth c D cs B A ad0 n0 ad H locs lsr hC hR hL
  refine va_put (v := Value.int (Int32.ofInt x)) (ty := .boolean) hC.1 hC.2.1 hC.2.2.2.2.2.1 hcl.2.1 ty hcl.2.2.1 hcl.2.2.2.1 hC.2.2.2.2.1 hC.2.2.2.2.2.2.2.1 hR.1 hR.2.1 hR.2.2.1 q (mj_W_ob hq) hcl.1 k hk (hC.2.2.2.2.2.1 _ hw) (fun _ z => z) hfin (by rw [hcl.2.2.1 k hk, hty]) (by rcases hx with rfl | rfl <;> rfl) (by rcases hx with rfl | rfl <;> rfl) (by rw [mj_fs_len, hcl.2.2.2.2]; exact hk) hd fun H1 locs1 hP1 hD1 hS1 => ?_
  rw [mj_W_sI hq (by rw [hcl.2.2.2.2]; exact hk) h0] at hP1 hD1
  exact hK _ _ _ _ _ _ _ _ _ _ h p l e s m args below meth c D cs B A ad0 n0 ad H1 locs1 lsr hC ⟨hP1, hD1, hS1, hR.2.2.2⟩ hL
theorem k_pL {M : mj_M} {pc : Nat} {ci k idx N : Nat} {C : String} {T : u_T} {ty : Nat → FieldType} (hcl : mj_cl ci C T N ty) (hk : k < N) (h0 : mj_kd ci k = 2) (hty : ty k = .long) (hw : Cond.fieldLink M.1.cls idx (T k).1 (T k).2.1 (T k).2.2.1 ∈ mj_wd) (hfin : (T k).2.2.2 = false) (hd : decode M.2.1 pc = .ok (.putfield idx, 3)) : mj_ok M pc (o_pL ci k (pc + 3)) := by
  intro Q K hK ls st sh FR IA LA n kc ks h
  rcases st with _ | ⟨x | x | x, _ | ⟨q | q | q | q, st⟩⟩ <;> first | exact False.elim h | skip
  obtain ⟨hq, h⟩ := h
  intro p l e s m args below meth c D cs B A ad0 n0 ad H locs lsr hC hR hL
  refine va_put (v := Value.long (Int64.ofBitVec x)) (ty := .long) hC.1 hC.2.1 hC.2.2.2.2.2.1 hcl.2.1 ty hcl.2.2.1 hcl.2.2.2.1 hC.2.2.2.2.1 hC.2.2.2.2.2.2.2.1 hR.1 hR.2.1 hR.2.2.1 q (mj_W_ob hq) hcl.1 k hk (hC.2.2.2.2.2.1 _ hw) (fun _ z => z) hfin (by rw [hcl.2.2.1 k hk, hty]) rfl rfl (by rw [mj_fs_len, hcl.2.2.2.2]; exact hk) hd fun H1 locs1 hP1 hD1 hS1 => ?_
  rw [mj_W_sL hq (by rw [hcl.2.2.2.2]; exact hk) h0] at hP1 hD1
  exact hK _ _ _ _ _ _ _ _ _ _ h p l e s m args below meth c D cs B A ad0 n0 ad H1 locs1 lsr hC ⟨hP1, hD1, hS1, hR.2.2.2⟩ hL
theorem k_pR {M : mj_M} {pc : Nat} {ci k idx N : Nat} {C : String} {T : u_T} {ty : Nat → FieldType} (hcl : mj_cl ci C T N ty) (hk : k < N) (h0 : mj_kd ci k = 1) (hty : (∃ nn, ty k = .object nn) ∨ ∃ t, ty k = .array t) (hw : Cond.fieldLink M.1.cls idx (T k).1 (T k).2.1 (T k).2.2.1 ∈ mj_wd) (hfin : (T k).2.2.2 = false) (hd : decode M.2.1 pc = .ok (.putfield idx, 3)) : mj_ok M pc (o_pR ci k (pc + 3)) := by
  intro Q K hK ls st sh FR IA LA n kc ks h
  rcases st with _ | ⟨r | r | r | r, _ | ⟨q | q | q | q, st⟩⟩ <;> first | exact False.elim h | skip
  obtain ⟨hq, h⟩ := h
  intro p l e s m args below meth c D cs B A ad0 n0 ad H locs lsr hC hR hL
  refine va_put (v := mj_rf B ad (.inl r)) (ty := ty k) hC.1 hC.2.1 hC.2.2.2.2.2.1 hcl.2.1 ty hcl.2.2.1 hcl.2.2.2.1 hC.2.2.2.2.1 hC.2.2.2.2.2.2.2.1 hR.1 hR.2.1 hR.2.2.1 q (mj_W_ob hq) hcl.1 k hk (hC.2.2.2.2.2.1 _ hw) (fun _ z => z) hfin (hcl.2.2.1 k hk) (by rcases hty with ⟨nn, e⟩ | ⟨t, e⟩ <;> rw [e] <;> rfl) (by rcases hty with ⟨nn, e⟩ | ⟨t, e⟩ <;> rw [e] <;> rfl) (by rw [mj_fs_len, hcl.2.2.2.2]; exact hk) hd fun H1 locs1 hP1 hD1 hS1 => ?_
  rw [mj_W_sR (r := .inl r) hq (by rw [hcl.2.2.2.2]; exact hk) h0] at hP1 hD1
  exact hK _ _ _ _ _ _ _ _ _ _ h p l e s m args below meth c D cs B A ad0 n0 ad H1 locs1 lsr hC ⟨hP1, hD1, hS1, hR.2.2.2⟩ hL
theorem k_pRF {M : mj_M} {pc : Nat} {ci k idx N : Nat} {C : String} {T : u_T} {ty : Nat → FieldType} (hcl : mj_cl ci C T N ty) (hk : k < N) (h0 : mj_kd ci k = 1) (hty : (∃ nn, ty k = .object nn) ∨ ∃ t, ty k = .array t) (hw : Cond.fieldLink M.1.cls idx (T k).1 (T k).2.1 (T k).2.2.1 ∈ mj_wd) (hfin : (T k).2.2.2 = true) (hin : M.1.name = "<init>") (hde : (T k).1 = M.1.cls) (hd : decode M.2.1 pc = .ok (.putfield idx, 3)) : mj_ok M pc (o_pR ci k (pc + 3)) := by
  intro Q K hK ls st sh FR IA LA n kc ks h
  rcases st with _ | ⟨r | r | r | r, _ | ⟨q | q | q | q, st⟩⟩ <;> first | exact False.elim h | skip
  obtain ⟨hq, h⟩ := h
  intro p l e s m args below meth c D cs B A ad0 n0 ad H locs lsr hC hR hL
  refine va_putF (v := mj_rf B ad (.inl r)) (ty := ty k) hC.1 hC.2.1 hC.2.2.2.2.2.1 hcl.2.1 ty hcl.2.2.1 hcl.2.2.2.1 hC.2.2.2.2.1 hC.2.2.2.2.2.2.2.1 hR.1 hR.2.1 hR.2.2.1 q (mj_W_ob hq) hcl.1 k hk (hC.2.2.2.2.2.1 _ hw) (fun _ z => z) hfin (hC.2.2.2.2.2.2.2.2.2.1.trans hin) hde (hcl.2.2.1 k hk) (by rcases hty with ⟨nn, e⟩ | ⟨t, e⟩ <;> rw [e] <;> rfl) (by rcases hty with ⟨nn, e⟩ | ⟨t, e⟩ <;> rw [e] <;> rfl) (by rw [mj_fs_len, hcl.2.2.2.2]; exact hk) hd fun H1 locs1 hP1 hD1 hS1 => ?_
  rw [mj_W_sR (r := .inl r) hq (by rw [hcl.2.2.2.2]; exact hk) h0] at hP1 hD1
  exact hK _ _ _ _ _ _ _ _ _ _ h p l e s m args below meth c D cs B A ad0 n0 ad H1 locs1 lsr hC ⟨hP1, hD1, hS1, hR.2.2.2⟩ hL
/-! THE SCRIPT, THE STATIC TABLE -/
def o_tal (nx : Nat) : mj_Sem := fun _ K pc ls st sh FR IA LA n kc ks => match st with
  | .inl j :: .inr (.inr (.inr 2)) :: st => ∃ i : Nat, mj_w j = (i : Int) ∧ i < 6 ∧ K nx ls (.inr (.inl (mj_iw i)) :: st) sh FR IA LA n kc ks
  | _ => False
theorem k_tal {M : mj_M} {pc : Nat} (hd : decode M.2.1 pc = .ok (.laload, 1)) : mj_ok M pc (o_tal (pc + 1)) := by
  intro Q K hK ls st sh FR IA LA n kc ks h
  rcases st with _ | ⟨j | j, _ | ⟨q | q | q | q, st⟩⟩ <;> first | exact False.elim h | skip
  rcases q with _ | _ | _ | q <;> first | exact False.elim h | skip
  obtain ⟨i, hj, hi, h⟩ := h
  intro p l e s m args below meth c D cs B A ad0 n0 ad H locs lsr hC hR hL
  exact va_tl hC.1 hC.2.1 hC.2.2.2.2.2.2.2.2.2.2.2.2.2.1.2 hR.2.2.1 (mj_vpin hj hi) (v := .long (Int64.ofBitVec (mj_iw i))) (by rw [mj_clampi hj]) hd (hK _ _ _ _ _ _ _ _ _ _ h p l e s m args below meth c D cs B A ad0 n0 ad H locs lsr hC hR hL)
def o_gst (nx : Nat) : mj_Sem := fun _ K pc ls st sh FR IA LA n kc ks => K nx ls (.inr (.inr (.inr 2)) :: st) sh FR IA LA n kc ks
theorem k_gst {M : mj_M} {pc idx : Nat} (hd : decode M.2.1 pc = .ok (.getstatic idx, 3)) (hw : Cond.fieldLink M.1.cls idx mj_ixC mj_ixN mj_ixD ∈ mj_wd) : mj_ok M pc (o_gst (pc + 3)) := by
  intro Q K hK ls st sh FR IA LA n kc ks h
  intro p l e s m args below meth c D cs B A ad0 n0 ad H locs lsr hC hR hL
  exact va_gets hC.1 hC.2.1 hC.2.2.2.2.2.2.2.2.2.2.2.2.2.1.1 hR.2.2.1 hC.2.2.2.2.1 (hC.2.2.2.2.2.1 _ hw) (fun _ z => z) hd (hK _ _ _ _ _ _ _ _ _ _ h p l e s m args below meth c D cs B A ad0 n0 ad H locs lsr hC hR hL)
/-! MAKING -/
def mj_scr (n : Nat) (r : mj_R) : Prop := match r with
  | .inl q => q < n
  | .inr _ => True
def mj_scF (n : Nat) (FR : mj_FR) : Prop := ∀ q k, q < n → mj_scr n (FR q k)
def mj_nw {α : Type} (F : Nat → α) (n : Nat) (x : α) : Nat → α := fun a => if a = n then x else F a
theorem mj_nw_ne {α : Type} {F : Nat → α} {n a : Nat} {x : α} (h : a ≠ n) : mj_nw F n x a = F a := by simp [mj_nw, h]
theorem mj_nw_eq {α : Type} {F : Nat → α} {n : Nat} {x : α} : mj_nw F n x n = x := by simp [mj_nw]
theorem mj_scr_rf {B : mj_B} {ad ad' : Nat → Nat} {n : Nat} (had : ∀ i, i < n → ad' i = ad i) {r : mj_R} (h : mj_scr n r) : mj_rf B ad' r = mj_rf B ad r := by
  rcases r with x | x
  · show Value.ref (ad' x) = Value.ref (ad x)
    rw [had x h]
  · rcases x with _ | _ | x <;> rfl
theorem mj_ce_sc {cs : Nat → ClassId} {B : mj_B} {ad ad' : Nat → Nat} {n : Nat} (had : ∀ i, i < n → ad' i = ad i) {sh : Nat × Nat} {FR : Nat → mj_R} {IA : Nat → Int} {LA : Nat → BitVec 64} (h : ∀ k, mj_scr n (FR k)) : mj_ce cs B ad' sh FR IA LA = mj_ce cs B ad sh FR IA LA := by
  have e : mj_fs B ad' (sh.1 - 4) FR IA LA = mj_fs B ad (sh.1 - 4) FR IA LA := by
    unfold mj_fs
    refine List.map_congr_left fun k _ => ?_
    unfold mj_fv
    rw [mj_scr_rf had (h k)]
  unfold mj_ce
  rw [e]
theorem mj_W_new {cs : Nat → ClassId} {B : mj_B} {ad : Nat → Nat} {sh : mj_Sh} {FR : mj_FR} {IA : mj_FI} {LA : mj_LA} {n q : Nat} {s0 : Nat × Nat} {x : va_E} (hsc : mj_scF n FR)
    (hx : x = mj_ce cs B (mj_nw ad n q) s0 (fun _ => .inr 0) (fun _ => 0) (fun _ => 0)) :
    mj_W cs B ad sh FR IA LA n ++ [(q, x)] = mj_W cs B (mj_nw ad n q) (mj_nw sh n s0) (mj_nw FR n fun _ => .inr 0) (mj_nw IA n fun _ => 0) (mj_nw LA n fun _ => 0) (n + 1) := by
  unfold mj_W
  rw [List.range_succ, List.map_append, List.map_cons, List.map_nil]
  have hs : ∀ i, i < n → mj_nw ad n q i = ad i := fun i hi => mj_nw_ne (by omega)
  congr 1
  · refine List.map_congr_left fun i hi => ?_
    have hi : i < n := List.mem_range.mp hi
    have hne : i ≠ n := by omega
    rw [hs i hi, mj_nw_ne hne, mj_nw_ne hne, mj_nw_ne hne, mj_nw_ne hne, mj_ce_sc hs (hsc i · hi)]
  · rw [mj_nw_eq, mj_nw_eq, mj_nw_eq, mj_nw_eq, mj_nw_eq, hx]
def o_na (t C S nx : Nat) : mj_Sem := fun _ K pc ls st sh FR IA LA n kc ks => match st with
  | .inl x :: st => ∃ N : Nat, mj_w x = (N : Int) ∧ N ≤ 1000000 ∧ mj_scF n FR ∧ mj_scl n ls ∧ mj_scs n st ∧ kc + 1 ≤ C ∧ ks + N ≤ S ∧
      K nx ls (.inr (.inr (.inl n)) :: st) (mj_nw sh n (t, N)) (mj_nw FR n fun _ => .inr 0) (mj_nw IA n fun _ => 0) (mj_nw LA n fun _ => 0) (n + 1) (kc + 1) (ks + N)
  | _ => False
def o_new (ci nf C S nx : Nat) : mj_Sem := fun _ K pc ls st sh FR IA LA n kc ks => mj_scF n FR ∧ mj_scl n ls ∧ mj_scs n st ∧ kc + 1 ≤ C ∧ ks + nf ≤ S ∧
      K nx ls (.inr (.inr (.inl n)) :: st) (mj_nw sh n (ci + 4, 0)) (mj_nw FR n fun _ => .inr 0) (mj_nw IA n fun _ => 0) (mj_nw LA n fun _ => 0) (n + 1) (kc + 1) (ks + nf)
theorem mj_newR {cs : Nat → ClassId} {B : mj_B} {D : va_G} {A : Nat → Prop} {H0 H1 : Heap} {ad0 ad : Nat → Nat} {n0 n q : Nat} {sh : mj_Sh} {FR : mj_FR} {IA : mj_FI} {LA : mj_LA} {H : Heap} {locs : List Loc} {s0 : Nat × Nat} {x : va_E} (hR : mj_Rl cs B D A H0 ad0 n0 sh FR IA LA n ad H locs) (hsc : mj_scF n FR)
    (hx : x = mj_ce cs B (mj_nw ad n q) s0 (fun _ => .inr 0) (fun _ => 0) (fun _ => 0)) (hP1 : va_P D vwCl (mj_W cs B ad sh FR IA LA n ++ [(q, x)]) H1) (hD1 : va_D A (mj_W cs B ad sh FR IA LA n ++ [(q, x)])) (hS1 : va_S A H0 H1 locs) :
    mj_Rl cs B D A H0 ad0 n0 (mj_nw sh n s0) (mj_nw FR n fun _ => .inr 0) (mj_nw IA n fun _ => 0) (mj_nw LA n fun _ => 0) (n + 1) (mj_nw ad n q) H1 locs := by
  rw [mj_W_new hsc hx] at hP1 hD1
  have hn := hR.2.2.2.2
  refine ⟨hP1, hD1, hS1, fun i hi => ?_, by omega⟩
  rw [mj_nw_ne (by omega)]
  exact hR.2.2.2.1 i (by omega)
theorem k_na {M : mj_M} {pc t : Nat} {at0 : ArrayType} {ty : FieldType} (hd : decode M.2.1 pc = .ok (.newarray at0, 2)) (hty : newarray.typeOf at0 = ty) (ht : t = 0 ∧ ty = .int ∨ t = 1 ∧ ty = .byte ∨ t = 2 ∧ ty = .boolean ∨ t = 3 ∧ ty = .long) (hw : Cond.arrayClass ty ∈ mj_wd) : mj_ok M pc (o_na t M.2.2.2.2.1.cells M.2.2.2.2.1.slots (pc + 2)) := by
  intro Q K hK ls st sh FR IA LA n kc ks h
  rcases st with _ | ⟨x | x, st⟩ <;> first | exact False.elim h | skip
  obtain ⟨N, hx, hN, hsF, hsl, hss, hc, hs, h⟩ := h
  intro p l e s m args below meth c D cs B A ad0 n0 ad H locs lsr hC hR hL
  have hcl := mj_clampi hx
  have hneg : ¬ Int32.ofInt x < 0 := by
    rw [mj_z, mj_lt, mj_w0, hx]
    omega
  have hty0 : (mj_ty cs)[t]? = some (cs t, ty) := by
    rcases ht with ⟨rfl, rfl⟩ | ⟨rfl, rfl⟩ | ⟨rfl, rfl⟩ | ⟨rfl, rfl⟩ <;> rfl
  have hwn : ∀ i, i < n → mj_nw ad n 0 i = ad i := fun i hi => mj_nw_ne (by omega)
  refine va_newa hC.1 hC.2.1 (by rw [hty]; exact hC.2.2.2.2.2.1 _ hw) hty hC.2.2.2.2.2.2.2.1 hR.1 hR.2.1 hR.2.2.1 hC.2.2.2.2.2.2.2.2.1 (N' := N) (a0 := if t = 3 then (N, .inr (.inl fun _ => Int64.ofBitVec 0)) else (N, .inl fun _ => Int32.ofInt 0)) ?_ hneg hcl ?_ hc hs hd ?_
  · intro cA
    rcases ht with ⟨rfl, rfl⟩ | ⟨rfl, rfl⟩ | ⟨rfl, rfl⟩ | ⟨rfl, rfl⟩ <;> rfl
  · have hb : componentBytes ty ≤ 8 := by
      rcases ht with ⟨rfl, rfl⟩ | ⟨rfl, rfl⟩ | ⟨rfl, rfl⟩ | ⟨rfl, rfl⟩ <;> decide
    calc N * componentBytes ty ≤ 1000000 * 8 := Nat.mul_le_mul hN hb
      _ ≤ 536870912 := by decide
  · intro q cA H1 hK1 hP1 hD1 hS1
    have hcA : cA = cs t := by
      have h1 := (hC.2.2.2.2.2.2.2.1.2 t _ hty0).2
      have h2 := (hK1.2 4 (cA, ty) rfl).2
      rcases ht with ⟨rfl, rfl⟩ | ⟨rfl, rfl⟩ | ⟨rfl, rfl⟩ | ⟨rfl, rfl⟩
      · exact Option.some.inj (Eq.trans (Eq.symm h2) h1)
      · exact Option.some.inj (Eq.trans (Eq.symm h2) h1)
      · exact Option.some.inj (Eq.trans (Eq.symm h2) h1)
      · exact Option.some.inj (Eq.trans (Eq.symm h2) h1)
    have hs0 : ∀ i, i < n → mj_nw ad n q i = ad i := fun i hi => mj_nw_ne (by omega)
    have hR1 := mj_newR (s0 := (t, N)) hR hsF (by
      rw [hcA]
      rcases ht with ⟨rfl, rfl⟩ | ⟨rfl, rfl⟩ | ⟨rfl, rfl⟩ | ⟨rfl, rfl⟩ <;> rfl) hP1 hD1 hS1
    have hk := hK _ _ _ _ _ _ _ _ _ _ h p l e s m args below meth c D cs B A ad0 n0 (mj_nw ad n q) H1 locs lsr hC hR1 (hL.sc hs0 hsl)
    have e1 : (((.inr (.inr (.inl n)) : mj_V) :: st).map (mj_tv B (mj_nw ad n q))) = .ref q :: st.map (mj_tv B ad) := by
      rw [List.map_cons, mj_scs_tv hs0 hss]
      show Value.ref (mj_nw ad n q n) :: _ = _
      rw [mj_nw_eq]
    rw [e1] at hk
    exact hk
theorem k_new {M : mj_M} {pc ci idx nf : Nat} {C : String} {T : u_T} {ty : Nat → FieldType} (hd : decode M.2.1 pc = .ok (.new idx, 3)) (hcl : mj_cl ci C T nf ty) (hdf : ∀ k, k < nf → defaultValue (ty k) = mj_fv ((0, 0, fun _ => 0), 0) (fun _ => 0) (mj_kd ci k) (.inr 0) 0 0) (hw : Cond.classLink M.1.cls idx C ∈ mj_wd) (hi : Cond.instantiable C nf ∈ mj_wd) (hz : Cond.initialized C ∈ mj_wd) : mj_ok M pc (o_new ci nf M.2.2.2.2.1.cells M.2.2.2.2.1.slots (pc + 3)) := by
  intro Q K hK ls st sh FR IA LA n kc ks h
  obtain ⟨hsF, hsl, hss, hc, hs, h⟩ := h
  intro p l e s m args below meth c D cs B A ad0 n0 ad H locs lsr hC hR hL
  refine va_new (fs := mj_fs B ad ci (fun _ => .inr 0) (fun _ => 0) (fun _ => 0)) hC.1 hC.2.1 hC.2.2.2.2.2.1 hcl.2.1 ty hcl.2.2.1 hC.2.2.2.2.1 (hC.2.2.2.2.2.1 _ hw) (hC.2.2.2.2.2.1 _ hi) (hC.2.2.2.2.2.1 _ hz) hC.2.2.2.2.2.2.2.1 hR.1 hR.2.1 hR.2.2.1 hC.2.2.2.2.2.2.2.2.1 hcl.1 ?_ hc hs hd ?_
  · intro j hj
    rw [hdf j hj]
    unfold vp_V
    rw [List.getD_eq_getElem?_getD, mj_fs_at (by rw [hcl.2.2.2.2]; exact hj)]
    rfl
  · intro q H1 hP1 hD1 hS1
    have hs0 : ∀ i, i < n → mj_nw ad n q i = ad i := fun i hi => mj_nw_ne (by omega)
    have hR1 := mj_newR (s0 := (ci + 4, 0)) hR hsF (by
      rw [mj_ce_ob]
      rfl) hP1 hD1 hS1
    have hk := hK _ _ _ _ _ _ _ _ _ _ h p l e s m args below meth c D cs B A ad0 n0 (mj_nw ad n q) H1 locs lsr hC hR1 (hL.sc hs0 hsl)
    have e1 : (((.inr (.inr (.inl n)) : mj_V) :: st).map (mj_tv B (mj_nw ad n q))) = .ref q :: st.map (mj_tv B ad) := by
      rw [List.map_cons, mj_scs_tv hs0 hss]
      show Value.ref (mj_nw ad n q n) :: _ = _
      rw [mj_nw_eq]
    rw [e1] at hk
    exact hk
/-- Object's constructor -/
def o_oi (nx : Nat) : mj_Sem := fun _ K pc ls st sh FR IA LA n kc ks => match st with
  | .inr (.inr (.inl _)) :: st => mj_cts st ≤ 8 ∧ K nx ls st sh FR IA LA n kc ks
  | _ => False
theorem k_oi {M : mj_M} {pc idx : Nat} (hd : decode M.2.1 pc = .ok (.invokespecial idx, 3)) (hw : Cond.methodLink M.1.cls idx Lib.objectInit ∈ mj_wd) (hi : Cond.instanceMethod Lib.objectInit ∈ mj_wd) (hc0 : Cond.code Lib.objectInit ⟨#[0xb1]⟩ 1 none ∈ mj_wd) (hf : 1 ≤ M.2.2.2.2.1.frames) (hl : 20 ≤ M.2.2.2.2.1.locals) : mj_ok M pc (o_oi (pc + 3)) := by
  intro Q K hK ls st sh FR IA LA n kc ks h
  rcases st with _ | ⟨q | q | q | q, st⟩ <;> first | exact False.elim h | skip
  obtain ⟨h8, h⟩ := h
  intro p l e s m args below meth c D cs B A ad0 n0 ad H locs lsr hC hR hL
  refine W.objInit hC.1 hC.2.1 hC.2.2.2.2.1 (hC.2.2.2.2.2.1 _ hw) (hC.2.2.2.2.2.1 _ hi) (hC.2.2.2.2.2.1 _ hc0) rfl (hL.1.trans hC.2.2.2.1.symm) (a := ad q) (rest := st.map (mj_tv B ad)) rfl hd hf ?_ ?_
  · show 2 * 0 + ((st.map (mj_tv B ad)).map fun v => v.category).sum + 12 ≤ _
    rw [mj_cts_eq]
    omega
  · exact hK _ _ _ _ _ _ _ _ _ _ h p l e s m args below meth c D cs B A ad0 n0 ad H locs lsr hC hR hL
end
section
/-! constructors' calls, wide constants, the script -/
theorem k_callI {M N : mj_M} {pc idx na : Nat} (hd : decode M.2.1 pc = .ok (.invokespecial idx, 3)) (hf : mj_fit M N) (hh : M.2.2.2.2.2.1 = []) (hl : Cond.methodLink M.1.cls idx N.1 ∈ mj_wd) (hi : Cond.instanceMethod N.1 ∈ mj_wd) (hcode : Cond.code N.1 N.2.1 N.2.2.1 none ∈ mj_wd) (hn : N.1.name = "<init>")
    (hy : N.1.cls ≠ "java/lang/invoke/MethodHandle" ∧ N.1.cls ≠ "java/lang/invoke/VarHandle") (hna : (parseMethodDescriptor N.1.desc).map (fun d => d.parameters.length + 1) = some na) : mj_ok M pc (o_call N na M.2.2.2.2.1.cells M.2.2.2.2.1.slots (pc + 3) mj_ri) := by
  intro Q K hK ls st sh FR IA LA n kc ks h
  unfold o_call at h
  split at h
  · rename_i as st2 htk
    obtain ⟨hrc, h8, hc, hsl, Q', hCt, hk⟩ := h
    obtain ⟨a0, e1, e2, e3⟩ := mj_tk_eq _ _ _ _ _ htk
    rw [List.append_nil] at e1
    subst e1
    subst e2
    rcases as with _ | ⟨v | v | q | v, as⟩ <;> first | exact False.elim hrc | skip
    intro p l e s m args below meth c D cs B A ad0 n0 ad H locs lsr hC hR hL T0 hT X
    subst hT
    have hw := hC.2.2.2.2.2.1
    have hpl : e.platform.magicAccessors = ({} : Platform).magicAccessors := by rw [X.admits.platform]
    have hlen : ∀ sig, parseMethodDescriptor N.1.desc = some sig → (as.map (mj_tv B ad)).length = sig.parameters.length := by
      intro sig hs
      rw [hs] at hna
      have h0 : sig.parameters.length + 1 = na := Option.some.inj hna
      rw [List.length_cons] at e3
      rw [List.length_map]
      omega
    obtain ⟨mk, methM, cM, kP, vm₁, hnamed, hmethM, hcodeM, -, hlocalsM, -, hkP, -, hW₁, hstep₁⟩ := Steps.initColdArgs (e := e) X.here hC.1 X.warmed hpl hC.2.2.2.2.1 hn hy (hw _ hl) (hw _ hi) (hw _ hcode) (f := F0 m pc lsr (((.inr (.inr (.inl q)) :: as).reverse ++ st2).map (mj_tv B ad))) rfl (a := ad q) (argsL := as.map (mj_tv B ad)) (rest := st2.map (mj_tv B ad)) hlen (by simp [mj_tv, mj_rf]) (by rw [hC.2.1]; exact hd)
    have X₁ := X.noted hW₁
    obtain ⟨t, hst, hm⟩ := mj_core (T := T0.setVm vm₁) hC hR X₁ hL hd (X₁.named hnamed) hCt hf hh h8 hc hsl hK hk
    exact ⟨t, hstep₁ _ (fun acts => by rw [doInvoke_state]; exact hst), hm⟩
  · exact False.elim h
theorem k_callIN {M N : mj_M} {pc idx na : Nat} {host : String} (hd : decode M.2.1 pc = .ok (.invokespecial idx, 3)) (hf : mj_fit M N) (hh : M.2.2.2.2.2.1 = []) (hl : (M.1.cls, idx, N.1, host) ∈ mj_wn) (hi : Cond.instanceMethod N.1 ∈ mj_wd) (hcode : Cond.code N.1 N.2.1 N.2.2.1 none ∈ mj_wd) (hn : N.1.name = "<init>")
    (hy : N.1.cls ≠ "java/lang/invoke/MethodHandle" ∧ N.1.cls ≠ "java/lang/invoke/VarHandle") (hna : (parseMethodDescriptor N.1.desc).map (fun d => d.parameters.length + 1) = some na) : mj_ok M pc (o_call N na M.2.2.2.2.1.cells M.2.2.2.2.1.slots (pc + 3) mj_ri) := by
  intro Q K hK ls st sh FR IA LA n kc ks h
  unfold o_call at h
  split at h
  · rename_i as st2 htk
    obtain ⟨hrc, h8, hc, hsl, Q', hCt, hk⟩ := h
    obtain ⟨a0, e1, e2, e3⟩ := mj_tk_eq _ _ _ _ _ htk
    rw [List.append_nil] at e1
    subst e1
    subst e2
    rcases as with _ | ⟨v | v | q | v, as⟩ <;> first | exact False.elim hrc | skip
    intro p l e s m args below meth c D cs B A ad0 n0 ad H locs lsr hC hR hL T0 hT X
    subst hT
    have hw := hC.2.2.2.2.2.1
    have hpl : e.platform.magicAccessors = ({} : Platform).magicAccessors := by rw [X.admits.platform]
    have hlen : ∀ sig, parseMethodDescriptor N.1.desc = some sig → (as.map (mj_tv B ad)).length = sig.parameters.length := by
      intro sig hs
      rw [hs] at hna
      have h0 : sig.parameters.length + 1 = na := Option.some.inj hna
      rw [List.length_cons] at e3
      rw [List.length_map]
      omega
    have hlk : (Cond.methodLinkNest M.1.cls idx N.1 host).before args s = true := va_Nw.use rfl (hC.2.2.2.2.2.2.2.2.2.2.2.2.2.2.1 _ hl)
    obtain ⟨mk, methM, cM, kP, vm₁, hnamed, hmethM, hcodeM, -, hlocalsM, -, hkP, -, hW₁, hstep₁⟩ := Steps.initColdArgsNest (e := e) X.here hC.1 X.warmed hpl hC.2.2.2.2.1 hn hy hlk (hw _ hi) (hw _ hcode) (f := F0 m pc lsr (((.inr (.inr (.inl q)) :: as).reverse ++ st2).map (mj_tv B ad))) rfl (a := ad q) (argsL := as.map (mj_tv B ad)) (rest := st2.map (mj_tv B ad)) hlen (by simp [mj_tv, mj_rf]) (by rw [hC.2.1]; exact hd)
    have X₁ := X.noted hW₁
    obtain ⟨t, hst, hm⟩ := mj_core (T := T0.setVm vm₁) hC hR X₁ hL hd (X₁.named hnamed) hCt hf hh h8 hc hsl hK hk
    exact ⟨t, hstep₁ _ (fun acts => by rw [doInvoke_state]; exact hst), hm⟩
  · exact False.elim h
theorem k_ldcw {M : mj_M} {pc : Nat} {v : Int} {idx : Nat} (hd : decode M.2.1 pc = .ok (.ldc_w idx, 3)) (hw : Cond.constant M.1.cls idx (Int32.ofInt v) ∈ mj_wd) : mj_ok M pc (o_ic v (pc + 3)) := by
  intro Q K hK ls st sh FR IA LA n kc ks h
  intro p l e s m args below meth c D cs B A ad0 n0 ad H locs lsr hC hR hL
  exact lv_ldcw hC.1 hC.2.1 hC.2.2.2.2.1 (hC.2.2.2.2.2.1 _ hw) hd (hK _ _ _ _ _ _ _ _ _ _ h p l e s m args below meth c D cs B A ad0 n0 ad H locs lsr hC hR hL)
def o_sal (L : Nat) (sc : Nat → Int) (nx : Nat) : mj_Sem := fun _ K pc ls st sh FR IA LA n kc ks => match st with
  | .inl j :: .inr (.inr (.inr 1)) :: st => ∃ i : Nat, mj_w j = (i : Int) ∧ i < L ∧ K nx ls (.inl (sc i) :: st) sh FR IA LA n kc ks
  | _ => False
theorem k_sal {M : mj_M} {pc : Nat} (hd : decode M.2.1 pc = .ok (.iaload, 1)) (hl : M.1.name = "law") : mj_ok M pc (o_sal M.2.2.2.2.2.2.1 M.2.2.2.2.2.2.2 (pc + 1)) := by
  intro Q K hK ls st sh FR IA LA n kc ks h
  rcases st with _ | ⟨j | j, _ | ⟨q | q | q | q, st⟩⟩ <;> first | exact False.elim h | skip
  rcases q with _ | _ | q <;> first | exact False.elim h | skip
  obtain ⟨i, hj, hi, h⟩ := h
  intro p l e s m args below meth c D cs B A ad0 n0 ad H locs lsr hC hR hL
  obtain ⟨hX, hb, hnA⟩ := hC.2.2.2.2.2.2.2.2.2.2.2.2.1 hl
  refine va_sld hC.1 hC.2.1 hX hb hnA hR.2.2.1 (mj_vpin hj hi) hd ?_
  rw [mj_clampi hj]
  exact hK _ _ _ _ _ _ _ _ _ _ h p l e s m args below meth c D cs B A ad0 n0 ad H locs lsr hC hR hL
def o_slen (L nx : Nat) : mj_Sem := fun _ K pc ls st sh FR IA LA n kc ks => match st with
  | .inr (.inr (.inr 1)) :: st => K nx ls (.inl (L : Int) :: st) sh FR IA LA n kc ks
  | _ => False
theorem k_slen {M : mj_M} {pc : Nat} (hd : decode M.2.1 pc = .ok (.arraylength, 1)) (hl : M.1.name = "law") : mj_ok M pc (o_slen M.2.2.2.2.2.2.1 (pc + 1)) := by
  intro Q K hK ls st sh FR IA LA n kc ks h
  rcases st with _ | ⟨q | q | q | q, st⟩ <;> first | exact False.elim h | skip
  rcases q with _ | _ | q <;> first | exact False.elim h | skip
  intro p l e s m args below meth c D cs B A ad0 n0 ad H locs lsr hC hR hL
  obtain ⟨hX, hb, hnA⟩ := hC.2.2.2.2.2.2.2.2.2.2.2.2.1 hl
  refine va_slen hC.1 hC.2.1 hX hb hnA hR.2.2.1 hd ?_
  rw [← Int32.ofInt_eq_ofNat]
  exact hK _ _ _ _ _ _ _ _ _ _ h p l e s m args below meth c D cs B A ad0 n0 ad H locs lsr hC hR hL
theorem mj_c0 {M : mj_M} : mj_Code M [] := fun _ h => absurd h List.not_mem_nil
theorem mj_c1 {M : mj_M} {pc : Nat} {o : mj_Sem} {r : List (Nat × mj_Sem)} (h : mj_ok M pc o) (hr : mj_Code M r) : mj_Code M ((pc, o) :: r) := List.forall_mem_cons.mpr ⟨h, hr⟩
end
section
/-! THROWING: a new exception with a message, thrown out of the method -/
def th_R : String := "java/lang/RuntimeException"
def th_E : String := "java/lang/Exception"
/-- the words that the making of an exception of the class X asks for -/
def th_ws (own : String) (ic : Nat) (X : String) (ix : Nat) (bytes : ByteArray) : List Cond :=
  Bundle.throwableAtoms ++ (Bundle.throwableSAtoms ++ (Bundle.passSAtoms X th_R ix bytes ++ (Bundle.chainSAtoms th_R [th_E] ++
  [.methodLink own ic (Bundle.initS X), .instantiable X 6, .selects X Bundle.tFill0 Bundle.tFill0, .selects X Bundle.tFill Bundle.tFill,
   .lays X Bundle.tN "cause" "Ljava/lang/Throwable;", .lays X Bundle.tN "stackTrace" Bundle.steD, .lays X Bundle.tN "suppressedExceptions" Bundle.listD, .lays X Bundle.tN "detailMessage" "Ljava/lang/String;",
   .isRef (.static Bundle.tN "UNASSIGNED_STACK" Bundle.steD), .isRef (.static Bundle.tN "SUPPRESSED_SENTINEL" Bundle.listD),
   .fieldLink Bundle.tN 198 Bundle.tN "backtrace" "Ljava/lang/Object;", .lays Bundle.tN Bundle.tN "backtrace" "Ljava/lang/Object;", .lays X Bundle.tN "backtrace" "Ljava/lang/Object;"])))
section TH
variable {p : Program} {l : Launch} {e : Env} {R : Room} {s : State} {m : MethodId} {args : Array Value} {below : List Frame} {meth : Method} {c : Code} {T : State} {locs : List Loc} {cells slots : Nat}
set_option maxHeartbeats 4000000 in
theorem th_make (X : Stand p l e R s m args below meth c T locs cells slots) (hexec : p.tables.exec = Jvm.exec) (htr : e.platform.stackTraces = false) {own C : String} {ic ix : Nat} {bytes : ByteArray} (hown : s.vm.findClass own = some m.cls)
    (hfit : Bundle.fit C = true) (b0 : decode bytes 0 = .ok (.aload_n 0, 1)) (b1 : decode bytes 1 = .ok (.aload_n 1, 1)) (b2 : decode bytes 2 = .ok (.invokespecial ix, 3)) (b5 : decode bytes 5 = .ok (.return_, 1))
    (hws : ∀ w ∈ th_ws own ic C ix bytes, w.before args s = true) (hst : ∀ (c : ClassId) (k : Class) (i : Nat) (f : Field) (a : Nat) (cell : Cell), s.fieldFound? Bundle.tN "UNASSIGNED_STACK" Bundle.steD = some (c, k, i, f) → k.statics = some a → s.heap[a]? = some cell → T.heap[a]? = some cell)
    {a : Addr} {cX : ClassId} {kX : Class} (hfX : s.vm.findClass C = some cX) (hkX : s.vm.classes[cX]? = some kX) (hcell : T.heap[a]? = some (freshCell cX kX)) (hnew : s.heap.size ≤ a)
    {msg : Value} (hmsg : msg.isRef = true) {g : JFrame} (hg : g.method = m) (hsize : g.locals.size = c.maxLocals) {rest : List Value} (hstack : g.stack = msg :: .ref a :: rest) (hmon : 2 * g.monitorRoom + (rest.map fun v => v.category).sum ≤ 8)
    (hd : decode c.code g.pc = .ok (.invokespecial ic, 3)) (hRf : 5 < R.frames) (hRl : 100 ≤ R.locals) :
    ∃ (vm' : Vm) (cE : Cell) (L : List Loc), Stand p l e R s m args below meth c ((T.setVm vm').setCell a cE) (locs ++ L) cells slots ∧ (∀ q ∈ L, q.base = a) ∧ cE.cls = cX ∧ cE.vm = .none ∧
      ∀ target, Steps p.tables e below (((T.setVm vm').setCell a cE).setTop { g with pc := g.pc + 3, stack := rest }) target → Steps p.tables e below (T.setTop g) target := by
  have howns : e.platform.frameOwnsMonitors = true := by rw [X.admits.platform]
  have hfin : e.platform.finalization = false := by rw [X.admits.platform]
  have hpl : e.platform.magicAccessors = ({} : Platform).magicAccessors := by rw [X.admits.platform]
  have hw : ∀ w, w ∈ th_ws own ic C ix bytes → w.holds args s none s [] = true := fun w hw => hws w hw
  obtain ⟨Th, Z0, Lk, -, Y⟩ := ThrowableC.of_atoms (args := args) howns hfin hpl (fun w h => hws w (by simp [th_ws, h]))
  obtain ⟨Z, Mg, LZ, LM, hnZ⟩ := Init0T.ofS_atoms (args := args) hpl Lk Y (fun w h => hws w (by simp [th_ws, h]))
  obtain ⟨P0, LP0, hm0, hs0⟩ := PassC.ofS_atoms (args := args) (s := s) hpl (X := C) (Y := th_R) (Bundle.fit_spec hfit).1 (by decide) b0 b1 b2 b5 (fun w h => hws w (by simp [th_ws, h]))
  obtain ⟨P1, Ps, hlen, LP1, hLs, hm1, hk1, hk2⟩ := Bundle.chainS (args := args) hpl hnZ [th_E] th_R (by decide) (by decide) (fun w h => hws w (by simp [th_ws, h]))
  have hsup : P0.sup = P1.m := Option.some.inj (hs0.symm.trans hm1)
  have hc0 : P0.m.cls = cX := Option.some.inj ((findClass_of_methodNamed hm0).symm.trans hfX)
  have hsel : ∀ (y : MethodName) (r : MethodId), s.methodNamed? y = some r → (y.cls ≠ "java/lang/invoke/MethodHandle" ∧ y.cls ≠ "java/lang/invoke/VarHandle") → (Cond.selects C y y).holds args s none s [] = true → selectMethod e.platform s.vm cX r = .method r := by
    intro y r hy hne h
    obtain ⟨c2, r2, m2, q1, q2, q3, q4, -⟩ := Cond.selects_spec h
    cases Option.some.inj (q1.symm.trans hfX)
    cases Option.some.inj (q2.symm.trans (State.methodFound?_of_named hy hne))
    cases Option.some.inj (q3.symm.trans hy)
    rw [Launch.admits_selectMethod X.admits]
    exact q4
  have hsel0 := hsel _ _ Y.fill0 (by decide) (hw (.selects C Bundle.tFill0 Bundle.tFill0) (by simp [th_ws]))
  have hselF := hsel _ _ Y.fill (by decide) (hw (.selects C Bundle.tFill Bundle.tFill) (by simp [th_ws]))
  obtain ⟨c1, kX', hc1, hk, hord, -, -, -⟩ := Cond.instantiable_spec (hw (.instantiable C 6) (by simp [th_ws]))
  cases Option.some.inj (hc1.symm.trans hfX)
  cases Option.some.inj (hkX.symm.trans hk)
  obtain ⟨cellS, hcS, hiS⟩ := Y.statics
  have hcT := hst _ _ _ _ _ _ Y.unassigned Lk.statics hcS
  obtain ⟨u0, hu0⟩ := Cond.staticRefV Y.unassigned Lk.unassignedStatic Lk.statics hcS hiS (hw (.isRef (.static Bundle.tN "UNASSIGNED_STACK" Bundle.steD)) (by simp [th_ws]))
  obtain ⟨sen, hsen⟩ := Cond.staticRefV Y.sentinel Lk.sentinelStatic Lk.statics hcS hiS (hw (.isRef (.static Bundle.tN "SUPPRESSED_SENTINEL" Bundle.listD)) (by simp [th_ws]))
  obtain ⟨ci8, i8, fB, hkB, hgB, haB, hsB, -, hnB, htB, hfB⟩ := Cond.ownField (t := .object "java/lang/Object") Y.found Lk.cls (by decide +kernel) (hw (.fieldLink Bundle.tN 198 Bundle.tN "backtrace" "Ljava/lang/Object;") (by simp [th_ws])) (hw (.lays Bundle.tN Bundle.tN "backtrace" "Ljava/lang/Object;") (by simp [th_ws])) e.platform hpl
  obtain ⟨iM, hfM⟩ := Y.msg
  obtain ⟨tC, dC, eC, nC⟩ := Cond.laysAt hfX hkX Y.cause (hw (.lays C Bundle.tN "cause" "Ljava/lang/Throwable;") (by simp [th_ws]))
  obtain ⟨tS, dS, eS, nS⟩ := Cond.laysAt hfX hkX Y.stack (hw (.lays C Bundle.tN "stackTrace" Bundle.steD) (by simp [th_ws]))
  obtain ⟨tP, dP, eP, nP⟩ := Cond.laysAt hfX hkX Y.supp (hw (.lays C Bundle.tN "suppressedExceptions" Bundle.listD) (by simp [th_ws]))
  obtain ⟨tM, dM, eM, nM⟩ := Cond.laysAt hfX hkX hfM (hw (.lays C Bundle.tN "detailMessage" "Ljava/lang/String;") (by simp [th_ws]))
  obtain ⟨tB, dB, eB, nB⟩ := Cond.laysAt hfX hkX hfB (hw (.lays C Bundle.tN "backtrace" "Ljava/lang/Object;") (by simp [th_ws]))
  have xC := Cond.laysApart eB eC nB nC (by rw [hnB, Y.causeName]; decide)
  have xS := Cond.laysApart eB eS nB nS (by rw [hnB, Y.stackName]; decide)
  have xP := Cond.laysApart eB eP nB nP (by rw [hnB, Y.suppName]; decide)
  have hneS : Th.aS ≠ a := Nat.ne_of_lt (Nat.lt_of_lt_of_le (Array.getElem?_eq_some_iff.mp hcS).1 hnew)
  have hskip : SkipFacts Th e.platform s (fun u => u) u0 ((preparedCellV Th.toThrowableT (freshCell cX kX) a u0 sen).withEntry T.cur) := by
    refine ⟨{ ci198 := ci8, i198 := i8, fBack := fB }, ⟨hkB, hgB, haB, hsB⟩, ?_, fun _ _ => rfl⟩
    have h := fresh_default (c := cX) tB
    rw [htB] at h
    simpa [preparedCellV, Cell.setSlot, Cell.withEntry, Array.getElem?_setIfInBounds, xC, xS, xP, xC.symm, xS.symm, xP.symm, defaultValue] using h
  obtain ⟨tm, methC, cdC, kC, vm1, hnC, -, -, -, -, -, -, -, hW1, st1⟩ := Steps.initColdS (tb := p.tables) (e := e) (below := below) (s := s) (U := T) X.here hexec X.warmed hpl hown (t := Bundle.initS C) rfl rfl (Bundle.fit_spec hfit).2
    (hw (.methodLink own ic (Bundle.initS C)) (by simp [th_ws])) (hws (.instanceMethod (Bundle.initS C)) (by simp [th_ws, Bundle.passSAtoms])) (bytes := bytes) (maxL := 2) (hws (.code (Bundle.initS C) bytes 2 none) (by simp [th_ws, Bundle.passSAtoms]))
    (f := g) hg (a := a) (msg := msg) (rest := rest) hstack hd
  cases Option.some.inj (hnC.symm.trans hm0)
  have X1 := X.noted hW1
  obtain ⟨vm2, X2, st2⟩ := X1.ctorMessageOffV hexec (g := { g with stack := rest }) hg hsize Th Lk Z LZ Mg LM (P0 :: P1 :: Ps)
    (fun P hP => by
      rcases List.mem_cons.mp hP with rfl | hP
      · exact LP0
      · rcases List.mem_cons.mp hP with rfl | hP
        · exact LP1
        · exact hLs P hP) ⟨hsup, hk1, hk2⟩ (u0 := u0) (sen := sen) (self := a) hmsg (cell := freshCell cX kX) (cellS := cellS)
    hcell (fun _ => by simp) (by simp) rfl rfl hsel0 hselF hcT hneS (by intro hu; rw [hu] at hiS; cases hiS) hu0 hsen
    (Takes.of_laid hkX hord tC (by rw [Y.causeType]; rfl)) (Takes.of_laid hkX hord tS (by rw [Y.stackType]; exact fits_refV_array _ u0)) (Takes.of_laid hkX hord tP (by rw [Y.suppType]; exact fits_refV_object _ sen))
    (Takes.of_laid hkX hord tM (by rw [Y.msgType]; exact fits_refV_object _ ⟨msg, hmsg⟩)) Y.objLocals hskip htr [] hd
    (by simp only [List.length_cons, hlen]; simp; omega) (by
      simp only [List.length_cons, hlen]
      have hm : 2 * ({ g with stack := rest } : JFrame).monitorRoom + (rest.map fun v => v.category).sum ≤ 8 := hmon
      simp
      simp at hm
      omega)
  refine ⟨vm2, plainBareV Th.toThrowableT (freshCell cX kX) a u0 sen msg, _, X2, ?_, rfl, rfl, fun target h => st1 _ (fun acts => ?_)⟩
  · intro q hq
    simp only [List.mem_cons, List.not_mem_nil, or_false] at hq
    rcases hq with rfl | rfl | rfl | rfl | rfl <;> rfl
  · rw [doInvoke_state]
    exact st2 _ h
end TH
/-- one of the words that throwing asks for is given -/
def th_ok (w : Cond) : Prop := w ∈ mj_wd ∨ (w, true) ∈ mj_tw ∨ w = .laysStatic Bundle.tN "UNASSIGNED_STACK" Bundle.steD ∨ w = .laysStatic Bundle.tN "SUPPRESSED_SENTINEL" Bundle.listD ∨ w = .isRef (.static Bundle.tN "UNASSIGNED_STACK" Bundle.steD) ∨ w = .isRef (.static Bundle.tN "SUPPRESSED_SENTINEL" Bundle.listD)
theorem mj_tw_on : ∀ q ∈ mj_tw, q.1.onTables = true := by decide +kernel
theorem th_hold {args : Array Value} {A : Nat → Prop} {s : State} (hw : ∀ w ∈ mj_wd, w.before args s = true) (hN : mj_Nw A s) {w : Cond} (h : th_ok w) : w.before args s = true := by
  rcases h with h | h | rfl | rfl | rfl | rfl
  · exact hw w h
  · exact va_tabs (mj_tw_on _ h) rfl (hN.2.1 _ h)
  · exact hN.2.2.1.lays
  · exact hN.2.2.2.1.lays
  · exact hN.2.2.1.isr
  · exact hN.2.2.2.1.isr
def o_thr (k C S : Nat) : mj_Sem := fun Q _ _ _ st sh FR IA LA n kc ks => match st with
  | [] => kc + 1 ≤ C ∧ ks + 6 ≤ S ∧ Q (.inr k) sh FR IA LA n
  | _ => False
set_option maxHeartbeats 4000000 in
theorem k_thr {M : mj_M} {pc ix sx ic jx k : Nat} {X tx : String} {bytes : ByteArray} (hd0 : decode M.2.1 pc = .ok (.new ix, 3)) (hd3 : decode M.2.1 (pc + 3) = .ok (.dup, 1)) (hd4 : decode M.2.1 (pc + 3 + 1) = .ok (.ldc sx, 2)) (hd6 : decode M.2.1 (pc + 3 + 1 + 2) = .ok (.invokespecial ic, 3)) (hd9 : decode M.2.1 (pc + 3 + 1 + 2 + 3) = .ok (.athrow, 1))
    (hX : mj_xn k = X) (hfit : Bundle.fit X = true) (b0 : decode bytes 0 = .ok (.aload_n 0, 1)) (b1 : decode bytes 1 = .ok (.aload_n 1, 1)) (b2 : decode bytes 2 = .ok (.invokespecial jx, 3)) (b5 : decode bytes 5 = .ok (.return_, 1))
    (hcl : Cond.classLink M.1.cls ix X ∈ mj_wd) (hins : Cond.instantiable X 6 ∈ mj_wd) (hini : Cond.initialized X ∈ mj_wd) (hstr : (M.1.cls, sx, tx) ∈ mj_wr) (hws : ∀ w ∈ th_ws M.1.cls ic X jx bytes, th_ok w) (hf : 5 < M.2.2.2.2.1.frames) (hl : 100 ≤ M.2.2.2.2.1.locals) (hh : M.2.2.2.2.2.1 = []) :
    mj_ok M pc (o_thr k M.2.2.2.2.1.cells M.2.2.2.2.1.slots) := by
  intro Q K hK ls st sh FR IA LA n kc ks h
  rcases st with _ | ⟨v, st⟩ <;> first | exact False.elim h | skip
  obtain ⟨hc, hs, hQ⟩ := h
  intro p l e s m args below meth c D cs B A ad0 n0 ad H locs lsr hC hR hL
  have hw := hC.2.2.2.2.2.1
  have hNw := hC.2.2.2.2.2.2.2.2.2.2.2.2.2.2
  have hown := hC.2.2.2.2.1
  obtain ⟨a0, hsR⟩ := hNw.2.2.2.2 _ hstr
  refine W.newc hC.1 hC.2.1 hown (hw _ hcl) (hw _ hins) (hw _ hini) (g := F0 m pc lsr []) rfl hd0 hc hs fun cX kX hfX hkX hord hsz => ?_
  refine W.eq (g2 := F0 m (pc + 3) lsr [.ref H.size]) rfl ?_
  refine lv_dup hC.1 hC.2.1 hd3 rfl ?_
  refine va_ldcS hC.1 hC.2.1 hown hsR hd4 ?_
  intro T hT X0
  have hS := hR.2.2.1
  have hTq : ∀ q : Nat, q < H.size → T.heap[q]? = H[q]? := by
    intro q hq
    rw [hT, Array.getElem?_push, if_neg (Nat.ne_of_lt hq)]
  have hstat : ∀ (c : ClassId) (k : Class) (i : Nat) (f : Field) (a : Nat) (cell : Cell), s.fieldFound? Bundle.tN "UNASSIGNED_STACK" Bundle.steD = some (c, k, i, f) → k.statics = some a → s.heap[a]? = some cell → T.heap[a]? = some cell := by
    intro c k i f a cell h1 h2 h3
    obtain ⟨c', k', i', f', a', cell', u, g1, g2, g3, g4, g5, g6, g7, g8, g9, g10, g11, g12⟩ := hNw.2.2.1
    cases h1.symm.trans g2
    cases Option.some.inj (h2.symm.trans g4)
    have hlt := (Array.getElem?_eq_some_iff.mp h3).1
    rw [hTq a (Nat.lt_of_lt_of_le hlt hS.1), hS.2.1 a hlt g12]
    exact h3
  obtain ⟨vm', cE, L, X1, hLb, hcE, hvE, hgo⟩ := th_make X0 hC.1 (hC.2.2.2.2.2.2.2.2.2.2.2.1 e X0.admits) hown hfit b0 b1 b2 b5 (fun w hw0 => th_hold hw hNw (hws w hw0)) hstat hfX hkX (a := H.size) (by rw [hT]; simp) hS.1 (msg := .ref a0) rfl
    (g := F0 m (pc + 3 + 1 + 2) lsr [.ref a0, .ref H.size, .ref H.size]) rfl (hL.1.trans hC.2.2.2.1.symm) (rest := [.ref H.size]) rfl (by show 2 * 0 + 1 ≤ 8; decide) (by rw [hC.2.1]; exact hd6) hf hl
  have hxt : ∀ x ∈ c.exceptionTable.toList, covers x (pc + 3 + 1 + 2 + 3) = false := by
    intro x hx
    have h9 := hC.2.2.2.2.2.2.2.2.2.2.1
    rw [hh, List.map_eq_nil_iff] at h9
    rw [h9] at hx
    cases hx
  obtain ⟨hst2, hrun, hend, hW2, hsame⟩ := X1.athrowLeaves hC.1 (g := F0 m (pc + 3 + 1 + 2 + 3) lsr [.ref H.size]) rfl rfl rfl hxt (a := H.size) (rest := []) rfl (by rw [hC.2.1]; exact hd9) hC.2.2.2.2.2.2.1
  have hTs : T.heap.size = H.size + 1 := by rw [hT]; simp
  have hUq : ∀ q : Nat, q < H.size → (((T.setVm vm').setCell H.size cE).setFrames (.throwing H.size :: below)).heap[q]? = H[q]? := by
    intro q hq
    rw [← hTq q hq]
    show ((T.setVm vm').setCell H.size cE).heap[q]? = T.heap[q]?
    simp [State.setCell, State.setVm, Array.getElem?_setIfInBounds, Nat.ne_of_gt hq]
  have hUs : (((T.setVm vm').setCell H.size cE).setFrames (.throwing H.size :: below)).heap.size = H.size + 1 := by
    rw [← hTs]
    show ((T.setVm vm').setCell H.size cE).heap.size = T.heap.size
    simp [State.setCell, State.setVm]
  have hUa : (((T.setVm vm').setCell H.size cE).setFrames (.throwing H.size :: below)).heap[H.size]? = some cE := by
    show ((T.setVm vm').setCell H.size cE).heap[H.size]? = some cE
    have : H.size < T.heap.size := by omega
    simp [State.setCell, State.setVm, Array.getElem?_setIfInBounds, this]
  have hlocA : ∀ q ∈ locs ++ L, A q.base := by
    intro q hq
    rcases List.mem_append.mp hq with h1 | h1
    · exact hS.2.2 q h1
    · rw [hLb q h1]
      exact hC.2.2.2.2.2.2.2.2.1 _ hS.1
  refine ⟨_, hgo _ hst2, .threw H.size, hrun, hend, ?_, locs ++ L, ⟨hW2, hsame.mono hc hs⟩, hlocA⟩
  refine ⟨.inr k, sh, FR, IA, LA, n, ad, hQ, ⟨H.size, rfl, cE, hUa, ?_, hvE⟩, ?_, hR.2.1, hR.2.2.2.1, hR.2.2.2.2, ?_, ?_⟩
  · rw [hX, hcE, hW2.alike.findClass]
    exact hfX
  · intro j q hq
    have h1 := hR.1 j q hq
    exact va_at.kept h1 (hUq q.1 (va_at.lt h1))
  · rw [hUs]
    have := hS.1
    omega
  · intro q hq hA
    rw [hUq q (Nat.lt_of_lt_of_le hq hS.1)]
    exact hS.2.1 q hq hA
end
section
/-! CATCHING: the search through a method's handlers, its classes resolved or not yet -/
section CA
variable {e : Env} {f : JFrame} {a : Addr}
theorem ca_go {Q : Handler → Pre} {E : CtlPost} {d : Bool} {acts : List Action} {s : State} {x : ExceptionTableEntry} {t : List ExceptionTableEntry} {c : ClassId} {cell : Cell} (hx : covers x f.pc = true) (h0 : x.catchType ≠ 0)
    (hl : s.vm.ClassLinks e.platform f.method.cls x.catchType c) (hcell : s.heap[a]? = some cell) (hobj : ∀ k, cell.vm ≠ .statics k) (hk : ∃ k, s.vm.classes[cell.cls]? = some k) (hc : ∃ k, s.vm.classes[c]? = some k) :
    wp (findHandler.go f a (x :: t)) Q E e d acts s ↔ if s.vm.assignable cell.cls c = true then Q (.found x.handlerPc) d acts (s.setVm (s.vm.noted f.method.cls x.catchType (.cls c)))
      else wp (findHandler.go f a t) Q E e d acts (s.setVm (s.vm.noted f.method.cls x.catchType (.cls c))) := by
  simp only [covers] at hx
  obtain ⟨h1, h2⟩ := (resolveClass_links e.toSetting hl).op (op := VmOp.resolveClass f.method.cls x.catchType) rfl
  have hal : s.vm.Alike (s.vm.noted f.method.cls x.catchType (.cls c)) := (Vm.Alike.refl s.vm).noted _ _ _
  obtain ⟨k1, g1⟩ := hk
  obtain ⟨k2, g2⟩ := hc
  obtain ⟨k3, g3, -⟩ := hal.2.2 _ _ g1
  obtain ⟨k4, g4, -⟩ := hal.2.2 _ _ g2
  have hfit : (s.vm.noted f.method.cls x.catchType (.cls c)).assignable cell.cls c = s.vm.assignable cell.cls c := by rw [hal.assignable]
  cases hb : s.vm.assignable cell.cls c <;> simp [findHandler.go, hx, h0, h1, h2, hcell, hobj, g3, g4, hfit, hb, VmOp.dirties, VmOp.acts]
/-- which handler takes an exception of the kind k thrown at pc -/
def ca_sel (own : String) (pc k : Nat) : List (Nat × Nat × Nat × Nat) → Nat → Prop
  | [], _ => False
  | q :: r, hp => q.1 ≤ pc ∧ pc < q.2.1 ∧ q.2.2.2 ≠ 0 ∧ ∃ j, Cond.classLink own q.2.2.2 (mj_xn j) ∈ mj_wd ∧ ((mj_xn j = mj_xn k ∧ (.castable (mj_xn k) (mj_xn j), true) ∈ mj_tw ∧ hp = q.2.2.1) ∨ ((.castable (mj_xn k) (mj_xn j), false) ∈ mj_tw ∧ ca_sel own pc k r hp))
theorem ca_find {own : String} {s : State} {args : Array Value} {A : Nat → Prop} {cell : Cell} {k hp : Nat} (hw : ∀ w ∈ mj_wd, w.before args s = true) (hN : mj_Nw A s) (hown : s.vm.findClass own = some f.method.cls) (hpl : e.platform.magicAccessors = ({} : Platform).magicAccessors) (hcl : s.vm.findClass (mj_xn k) = some cell.cls) (hv : cell.vm = .none) :
    ∀ (tb : List ExceptionTableEntry) (u : State), s.WarmedH u.vm → u.heap[a]? = some cell → ca_sel own f.pc k (tb.map fun h => (h.startPc, h.endPc, h.handlerPc, h.catchType)) hp →
      ∃ vm', s.WarmedH vm' ∧ ∀ (Q : Handler → Pre) (E : CtlPost) (d : Bool) (acts : List Action), wp (findHandler.go f a tb) Q E e d acts u ↔ Q (.found hp) d acts (u.setVm vm')
  | [], _, _, _, h => False.elim h
  | x :: t, u, hW, hc, hs => by
    obtain ⟨h1, h2, h3, j, hlk, hcase⟩ := hs
    have h1 : x.startPc ≤ f.pc := h1
    have h2 : f.pc < x.endPc := h2
    have h3 : x.catchType ≠ 0 := h3
    obtain ⟨cj, hfj, hlj⟩ := Cond.classLink_spec hown (hw _ hlk) e.platform hpl
    obtain ⟨-, hW1, -⟩ := State.classEntry (e := e) hW hlj
    have hlu : u.vm.ClassLinks e.platform f.method.cls x.catchType cj := hW.classLinks hlj
    have hx : covers x f.pc = true := by simp [covers, h1, h2]
    have hobj : ∀ z, cell.vm ≠ .statics z := fun z q => by rw [hv] at q; cases q
    have hkc : ∃ z, u.vm.classes[cell.cls]? = some z := Vm.classAt_of_findClass (name := mj_xn k) (by rw [hW.alike.findClass]; exact hcl)
    have hkj : ∃ z, u.vm.classes[cj]? = some z := Vm.classAt_of_findClass (name := mj_xn j) (by rw [hW.alike.findClass]; exact hfj)
    have has : u.vm.assignable cell.cls cj = s.vm.assignable cell.cls cj := by rw [hW.alike.assignable]
    rcases hcase with ⟨hjk, hct, rfl⟩ | ⟨hct, hr⟩
    · have hb := hN.2.1 _ hct
      have hb : s.vm.assignable cell.cls cj = true := by simpa [Cond.before, Cond.holds, Cond.value, hcl, hfj] using hb
      exact ⟨_, hW1, fun Q E d acts => by rw [ca_go hx h3 hlu hc hobj hkc hkj, has, hb, if_pos rfl]⟩
    · have hb := hN.2.1 _ hct
      have hb : s.vm.assignable cell.cls cj = false := by simpa [Cond.before, Cond.holds, Cond.value, hcl, hfj] using hb
      obtain ⟨vm', hWv, hgo⟩ := ca_find hw hN hown hpl hcl hv t (u.setVm (u.vm.noted f.method.cls x.catchType (.cls cj))) hW1 hc hr
      exact ⟨vm', hWv, fun Q E d acts => by rw [ca_go hx h3 hlu hc hobj hkc hkj, has, hb, if_neg (by decide), hgo]; rfl⟩
theorem ca_step {s : State} {r : List Frame} {pc : Nat} {vm' : Vm} (hfind : ∀ (Q : Handler → Pre) (E : CtlPost) (d : Bool) (acts : List Action), wp (findHandler f a) Q E e d acts s ↔ Q (.found pc) d acts (s.setVm vm')) :
    (stepThrowing e s a (.java f :: r)).Is ((s.setVm vm').setFrames (.java { f with pc := pc, stack := [.ref a] } :: r)) [] := by
  simp only [stepThrowing, searchFrame, vmDo]
  generalize hr : Sem.go _ e false [] s = res
  obtain ⟨as, rfl, ha⟩ := Sem.eq_ok_of hr (a := Handler.found pc) (s' := s.setVm vm') (acts' := []) (by simp [hfind _ _ _ _])
  exact ⟨rfl, ha⟩
end CA
section CB
variable {p : Program} {l : Launch} {e : Env} {R : Room} {s : State} {m : MethodId} {args : Array Value} {below : List Frame} {meth : Method} {c : Code} {T : State} {locs : List Loc} {cells slots : Nat}
theorem ca_at (X : Stand p l e R s m args below meth c T locs cells slots) (a : Addr) {g : JFrame} (hg : g.method = m) {pc : Nat} {vm' : Vm}
    (hfind : ∀ (Q : Handler → Pre) (E : CtlPost) (d : Bool) (acts : List Action), wp (findHandler g a) Q E e d acts ((T.setTop g).pushFrame (.throwing a)) ↔ Q (.found pc) d acts (((T.setTop g).pushFrame (.throwing a)).setVm vm')) {target : State}
    (hrest : Steps p.tables e below ((T.setVm vm').setTop { g with pc := pc, stack := [.ref a] }) target) : Steps p.tables e below ((T.setTop g).pushFrame (.throwing a)) target := by
  have h : At T g.method c below := by rw [hg]; exact X.here
  obtain ⟨hgo, hw⟩ := h.throwing a
  refine Steps.head hgo hw ?_
  rw [stepThread_throwing (frames_entered h.top _), (ca_step (s := (T.setTop g).pushFrame (.throwing a)) hfind).1]
  obtain ⟨g₀, hg0⟩ := Option.isSome_iff_exists.mp h.top
  obtain ⟨r, hr⟩ := State.topJava?_eq_some.mp hg0
  have hr' : (T.setVm vm').frames = .java g₀ :: r := hr
  have e1 : ((T.setTop g).pushFrame (.throwing a)).setVm vm' = ((T.setVm vm').setTop g).pushFrame (.throwing a) := rfl
  rw [State.setTop_of_frames _ hr'] at hrest
  rw [e1, State.pushFrame, State.setFrames_setFrames, State.setTop_of_frames _ hr', State.setFrames_setFrames, hr]
  exact hrest
end CB
end
section
theorem mj_Lr.s0 {B : mj_B} {ad : Nat → Nat} {lsr : Array Slot} {nL i : Nat} {v : Value} {ls : mj_L} (h : lv_has lsr nL ((i, v) :: (mj_lv B ad 0 ls).filter (fun q => !(q.1 == i) && !(q.1 + 1 == i && q.2.category == 2)))) : mj_Lr B ad lsr nL (mj_set (mj_kl ls i) i none) := by
  refine ⟨h.1, h.2.1, fun k x hx => ?_⟩
  rcases mj_get_set _ _ _ _ _ hx with ⟨e, f⟩ | ⟨hk, hx⟩
  · cases f
  · obtain ⟨hx, hc⟩ := mj_get_kl hx
    have hm := mj_lv_in B ad ls 0 k x hx
    rw [Nat.zero_add] at hm
    refine h.2.2 (k, _) (List.mem_cons_of_mem _ (List.mem_filter.mpr ⟨hm, ?_⟩))
    simp only [mj_tv_cat, Bool.and_eq_true, Bool.not_eq_true', beq_eq_false_iff_ne, Bool.and_eq_false_iff]
    refine ⟨hk, ?_⟩
    by_cases e : k + 1 = i
    · exact Or.inr fun z => hc ⟨e, (mj_tv_cat B ad x).symm.trans z⟩
    · exact Or.inl e
/-- kinds of exceptions, where their handlers go on behind the store, in which local they store -/
def mj_hf : List (Nat × Nat × Nat) → Nat → Option (Nat × Nat)
  | [], _ => none
  | q :: r, k => match Nat.beq q.1 k with
    | true => some q.2
    | false => mj_hf r k
def mj_afH (hm : List (Nat × Nat × Nat)) (K : mj_K) (pc : Nat) (ls : mj_L) (st : List mj_V) (n kc ks : Nat) (r : mj_O) (sh : mj_Sh) (FR : mj_FR) (IA : mj_FI) (LA : mj_LA) (n' : Nat) : Prop := match r with
  | .inl v => (n' = n ∨ (mj_scl n ls ∧ mj_scs n st)) ∧ K pc ls (v.toList ++ st) sh FR IA LA n' kc ks
  | .inr k => match mj_hf hm k with
    | some h => (n' = n ∨ mj_scl n ls) ∧ K h.1 (mj_set (mj_kl ls h.2) h.2 none) [] sh FR IA LA n' kc ks
    | none => False
def ca_hs (M : mj_M) (pc : Nat) (hm : List (Nat × Nat × Nat)) : Prop := ∀ k h, mj_hf hm k = some h → ∃ hp, ca_sel M.1.cls pc k M.2.2.2.2.2.1 hp ∧ h.2 < M.2.2.1 ∧ (decode M.2.1 hp = .ok (.astore h.2, 2) ∧ h.1 = hp + 2 ∨ ∃ kf : Fin 4, decode M.2.1 hp = .ok (.astore_n kf, 1) ∧ (kf : Nat) = h.2 ∧ h.1 = hp + 1)
section CD
variable {p : Program} {l : Launch} {e : Env} {R : Room} {s : State} {m : MethodId} {args : Array Value} {below : List Frame} {meth : Method} {c : Code} {T : State} {locs : List Loc} {kc ks : Nat}
set_option maxHeartbeats 4000000 in
theorem mj_coreH {M N : mj_M} {Q Q' : mj_Q} {K : mj_K} {D : va_G} {cs : Nat → ClassId} {B : mj_B} {A : Nat → Prop} {ad0 ad : Nat → Nat} {n0 n : Nat} {sh : mj_Sh} {FR : mj_FR} {IA : mj_FI} {LA : mj_LA} (hC : mj_Cx M p l e s m args meth c D cs B A) (hR : mj_Rl cs B D A s.heap ad0 n0 sh FR IA LA n ad T.heap locs)
    (X : Stand p l e M.2.2.2.2.1 s m args below meth c T locs kc ks) {lsr : Array Slot} {ls : mj_L} (hL : mj_Lr B ad lsr M.2.2.1 ls) {as st : List mj_V} {pc : Nat} {ig : Instr} (hd : decode M.2.1 pc = .ok (ig, 3)) {mk : MethodId} (hn : T.methodNamed? N.1 = some mk)
    (hCt : mj_Ct N as sh FR IA LA n Q') (hf : mj_fit M N) {hm : List (Nat × Nat × Nat)} (hH : ca_hs M pc hm) (h8 : mj_cts st ≤ 8) (hcells : kc + N.2.2.2.2.1.cells ≤ M.2.2.2.2.1.cells) (hslots : ks + N.2.2.2.2.1.slots ≤ M.2.2.2.2.1.slots)
    (hKG : ∀ pc ls st sh FR IA LA n kc ks, K pc ls st sh FR IA LA n kc ks → mj_G M Q pc ls st sh FR IA LA n kc ks)
    (hK : ∀ r sh' FR' IA' LA' n', Q' r sh' FR' IA' LA' n' → mj_afH hm K (pc + 3) ls st n (kc + N.2.2.2.2.1.cells) (ks + N.2.2.2.2.1.slots) r sh' FR' IA' LA' n') :
    ∃ t, Steps p.tables e below (doInvoke e (T.setTop (F0 m pc lsr (st.map (mj_tv B ad)))) [] mk ((as.map (mj_tv B ad)).toArray)).1 t ∧ mj_MQ M Q below s D cs B A ad0 n0 t := by
  have hdc : decode c.code pc = .ok (ig, 3) := by rw [hC.2.1]; exact hd
  have hAA : ∀ q, va_A (mj_W cs B ad sh FR IA LA n) T.heap.size q → A q := by
    intro q hq
    rcases hq with ⟨k, x, hk⟩ | hq
    · exact hR.2.1.2 k _ hk
    · exact hC.2.2.2.2.2.2.2.2.1 q (Nat.le_trans hR.2.2.1.1 hq)
  obtain ⟨o, t, hs1, hrun, hend, hq, L, hFE, hLA⟩ := mj_inv X (hCt l hC.2.2.2.2.2.2.2.2.2.2.2.1 D cs B ad T.heap.size) (g := F0 m pc lsr (st.map (mj_tv B ad))) rfl (hL.1.trans hC.2.2.2.1.symm) hdc hn (hf.cw hC.2.2.2.2.2.1) (hC.2.2.2.2.2.1 _ hf.2.1) hC.2.2.2.2.2.1 hf.2.2.1
    (by
      show 2 * 0 + ((st.map (mj_tv B ad)).map fun v => v.category).sum + (N.2.2.1 + 11) + N.2.2.2.2.1.locals ≤ _
      rw [mj_cts_eq]
      have := hf.2.2.2
      omega) hcells hslots (a := (as.map (mj_tv B ad)).toArray)
    ⟨rfl, rfl, hR.1, va_K.moved (U := T.calling (F0 m pc lsr (st.map (mj_tv B ad))) mk (as.map (mj_tv B ad)).toArray) X.warmed.alike hC.2.2.2.2.2.2.2.1, hR.2.1.weaken (fun _ _ _ _ => trivial),
      mj_Sx_move (U := T.calling (F0 m pc lsr (st.map (mj_tv B ad))) mk (as.map (mj_tv B ad)).toArray) hC.2.2.2.2.2.2.2.2.2.2.2.2.2.1 (fun q h1 h2 => hR.2.2.1.2.1 q h1 h2) X.warmed.alike hAA,
      mj_Nw_move (U := T.calling (F0 m pc lsr (st.map (mj_tv B ad))) mk (as.map (mj_tv B ad)).toArray) hC.2.2.2.2.2.2.2.2.2.2.2.2.2.2 (fun q h1 h2 => hR.2.2.1.2.1 q h1 h2) X.warmed hAA⟩
  obtain ⟨r, sh', FR', IA', LA', n', ad', hQ', hou, hP', hD', had', hnn, hF'⟩ := hq
  have hF1 : T.heap.size ≤ t.heap.size := hF'.1
  have hF2 : ∀ q : Nat, q < T.heap.size → ¬ va_A (mj_W cs B ad sh FR IA LA n) T.heap.size q → t.heap[q]? = T.heap[q]? := hF'.2
  have hS' : va_S A s.heap t.heap (locs ++ L) := by
    refine ⟨Nat.le_trans hR.2.2.1.1 hF1, fun q h1 h2 => ?_, fun q hq => ?_⟩
    · rw [hF2 q (Nat.lt_of_lt_of_le h1 hR.2.2.1.1) (fun z => h2 (hAA q z))]
      exact hR.2.2.1.2.1 q h1 h2
    · rcases List.mem_append.mp hq with h1 | h1
      · exact hR.2.2.1.2.2 q h1
      · exact hAA _ (hLA q h1)
  have had1 : ∀ i, i < n0 ∨ n' ≤ i → ad' i = ad0 i := by
    intro i hi
    have hn0 := hR.2.2.2.2
    rcases hi with hi | hi
    · rw [had' i (Or.inl (by omega)), hR.2.2.2.1 i (Or.inl hi)]
    · rw [had' i (Or.inr hi), hR.2.2.2.1 i (Or.inr (by omega))]
  have hR' : mj_Rl cs B D A s.heap ad0 n0 sh' FR' IA' LA' n' ad' t.heap (locs ++ L) := ⟨hP', hD'.weaken (fun _ q _ hq => hAA q.1 hq), hS', had1, Nat.le_trans hR.2.2.2.2 hnn⟩
  have hK1 := hK _ _ _ _ _ _ hQ'
  rcases r with v | k
  · have hou : o = .returned (v.map (mj_tv B ad')) := hou
    subst hou
    obtain ⟨T', X', -, -, ht⟩ := X.outOf (g := F0 m pc lsr (st.map (mj_tv B ad))) rfl hdc hend hFE.1 hFE.2
    obtain ⟨hsc, hk⟩ := hK1
    have hTt : T'.heap = t.heap := by rw [ht]; rfl
    have hpair : mj_Lr B ad' lsr M.2.2.1 ls ∧ st.map (mj_tv B ad') = st.map (mj_tv B ad) := by
      rcases hsc with e1 | ⟨e1, e2⟩
      · subst e1
        have : ad' = ad := funext fun i => had' i (by omega)
        rw [this]
        exact ⟨hL, rfl⟩
      · exact ⟨hL.sc (fun i hi => had' i (Or.inl hi)) e1, mj_scs_tv (fun i hi => had' i (Or.inl hi)) e2⟩
    obtain ⟨t2, hs2, hm⟩ := hKG _ _ _ _ _ _ _ _ _ _ hk p l e s m args below meth c D cs B A ad0 n0 ad' t.heap (locs ++ L) lsr hC hR' hpair.1 T' hTt X'
    refine ⟨t2, hs1.trans ?_, hm⟩
    rw [ht]
    have he : (v.map (mj_tv B ad')).toList ++ st.map (mj_tv B ad) = (v.toList ++ st).map (mj_tv B ad') := by
      rw [List.map_append, hpair.2]
      cases v <;> rfl
    show Steps p.tables e below (T'.setTop (F0 m (pc + 3) lsr ((v.map (mj_tv B ad')).toList ++ st.map (mj_tv B ad)))) t2
    rw [he]
    exact hs2
  · obtain ⟨x, hou, hex⟩ := hou
    subst hou
    obtain ⟨T', X', -, -, ht⟩ := X.outOfThrown (g := F0 m pc lsr (st.map (mj_tv B ad))) rfl hend hFE.1 hFE.2
    have hTt : T'.heap = t.heap := by rw [ht]; rfl
    have hTv : T'.vm = t.vm := by rw [ht]; rfl
    have hx0 : ∃ h, mj_hf hm k = some h ∧ (n' = n ∨ mj_scl n ls) ∧ K h.1 (mj_set (mj_kl ls h.2) h.2 none) [] sh' FR' IA' LA' n' (kc + N.2.2.2.2.1.cells) (ks + N.2.2.2.2.1.slots) := by
      unfold mj_afH at hK1
      dsimp only at hK1
      split at hK1
      · rename_i h0 hh0
        exact ⟨h0, hh0, hK1⟩
      · exact False.elim hK1
    obtain ⟨h0, hh0, hsc, hk⟩ := hx0
    obtain ⟨hp, hsel, hn1, hast⟩ := hH k h0 hh0
    obtain ⟨cell, q1, q2, q3⟩ := hex
    have hWt : s.WarmedH T'.vm := X'.warmed
    have hclS : s.vm.findClass (mj_xn k) = some cell.cls := by
      rw [← hWt.alike.findClass, hTv]
      exact q2
    obtain ⟨vm', hWv, hgo⟩ := ca_find (e := e) (f := F0 m pc lsr (st.map (mj_tv B ad))) (a := x) (k := k) (hp := hp) (cell := cell) hC.2.2.2.2.2.1 hC.2.2.2.2.2.2.2.2.2.2.2.2.2.2 hC.2.2.2.2.1 (by rw [X.admits.platform]) hclS q3 c.exceptionTable.toList
      ((T'.setTop (F0 m pc lsr (st.map (mj_tv B ad)))).pushFrame (.throwing x)) (by rw [Stand.throwing_vm]; exact hWt) (by rw [Stand.throwing_heap, hTt]; exact q1) (by rw [hC.2.2.2.2.2.2.2.2.2.2.1]; exact hsel)
    have hfind : ∀ (Q : Handler → Pre) (E : CtlPost) (d : Bool) (acts : List Action), wp (findHandler (F0 m pc lsr (st.map (mj_tv B ad))) x) Q E e d acts ((T'.setTop (F0 m pc lsr (st.map (mj_tv B ad)))).pushFrame (.throwing x)) ↔ Q (.found hp) d acts (((T'.setTop (F0 m pc lsr (st.map (mj_tv B ad)))).pushFrame (.throwing x)).setVm vm') := by
      intro Q E d acts
      rw [Jvm.W.findHandler_eq (meth := meth) (code := c) (by rw [Stand.throwing_vm]; exact X'.method') X'.code]
      exact hgo Q E d acts
    have hL' : mj_Lr B ad' lsr M.2.2.1 ls := by
      rcases hsc with e1 | e1
      · subst e1
        have : ad' = ad := funext fun i => had' i (by omega)
        rw [this]
        exact hL
      · exact hL.sc (fun i hi => had' i (Or.inl hi)) e1
    have X2 := X'.noted hWv
    have hWW : W p l e M.2.2.2.2.1 s m args below meth c t.heap (locs ++ L) (kc + N.2.2.2.2.1.cells) (ks + N.2.2.2.2.1.slots) (mj_MQ M Q below s D cs B A ad0 n0) (F0 m hp lsr [.ref x]) := by
      rcases hast with ⟨ha, hb⟩ | ⟨kf, ha, hb, hc2⟩
      · refine lv_astore hC.1 hC.2.1 ha hL'.has hn1 rfl fun ls' hl' => ?_
        rw [← hb]
        exact hKG _ _ _ _ _ _ _ _ _ _ hk p l e s m args below meth c D cs B A ad0 n0 ad' t.heap (locs ++ L) ls' hC hR' (mj_Lr.s0 hl')
      · refine lv_astore_n hC.1 hC.2.1 ha hb hL'.has hn1 rfl fun ls' hl' => ?_
        rw [← hc2]
        exact hKG _ _ _ _ _ _ _ _ _ _ hk p l e s m args below meth c D cs B A ad0 n0 ad' t.heap (locs ++ L) ls' hC hR' (mj_Lr.s0 hl')
    obtain ⟨t2, hs2, hm2⟩ := hWW (T'.setVm vm') hTt X2
    refine ⟨t2, hs1.trans ?_, hm2⟩
    rw [ht]
    exact ca_at X' x (g := F0 m pc lsr (st.map (mj_tv B ad))) rfl hfind hs2
end CD
/-- a call whose exceptions the method catches itself -/
def o_callH (N : mj_M) (na C S nx ci : Nat) (hm : List (Nat × Nat × Nat)) : mj_Sem := fun Q K pc ls st sh FR IA LA n kc ks => match mj_tk na st [] with
  | some (as, st) => mj_rv ci as sh n ∧ mj_cts st ≤ 8 ∧ kc + N.2.2.2.2.1.cells ≤ C ∧ ks + N.2.2.2.2.1.slots ≤ S ∧ ∃ Q', mj_Ct N as sh FR IA LA n Q' ∧
      ∀ r sh' FR' IA' LA' n', Q' r sh' FR' IA' LA' n' → mj_afH hm K nx ls st n (kc + N.2.2.2.2.1.cells) (ks + N.2.2.2.2.1.slots) r sh' FR' IA' LA' n'
  | none => False
theorem k_callH {M N : mj_M} {pc idx na ci : Nat} {T : u_T} {nf : Nat} (hd : decode M.2.1 pc = .ok (.invokevirtual idx, 3)) (hf : mj_fit M N) {hm : List (Nat × Nat × Nat)} (hH : ca_hs M pc hm) (hcl : vwCl[ci]? = some (N.1.cls, T, nf)) (hl : Cond.methodLink M.1.cls idx N.1 ∈ mj_wd) (hi : Cond.instanceMethod N.1 ∈ mj_wd) (hs : Cond.selects N.1.cls N.1 N.1 ∈ mj_wd)
    (hy : N.1.cls ≠ "java/lang/invoke/MethodHandle" ∧ N.1.cls ≠ "java/lang/invoke/VarHandle") (hna : (parseMethodDescriptor N.1.desc).map (fun d => d.parameters.length + 1) = some na) : mj_ok M pc (o_callH N na M.2.2.2.2.1.cells M.2.2.2.2.1.slots (pc + 3) ci hm) := by
  intro Q K hK ls st sh FR IA LA n kc ks h
  unfold o_callH at h
  split at h
  · rename_i as st2 htk
    obtain ⟨hrc, h8, hc, hsl, Q', hCt, hk⟩ := h
    obtain ⟨a0, e1, e2, e3⟩ := mj_tk_eq _ _ _ _ _ htk
    rw [List.append_nil] at e1
    subst e1
    subst e2
    rcases as with _ | ⟨v | v | q | v, as⟩ <;> first | exact False.elim hrc | skip
    have hrc : mj_is sh n q (ci + 4) 0 := hrc
    intro p l e s m args below meth c D cs B A ad0 n0 ad H locs lsr hC hR hL T0 hT X
    subst hT
    have hw := hC.2.2.2.2.2.1
    have hcw := hf.cw hw
    obtain ⟨m', methM, cM, hnamed, hmethM, -, -, -, -, -, -, hsigM⟩ := Cond.codeWith_spec hcw
    obtain ⟨mk, methM', hnamed', hmethM', hstM, habM⟩ := Cond.instanceMethod_spec (hw _ hi)
    cases hnamed.symm.trans hnamed'
    cases hmethM.symm.trans hmethM'
    obtain ⟨c2, r2, m2, q1, q2, q3, q4, kP, hkP, hkPi⟩ := Cond.selects_spec (hw _ hs)
    obtain ⟨cellB, hcB, hoB, hclB⟩ := va_recv hC.2.2.2.2.2.2.2.1 hR.1 hcl (mj_W_ob hrc)
    cases hclB.symm.trans q1
    cases (State.methodFound?_of_named hnamed hy).symm.trans q2
    cases hnamed.symm.trans q3
    have hselP : selectMethod e.platform s.vm cellB.cls m' = .method m' := by rw [Launch.admits_selectMethod X.admits]; exact q4
    have hlen : (as.map (mj_tv B ad)).length = methM.sig.parameters.length := by
      rw [hsigM] at hna
      have h0 := Option.some.inj hna
      rw [List.length_map]
      rw [List.length_cons] at e3
      have h1 : methM.sig.parameters.length + 1 = na := h0
      omega
    obtain ⟨vm₁, X₁, hstep₁⟩ := X.invokevirtual hC.1 hC.2.2.2.2.1 (hw _ hl) hnamed hmethM hstM hkP hkPi hy (a := ad q) (cell := cellB) hcB
      (fun z h => by rw [h] at hoB; cases hoB) hselP hmethM habM hkP hkPi (g := F0 m pc lsr (((.inr (.inr (.inl q)) :: as).reverse ++ st2).map (mj_tv B ad))) rfl (argsL := as.map (mj_tv B ad)) (rest := st2.map (mj_tv B ad)) hlen
      (by simp [mj_tv, mj_rf]) (by rw [hC.2.1]; exact hd)
    obtain ⟨t, hst, hm⟩ := mj_coreH (T := T0.setVm vm₁) hC hR X₁ hL hd (X₁.named hnamed) hCt hf hH h8 hc hsl hK hk
    exact ⟨t, hstep₁ _ (fun acts => by rw [doInvoke_state]; exact hst), hm⟩
  · exact False.elim h
theorem ca_hs0 {M : mj_M} {pc : Nat} : ca_hs M pc [] := fun _ _ h => by cases h
theorem ca_hs1 {M : mj_M} {pc k i nx : Nat} {r : List (Nat × Nat × Nat)} (h1 : ∃ hp, ca_sel M.1.cls pc k M.2.2.2.2.2.1 hp ∧ i < M.2.2.1 ∧ (decode M.2.1 hp = .ok (.astore i, 2) ∧ nx = hp + 2 ∨ ∃ kf : Fin 4, decode M.2.1 hp = .ok (.astore_n kf, 1) ∧ (kf : Nat) = i ∧ nx = hp + 1)) (hr : ca_hs M pc r) : ca_hs M pc ((k, nx, i) :: r) := by
  intro k' h hk
  unfold mj_hf at hk
  split at hk
  · rename_i hb
    cases hk
    rw [← Nat.eq_of_beq_eq_true hb]
    exact h1
  · exact hr k' h hk
theorem ca_selA {own : String} {pc k a b h ct : Nat} {r : List (Nat × Nat × Nat × Nat)} (h1 : a ≤ pc) (h2 : pc < b) (h3 : ct ≠ 0) (hw : Cond.classLink own ct (mj_xn k) ∈ mj_wd) (hc : (.castable (mj_xn k) (mj_xn k), true) ∈ mj_tw) : ca_sel own pc k ((a, b, h, ct) :: r) h := ⟨h1, h2, h3, k, hw, Or.inl ⟨rfl, hc, rfl⟩⟩
theorem ca_selB {own : String} {pc k a b h ct hp : Nat} {r : List (Nat × Nat × Nat × Nat)} (j : Nat) (h1 : a ≤ pc) (h2 : pc < b) (h3 : ct ≠ 0) (hw : Cond.classLink own ct (mj_xn j) ∈ mj_wd) (hc : (.castable (mj_xn k) (mj_xn j), false) ∈ mj_tw) (hr : ca_sel own pc k r hp) : ca_sel own pc k ((a, b, h, ct) :: r) hp := ⟨h1, h2, h3, j, hw, Or.inr ⟨hc, hr⟩⟩
end
section
theorem h_T : mj_cl 0 "CircuitTwin" fT_T 4 fy_T := ⟨rfl, by decide +kernel, by decide +kernel, by decide +kernel, rfl⟩
theorem h_C : mj_cl 1 "CircuitTwin$Circuit" fT_C 10 fy_C := ⟨rfl, by decide +kernel, by decide +kernel, by decide +kernel, rfl⟩
theorem h_F : mj_cl 2 "CircuitTwin$LoopFinder" fT_F 3 fy_F := ⟨rfl, by decide +kernel, by decide +kernel, by decide +kernel, rfl⟩
theorem h_N : mj_cl 3 "CircuitTwin$Net" fT_N 13 fy_N := ⟨rfl, by decide +kernel, by decide +kernel, by decide +kernel, rfl⟩
theorem h_R : mj_cl 4 "CircuitTwin$Reader" fT_R 10 fy_R := ⟨rfl, by decide +kernel, by decide +kernel, by decide +kernel, rfl⟩
theorem h_W : mj_cl 5 "CircuitTwin$Writer" fT_W 9 fy_W := ⟨rfl, by decide +kernel, by decide +kernel, by decide +kernel, rfl⟩
theorem h_M : mj_cl 6 "CircuitTwinModel" fT_M 30 fy_M := ⟨rfl, by decide +kernel, by decide +kernel, by decide +kernel, rfl⟩
theorem thw_0 : ∀ w ∈ th_ws "CircuitTwin" 40 "java/lang/IllegalArgumentException" 7 prog_10_method_2_code, th_ok w := by unfold th_ok; decide +kernel
theorem thw_1 : ∀ w ∈ th_ws "CircuitTwin" 51 "java/lang/IllegalStateException" 7 prog_11_method_2_code, th_ok w := by unfold th_ok; decide +kernel
theorem thw_2 : ∀ w ∈ th_ws "CircuitTwin" 101 "java/util/NoSuchElementException" 13 prog_19_method_4_code, th_ok w := by unfold th_ok; decide +kernel
theorem fit_m_T_init_m_C_init : mj_fit m_T_init m_C_init := ⟨(Or.inl ⟨w_30, rfl⟩), w_2, Nat.le_of_ble_eq_true rfl, Nat.le_of_ble_eq_true rfl⟩
theorem fit_m_T_init_m_C_settle : mj_fit m_T_init m_C_settle := ⟨(Or.inl ⟨w_158, rfl⟩), w_2, Nat.le_of_ble_eq_true rfl, Nat.le_of_ble_eq_true rfl⟩
theorem fit_m_T_init_m_R_init : mj_fit m_T_init m_R_init := ⟨(Or.inl ⟨w_208, rfl⟩), w_5, Nat.le_of_ble_eq_true rfl, Nat.le_of_ble_eq_true rfl⟩
theorem fit_m_T_init_m_W_init : mj_fit m_T_init m_W_init := ⟨(Or.inl ⟨w_267, rfl⟩), w_7, Nat.le_of_ble_eq_true rfl, Nat.le_of_ble_eq_true rfl⟩
theorem fit_m_T_allFunctions_m_T_requireMatch : mj_fit m_T_allFunctions m_T_requireMatch := ⟨(Or.inl ⟨w_607, rfl⟩), w_1, Nat.le_of_ble_eq_true rfl, Nat.le_of_ble_eq_true rfl⟩
theorem fit_m_T_allFunctions_m_C_kindsNotIn : mj_fit m_T_allFunctions m_C_kindsNotIn := ⟨(Or.inl ⟨w_738, rfl⟩), w_2, Nat.le_of_ble_eq_true rfl, Nat.le_of_ble_eq_true rfl⟩
theorem fit_m_T_compare_m_T_leastDifference : mj_fit m_T_compare m_T_leastDifference := ⟨(Or.inl ⟨w_612, rfl⟩), w_1, Nat.le_of_ble_eq_true rfl, Nat.le_of_ble_eq_true rfl⟩
theorem fit_m_T_compare_m_T_requireMatch : mj_fit m_T_compare m_T_requireMatch := ⟨(Or.inl ⟨w_607, rfl⟩), w_1, Nat.le_of_ble_eq_true rfl, Nat.le_of_ble_eq_true rfl⟩
theorem fit_m_T_depends_m_T_named : mj_fit m_T_depends m_T_named := ⟨(Or.inl ⟨w_418, rfl⟩), w_1, Nat.le_of_ble_eq_true rfl, Nat.le_of_ble_eq_true rfl⟩
theorem fit_m_T_depends_m_T_requireInput : mj_fit m_T_depends m_T_requireInput := ⟨(Or.inl ⟨w_689, rfl⟩), w_1, Nat.le_of_ble_eq_true rfl, Nat.le_of_ble_eq_true rfl⟩
theorem fit_m_T_depends_m_T_requireStanding : mj_fit m_T_depends m_T_requireStanding := ⟨(Or.inl ⟨w_583, rfl⟩), w_1, Nat.le_of_ble_eq_true rfl, Nat.le_of_ble_eq_true rfl⟩
theorem fit_m_T_depends_m_C_movesOf : mj_fit m_T_depends m_C_movesOf := ⟨(Or.inl ⟨w_694, rfl⟩), w_2, Nat.le_of_ble_eq_true rfl, Nat.le_of_ble_eq_true rfl⟩
theorem fit_m_T_feed_m_R_append : mj_fit m_T_feed m_R_append := ⟨(Or.inl ⟨w_407, rfl⟩), w_5, Nat.le_of_ble_eq_true rfl, Nat.le_of_ble_eq_true rfl⟩
theorem fit_m_T_functions_m_T_named : mj_fit m_T_functions m_T_named := ⟨(Or.inl ⟨w_418, rfl⟩), w_1, Nat.le_of_ble_eq_true rfl, Nat.le_of_ble_eq_true rfl⟩
theorem fit_m_T_greatest_m_T_named : mj_fit m_T_greatest m_T_named := ⟨(Or.inl ⟨w_418, rfl⟩), w_1, Nat.le_of_ble_eq_true rfl, Nat.le_of_ble_eq_true rfl⟩
theorem fit_m_T_greatest_m_T_requireStanding : mj_fit m_T_greatest m_T_requireStanding := ⟨(Or.inl ⟨w_583, rfl⟩), w_1, Nat.le_of_ble_eq_true rfl, Nat.le_of_ble_eq_true rfl⟩
theorem fit_m_T_greatest_m_C_lastOne : mj_fit m_T_greatest m_C_lastOne := ⟨(Or.inl ⟨w_653, rfl⟩), w_2, Nat.le_of_ble_eq_true rfl, Nat.le_of_ble_eq_true rfl⟩
theorem fit_m_T_implies_m_T_named : mj_fit m_T_implies m_T_named := ⟨(Or.inl ⟨w_418, rfl⟩), w_1, Nat.le_of_ble_eq_true rfl, Nat.le_of_ble_eq_true rfl⟩
theorem fit_m_T_implies_m_T_requireStanding : mj_fit m_T_implies m_T_requireStanding := ⟨(Or.inl ⟨w_583, rfl⟩), w_1, Nat.le_of_ble_eq_true rfl, Nat.le_of_ble_eq_true rfl⟩
theorem fit_m_T_implies_m_C_isWithin : mj_fit m_T_implies m_C_isWithin := ⟨(Or.inl ⟨w_679, rfl⟩), w_2, Nat.le_of_ble_eq_true rfl, Nat.le_of_ble_eq_true rfl⟩
theorem fit_m_T_leader_m_T_named : mj_fit m_T_leader m_T_named := ⟨(Or.inl ⟨w_418, rfl⟩), w_1, Nat.le_of_ble_eq_true rfl, Nat.le_of_ble_eq_true rfl⟩
theorem fit_m_T_leader_m_T_requireStanding : mj_fit m_T_leader m_T_requireStanding := ⟨(Or.inl ⟨w_583, rfl⟩), w_1, Nat.le_of_ble_eq_true rfl, Nat.le_of_ble_eq_true rfl⟩
theorem fit_m_T_leader_m_C_leaderOf : mj_fit m_T_leader m_C_leaderOf := ⟨(Or.inl ⟨w_720, rfl⟩), w_2, Nat.le_of_ble_eq_true rfl, Nat.le_of_ble_eq_true rfl⟩
theorem fit_m_T_least_m_T_named : mj_fit m_T_least m_T_named := ⟨(Or.inl ⟨w_418, rfl⟩), w_1, Nat.le_of_ble_eq_true rfl, Nat.le_of_ble_eq_true rfl⟩
theorem fit_m_T_least_m_T_requireStanding : mj_fit m_T_least m_T_requireStanding := ⟨(Or.inl ⟨w_583, rfl⟩), w_1, Nat.le_of_ble_eq_true rfl, Nat.le_of_ble_eq_true rfl⟩
theorem fit_m_T_least_m_T_requireVector : mj_fit m_T_least m_T_requireVector := ⟨(Or.inl ⟨w_591, rfl⟩), w_1, Nat.le_of_ble_eq_true rfl, Nat.le_of_ble_eq_true rfl⟩
theorem fit_m_T_least_m_C_firstOne : mj_fit m_T_least m_C_firstOne := ⟨(Or.inl ⟨w_642, rfl⟩), w_2, Nat.le_of_ble_eq_true rfl, Nat.le_of_ble_eq_true rfl⟩
theorem fit_m_T_leastDifference_m_C_firstDifference : mj_fit m_T_leastDifference m_C_firstDifference := ⟨(Or.inl ⟨w_616, rfl⟩), w_2, Nat.le_of_ble_eq_true rfl, Nat.le_of_ble_eq_true rfl⟩
theorem fit_m_T_literal_m_T_named : mj_fit m_T_literal m_T_named := ⟨(Or.inl ⟨w_418, rfl⟩), w_1, Nat.le_of_ble_eq_true rfl, Nat.le_of_ble_eq_true rfl⟩
theorem fit_m_T_load_m_T_named : mj_fit m_T_load m_T_named := ⟨(Or.inl ⟨w_418, rfl⟩), w_1, Nat.le_of_ble_eq_true rfl, Nat.le_of_ble_eq_true rfl⟩
theorem fit_m_T_load_m_C_settle : mj_fit m_T_load m_C_settle := ⟨(Or.inl ⟨w_158, rfl⟩), w_2, Nat.le_of_ble_eq_true rfl, Nat.le_of_ble_eq_true rfl⟩
theorem fit_m_T_load_m_R_exchangeNet : mj_fit m_T_load m_R_exchangeNet := ⟨(Or.inl ⟨w_549, rfl⟩), w_5, Nat.le_of_ble_eq_true rfl, Nat.le_of_ble_eq_true rfl⟩
theorem fit_m_T_load_m_R_readTape : mj_fit m_T_load m_R_readTape := ⟨(Or.inl ⟨w_423, rfl⟩), w_5, Nat.le_of_ble_eq_true rfl, Nat.le_of_ble_eq_true rfl⟩
theorem fit_m_T_look_m_T_named : mj_fit m_T_look m_T_named := ⟨(Or.inl ⟨w_418, rfl⟩), w_1, Nat.le_of_ble_eq_true rfl, Nat.le_of_ble_eq_true rfl⟩
theorem fit_m_T_look_m_N_outputDepth : mj_fit m_T_look m_N_outputDepth := ⟨(Or.inl ⟨w_836, rfl⟩), w_3, Nat.le_of_ble_eq_true rfl, Nat.le_of_ble_eq_true rfl⟩
theorem fit_m_T_out_m_W_byteAt : mj_fit m_T_out m_W_byteAt := ⟨(Or.inl ⟨w_825, rfl⟩), w_7, Nat.le_of_ble_eq_true rfl, Nat.le_of_ble_eq_true rfl⟩
theorem fit_m_T_requireStanding_m_N_stands : mj_fit m_T_requireStanding m_N_stands := ⟨(Or.inl ⟨w_587, rfl⟩), w_3, Nat.le_of_ble_eq_true rfl, Nat.le_of_ble_eq_true rfl⟩
theorem fit_m_T_rises_m_T_named : mj_fit m_T_rises m_T_named := ⟨(Or.inl ⟨w_418, rfl⟩), w_1, Nat.le_of_ble_eq_true rfl, Nat.le_of_ble_eq_true rfl⟩
theorem fit_m_T_rises_m_T_requireInput : mj_fit m_T_rises m_T_requireInput := ⟨(Or.inl ⟨w_689, rfl⟩), w_1, Nat.le_of_ble_eq_true rfl, Nat.le_of_ble_eq_true rfl⟩
theorem fit_m_T_rises_m_T_requireStanding : mj_fit m_T_rises m_T_requireStanding := ⟨(Or.inl ⟨w_583, rfl⟩), w_1, Nat.le_of_ble_eq_true rfl, Nat.le_of_ble_eq_true rfl⟩
theorem fit_m_T_rises_m_C_movesOf : mj_fit m_T_rises m_C_movesOf := ⟨(Or.inl ⟨w_694, rfl⟩), w_2, Nat.le_of_ble_eq_true rfl, Nat.le_of_ble_eq_true rfl⟩
theorem fit_m_T_same_m_T_requireMatch : mj_fit m_T_same m_T_requireMatch := ⟨(Or.inl ⟨w_607, rfl⟩), w_1, Nat.le_of_ble_eq_true rfl, Nat.le_of_ble_eq_true rfl⟩
theorem fit_m_T_same_m_T_requireStanding : mj_fit m_T_same m_T_requireStanding := ⟨(Or.inl ⟨w_583, rfl⟩), w_1, Nat.le_of_ble_eq_true rfl, Nat.le_of_ble_eq_true rfl⟩
theorem fit_m_T_same_m_C_bitAt : mj_fit m_T_same m_C_bitAt := ⟨(Or.inl ⟨w_596, rfl⟩), w_2, Nat.le_of_ble_eq_true rfl, Nat.le_of_ble_eq_true rfl⟩
theorem fit_m_T_same_m_C_isSameOrInverse : mj_fit m_T_same m_C_isSameOrInverse := ⟨(Or.inl ⟨w_181, rfl⟩), w_2, Nat.le_of_ble_eq_true rfl, Nat.le_of_ble_eq_true rfl⟩
theorem fit_m_T_same_m_N_slotFor : mj_fit m_T_same m_N_slotFor := ⟨(Or.inl ⟨w_199, rfl⟩), w_3, Nat.le_of_ble_eq_true rfl, Nat.le_of_ble_eq_true rfl⟩
theorem fit_m_T_value_m_T_named : mj_fit m_T_value m_T_named := ⟨(Or.inl ⟨w_418, rfl⟩), w_1, Nat.le_of_ble_eq_true rfl, Nat.le_of_ble_eq_true rfl⟩
theorem fit_m_T_value_m_T_requireStanding : mj_fit m_T_value m_T_requireStanding := ⟨(Or.inl ⟨w_583, rfl⟩), w_1, Nat.le_of_ble_eq_true rfl, Nat.le_of_ble_eq_true rfl⟩
theorem fit_m_T_value_m_T_requireVector : mj_fit m_T_value m_T_requireVector := ⟨(Or.inl ⟨w_591, rfl⟩), w_1, Nat.le_of_ble_eq_true rfl, Nat.le_of_ble_eq_true rfl⟩
theorem fit_m_T_value_m_C_bitAt : mj_fit m_T_value m_C_bitAt := ⟨(Or.inl ⟨w_596, rfl⟩), w_2, Nat.le_of_ble_eq_true rfl, Nat.le_of_ble_eq_true rfl⟩
theorem fit_m_T_witness_m_T_leastDifference : mj_fit m_T_witness m_T_leastDifference := ⟨(Or.inl ⟨w_612, rfl⟩), w_1, Nat.le_of_ble_eq_true rfl, Nat.le_of_ble_eq_true rfl⟩
theorem fit_m_T_witness_m_T_requireMatch : mj_fit m_T_witness m_T_requireMatch := ⟨(Or.inl ⟨w_607, rfl⟩), w_1, Nat.le_of_ble_eq_true rfl, Nat.le_of_ble_eq_true rfl⟩
theorem fit_m_T_write_m_T_named : mj_fit m_T_write m_T_named := ⟨(Or.inl ⟨w_418, rfl⟩), w_1, Nat.le_of_ble_eq_true rfl, Nat.le_of_ble_eq_true rfl⟩
theorem fit_m_T_write_m_W_writeText : mj_fit m_T_write m_W_writeText := ⟨(Or.inl ⟨w_749, rfl⟩), w_7, Nat.le_of_ble_eq_true rfl, Nat.le_of_ble_eq_true rfl⟩
theorem fit_m_C_init_m_N_init : mj_fit m_C_init m_N_init := ⟨(Or.inl ⟨w_36, rfl⟩), w_3, Nat.le_of_ble_eq_true rfl, Nat.le_of_ble_eq_true rfl⟩
theorem fit_m_C_bitAt_m_C_flipOf : mj_fit m_C_bitAt m_C_flipOf := ⟨(Or.inl ⟨w_203, rfl⟩), w_2, Nat.le_of_ble_eq_true rfl, Nat.le_of_ble_eq_true rfl⟩
theorem fit_m_C_bitAt_m_C_rowOf : mj_fit m_C_bitAt m_C_rowOf := ⟨(Or.inl ⟨w_195, rfl⟩), w_2, Nat.le_of_ble_eq_true rfl, Nat.le_of_ble_eq_true rfl⟩
theorem fit_m_C_bucketFor_m_C_isSameOrInverse : mj_fit m_C_bucketFor m_C_isSameOrInverse := ⟨(Or.inl ⟨w_181, rfl⟩), w_2, Nat.le_of_ble_eq_true rfl, Nat.le_of_ble_eq_true rfl⟩
theorem fit_m_C_enter_m_C_bucketFor : mj_fit m_C_enter m_C_bucketFor := ⟨(Or.inl ⟨w_177, rfl⟩), w_2, Nat.le_of_ble_eq_true rfl, Nat.le_of_ble_eq_true rfl⟩
theorem fit_m_C_enter_m_C_hashOf : mj_fit m_C_enter m_C_hashOf := ⟨(Or.inl ⟨w_168, rfl⟩), w_2, Nat.le_of_ble_eq_true rfl, Nat.le_of_ble_eq_true rfl⟩
theorem fit_m_C_enter_m_C_startBit : mj_fit m_C_enter m_C_startBit := ⟨(Or.inl ⟨w_172, rfl⟩), w_2, Nat.le_of_ble_eq_true rfl, Nat.le_of_ble_eq_true rfl⟩
theorem fit_m_C_fillGate_m_C_flipOf : mj_fit m_C_fillGate m_C_flipOf := ⟨(Or.inl ⟨w_203, rfl⟩), w_2, Nat.le_of_ble_eq_true rfl, Nat.le_of_ble_eq_true rfl⟩
theorem fit_m_C_fillGate_m_C_rowOf : mj_fit m_C_fillGate m_C_rowOf := ⟨(Or.inl ⟨w_195, rfl⟩), w_2, Nat.le_of_ble_eq_true rfl, Nat.le_of_ble_eq_true rfl⟩
theorem fit_m_C_firstDifference_m_C_flipOf : mj_fit m_C_firstDifference m_C_flipOf := ⟨(Or.inl ⟨w_203, rfl⟩), w_2, Nat.le_of_ble_eq_true rfl, Nat.le_of_ble_eq_true rfl⟩
theorem fit_m_C_firstDifference_m_C_rowOf : mj_fit m_C_firstDifference m_C_rowOf := ⟨(Or.inl ⟨w_195, rfl⟩), w_2, Nat.le_of_ble_eq_true rfl, Nat.le_of_ble_eq_true rfl⟩
theorem fit_m_C_firstDifference_m_J_numberOfTrailingZeros : mj_fit m_C_firstDifference m_J_numberOfTrailingZeros := ⟨(Or.inl ⟨w_619, rfl⟩), w_16, Nat.le_of_ble_eq_true rfl, Nat.le_of_ble_eq_true rfl⟩
theorem fit_m_C_firstOne_m_C_flipOf : mj_fit m_C_firstOne m_C_flipOf := ⟨(Or.inl ⟨w_203, rfl⟩), w_2, Nat.le_of_ble_eq_true rfl, Nat.le_of_ble_eq_true rfl⟩
theorem fit_m_C_firstOne_m_C_rowOf : mj_fit m_C_firstOne m_C_rowOf := ⟨(Or.inl ⟨w_195, rfl⟩), w_2, Nat.le_of_ble_eq_true rfl, Nat.le_of_ble_eq_true rfl⟩
theorem fit_m_C_firstOne_m_J_numberOfTrailingZeros : mj_fit m_C_firstOne m_J_numberOfTrailingZeros := ⟨(Or.inl ⟨w_619, rfl⟩), w_16, Nat.le_of_ble_eq_true rfl, Nat.le_of_ble_eq_true rfl⟩
theorem fit_m_C_hashOf_m_C_startBit : mj_fit m_C_hashOf m_C_startBit := ⟨(Or.inl ⟨w_172, rfl⟩), w_2, Nat.le_of_ble_eq_true rfl, Nat.le_of_ble_eq_true rfl⟩
theorem fit_m_C_isSameOrInverse_m_C_startBit : mj_fit m_C_isSameOrInverse m_C_startBit := ⟨(Or.inl ⟨w_172, rfl⟩), w_2, Nat.le_of_ble_eq_true rfl, Nat.le_of_ble_eq_true rfl⟩
theorem fit_m_C_isWithin_m_C_flipOf : mj_fit m_C_isWithin m_C_flipOf := ⟨(Or.inl ⟨w_203, rfl⟩), w_2, Nat.le_of_ble_eq_true rfl, Nat.le_of_ble_eq_true rfl⟩
theorem fit_m_C_isWithin_m_C_rowOf : mj_fit m_C_isWithin m_C_rowOf := ⟨(Or.inl ⟨w_195, rfl⟩), w_2, Nat.le_of_ble_eq_true rfl, Nat.le_of_ble_eq_true rfl⟩
theorem fit_m_C_kindsNotIn_m_C_bucketFor : mj_fit m_C_kindsNotIn m_C_bucketFor := ⟨(Or.inl ⟨w_177, rfl⟩), w_2, Nat.le_of_ble_eq_true rfl, Nat.le_of_ble_eq_true rfl⟩
theorem fit_m_C_lastOne_m_C_flipOf : mj_fit m_C_lastOne m_C_flipOf := ⟨(Or.inl ⟨w_203, rfl⟩), w_2, Nat.le_of_ble_eq_true rfl, Nat.le_of_ble_eq_true rfl⟩
theorem fit_m_C_lastOne_m_C_rowOf : mj_fit m_C_lastOne m_C_rowOf := ⟨(Or.inl ⟨w_195, rfl⟩), w_2, Nat.le_of_ble_eq_true rfl, Nat.le_of_ble_eq_true rfl⟩
theorem fit_m_C_lastOne_m_J_numberOfLeadingZeros : mj_fit m_C_lastOne m_J_numberOfLeadingZeros := ⟨(Or.inl ⟨w_656, rfl⟩), w_16, Nat.le_of_ble_eq_true rfl, Nat.le_of_ble_eq_true rfl⟩
theorem fit_m_C_leaderOf_m_N_slotFor : mj_fit m_C_leaderOf m_N_slotFor := ⟨(Or.inl ⟨w_199, rfl⟩), w_3, Nat.le_of_ble_eq_true rfl, Nat.le_of_ble_eq_true rfl⟩
theorem fit_m_C_movesOf_m_C_flipOf : mj_fit m_C_movesOf m_C_flipOf := ⟨(Or.inl ⟨w_203, rfl⟩), w_2, Nat.le_of_ble_eq_true rfl, Nat.le_of_ble_eq_true rfl⟩
theorem fit_m_C_movesOf_m_C_halfWith : mj_fit m_C_movesOf m_C_halfWith := ⟨(Or.inl ⟨w_702, rfl⟩), w_2, Nat.le_of_ble_eq_true rfl, Nat.le_of_ble_eq_true rfl⟩
theorem fit_m_C_movesOf_m_C_halfWithout : mj_fit m_C_movesOf m_C_halfWithout := ⟨(Or.inl ⟨w_698, rfl⟩), w_2, Nat.le_of_ble_eq_true rfl, Nat.le_of_ble_eq_true rfl⟩
theorem fit_m_C_movesOf_m_C_rowOf : mj_fit m_C_movesOf m_C_rowOf := ⟨(Or.inl ⟨w_195, rfl⟩), w_2, Nat.le_of_ble_eq_true rfl, Nat.le_of_ble_eq_true rfl⟩
theorem fit_m_C_rowOf_m_N_slotFor : mj_fit m_C_rowOf m_N_slotFor := ⟨(Or.inl ⟨w_199, rfl⟩), w_3, Nat.le_of_ble_eq_true rfl, Nat.le_of_ble_eq_true rfl⟩
theorem fit_m_C_settle_m_C_enter : mj_fit m_C_settle m_C_enter := ⟨(Or.inl ⟨w_164, rfl⟩), w_2, Nat.le_of_ble_eq_true rfl, Nat.le_of_ble_eq_true rfl⟩
theorem fit_m_C_settle_m_C_fillGate : mj_fit m_C_settle m_C_fillGate := ⟨(Or.inl ⟨w_191, rfl⟩), w_2, Nat.le_of_ble_eq_true rfl, Nat.le_of_ble_eq_true rfl⟩
theorem fit_m_C_settle_m_C_fillInput : mj_fit m_C_settle m_C_fillInput := ⟨(Or.inl ⟨w_185, rfl⟩), w_2, Nat.le_of_ble_eq_true rfl, Nat.le_of_ble_eq_true rfl⟩
theorem fit_m_C_settle_m_A_fill : mj_fit m_C_settle m_A_fill := ⟨(Or.inl ⟨w_44, rfl⟩), w_4, Nat.le_of_ble_eq_true rfl, Nat.le_of_ble_eq_true rfl⟩
theorem fit_m_F_comesBack_m_F_reachFanins : mj_fit m_F_comesBack m_F_reachFanins := ⟨(Or.inl ⟨w_539, rfl⟩), w_6, Nat.le_of_ble_eq_true rfl, Nat.le_of_ble_eq_true rfl⟩
theorem fit_m_F_leastOnLoop_m_F_comesBack : mj_fit m_F_leastOnLoop m_F_comesBack := ⟨(Or.inl ⟨w_535, rfl⟩), w_6, Nat.le_of_ble_eq_true rfl, Nat.le_of_ble_eq_true rfl⟩
theorem fit_m_F_leastOnLoop_m_A_fill : mj_fit m_F_leastOnLoop m_A_fill := ⟨(Or.inl ⟨w_44, rfl⟩), w_4, Nat.le_of_ble_eq_true rfl, Nat.le_of_ble_eq_true rfl⟩
theorem fit_m_F_reachFanins_m_F_reach : mj_fit m_F_reachFanins m_F_reach := ⟨(Or.inl ⟨w_544, rfl⟩), w_6, Nat.le_of_ble_eq_true rfl, Nat.le_of_ble_eq_true rfl⟩
theorem fit_m_F_reachFanins_m_N_slotFor : mj_fit m_F_reachFanins m_N_slotFor := ⟨(Or.inl ⟨w_199, rfl⟩), w_3, Nat.le_of_ble_eq_true rfl, Nat.le_of_ble_eq_true rfl⟩
theorem fit_m_N_init_m_N_begin : mj_fit m_N_init m_N_begin := ⟨(Or.inl ⟨w_41, rfl⟩), w_3, Nat.le_of_ble_eq_true rfl, Nat.le_of_ble_eq_true rfl⟩
theorem fit_m_N_arrange_m_N_slotFor : mj_fit m_N_arrange m_N_slotFor := ⟨(Or.inl ⟨w_199, rfl⟩), w_3, Nat.le_of_ble_eq_true rfl, Nat.le_of_ble_eq_true rfl⟩
theorem fit_m_N_arrange_m_N_waitForAll : mj_fit m_N_arrange m_N_waitForAll := ⟨(Or.inl ⟨w_521, rfl⟩), w_3, Nat.le_of_ble_eq_true rfl, Nat.le_of_ble_eq_true rfl⟩
theorem fit_m_N_begin_m_A_fill : mj_fit m_N_begin m_A_fill := ⟨(Or.inl ⟨w_44, rfl⟩), w_4, Nat.le_of_ble_eq_true rfl, Nat.le_of_ble_eq_true rfl⟩
theorem fit_m_N_isFree_m_N_exists : mj_fit m_N_isFree m_N_exists := ⟨(Or.inl ⟨w_468, rfl⟩), w_3, Nat.le_of_ble_eq_true rfl, Nat.le_of_ble_eq_true rfl⟩
theorem fit_m_N_isFree_m_N_slotFor : mj_fit m_N_isFree m_N_slotFor := ⟨(Or.inl ⟨w_199, rfl⟩), w_3, Nat.le_of_ble_eq_true rfl, Nat.le_of_ble_eq_true rfl⟩
theorem fit_m_N_leastMissing_m_N_missingVariable : mj_fit m_N_leastMissing m_N_missingVariable := ⟨(Or.inl ⟨w_510, rfl⟩), w_3, Nat.le_of_ble_eq_true rfl, Nat.le_of_ble_eq_true rfl⟩
theorem fit_m_N_leastMissing_m_H_min : mj_fit m_N_leastMissing m_H_min := ⟨(Or.inl ⟨w_513, rfl⟩), w_14, Nat.le_of_ble_eq_true rfl, Nat.le_of_ble_eq_true rfl⟩
theorem fit_m_N_missingVariable_m_N_slotFor : mj_fit m_N_missingVariable m_N_slotFor := ⟨(Or.inl ⟨w_199, rfl⟩), w_3, Nat.le_of_ble_eq_true rfl, Nat.le_of_ble_eq_true rfl⟩
theorem fit_m_N_outputDepth_m_N_slotFor : mj_fit m_N_outputDepth m_N_slotFor := ⟨(Or.inl ⟨w_199, rfl⟩), w_3, Nat.le_of_ble_eq_true rfl, Nat.le_of_ble_eq_true rfl⟩
theorem fit_m_N_outputDepth_m_H_max : mj_fit m_N_outputDepth m_H_max := ⟨(Or.inl ⟨w_767, rfl⟩), w_14, Nat.le_of_ble_eq_true rfl, Nat.le_of_ble_eq_true rfl⟩
theorem fit_m_N_stands_m_N_exists : mj_fit m_N_stands m_N_exists := ⟨(Or.inl ⟨w_468, rfl⟩), w_3, Nat.le_of_ble_eq_true rfl, Nat.le_of_ble_eq_true rfl⟩
theorem fit_m_N_stands_m_N_slotFor : mj_fit m_N_stands m_N_slotFor := ⟨(Or.inl ⟨w_199, rfl⟩), w_3, Nat.le_of_ble_eq_true rfl, Nat.le_of_ble_eq_true rfl⟩
theorem fit_m_N_waitForAll_m_N_isGate : mj_fit m_N_waitForAll m_N_isGate := ⟨(Or.inl ⟨w_525, rfl⟩), w_3, Nat.le_of_ble_eq_true rfl, Nat.le_of_ble_eq_true rfl⟩
theorem fit_m_N_waitForAll_m_A_fill : mj_fit m_N_waitForAll m_A_fill := ⟨(Or.inl ⟨w_44, rfl⟩), w_4, Nat.le_of_ble_eq_true rfl, Nat.le_of_ble_eq_true rfl⟩
theorem fit_m_R_init_m_F_init : mj_fit m_R_init m_F_init := ⟨(Or.inl ⟨w_214, rfl⟩), w_6, Nat.le_of_ble_eq_true rfl, Nat.le_of_ble_eq_true rfl⟩
theorem fit_m_R_init_m_N_init : mj_fit m_R_init m_N_init := ⟨(Or.inl ⟨w_36, rfl⟩), w_3, Nat.le_of_ble_eq_true rfl, Nat.le_of_ble_eq_true rfl⟩
theorem fit_m_R_checkWhole_m_F_leastOnLoop : mj_fit m_R_checkWhole m_F_leastOnLoop := ⟨(Or.inl ⟨w_530, rfl⟩), w_6, Nat.le_of_ble_eq_true rfl, Nat.le_of_ble_eq_true rfl⟩
theorem fit_m_R_checkWhole_m_N_arrange : mj_fit m_R_checkWhole m_N_arrange := ⟨(Or.inl ⟨w_517, rfl⟩), w_3, Nat.le_of_ble_eq_true rfl, Nat.le_of_ble_eq_true rfl⟩
theorem fit_m_R_checkWhole_m_N_leastMissing : mj_fit m_R_checkWhole m_N_leastMissing := ⟨(Or.inl ⟨w_506, rfl⟩), w_3, Nat.le_of_ble_eq_true rfl, Nat.le_of_ble_eq_true rfl⟩
theorem fit_m_R_checkWhole_m_R_fail : mj_fit m_R_checkWhole m_R_fail := ⟨(Or.inl ⟨w_435, rfl⟩), w_5, Nat.le_of_ble_eq_true rfl, Nat.le_of_ble_eq_true rfl⟩
theorem fit_m_R_readTape_m_R_checkWhole : mj_fit m_R_readTape m_R_checkWhole := ⟨(Or.inl ⟨w_502, rfl⟩), w_5, Nat.le_of_ble_eq_true rfl, Nat.le_of_ble_eq_true rfl⟩
theorem fit_m_R_readTape_m_R_takeEnd : mj_fit m_R_readTape m_R_takeEnd := ⟨(Or.inl ⟨w_498, rfl⟩), w_5, Nat.le_of_ble_eq_true rfl, Nat.le_of_ble_eq_true rfl⟩
theorem fit_m_R_readTape_m_R_takeGates : mj_fit m_R_readTape m_R_takeGates := ⟨(Or.inl ⟨w_482, rfl⟩), w_5, Nat.le_of_ble_eq_true rfl, Nat.le_of_ble_eq_true rfl⟩
theorem fit_m_R_readTape_m_R_takeInputs : mj_fit m_R_readTape m_R_takeInputs := ⟨(Or.inl ⟨w_452, rfl⟩), w_5, Nat.le_of_ble_eq_true rfl, Nat.le_of_ble_eq_true rfl⟩
theorem fit_m_R_readTape_m_R_takeKind : mj_fit m_R_readTape m_R_takeKind := ⟨(Or.inl ⟨w_427, rfl⟩), w_5, Nat.le_of_ble_eq_true rfl, Nat.le_of_ble_eq_true rfl⟩
theorem fit_m_R_readTape_m_R_takeOutputs : mj_fit m_R_readTape m_R_takeOutputs := ⟨(Or.inl ⟨w_473, rfl⟩), w_5, Nat.le_of_ble_eq_true rfl, Nat.le_of_ble_eq_true rfl⟩
theorem fit_m_R_readTape_m_R_takeSizes : mj_fit m_R_readTape m_R_takeSizes := ⟨(Or.inl ⟨w_439, rfl⟩), w_5, Nat.le_of_ble_eq_true rfl, Nat.le_of_ble_eq_true rfl⟩
theorem fit_m_R_takeEnd_m_R_byteAt : mj_fit m_R_takeEnd m_R_byteAt := ⟨(Or.inl ⟨w_431, rfl⟩), w_5, Nat.le_of_ble_eq_true rfl, Nat.le_of_ble_eq_true rfl⟩
theorem fit_m_R_takeEnd_m_R_fail : mj_fit m_R_takeEnd m_R_fail := ⟨(Or.inl ⟨w_435, rfl⟩), w_5, Nat.le_of_ble_eq_true rfl, Nat.le_of_ble_eq_true rfl⟩
theorem fit_m_R_takeGates_m_R_takeLineGate : mj_fit m_R_takeGates m_R_takeLineGate := ⟨(Or.inl ⟨w_494, rfl⟩), w_5, Nat.le_of_ble_eq_true rfl, Nat.le_of_ble_eq_true rfl⟩
theorem fit_m_R_takeGates_m_R_takeStepGate : mj_fit m_R_takeGates m_R_takeStepGate := ⟨(Or.inl ⟨w_486, rfl⟩), w_5, Nat.le_of_ble_eq_true rfl, Nat.le_of_ble_eq_true rfl⟩
theorem fit_m_R_takeInputs_m_N_place : mj_fit m_R_takeInputs m_N_place := ⟨(Or.inl ⟨w_456, rfl⟩), w_3, Nat.le_of_ble_eq_true rfl, Nat.le_of_ble_eq_true rfl⟩
theorem fit_m_R_takeInputs_m_R_takeLine : mj_fit m_R_takeInputs m_R_takeLine := ⟨(Or.inl ⟨w_443, rfl⟩), w_5, Nat.le_of_ble_eq_true rfl, Nat.le_of_ble_eq_true rfl⟩
theorem fit_m_R_takeInputs_m_R_takeOwn : mj_fit m_R_takeInputs m_R_takeOwn := ⟨(Or.inl ⟨w_460, rfl⟩), w_5, Nat.le_of_ble_eq_true rfl, Nat.le_of_ble_eq_true rfl⟩
theorem fit_m_R_takeKind_m_R_byteAt : mj_fit m_R_takeKind m_R_byteAt := ⟨(Or.inl ⟨w_431, rfl⟩), w_5, Nat.le_of_ble_eq_true rfl, Nat.le_of_ble_eq_true rfl⟩
theorem fit_m_R_takeKind_m_R_fail : mj_fit m_R_takeKind m_R_fail := ⟨(Or.inl ⟨w_435, rfl⟩), w_5, Nat.le_of_ble_eq_true rfl, Nat.le_of_ble_eq_true rfl⟩
theorem fit_m_R_takeLine_m_R_takeNumber : mj_fit m_R_takeLine m_R_takeNumber := ⟨(Or.inl ⟨w_447, rfl⟩), w_5, Nat.le_of_ble_eq_true rfl, Nat.le_of_ble_eq_true rfl⟩
theorem fit_m_R_takeLineGate_m_R_takeLine : mj_fit m_R_takeLineGate m_R_takeLine := ⟨(Or.inl ⟨w_443, rfl⟩), w_5, Nat.le_of_ble_eq_true rfl, Nat.le_of_ble_eq_true rfl⟩
theorem fit_m_R_takeLineGate_m_R_takeOwn : mj_fit m_R_takeLineGate m_R_takeOwn := ⟨(Or.inl ⟨w_460, rfl⟩), w_5, Nat.le_of_ble_eq_true rfl, Nat.le_of_ble_eq_true rfl⟩
theorem fit_m_R_takeLineGate_m_R_takeUsed : mj_fit m_R_takeLineGate m_R_takeUsed := ⟨(Or.inl ⟨w_477, rfl⟩), w_5, Nat.le_of_ble_eq_true rfl, Nat.le_of_ble_eq_true rfl⟩
theorem fit_m_R_takeNumber_m_R_byteAt : mj_fit m_R_takeNumber m_R_byteAt := ⟨(Or.inl ⟨w_431, rfl⟩), w_5, Nat.le_of_ble_eq_true rfl, Nat.le_of_ble_eq_true rfl⟩
theorem fit_m_R_takeNumber_m_R_fail : mj_fit m_R_takeNumber m_R_fail := ⟨(Or.inl ⟨w_435, rfl⟩), w_5, Nat.le_of_ble_eq_true rfl, Nat.le_of_ble_eq_true rfl⟩
theorem fit_m_R_takeOutputs_m_R_takeLine : mj_fit m_R_takeOutputs m_R_takeLine := ⟨(Or.inl ⟨w_443, rfl⟩), w_5, Nat.le_of_ble_eq_true rfl, Nat.le_of_ble_eq_true rfl⟩
theorem fit_m_R_takeOutputs_m_R_takeUsed : mj_fit m_R_takeOutputs m_R_takeUsed := ⟨(Or.inl ⟨w_477, rfl⟩), w_5, Nat.le_of_ble_eq_true rfl, Nat.le_of_ble_eq_true rfl⟩
theorem fit_m_R_takeOwn_m_N_isFree : mj_fit m_R_takeOwn m_N_isFree := ⟨(Or.inl ⟨w_464, rfl⟩), w_3, Nat.le_of_ble_eq_true rfl, Nat.le_of_ble_eq_true rfl⟩
theorem fit_m_R_takeOwn_m_N_place : mj_fit m_R_takeOwn m_N_place := ⟨(Or.inl ⟨w_456, rfl⟩), w_3, Nat.le_of_ble_eq_true rfl, Nat.le_of_ble_eq_true rfl⟩
theorem fit_m_R_takeOwn_m_R_fail : mj_fit m_R_takeOwn m_R_fail := ⟨(Or.inl ⟨w_435, rfl⟩), w_5, Nat.le_of_ble_eq_true rfl, Nat.le_of_ble_eq_true rfl⟩
theorem fit_m_R_takeSizes_m_N_begin : mj_fit m_R_takeSizes m_N_begin := ⟨(Or.inl ⟨w_41, rfl⟩), w_3, Nat.le_of_ble_eq_true rfl, Nat.le_of_ble_eq_true rfl⟩
theorem fit_m_R_takeSizes_m_R_fail : mj_fit m_R_takeSizes m_R_fail := ⟨(Or.inl ⟨w_435, rfl⟩), w_5, Nat.le_of_ble_eq_true rfl, Nat.le_of_ble_eq_true rfl⟩
theorem fit_m_R_takeSizes_m_R_takeLine : mj_fit m_R_takeSizes m_R_takeLine := ⟨(Or.inl ⟨w_443, rfl⟩), w_5, Nat.le_of_ble_eq_true rfl, Nat.le_of_ble_eq_true rfl⟩
theorem fit_m_R_takeStep_m_R_byteAt : mj_fit m_R_takeStep m_R_byteAt := ⟨(Or.inl ⟨w_431, rfl⟩), w_5, Nat.le_of_ble_eq_true rfl, Nat.le_of_ble_eq_true rfl⟩
theorem fit_m_R_takeStep_m_R_fail : mj_fit m_R_takeStep m_R_fail := ⟨(Or.inl ⟨w_435, rfl⟩), w_5, Nat.le_of_ble_eq_true rfl, Nat.le_of_ble_eq_true rfl⟩
theorem fit_m_R_takeStepGate_m_N_place : mj_fit m_R_takeStepGate m_N_place := ⟨(Or.inl ⟨w_456, rfl⟩), w_3, Nat.le_of_ble_eq_true rfl, Nat.le_of_ble_eq_true rfl⟩
theorem fit_m_R_takeStepGate_m_R_fail : mj_fit m_R_takeStepGate m_R_fail := ⟨(Or.inl ⟨w_435, rfl⟩), w_5, Nat.le_of_ble_eq_true rfl, Nat.le_of_ble_eq_true rfl⟩
theorem fit_m_R_takeStepGate_m_R_takeStep : mj_fit m_R_takeStepGate m_R_takeStep := ⟨(Or.inl ⟨w_490, rfl⟩), w_5, Nat.le_of_ble_eq_true rfl, Nat.le_of_ble_eq_true rfl⟩
theorem fit_m_R_takeUsed_m_N_exists : mj_fit m_R_takeUsed m_N_exists := ⟨(Or.inl ⟨w_468, rfl⟩), w_3, Nat.le_of_ble_eq_true rfl, Nat.le_of_ble_eq_true rfl⟩
theorem fit_m_R_takeUsed_m_R_fail : mj_fit m_R_takeUsed m_R_fail := ⟨(Or.inl ⟨w_435, rfl⟩), w_5, Nat.le_of_ble_eq_true rfl, Nat.le_of_ble_eq_true rfl⟩
theorem fit_m_W_countDepths_m_A_fill : mj_fit m_W_countDepths m_A_fill := ⟨(Or.inl ⟨w_44, rfl⟩), w_4, Nat.le_of_ble_eq_true rfl, Nat.le_of_ble_eq_true rfl⟩
theorem fit_m_W_finalLiteral_m_C_leaderOf : mj_fit m_W_finalLiteral m_C_leaderOf := ⟨(Or.inl ⟨w_720, rfl⟩), w_2, Nat.le_of_ble_eq_true rfl, Nat.le_of_ble_eq_true rfl⟩
theorem fit_m_W_finalSlot_m_N_slotFor : mj_fit m_W_finalSlot m_N_slotFor := ⟨(Or.inl ⟨w_199, rfl⟩), w_3, Nat.le_of_ble_eq_true rfl, Nat.le_of_ble_eq_true rfl⟩
theorem fit_m_W_finalSlot_m_W_finalLiteral : mj_fit m_W_finalSlot m_W_finalLiteral := ⟨(Or.inl ⟨w_762, rfl⟩), w_7, Nat.le_of_ble_eq_true rfl, Nat.le_of_ble_eq_true rfl⟩
theorem fit_m_W_markNeeded_m_W_finalSlot : mj_fit m_W_markNeeded m_W_finalSlot := ⟨(Or.inl ⟨w_758, rfl⟩), w_7, Nat.le_of_ble_eq_true rfl, Nat.le_of_ble_eq_true rfl⟩
theorem fit_m_W_measure_m_W_finalSlot : mj_fit m_W_measure m_W_finalSlot := ⟨(Or.inl ⟨w_758, rfl⟩), w_7, Nat.le_of_ble_eq_true rfl, Nat.le_of_ble_eq_true rfl⟩
theorem fit_m_W_measure_m_H_max : mj_fit m_W_measure m_H_max := ⟨(Or.inl ⟨w_767, rfl⟩), w_14, Nat.le_of_ble_eq_true rfl, Nat.le_of_ble_eq_true rfl⟩
theorem fit_m_W_measure_m_A_fill : mj_fit m_W_measure m_A_fill := ⟨(Or.inl ⟨w_44, rfl⟩), w_4, Nat.le_of_ble_eq_true rfl, Nat.le_of_ble_eq_true rfl⟩
theorem fit_m_W_newLiteral_m_N_slotFor : mj_fit m_W_newLiteral m_N_slotFor := ⟨(Or.inl ⟨w_199, rfl⟩), w_3, Nat.le_of_ble_eq_true rfl, Nat.le_of_ble_eq_true rfl⟩
theorem fit_m_W_newLiteral_m_W_finalLiteral : mj_fit m_W_newLiteral m_W_finalLiteral := ⟨(Or.inl ⟨w_762, rfl⟩), w_7, Nat.le_of_ble_eq_true rfl, Nat.le_of_ble_eq_true rfl⟩
theorem fit_m_W_numberGates_m_N_isGate : mj_fit m_W_numberGates m_N_isGate := ⟨(Or.inl ⟨w_525, rfl⟩), w_3, Nat.le_of_ble_eq_true rfl, Nat.le_of_ble_eq_true rfl⟩
theorem fit_m_W_numberGates_m_W_countDepths : mj_fit m_W_numberGates m_W_countDepths := ⟨(Or.inl ⟨w_779, rfl⟩), w_7, Nat.le_of_ble_eq_true rfl, Nat.le_of_ble_eq_true rfl⟩
theorem fit_m_W_putFirstLine_m_W_putByte : mj_fit m_W_putFirstLine m_W_putByte := ⟨(Or.inl ⟨w_788, rfl⟩), w_7, Nat.le_of_ble_eq_true rfl, Nat.le_of_ble_eq_true rfl⟩
theorem fit_m_W_putFirstLine_m_W_putNumber : mj_fit m_W_putFirstLine m_W_putNumber := ⟨(Or.inl ⟨w_792, rfl⟩), w_7, Nat.le_of_ble_eq_true rfl, Nat.le_of_ble_eq_true rfl⟩
theorem fit_m_W_putGate_m_W_newLiteral : mj_fit m_W_putGate m_W_newLiteral := ⟨(Or.inl ⟨w_804, rfl⟩), w_7, Nat.le_of_ble_eq_true rfl, Nat.le_of_ble_eq_true rfl⟩
theorem fit_m_W_putGate_m_W_putNumber : mj_fit m_W_putGate m_W_putNumber := ⟨(Or.inl ⟨w_792, rfl⟩), w_7, Nat.le_of_ble_eq_true rfl, Nat.le_of_ble_eq_true rfl⟩
theorem fit_m_W_putGate_m_W_putStep : mj_fit m_W_putGate m_W_putStep := ⟨(Or.inl ⟨w_813, rfl⟩), w_7, Nat.le_of_ble_eq_true rfl, Nat.le_of_ble_eq_true rfl⟩
theorem fit_m_W_putGate_m_H_max : mj_fit m_W_putGate m_H_max := ⟨(Or.inl ⟨w_767, rfl⟩), w_14, Nat.le_of_ble_eq_true rfl, Nat.le_of_ble_eq_true rfl⟩
theorem fit_m_W_putGate_m_H_min : mj_fit m_W_putGate m_H_min := ⟨(Or.inl ⟨w_513, rfl⟩), w_14, Nat.le_of_ble_eq_true rfl, Nat.le_of_ble_eq_true rfl⟩
theorem fit_m_W_putInputs_m_W_putNumber : mj_fit m_W_putInputs m_W_putNumber := ⟨(Or.inl ⟨w_792, rfl⟩), w_7, Nat.le_of_ble_eq_true rfl, Nat.le_of_ble_eq_true rfl⟩
theorem fit_m_W_putNumber_m_W_putByte : mj_fit m_W_putNumber m_W_putByte := ⟨(Or.inl ⟨w_788, rfl⟩), w_7, Nat.le_of_ble_eq_true rfl, Nat.le_of_ble_eq_true rfl⟩
theorem fit_m_W_putOutputs_m_W_newLiteral : mj_fit m_W_putOutputs m_W_newLiteral := ⟨(Or.inl ⟨w_804, rfl⟩), w_7, Nat.le_of_ble_eq_true rfl, Nat.le_of_ble_eq_true rfl⟩
theorem fit_m_W_putOutputs_m_W_putNumber : mj_fit m_W_putOutputs m_W_putNumber := ⟨(Or.inl ⟨w_792, rfl⟩), w_7, Nat.le_of_ble_eq_true rfl, Nat.le_of_ble_eq_true rfl⟩
theorem fit_m_W_putStep_m_W_putByte : mj_fit m_W_putStep m_W_putByte := ⟨(Or.inl ⟨w_788, rfl⟩), w_7, Nat.le_of_ble_eq_true rfl, Nat.le_of_ble_eq_true rfl⟩
theorem fit_m_W_writeText_m_W_markNeeded : mj_fit m_W_writeText m_W_markNeeded := ⟨(Or.inl ⟨w_771, rfl⟩), w_7, Nat.le_of_ble_eq_true rfl, Nat.le_of_ble_eq_true rfl⟩
theorem fit_m_W_writeText_m_W_measure : mj_fit m_W_writeText m_W_measure := ⟨(Or.inl ⟨w_753, rfl⟩), w_7, Nat.le_of_ble_eq_true rfl, Nat.le_of_ble_eq_true rfl⟩
theorem fit_m_W_writeText_m_W_numberGates : mj_fit m_W_writeText m_W_numberGates := ⟨(Or.inl ⟨w_775, rfl⟩), w_7, Nat.le_of_ble_eq_true rfl, Nat.le_of_ble_eq_true rfl⟩
theorem fit_m_W_writeText_m_W_putFirstLine : mj_fit m_W_writeText m_W_putFirstLine := ⟨(Or.inl ⟨w_784, rfl⟩), w_7, Nat.le_of_ble_eq_true rfl, Nat.le_of_ble_eq_true rfl⟩
theorem fit_m_W_writeText_m_W_putGate : mj_fit m_W_writeText m_W_putGate := ⟨(Or.inl ⟨w_808, rfl⟩), w_7, Nat.le_of_ble_eq_true rfl, Nat.le_of_ble_eq_true rfl⟩
theorem fit_m_W_writeText_m_W_putInputs : mj_fit m_W_writeText m_W_putInputs := ⟨(Or.inl ⟨w_796, rfl⟩), w_7, Nat.le_of_ble_eq_true rfl, Nat.le_of_ble_eq_true rfl⟩
theorem fit_m_W_writeText_m_W_putOutputs : mj_fit m_W_writeText m_W_putOutputs := ⟨(Or.inl ⟨w_800, rfl⟩), w_7, Nat.le_of_ble_eq_true rfl, Nat.le_of_ble_eq_true rfl⟩
theorem fit_m_L_allFunctions_m_T_allFunctions : mj_fit m_L_allFunctions m_T_allFunctions := ⟨(Or.inl ⟨w_734, rfl⟩), w_1, Nat.le_of_ble_eq_true rfl, Nat.le_of_ble_eq_true rfl⟩
theorem fit_m_L_compare_m_T_compare : mj_fit m_L_compare m_T_compare := ⟨(Or.inl ⟨w_603, rfl⟩), w_1, Nat.le_of_ble_eq_true rfl, Nat.le_of_ble_eq_true rfl⟩
theorem fit_m_L_depends_m_T_depends : mj_fit m_L_depends m_T_depends := ⟨(Or.inl ⟨w_686, rfl⟩), w_1, Nat.le_of_ble_eq_true rfl, Nat.le_of_ble_eq_true rfl⟩
theorem fit_m_L_feed_m_T_feed : mj_fit m_L_feed m_T_feed := ⟨(Or.inl ⟨w_320, rfl⟩), w_1, Nat.le_of_ble_eq_true rfl, Nat.le_of_ble_eq_true rfl⟩
theorem fit_m_L_functions_m_T_functions : mj_fit m_L_functions m_T_functions := ⟨(Or.inl ⟨w_727, rfl⟩), w_1, Nat.le_of_ble_eq_true rfl, Nat.le_of_ble_eq_true rfl⟩
theorem fit_m_L_greatest_m_T_greatest : mj_fit m_L_greatest m_T_greatest := ⟨(Or.inl ⟨w_649, rfl⟩), w_1, Nat.le_of_ble_eq_true rfl, Nat.le_of_ble_eq_true rfl⟩
theorem fit_m_L_implies_m_T_implies : mj_fit m_L_implies m_T_implies := ⟨(Or.inl ⟨w_675, rfl⟩), w_1, Nat.le_of_ble_eq_true rfl, Nat.le_of_ble_eq_true rfl⟩
theorem fit_m_L_law_m_T_init {L : Nat} {sc : Nat → Int} : mj_fit (m_L_law L sc) m_T_init := ⟨(Or.inl ⟨w_22, rfl⟩), w_1, Nat.le_of_ble_eq_true rfl, Nat.le_of_ble_eq_true rfl⟩
theorem fit_m_L_law_m_L_allFunctions {L : Nat} {sc : Nat → Int} : mj_fit (m_L_law L sc) m_L_allFunctions := ⟨(Or.inr w_730), w_0, Nat.le_of_ble_eq_true rfl, Nat.le_of_ble_eq_true rfl⟩
theorem fit_m_L_law_m_L_compare {L : Nat} {sc : Nat → Int} : mj_fit (m_L_law L sc) m_L_compare := ⟨(Or.inr w_599), w_0, Nat.le_of_ble_eq_true rfl, Nat.le_of_ble_eq_true rfl⟩
theorem fit_m_L_law_m_L_depends {L : Nat} {sc : Nat → Int} : mj_fit (m_L_law L sc) m_L_depends := ⟨(Or.inr w_682), w_0, Nat.le_of_ble_eq_true rfl, Nat.le_of_ble_eq_true rfl⟩
theorem fit_m_L_law_m_L_feed {L : Nat} {sc : Nat → Int} : mj_fit (m_L_law L sc) m_L_feed := ⟨(Or.inr w_314), w_0, Nat.le_of_ble_eq_true rfl, Nat.le_of_ble_eq_true rfl⟩
theorem fit_m_L_law_m_L_functions {L : Nat} {sc : Nat → Int} : mj_fit (m_L_law L sc) m_L_functions := ⟨(Or.inr w_723), w_0, Nat.le_of_ble_eq_true rfl, Nat.le_of_ble_eq_true rfl⟩
theorem fit_m_L_law_m_L_greatest {L : Nat} {sc : Nat → Int} : mj_fit (m_L_law L sc) m_L_greatest := ⟨(Or.inr w_645), w_0, Nat.le_of_ble_eq_true rfl, Nat.le_of_ble_eq_true rfl⟩
theorem fit_m_L_law_m_L_implies {L : Nat} {sc : Nat → Int} : mj_fit (m_L_law L sc) m_L_implies := ⟨(Or.inr w_671), w_0, Nat.le_of_ble_eq_true rfl, Nat.le_of_ble_eq_true rfl⟩
theorem fit_m_L_law_m_L_leader {L : Nat} {sc : Nat → Int} : mj_fit (m_L_law L sc) m_L_leader := ⟨(Or.inr w_712), w_0, Nat.le_of_ble_eq_true rfl, Nat.le_of_ble_eq_true rfl⟩
theorem fit_m_L_law_m_L_least {L : Nat} {sc : Nat → Int} : mj_fit (m_L_law L sc) m_L_least := ⟨(Or.inr w_634), w_0, Nat.le_of_ble_eq_true rfl, Nat.le_of_ble_eq_true rfl⟩
theorem fit_m_L_law_m_L_literal {L : Nat} {sc : Nat → Int} : mj_fit (m_L_law L sc) m_L_literal := ⟨(Or.inr w_552), w_0, Nat.le_of_ble_eq_true rfl, Nat.le_of_ble_eq_true rfl⟩
theorem fit_m_L_law_m_L_load {L : Nat} {sc : Nat → Int} : mj_fit (m_L_law L sc) m_L_load := ⟨(Or.inr w_410), w_0, Nat.le_of_ble_eq_true rfl, Nat.le_of_ble_eq_true rfl⟩
theorem fit_m_L_law_m_L_look {L : Nat} {sc : Nat → Int} : mj_fit (m_L_law L sc) m_L_look := ⟨(Or.inr w_828), w_0, Nat.le_of_ble_eq_true rfl, Nat.le_of_ble_eq_true rfl⟩
theorem fit_m_L_law_m_L_out {L : Nat} {sc : Nat → Int} : mj_fit (m_L_law L sc) m_L_out := ⟨(Or.inr w_816), w_0, Nat.le_of_ble_eq_true rfl, Nat.le_of_ble_eq_true rfl⟩
theorem fit_m_L_law_m_L_rises {L : Nat} {sc : Nat → Int} : mj_fit (m_L_law L sc) m_L_rises := ⟨(Or.inr w_705), w_0, Nat.le_of_ble_eq_true rfl, Nat.le_of_ble_eq_true rfl⟩
theorem fit_m_L_law_m_L_same {L : Nat} {sc : Nat → Int} : mj_fit (m_L_law L sc) m_L_same := ⟨(Or.inr w_662), w_0, Nat.le_of_ble_eq_true rfl, Nat.le_of_ble_eq_true rfl⟩
theorem fit_m_L_law_m_L_value {L : Nat} {sc : Nat → Int} : mj_fit (m_L_law L sc) m_L_value := ⟨(Or.inr w_576), w_0, Nat.le_of_ble_eq_true rfl, Nat.le_of_ble_eq_true rfl⟩
theorem fit_m_L_law_m_L_witness {L : Nat} {sc : Nat → Int} : mj_fit (m_L_law L sc) m_L_witness := ⟨(Or.inr w_626), w_0, Nat.le_of_ble_eq_true rfl, Nat.le_of_ble_eq_true rfl⟩
theorem fit_m_L_law_m_L_write {L : Nat} {sc : Nat → Int} : mj_fit (m_L_law L sc) m_L_write := ⟨(Or.inr w_741), w_0, Nat.le_of_ble_eq_true rfl, Nat.le_of_ble_eq_true rfl⟩
theorem fit_m_L_law_m_M_init {L : Nat} {sc : Nat → Int} : mj_fit (m_L_law L sc) m_M_init := ⟨(Or.inl ⟨w_843, rfl⟩), w_8, Nat.le_of_ble_eq_true rfl, Nat.le_of_ble_eq_true rfl⟩
theorem fit_m_L_law_m_M_allFunctions {L : Nat} {sc : Nat → Int} : mj_fit (m_L_law L sc) m_M_allFunctions := ⟨(Or.inl ⟨w_1151, rfl⟩), w_8, Nat.le_of_ble_eq_true rfl, Nat.le_of_ble_eq_true rfl⟩
theorem fit_m_L_law_m_M_compare {L : Nat} {sc : Nat → Int} : mj_fit (m_L_law L sc) m_M_compare := ⟨(Or.inl ⟨w_1075, rfl⟩), w_8, Nat.le_of_ble_eq_true rfl, Nat.le_of_ble_eq_true rfl⟩
theorem fit_m_L_law_m_M_depends {L : Nat} {sc : Nat → Int} : mj_fit (m_L_law L sc) m_M_depends := ⟨(Or.inl ⟨w_1111, rfl⟩), w_8, Nat.le_of_ble_eq_true rfl, Nat.le_of_ble_eq_true rfl⟩
theorem fit_m_L_law_m_M_feed {L : Nat} {sc : Nat → Int} : mj_fit (m_L_law L sc) m_M_feed := ⟨(Or.inl ⟨w_944, rfl⟩), w_8, Nat.le_of_ble_eq_true rfl, Nat.le_of_ble_eq_true rfl⟩
theorem fit_m_L_law_m_M_functions {L : Nat} {sc : Nat → Int} : mj_fit (m_L_law L sc) m_M_functions := ⟨(Or.inl ⟨w_1139, rfl⟩), w_8, Nat.le_of_ble_eq_true rfl, Nat.le_of_ble_eq_true rfl⟩
theorem fit_m_L_law_m_M_greatest {L : Nat} {sc : Nat → Int} : mj_fit (m_L_law L sc) m_M_greatest := ⟨(Or.inl ⟨w_1099, rfl⟩), w_8, Nat.le_of_ble_eq_true rfl, Nat.le_of_ble_eq_true rfl⟩
theorem fit_m_L_law_m_M_implies {L : Nat} {sc : Nat → Int} : mj_fit (m_L_law L sc) m_M_implies := ⟨(Or.inl ⟨w_1107, rfl⟩), w_8, Nat.le_of_ble_eq_true rfl, Nat.le_of_ble_eq_true rfl⟩
theorem fit_m_L_law_m_M_leader {L : Nat} {sc : Nat → Int} : mj_fit (m_L_law L sc) m_M_leader := ⟨(Or.inl ⟨w_1123, rfl⟩), w_8, Nat.le_of_ble_eq_true rfl, Nat.le_of_ble_eq_true rfl⟩
theorem fit_m_L_law_m_M_least {L : Nat} {sc : Nat → Int} : mj_fit (m_L_law L sc) m_M_least := ⟨(Or.inl ⟨w_1095, rfl⟩), w_8, Nat.le_of_ble_eq_true rfl, Nat.le_of_ble_eq_true rfl⟩
theorem fit_m_L_law_m_M_literal {L : Nat} {sc : Nat → Int} : mj_fit (m_L_law L sc) m_M_literal := ⟨(Or.inl ⟨w_1055, rfl⟩), w_8, Nat.le_of_ble_eq_true rfl, Nat.le_of_ble_eq_true rfl⟩
theorem fit_m_L_law_m_M_load {L : Nat} {sc : Nat → Int} : mj_fit (m_L_law L sc) m_M_load := ⟨(Or.inl ⟨w_952, rfl⟩), w_8, Nat.le_of_ble_eq_true rfl, Nat.le_of_ble_eq_true rfl⟩
theorem fit_m_L_law_m_M_look {L : Nat} {sc : Nat → Int} : mj_fit (m_L_law L sc) m_M_look := ⟨(Or.inl ⟨w_1195, rfl⟩), w_8, Nat.le_of_ble_eq_true rfl, Nat.le_of_ble_eq_true rfl⟩
theorem fit_m_L_law_m_M_out {L : Nat} {sc : Nat → Int} : mj_fit (m_L_law L sc) m_M_out := ⟨(Or.inl ⟨w_1191, rfl⟩), w_8, Nat.le_of_ble_eq_true rfl, Nat.le_of_ble_eq_true rfl⟩
theorem fit_m_L_law_m_M_rises {L : Nat} {sc : Nat → Int} : mj_fit (m_L_law L sc) m_M_rises := ⟨(Or.inl ⟨w_1119, rfl⟩), w_8, Nat.le_of_ble_eq_true rfl, Nat.le_of_ble_eq_true rfl⟩
theorem fit_m_L_law_m_M_same {L : Nat} {sc : Nat → Int} : mj_fit (m_L_law L sc) m_M_same := ⟨(Or.inl ⟨w_1103, rfl⟩), w_8, Nat.le_of_ble_eq_true rfl, Nat.le_of_ble_eq_true rfl⟩
theorem fit_m_L_law_m_M_thrown {L : Nat} {sc : Nat → Int} : mj_fit (m_L_law L sc) m_M_thrown := ⟨(Or.inl ⟨w_940, rfl⟩), w_8, Nat.le_of_ble_eq_true rfl, Nat.le_of_ble_eq_true rfl⟩
theorem fit_m_L_law_m_M_value {L : Nat} {sc : Nat → Int} : mj_fit (m_L_law L sc) m_M_value := ⟨(Or.inl ⟨w_1059, rfl⟩), w_8, Nat.le_of_ble_eq_true rfl, Nat.le_of_ble_eq_true rfl⟩
theorem fit_m_L_law_m_M_witness {L : Nat} {sc : Nat → Int} : mj_fit (m_L_law L sc) m_M_witness := ⟨(Or.inl ⟨w_1087, rfl⟩), w_8, Nat.le_of_ble_eq_true rfl, Nat.le_of_ble_eq_true rfl⟩
theorem fit_m_L_law_m_M_write {L : Nat} {sc : Nat → Int} : mj_fit (m_L_law L sc) m_M_write := ⟨(Or.inl ⟨w_1155, rfl⟩), w_8, Nat.le_of_ble_eq_true rfl, Nat.le_of_ble_eq_true rfl⟩
theorem fit_m_L_leader_m_T_leader : mj_fit m_L_leader m_T_leader := ⟨(Or.inl ⟨w_716, rfl⟩), w_1, Nat.le_of_ble_eq_true rfl, Nat.le_of_ble_eq_true rfl⟩
theorem fit_m_L_least_m_T_least : mj_fit m_L_least m_T_least := ⟨(Or.inl ⟨w_638, rfl⟩), w_1, Nat.le_of_ble_eq_true rfl, Nat.le_of_ble_eq_true rfl⟩
theorem fit_m_L_literal_m_T_literal : mj_fit m_L_literal m_T_literal := ⟨(Or.inl ⟨w_557, rfl⟩), w_1, Nat.le_of_ble_eq_true rfl, Nat.le_of_ble_eq_true rfl⟩
theorem fit_m_L_load_m_T_load : mj_fit m_L_load m_T_load := ⟨(Or.inl ⟨w_414, rfl⟩), w_1, Nat.le_of_ble_eq_true rfl, Nat.le_of_ble_eq_true rfl⟩
theorem fit_m_L_look_m_T_look : mj_fit m_L_look m_T_look := ⟨(Or.inl ⟨w_832, rfl⟩), w_1, Nat.le_of_ble_eq_true rfl, Nat.le_of_ble_eq_true rfl⟩
theorem fit_m_L_out_m_T_out : mj_fit m_L_out m_T_out := ⟨(Or.inl ⟨w_820, rfl⟩), w_1, Nat.le_of_ble_eq_true rfl, Nat.le_of_ble_eq_true rfl⟩
theorem fit_m_L_rises_m_T_rises : mj_fit m_L_rises m_T_rises := ⟨(Or.inl ⟨w_709, rfl⟩), w_1, Nat.le_of_ble_eq_true rfl, Nat.le_of_ble_eq_true rfl⟩
theorem fit_m_L_same_m_T_same : mj_fit m_L_same m_T_same := ⟨(Or.inl ⟨w_666, rfl⟩), w_1, Nat.le_of_ble_eq_true rfl, Nat.le_of_ble_eq_true rfl⟩
theorem fit_m_L_value_m_T_value : mj_fit m_L_value m_T_value := ⟨(Or.inl ⟨w_580, rfl⟩), w_1, Nat.le_of_ble_eq_true rfl, Nat.le_of_ble_eq_true rfl⟩
theorem fit_m_L_witness_m_T_witness : mj_fit m_L_witness m_T_witness := ⟨(Or.inl ⟨w_630, rfl⟩), w_1, Nat.le_of_ble_eq_true rfl, Nat.le_of_ble_eq_true rfl⟩
theorem fit_m_L_write_m_T_write : mj_fit m_L_write m_T_write := ⟨(Or.inl ⟨w_745, rfl⟩), w_1, Nat.le_of_ble_eq_true rfl, Nat.le_of_ble_eq_true rfl⟩
theorem fit_m_M_allFunctions_m_M_different : mj_fit m_M_allFunctions m_M_different := ⟨(Or.inl ⟨w_1143, rfl⟩), w_8, Nat.le_of_ble_eq_true rfl, Nat.le_of_ble_eq_true rfl⟩
theorem fit_m_M_allFunctions_m_M_match : mj_fit m_M_allFunctions m_M_match := ⟨(Or.inl ⟨w_1079, rfl⟩), w_8, Nat.le_of_ble_eq_true rfl, Nat.le_of_ble_eq_true rfl⟩
theorem fit_m_M_allFunctions_m_M_throwing : mj_fit m_M_allFunctions m_M_throwing := ⟨(Or.inl ⟨w_948, rfl⟩), w_8, Nat.le_of_ble_eq_true rfl, Nat.le_of_ble_eq_true rfl⟩
theorem fit_m_M_areSame_m_M_word : mj_fit m_M_areSame m_M_word := ⟨(Or.inl ⟨w_1051, rfl⟩), w_8, Nat.le_of_ble_eq_true rfl, Nat.le_of_ble_eq_true rfl⟩
theorem fit_m_M_areSame_m_M_words : mj_fit m_M_areSame m_M_words := ⟨(Or.inl ⟨w_1042, rfl⟩), w_8, Nat.le_of_ble_eq_true rfl, Nat.le_of_ble_eq_true rfl⟩
theorem fit_m_M_arrange_m_M_rowAt : mj_fit m_M_arrange m_M_rowAt := ⟨(Or.inl ⟨w_1026, rfl⟩), w_8, Nat.le_of_ble_eq_true rfl, Nat.le_of_ble_eq_true rfl⟩
theorem fit_m_M_bit_m_M_word : mj_fit m_M_bit m_M_word := ⟨(Or.inl ⟨w_1051, rfl⟩), w_8, Nat.le_of_ble_eq_true rfl, Nat.le_of_ble_eq_true rfl⟩
theorem fit_m_M_choose_m_M_isRow : mj_fit m_M_choose m_M_isRow := ⟨(Or.inl ⟨w_1131, rfl⟩), w_8, Nat.le_of_ble_eq_true rfl, Nat.le_of_ble_eq_true rfl⟩
theorem fit_m_M_choose_m_M_leaderOf : mj_fit m_M_choose m_M_leaderOf := ⟨(Or.inl ⟨w_1127, rfl⟩), w_8, Nat.le_of_ble_eq_true rfl, Nat.le_of_ble_eq_true rfl⟩
theorem fit_m_M_choose_m_M_rowAt : mj_fit m_M_choose m_M_rowAt := ⟨(Or.inl ⟨w_1026, rfl⟩), w_8, Nat.le_of_ble_eq_true rfl, Nat.le_of_ble_eq_true rfl⟩
theorem fit_m_M_choose_m_M_turned : mj_fit m_M_choose m_M_turned := ⟨(Or.inl ⟨w_1163, rfl⟩), w_8, Nat.le_of_ble_eq_true rfl, Nat.le_of_ble_eq_true rfl⟩
theorem fit_m_M_choose_m_M_variableOf : mj_fit m_M_choose m_M_variableOf := ⟨(Or.inl ⟨w_1135, rfl⟩), w_8, Nat.le_of_ble_eq_true rfl, Nat.le_of_ble_eq_true rfl⟩
theorem fit_m_M_comesBack_m_M_rowAt : mj_fit m_M_comesBack m_M_rowAt := ⟨(Or.inl ⟨w_1026, rfl⟩), w_8, Nat.le_of_ble_eq_true rfl, Nat.le_of_ble_eq_true rfl⟩
theorem fit_m_M_compare_m_M_areSame : mj_fit m_M_compare m_M_areSame := ⟨(Or.inl ⟨w_1083, rfl⟩), w_8, Nat.le_of_ble_eq_true rfl, Nat.le_of_ble_eq_true rfl⟩
theorem fit_m_M_compare_m_M_match : mj_fit m_M_compare m_M_match := ⟨(Or.inl ⟨w_1079, rfl⟩), w_8, Nat.le_of_ble_eq_true rfl, Nat.le_of_ble_eq_true rfl⟩
theorem fit_m_M_compare_m_M_throwing : mj_fit m_M_compare m_M_throwing := ⟨(Or.inl ⟨w_948, rfl⟩), w_8, Nat.le_of_ble_eq_true rfl, Nat.le_of_ble_eq_true rfl⟩
theorem fit_m_M_connect_m_M_arrange : mj_fit m_M_connect m_M_arrange := ⟨(Or.inl ⟨w_1022, rfl⟩), w_8, Nat.le_of_ble_eq_true rfl, Nat.le_of_ble_eq_true rfl⟩
theorem fit_m_M_connect_m_M_comesBack : mj_fit m_M_connect m_M_comesBack := ⟨(Or.inl ⟨w_1030, rfl⟩), w_8, Nat.le_of_ble_eq_true rfl, Nat.le_of_ble_eq_true rfl⟩
theorem fit_m_M_connect_m_M_fail : mj_fit m_M_connect m_M_fail := ⟨(Or.inl ⟨w_963, rfl⟩), w_8, Nat.le_of_ble_eq_true rfl, Nat.le_of_ble_eq_true rfl⟩
theorem fit_m_M_connect_m_M_lesser : mj_fit m_M_connect m_M_lesser := ⟨(Or.inl ⟨w_1014, rfl⟩), w_8, Nat.le_of_ble_eq_true rfl, Nat.le_of_ble_eq_true rfl⟩
theorem fit_m_M_depends_m_M_bit : mj_fit m_M_depends m_M_bit := ⟨(Or.inl ⟨w_1071, rfl⟩), w_8, Nat.le_of_ble_eq_true rfl, Nat.le_of_ble_eq_true rfl⟩
theorem fit_m_M_depends_m_M_lacksInput : mj_fit m_M_depends m_M_lacksInput := ⟨(Or.inl ⟨w_1115, rfl⟩), w_8, Nat.le_of_ble_eq_true rfl, Nat.le_of_ble_eq_true rfl⟩
theorem fit_m_M_difference_m_M_bit : mj_fit m_M_difference m_M_bit := ⟨(Or.inl ⟨w_1071, rfl⟩), w_8, Nat.le_of_ble_eq_true rfl, Nat.le_of_ble_eq_true rfl⟩
theorem fit_m_M_different_m_M_isOld : mj_fit m_M_different m_M_isOld := ⟨(Or.inl ⟨w_1147, rfl⟩), w_8, Nat.le_of_ble_eq_true rfl, Nat.le_of_ble_eq_true rfl⟩
theorem fit_m_M_different_m_M_isRow : mj_fit m_M_different m_M_isRow := ⟨(Or.inl ⟨w_1131, rfl⟩), w_8, Nat.le_of_ble_eq_true rfl, Nat.le_of_ble_eq_true rfl⟩
theorem fit_m_M_feed_m_M_throwing : mj_fit m_M_feed m_M_throwing := ⟨(Or.inl ⟨w_948, rfl⟩), w_8, Nat.le_of_ble_eq_true rfl, Nat.le_of_ble_eq_true rfl⟩
theorem fit_m_M_fillTables_m_M_mask : mj_fit m_M_fillTables m_M_mask := ⟨(Or.inl ⟨w_1046, rfl⟩), w_8, Nat.le_of_ble_eq_true rfl, Nat.le_of_ble_eq_true rfl⟩
theorem fit_m_M_fillTables_m_M_word : mj_fit m_M_fillTables m_M_word := ⟨(Or.inl ⟨w_1051, rfl⟩), w_8, Nat.le_of_ble_eq_true rfl, Nat.le_of_ble_eq_true rfl⟩
theorem fit_m_M_fillTables_m_M_words : mj_fit m_M_fillTables m_M_words := ⟨(Or.inl ⟨w_1042, rfl⟩), w_8, Nat.le_of_ble_eq_true rfl, Nat.le_of_ble_eq_true rfl⟩
theorem fit_m_M_functions_m_M_different : mj_fit m_M_functions m_M_different := ⟨(Or.inl ⟨w_1143, rfl⟩), w_8, Nat.le_of_ble_eq_true rfl, Nat.le_of_ble_eq_true rfl⟩
theorem fit_m_M_functions_m_M_isCircuit : mj_fit m_M_functions m_M_isCircuit := ⟨(Or.inl ⟨w_955, rfl⟩), w_8, Nat.le_of_ble_eq_true rfl, Nat.le_of_ble_eq_true rfl⟩
theorem fit_m_M_functions_m_M_throwing : mj_fit m_M_functions m_M_throwing := ⟨(Or.inl ⟨w_948, rfl⟩), w_8, Nat.le_of_ble_eq_true rfl, Nat.le_of_ble_eq_true rfl⟩
theorem fit_m_M_greatest_m_M_bit : mj_fit m_M_greatest m_M_bit := ⟨(Or.inl ⟨w_1071, rfl⟩), w_8, Nat.le_of_ble_eq_true rfl, Nat.le_of_ble_eq_true rfl⟩
theorem fit_m_M_greatest_m_M_isCircuit : mj_fit m_M_greatest m_M_isCircuit := ⟨(Or.inl ⟨w_955, rfl⟩), w_8, Nat.le_of_ble_eq_true rfl, Nat.le_of_ble_eq_true rfl⟩
theorem fit_m_M_greatest_m_M_isLiteral : mj_fit m_M_greatest m_M_isLiteral := ⟨(Or.inl ⟨w_1063, rfl⟩), w_8, Nat.le_of_ble_eq_true rfl, Nat.le_of_ble_eq_true rfl⟩
theorem fit_m_M_greatest_m_M_throwing : mj_fit m_M_greatest m_M_throwing := ⟨(Or.inl ⟨w_948, rfl⟩), w_8, Nat.le_of_ble_eq_true rfl, Nat.le_of_ble_eq_true rfl⟩
theorem fit_m_M_header_m_M_fail : mj_fit m_M_header m_M_fail := ⟨(Or.inl ⟨w_963, rfl⟩), w_8, Nat.le_of_ble_eq_true rfl, Nat.le_of_ble_eq_true rfl⟩
theorem fit_m_M_header_m_M_line : mj_fit m_M_header m_M_line := ⟨(Or.inl ⟨w_975, rfl⟩), w_8, Nat.le_of_ble_eq_true rfl, Nat.le_of_ble_eq_true rfl⟩
theorem fit_m_M_implies_m_M_isCircuit : mj_fit m_M_implies m_M_isCircuit := ⟨(Or.inl ⟨w_955, rfl⟩), w_8, Nat.le_of_ble_eq_true rfl, Nat.le_of_ble_eq_true rfl⟩
theorem fit_m_M_implies_m_M_isLiteral : mj_fit m_M_implies m_M_isLiteral := ⟨(Or.inl ⟨w_1063, rfl⟩), w_8, Nat.le_of_ble_eq_true rfl, Nat.le_of_ble_eq_true rfl⟩
theorem fit_m_M_implies_m_M_throwing : mj_fit m_M_implies m_M_throwing := ⟨(Or.inl ⟨w_948, rfl⟩), w_8, Nat.le_of_ble_eq_true rfl, Nat.le_of_ble_eq_true rfl⟩
theorem fit_m_M_implies_m_M_word : mj_fit m_M_implies m_M_word := ⟨(Or.inl ⟨w_1051, rfl⟩), w_8, Nat.le_of_ble_eq_true rfl, Nat.le_of_ble_eq_true rfl⟩
theorem fit_m_M_implies_m_M_words : mj_fit m_M_implies m_M_words := ⟨(Or.inl ⟨w_1042, rfl⟩), w_8, Nat.le_of_ble_eq_true rfl, Nat.le_of_ble_eq_true rfl⟩
theorem fit_m_M_isLiteral_m_M_rowAt : mj_fit m_M_isLiteral m_M_rowAt := ⟨(Or.inl ⟨w_1026, rfl⟩), w_8, Nat.le_of_ble_eq_true rfl, Nat.le_of_ble_eq_true rfl⟩
theorem fit_m_M_isOld_m_M_areSame : mj_fit m_M_isOld m_M_areSame := ⟨(Or.inl ⟨w_1083, rfl⟩), w_8, Nat.le_of_ble_eq_true rfl, Nat.le_of_ble_eq_true rfl⟩
theorem fit_m_M_isOld_m_M_isRow : mj_fit m_M_isOld m_M_isRow := ⟨(Or.inl ⟨w_1131, rfl⟩), w_8, Nat.le_of_ble_eq_true rfl, Nat.le_of_ble_eq_true rfl⟩
theorem fit_m_M_isOld_m_M_variableOf : mj_fit m_M_isOld m_M_variableOf := ⟨(Or.inl ⟨w_1135, rfl⟩), w_8, Nat.le_of_ble_eq_true rfl, Nat.le_of_ble_eq_true rfl⟩
theorem fit_m_M_lacksInput_m_M_isCircuit : mj_fit m_M_lacksInput m_M_isCircuit := ⟨(Or.inl ⟨w_955, rfl⟩), w_8, Nat.le_of_ble_eq_true rfl, Nat.le_of_ble_eq_true rfl⟩
theorem fit_m_M_lacksInput_m_M_isLiteral : mj_fit m_M_lacksInput m_M_isLiteral := ⟨(Or.inl ⟨w_1063, rfl⟩), w_8, Nat.le_of_ble_eq_true rfl, Nat.le_of_ble_eq_true rfl⟩
theorem fit_m_M_lacksInput_m_M_throwing : mj_fit m_M_lacksInput m_M_throwing := ⟨(Or.inl ⟨w_948, rfl⟩), w_8, Nat.le_of_ble_eq_true rfl, Nat.le_of_ble_eq_true rfl⟩
theorem fit_m_M_leader_m_M_isCircuit : mj_fit m_M_leader m_M_isCircuit := ⟨(Or.inl ⟨w_955, rfl⟩), w_8, Nat.le_of_ble_eq_true rfl, Nat.le_of_ble_eq_true rfl⟩
theorem fit_m_M_leader_m_M_isLiteral : mj_fit m_M_leader m_M_isLiteral := ⟨(Or.inl ⟨w_1063, rfl⟩), w_8, Nat.le_of_ble_eq_true rfl, Nat.le_of_ble_eq_true rfl⟩
theorem fit_m_M_leader_m_M_leaderOf : mj_fit m_M_leader m_M_leaderOf := ⟨(Or.inl ⟨w_1127, rfl⟩), w_8, Nat.le_of_ble_eq_true rfl, Nat.le_of_ble_eq_true rfl⟩
theorem fit_m_M_leader_m_M_throwing : mj_fit m_M_leader m_M_throwing := ⟨(Or.inl ⟨w_948, rfl⟩), w_8, Nat.le_of_ble_eq_true rfl, Nat.le_of_ble_eq_true rfl⟩
theorem fit_m_M_leaderOf_m_M_areSame : mj_fit m_M_leaderOf m_M_areSame := ⟨(Or.inl ⟨w_1083, rfl⟩), w_8, Nat.le_of_ble_eq_true rfl, Nat.le_of_ble_eq_true rfl⟩
theorem fit_m_M_leaderOf_m_M_isRow : mj_fit m_M_leaderOf m_M_isRow := ⟨(Or.inl ⟨w_1131, rfl⟩), w_8, Nat.le_of_ble_eq_true rfl, Nat.le_of_ble_eq_true rfl⟩
theorem fit_m_M_leaderOf_m_M_rowAt : mj_fit m_M_leaderOf m_M_rowAt := ⟨(Or.inl ⟨w_1026, rfl⟩), w_8, Nat.le_of_ble_eq_true rfl, Nat.le_of_ble_eq_true rfl⟩
theorem fit_m_M_leaderOf_m_M_variableOf : mj_fit m_M_leaderOf m_M_variableOf := ⟨(Or.inl ⟨w_1135, rfl⟩), w_8, Nat.le_of_ble_eq_true rfl, Nat.le_of_ble_eq_true rfl⟩
theorem fit_m_M_least_m_M_bit : mj_fit m_M_least m_M_bit := ⟨(Or.inl ⟨w_1071, rfl⟩), w_8, Nat.le_of_ble_eq_true rfl, Nat.le_of_ble_eq_true rfl⟩
theorem fit_m_M_least_m_M_isCircuit : mj_fit m_M_least m_M_isCircuit := ⟨(Or.inl ⟨w_955, rfl⟩), w_8, Nat.le_of_ble_eq_true rfl, Nat.le_of_ble_eq_true rfl⟩
theorem fit_m_M_least_m_M_isLiteral : mj_fit m_M_least m_M_isLiteral := ⟨(Or.inl ⟨w_1063, rfl⟩), w_8, Nat.le_of_ble_eq_true rfl, Nat.le_of_ble_eq_true rfl⟩
theorem fit_m_M_least_m_M_isVector : mj_fit m_M_least m_M_isVector := ⟨(Or.inl ⟨w_1067, rfl⟩), w_8, Nat.le_of_ble_eq_true rfl, Nat.le_of_ble_eq_true rfl⟩
theorem fit_m_M_least_m_M_throwing : mj_fit m_M_least m_M_throwing := ⟨(Or.inl ⟨w_948, rfl⟩), w_8, Nat.le_of_ble_eq_true rfl, Nat.le_of_ble_eq_true rfl⟩
theorem fit_m_M_lesser_m_M_lacks : mj_fit m_M_lesser m_M_lacks := ⟨(Or.inl ⟨w_1018, rfl⟩), w_8, Nat.le_of_ble_eq_true rfl, Nat.le_of_ble_eq_true rfl⟩
theorem fit_m_M_line_m_M_fail : mj_fit m_M_line m_M_fail := ⟨(Or.inl ⟨w_963, rfl⟩), w_8, Nat.le_of_ble_eq_true rfl, Nat.le_of_ble_eq_true rfl⟩
theorem fit_m_M_line_m_M_here : mj_fit m_M_line m_M_here := ⟨(Or.inl ⟨w_979, rfl⟩), w_8, Nat.le_of_ble_eq_true rfl, Nat.le_of_ble_eq_true rfl⟩
theorem fit_m_M_line_m_M_isDigit : mj_fit m_M_line m_M_isDigit := ⟨(Or.inl ⟨w_982, rfl⟩), w_8, Nat.le_of_ble_eq_true rfl, Nat.le_of_ble_eq_true rfl⟩
theorem fit_m_M_literal_m_M_isCircuit : mj_fit m_M_literal m_M_isCircuit := ⟨(Or.inl ⟨w_955, rfl⟩), w_8, Nat.le_of_ble_eq_true rfl, Nat.le_of_ble_eq_true rfl⟩
theorem fit_m_M_literal_m_M_throwing : mj_fit m_M_literal m_M_throwing := ⟨(Or.inl ⟨w_948, rfl⟩), w_8, Nat.le_of_ble_eq_true rfl, Nat.le_of_ble_eq_true rfl⟩
theorem fit_m_M_load_m_M_isCircuit : mj_fit m_M_load m_M_isCircuit := ⟨(Or.inl ⟨w_955, rfl⟩), w_8, Nat.le_of_ble_eq_true rfl, Nat.le_of_ble_eq_true rfl⟩
theorem fit_m_M_load_m_M_readText : mj_fit m_M_load m_M_readText := ⟨(Or.inl ⟨w_959, rfl⟩), w_8, Nat.le_of_ble_eq_true rfl, Nat.le_of_ble_eq_true rfl⟩
theorem fit_m_M_load_m_M_take : mj_fit m_M_load m_M_take := ⟨(Or.inl ⟨w_1034, rfl⟩), w_8, Nat.le_of_ble_eq_true rfl, Nat.le_of_ble_eq_true rfl⟩
theorem fit_m_M_load_m_M_throwing : mj_fit m_M_load m_M_throwing := ⟨(Or.inl ⟨w_948, rfl⟩), w_8, Nat.le_of_ble_eq_true rfl, Nat.le_of_ble_eq_true rfl⟩
theorem fit_m_M_look_m_M_isCircuit : mj_fit m_M_look m_M_isCircuit := ⟨(Or.inl ⟨w_955, rfl⟩), w_8, Nat.le_of_ble_eq_true rfl, Nat.le_of_ble_eq_true rfl⟩
theorem fit_m_M_look_m_M_rowAt : mj_fit m_M_look m_M_rowAt := ⟨(Or.inl ⟨w_1026, rfl⟩), w_8, Nat.le_of_ble_eq_true rfl, Nat.le_of_ble_eq_true rfl⟩
theorem fit_m_M_look_m_M_throwing : mj_fit m_M_look m_M_throwing := ⟨(Or.inl ⟨w_948, rfl⟩), w_8, Nat.le_of_ble_eq_true rfl, Nat.le_of_ble_eq_true rfl⟩
theorem fit_m_M_out_m_M_throwing : mj_fit m_M_out m_M_throwing := ⟨(Or.inl ⟨w_948, rfl⟩), w_8, Nat.le_of_ble_eq_true rfl, Nat.le_of_ble_eq_true rfl⟩
theorem fit_m_M_putNumber_m_M_put : mj_fit m_M_putNumber m_M_put := ⟨(Or.inl ⟨w_1167, rfl⟩), w_8, Nat.le_of_ble_eq_true rfl, Nat.le_of_ble_eq_true rfl⟩
theorem fit_m_M_putStep_m_M_put : mj_fit m_M_putStep m_M_put := ⟨(Or.inl ⟨w_1167, rfl⟩), w_8, Nat.le_of_ble_eq_true rfl, Nat.le_of_ble_eq_true rfl⟩
theorem fit_m_M_readGates_m_M_fail : mj_fit m_M_readGates m_M_fail := ⟨(Or.inl ⟨w_963, rfl⟩), w_8, Nat.le_of_ble_eq_true rfl, Nat.le_of_ble_eq_true rfl⟩
theorem fit_m_M_readGates_m_M_line : mj_fit m_M_readGates m_M_line := ⟨(Or.inl ⟨w_975, rfl⟩), w_8, Nat.le_of_ble_eq_true rfl, Nat.le_of_ble_eq_true rfl⟩
theorem fit_m_M_readGates_m_M_stands : mj_fit m_M_readGates m_M_stands := ⟨(Or.inl ⟨w_990, rfl⟩), w_8, Nat.le_of_ble_eq_true rfl, Nat.le_of_ble_eq_true rfl⟩
theorem fit_m_M_readInputs_m_M_fail : mj_fit m_M_readInputs m_M_fail := ⟨(Or.inl ⟨w_963, rfl⟩), w_8, Nat.le_of_ble_eq_true rfl, Nat.le_of_ble_eq_true rfl⟩
theorem fit_m_M_readInputs_m_M_line : mj_fit m_M_readInputs m_M_line := ⟨(Or.inl ⟨w_975, rfl⟩), w_8, Nat.le_of_ble_eq_true rfl, Nat.le_of_ble_eq_true rfl⟩
theorem fit_m_M_readInputs_m_M_stands : mj_fit m_M_readInputs m_M_stands := ⟨(Or.inl ⟨w_990, rfl⟩), w_8, Nat.le_of_ble_eq_true rfl, Nat.le_of_ble_eq_true rfl⟩
theorem fit_m_M_readOutputs_m_M_fail : mj_fit m_M_readOutputs m_M_fail := ⟨(Or.inl ⟨w_963, rfl⟩), w_8, Nat.le_of_ble_eq_true rfl, Nat.le_of_ble_eq_true rfl⟩
theorem fit_m_M_readOutputs_m_M_line : mj_fit m_M_readOutputs m_M_line := ⟨(Or.inl ⟨w_975, rfl⟩), w_8, Nat.le_of_ble_eq_true rfl, Nat.le_of_ble_eq_true rfl⟩
theorem fit_m_M_readSteps_m_M_fail : mj_fit m_M_readSteps m_M_fail := ⟨(Or.inl ⟨w_963, rfl⟩), w_8, Nat.le_of_ble_eq_true rfl, Nat.le_of_ble_eq_true rfl⟩
theorem fit_m_M_readSteps_m_M_stands : mj_fit m_M_readSteps m_M_stands := ⟨(Or.inl ⟨w_990, rfl⟩), w_8, Nat.le_of_ble_eq_true rfl, Nat.le_of_ble_eq_true rfl⟩
theorem fit_m_M_readSteps_m_M_step : mj_fit m_M_readSteps m_M_step := ⟨(Or.inl ⟨w_1002, rfl⟩), w_8, Nat.le_of_ble_eq_true rfl, Nat.le_of_ble_eq_true rfl⟩
theorem fit_m_M_readText_m_M_connect : mj_fit m_M_readText m_M_connect := ⟨(Or.inl ⟨w_1010, rfl⟩), w_8, Nat.le_of_ble_eq_true rfl, Nat.le_of_ble_eq_true rfl⟩
theorem fit_m_M_readText_m_M_empty : mj_fit m_M_readText m_M_empty := ⟨(Or.inl ⟨w_967, rfl⟩), w_8, Nat.le_of_ble_eq_true rfl, Nat.le_of_ble_eq_true rfl⟩
theorem fit_m_M_readText_m_M_fail : mj_fit m_M_readText m_M_fail := ⟨(Or.inl ⟨w_963, rfl⟩), w_8, Nat.le_of_ble_eq_true rfl, Nat.le_of_ble_eq_true rfl⟩
theorem fit_m_M_readText_m_M_header : mj_fit m_M_readText m_M_header := ⟨(Or.inl ⟨w_971, rfl⟩), w_8, Nat.le_of_ble_eq_true rfl, Nat.le_of_ble_eq_true rfl⟩
theorem fit_m_M_readText_m_M_here : mj_fit m_M_readText m_M_here := ⟨(Or.inl ⟨w_979, rfl⟩), w_8, Nat.le_of_ble_eq_true rfl, Nat.le_of_ble_eq_true rfl⟩
theorem fit_m_M_readText_m_M_readGates : mj_fit m_M_readText m_M_readGates := ⟨(Or.inl ⟨w_1006, rfl⟩), w_8, Nat.le_of_ble_eq_true rfl, Nat.le_of_ble_eq_true rfl⟩
theorem fit_m_M_readText_m_M_readInputs : mj_fit m_M_readText m_M_readInputs := ⟨(Or.inl ⟨w_986, rfl⟩), w_8, Nat.le_of_ble_eq_true rfl, Nat.le_of_ble_eq_true rfl⟩
theorem fit_m_M_readText_m_M_readOutputs : mj_fit m_M_readText m_M_readOutputs := ⟨(Or.inl ⟨w_994, rfl⟩), w_8, Nat.le_of_ble_eq_true rfl, Nat.le_of_ble_eq_true rfl⟩
theorem fit_m_M_readText_m_M_readSteps : mj_fit m_M_readText m_M_readSteps := ⟨(Or.inl ⟨w_998, rfl⟩), w_8, Nat.le_of_ble_eq_true rfl, Nat.le_of_ble_eq_true rfl⟩
theorem fit_m_M_rises_m_M_bit : mj_fit m_M_rises m_M_bit := ⟨(Or.inl ⟨w_1071, rfl⟩), w_8, Nat.le_of_ble_eq_true rfl, Nat.le_of_ble_eq_true rfl⟩
theorem fit_m_M_rises_m_M_lacksInput : mj_fit m_M_rises m_M_lacksInput := ⟨(Or.inl ⟨w_1115, rfl⟩), w_8, Nat.le_of_ble_eq_true rfl, Nat.le_of_ble_eq_true rfl⟩
theorem fit_m_M_same_m_M_areSame : mj_fit m_M_same m_M_areSame := ⟨(Or.inl ⟨w_1083, rfl⟩), w_8, Nat.le_of_ble_eq_true rfl, Nat.le_of_ble_eq_true rfl⟩
theorem fit_m_M_same_m_M_isLiteral : mj_fit m_M_same m_M_isLiteral := ⟨(Or.inl ⟨w_1063, rfl⟩), w_8, Nat.le_of_ble_eq_true rfl, Nat.le_of_ble_eq_true rfl⟩
theorem fit_m_M_same_m_M_match : mj_fit m_M_same m_M_match := ⟨(Or.inl ⟨w_1079, rfl⟩), w_8, Nat.le_of_ble_eq_true rfl, Nat.le_of_ble_eq_true rfl⟩
theorem fit_m_M_same_m_M_throwing : mj_fit m_M_same m_M_throwing := ⟨(Or.inl ⟨w_948, rfl⟩), w_8, Nat.le_of_ble_eq_true rfl, Nat.le_of_ble_eq_true rfl⟩
theorem fit_m_M_step_m_M_fail : mj_fit m_M_step m_M_fail := ⟨(Or.inl ⟨w_963, rfl⟩), w_8, Nat.le_of_ble_eq_true rfl, Nat.le_of_ble_eq_true rfl⟩
theorem fit_m_M_step_m_M_here : mj_fit m_M_step m_M_here := ⟨(Or.inl ⟨w_979, rfl⟩), w_8, Nat.le_of_ble_eq_true rfl, Nat.le_of_ble_eq_true rfl⟩
theorem fit_m_M_take_m_M_fillTables : mj_fit m_M_take m_M_fillTables := ⟨(Or.inl ⟨w_1038, rfl⟩), w_8, Nat.le_of_ble_eq_true rfl, Nat.le_of_ble_eq_true rfl⟩
theorem fit_m_M_turned_m_M_rowAt : mj_fit m_M_turned m_M_rowAt := ⟨(Or.inl ⟨w_1026, rfl⟩), w_8, Nat.le_of_ble_eq_true rfl, Nat.le_of_ble_eq_true rfl⟩
theorem fit_m_M_value_m_M_bit : mj_fit m_M_value m_M_bit := ⟨(Or.inl ⟨w_1071, rfl⟩), w_8, Nat.le_of_ble_eq_true rfl, Nat.le_of_ble_eq_true rfl⟩
theorem fit_m_M_value_m_M_isCircuit : mj_fit m_M_value m_M_isCircuit := ⟨(Or.inl ⟨w_955, rfl⟩), w_8, Nat.le_of_ble_eq_true rfl, Nat.le_of_ble_eq_true rfl⟩
theorem fit_m_M_value_m_M_isLiteral : mj_fit m_M_value m_M_isLiteral := ⟨(Or.inl ⟨w_1063, rfl⟩), w_8, Nat.le_of_ble_eq_true rfl, Nat.le_of_ble_eq_true rfl⟩
theorem fit_m_M_value_m_M_isVector : mj_fit m_M_value m_M_isVector := ⟨(Or.inl ⟨w_1067, rfl⟩), w_8, Nat.le_of_ble_eq_true rfl, Nat.le_of_ble_eq_true rfl⟩
theorem fit_m_M_value_m_M_throwing : mj_fit m_M_value m_M_throwing := ⟨(Or.inl ⟨w_948, rfl⟩), w_8, Nat.le_of_ble_eq_true rfl, Nat.le_of_ble_eq_true rfl⟩
theorem fit_m_M_witness_m_M_difference : mj_fit m_M_witness m_M_difference := ⟨(Or.inl ⟨w_1091, rfl⟩), w_8, Nat.le_of_ble_eq_true rfl, Nat.le_of_ble_eq_true rfl⟩
theorem fit_m_M_witness_m_M_match : mj_fit m_M_witness m_M_match := ⟨(Or.inl ⟨w_1079, rfl⟩), w_8, Nat.le_of_ble_eq_true rfl, Nat.le_of_ble_eq_true rfl⟩
theorem fit_m_M_witness_m_M_throwing : mj_fit m_M_witness m_M_throwing := ⟨(Or.inl ⟨w_948, rfl⟩), w_8, Nat.le_of_ble_eq_true rfl, Nat.le_of_ble_eq_true rfl⟩
theorem fit_m_M_word_m_M_mask : mj_fit m_M_word m_M_mask := ⟨(Or.inl ⟨w_1046, rfl⟩), w_8, Nat.le_of_ble_eq_true rfl, Nat.le_of_ble_eq_true rfl⟩
theorem fit_m_M_word_m_M_rowAt : mj_fit m_M_word m_M_rowAt := ⟨(Or.inl ⟨w_1026, rfl⟩), w_8, Nat.le_of_ble_eq_true rfl, Nat.le_of_ble_eq_true rfl⟩
theorem fit_m_M_write_m_M_choose : mj_fit m_M_write m_M_choose := ⟨(Or.inl ⟨w_1159, rfl⟩), w_8, Nat.le_of_ble_eq_true rfl, Nat.le_of_ble_eq_true rfl⟩
theorem fit_m_M_write_m_M_isCircuit : mj_fit m_M_write m_M_isCircuit := ⟨(Or.inl ⟨w_955, rfl⟩), w_8, Nat.le_of_ble_eq_true rfl, Nat.le_of_ble_eq_true rfl⟩
theorem fit_m_M_write_m_M_nextGate : mj_fit m_M_write m_M_nextGate := ⟨(Or.inl ⟨w_1175, rfl⟩), w_8, Nat.le_of_ble_eq_true rfl, Nat.le_of_ble_eq_true rfl⟩
theorem fit_m_M_write_m_M_put : mj_fit m_M_write m_M_put := ⟨(Or.inl ⟨w_1167, rfl⟩), w_8, Nat.le_of_ble_eq_true rfl, Nat.le_of_ble_eq_true rfl⟩
theorem fit_m_M_write_m_M_putNumber : mj_fit m_M_write m_M_putNumber := ⟨(Or.inl ⟨w_1171, rfl⟩), w_8, Nat.le_of_ble_eq_true rfl, Nat.le_of_ble_eq_true rfl⟩
theorem fit_m_M_write_m_M_throwing : mj_fit m_M_write m_M_throwing := ⟨(Or.inl ⟨w_948, rfl⟩), w_8, Nat.le_of_ble_eq_true rfl, Nat.le_of_ble_eq_true rfl⟩
theorem fit_m_M_write_m_M_writeGate : mj_fit m_M_write m_M_writeGate := ⟨(Or.inl ⟨w_1183, rfl⟩), w_8, Nat.le_of_ble_eq_true rfl, Nat.le_of_ble_eq_true rfl⟩
theorem fit_m_M_write_m_M_written : mj_fit m_M_write m_M_written := ⟨(Or.inl ⟨w_1179, rfl⟩), w_8, Nat.le_of_ble_eq_true rfl, Nat.le_of_ble_eq_true rfl⟩
theorem fit_m_M_writeGate_m_M_putNumber : mj_fit m_M_writeGate m_M_putNumber := ⟨(Or.inl ⟨w_1171, rfl⟩), w_8, Nat.le_of_ble_eq_true rfl, Nat.le_of_ble_eq_true rfl⟩
theorem fit_m_M_writeGate_m_M_putStep : mj_fit m_M_writeGate m_M_putStep := ⟨(Or.inl ⟨w_1187, rfl⟩), w_8, Nat.le_of_ble_eq_true rfl, Nat.le_of_ble_eq_true rfl⟩
theorem fit_m_M_writeGate_m_M_written : mj_fit m_M_writeGate m_M_written := ⟨(Or.inl ⟨w_1179, rfl⟩), w_8, Nat.le_of_ble_eq_true rfl, Nat.le_of_ble_eq_true rfl⟩
theorem fit_m_M_written_m_M_rowAt : mj_fit m_M_written m_M_rowAt := ⟨(Or.inl ⟨w_1026, rfl⟩), w_8, Nat.le_of_ble_eq_true rfl, Nat.le_of_ble_eq_true rfl⟩
theorem fit_m_M_written_m_M_turned : mj_fit m_M_written m_M_turned := ⟨(Or.inl ⟨w_1163, rfl⟩), w_8, Nat.le_of_ble_eq_true rfl, Nat.le_of_ble_eq_true rfl⟩
theorem fit_m_J_numberOfLeadingZeros_m_I_numberOfLeadingZeros : mj_fit m_J_numberOfLeadingZeros m_I_numberOfLeadingZeros := ⟨(Or.inl ⟨w_659, rfl⟩), w_17, Nat.le_of_ble_eq_true rfl, Nat.le_of_ble_eq_true rfl⟩
theorem fit_m_J_numberOfTrailingZeros_m_I_numberOfTrailingZeros : mj_fit m_J_numberOfTrailingZeros m_I_numberOfTrailingZeros := ⟨(Or.inl ⟨w_622, rfl⟩), w_17, Nat.le_of_ble_eq_true rfl, Nat.le_of_ble_eq_true rfl⟩
end
section
/-! NUMBERS: the int operations on values in range -/
theorem nu_sh31 : ∀ k : Fin 32, (((Int32.ofInt (k.val : Int) &&& 31).toBitVec).smod 32).toNat = k.val := by decide +kernel
theorem nu_shr {x : Int} {k : Nat} (h1 : -2147483648 ≤ x) (h2 : x < 2147483648) (hk : k < 32) : (Int32.ofInt x >>> (Int32.ofInt (k : Int) &&& 31)).toInt = x / ((2 ^ k : Nat) : Int) := by
  have h := nu_sh31 ⟨k, hk⟩
  show ((Int32.ofInt x).toBitVec.sshiftRight' ((Int32.ofInt (k : Int) &&& 31).toBitVec.smod 32)).toInt = _
  rw [BitVec.sshiftRight_eq', h, BitVec.toInt_sshiftRight, Int.shiftRight_eq_div_pow]
  show (Int32.ofInt x).toInt / _ = _
  rw [mj_toInt, mj_w_id h1 h2]
theorem nu_ofInt_toNat (x : Int) : ((Int32.ofInt x).toBitVec.toNat : Int) = x % 4294967296 := by
  show ((BitVec.ofInt 32 x).toNat : Int) = _
  rw [BitVec.toNat_ofInt]
  omega
theorem nu_toInt_small {b : BitVec 32} (h : b.toNat < 2147483648) : b.toInt = (b.toNat : Int) := by
  rw [BitVec.toInt_eq_toNat_of_lt]
  omega
/-- x & (2^k - 1), for every x -/
theorem nu_and (x : Int) {k : Nat} (hk : k < 31) : (Int32.ofInt x &&& Int32.ofInt ((2 ^ k - 1 : Nat) : Int)).toInt = x % ((2 ^ k : Nat) : Int) := by
  have hp : 2 ^ k ≤ 2 ^ 30 := Nat.pow_le_pow_right (by decide) (by omega)
  have hp0 : 0 < 2 ^ k := Nat.two_pow_pos k
  have hm : ((Int32.ofInt ((2 ^ k - 1 : Nat) : Int)).toBitVec).toNat = 2 ^ k - 1 := by
    have := nu_ofInt_toNat ((2 ^ k - 1 : Nat) : Int)
    omega
  have hn : ((Int32.ofInt x).toBitVec &&& (Int32.ofInt ((2 ^ k - 1 : Nat) : Int)).toBitVec).toNat = (Int32.ofInt x).toBitVec.toNat % 2 ^ k := by
    rw [BitVec.toNat_and, hm, Nat.and_two_pow_sub_one_eq_mod]
  show ((Int32.ofInt x).toBitVec &&& (Int32.ofInt ((2 ^ k - 1 : Nat) : Int)).toBitVec).toInt = _
  have hlt : (Int32.ofInt x).toBitVec.toNat % 2 ^ k < 2 ^ k := Nat.mod_lt _ hp0
  rw [nu_toInt_small (by rw [hn]; omega), hn]
  have hx := nu_ofInt_toNat x
  have hd : ((2 ^ k : Nat) : Int) ∣ 4294967296 := by
    refine ⟨((2 ^ (32 - k) : Nat) : Int), ?_⟩
    rw [← Int.natCast_mul, ← Nat.pow_add, show k + (32 - k) = 32 by omega]
    rfl
  rw [Int.natCast_emod, hx, Int.emod_emod_of_dvd x hd]
theorem nu_and1 (x : Int) : (Int32.ofInt x &&& Int32.ofInt 1).toInt = x % 2 := nu_and x (k := 1) (by decide)
theorem nu_and31 (x : Int) : (Int32.ofInt x &&& Int32.ofInt 31).toInt = x % 32 := nu_and x (k := 5) (by decide)
theorem nu_and63 (x : Int) : (Int32.ofInt x &&& Int32.ofInt 63).toInt = x % 64 := nu_and x (k := 6) (by decide)
theorem nu_and255 (x : Int) : (Int32.ofInt x &&& Int32.ofInt 255).toInt = x % 256 := nu_and x (k := 8) (by decide)
theorem nu_shr1 {x : Int} (h1 : -2147483648 ≤ x) (h2 : x < 2147483648) : (Int32.ofInt x >>> (Int32.ofInt 1 &&& 31)).toInt = x / 2 := nu_shr (k := 1) h1 h2 (by decide)
theorem nu_div {x y : Int} (h1 : 0 ≤ x) (h2 : x < 2147483648) (h3 : 0 < y) (h4 : y < 2147483648) : (Int32.ofInt x / Int32.ofInt y).toInt = x / y := by
  have hy : (Int32.ofInt y).toInt = y := by rw [mj_toInt, mj_w_id (by omega) h4]
  have hx : (Int32.ofInt x).toInt = x := by rw [mj_toInt, mj_w_id (by omega) h2]
  rw [Int32.toInt_div_of_ne_right _ _ (fun e => by
    have e2 := congrArg Int32.toInt e
    rw [hy] at e2
    have : (-1 : Int32).toInt = -1 := rfl
    omega), hx, hy, Int.tdiv_eq_ediv_of_nonneg h1]
theorem nu_rem {x y : Int} (h1 : 0 ≤ x) (h2 : x < 2147483648) (h3 : 0 < y) (h4 : y < 2147483648) : (Int32.ofInt x - Int32.ofInt x / Int32.ofInt y * Int32.ofInt y).toInt = x % y := by
  have hd := nu_div h1 h2 h3 h4
  have hq : Int32.ofInt x / Int32.ofInt y = Int32.ofInt (x / y) := by rw [← hd, Int32.ofInt_toInt]
  have h5 : 0 ≤ x % y := Int.emod_nonneg x (by omega)
  have h6 : x % y < y := Int.emod_lt_of_pos x h3
  rw [hq, ← Int32.ofInt_mul, ← Int32.ofInt_sub, mj_toInt, show x - x / y * y = x % y by
    have := Int.emod_add_mul_ediv x y
    rw [Int.mul_comm] at this
    omega, mj_w_id (by omega) (by omega)]
end
section
/-! THE LAW'S ENTRY -/
theorem en_K {args : Array Value} {s : State} (hw : ∀ w ∈ mj_wd, w.before args s = true) : ∃ (D : va_G) (cs : Nat → ClassId), va_K D vwCl (mj_ty cs) s := by
  have h1 : ∀ ci : Nat, ∃ q : ClassId × (Nat → Nat), ∀ r, vwCl[ci]? = some r → u_Kn s r.1 r.2.1 r.2.2 q.1 q.2 := by
    intro ci
    rcases ci with _ | _ | _ | _ | _ | _ | _ | ci
    · obtain ⟨c, i, h⟩ := u_known (n := 4) hw h_T.2.1 (hw _ w_19)
      exact ⟨(c, i), fun r hr => by cases hr; exact h⟩
    · obtain ⟨c, i, h⟩ := u_known (n := 10) hw h_C.2.1 (hw _ w_27)
      exact ⟨(c, i), fun r hr => by cases hr; exact h⟩
    · obtain ⟨c, i, h⟩ := u_known (n := 3) hw h_F.2.1 (hw _ w_211)
      exact ⟨(c, i), fun r hr => by cases hr; exact h⟩
    · obtain ⟨c, i, h⟩ := u_known (n := 13) hw h_N.2.1 (hw _ w_33)
      exact ⟨(c, i), fun r hr => by cases hr; exact h⟩
    · obtain ⟨c, i, h⟩ := u_known (n := 10) hw h_R.2.1 (hw _ w_205)
      exact ⟨(c, i), fun r hr => by cases hr; exact h⟩
    · obtain ⟨c, i, h⟩ := u_known (n := 9) hw h_W.2.1 (hw _ w_264)
      exact ⟨(c, i), fun r hr => by cases hr; exact h⟩
    · obtain ⟨c, i, h⟩ := u_known (n := 30) hw h_M.2.1 (hw _ w_840)
      exact ⟨(c, i), fun r hr => by cases hr; exact h⟩
    · exact ⟨(0, fun _ => 0), fun r hr => by cases hr⟩
  have h2 : ∀ ty : FieldType, Cond.arrayClass ty ∈ mj_wd → ∃ cA : ClassId, ArrOfT s cA ty ∧ s.vm.findClass ("[" ++ ty.toString) = some cA := by
    intro ty hty
    obtain ⟨cA, kA, comp, g1, g2, g3⟩ := Cond.arrayClass_spec (hw _ hty)
    exact ⟨cA, fun n z => ⟨fun k h => (by cases h), kA, g2, comp, g3⟩, g1⟩
  obtain ⟨F, hF⟩ := Classical.axiomOfChoice h1
  obtain ⟨c0, a0, b0⟩ := h2 .int w_118
  obtain ⟨c1, a1, b1⟩ := h2 .byte w_226
  obtain ⟨c2, a2, b2⟩ := h2 .boolean w_298
  obtain ⟨c3, a3, b3⟩ := h2 .long w_154
  refine ⟨(fun ci => (F ci).1, fun ci => (F ci).2), fun k => match k with | 0 => c0 | 1 => c1 | 2 => c2 | _ => c3, fun c q hq => hF c q hq, ?_⟩
  intro k q hq
  rcases k with _ | _ | _ | _ | k
  · cases hq
    exact ⟨a0, b0⟩
  · cases hq
    exact ⟨a1, b1⟩
  · cases hq
    exact ⟨a2, b2⟩
  · cases hq
    exact ⟨a3, b3⟩
  · cases hq
theorem en_eql {args : Array Value} {s : State} {t : Term} {z : Int64} (h : (Cond.eq t (.long z)).before args s = true) : t.eval args s none [] s = some (.long z) := va_eqI (by simpa [Cond.before, Cond.holds] using h) rfl
theorem en_S {b : Nat} {s : State} (ht : ∀ w ∈ lw_tbl, w.before #[Value.ref b] s = true) (hg : (Jvm.Cond.and given_1 narrow_1).before #[Value.ref b] s = true) : ∃ tb, mj_Sx tb (fun q => s.heap.size ≤ q) s := by
  have hs := flat_of_before _ hg
  have hA : ∀ a : Nat, a < s.heap.size → ¬ (fun q => s.heap.size ≤ q) a := fun a h1 h2 => by
    have h2 : s.heap.size ≤ a := h2
    omega
  obtain ⟨tb, h1, h2⟩ := va_Tof (tm := .static mj_ixC mj_ixN mj_ixD) (ty := .long) (N := 6) (f := fun j => .long (Int64.ofBitVec (mj_iw j))) (by decide) (hs (.arrayOf (.static "CircuitTwin$Circuit" "INPUT_WORDS" "[J") .long) (by decide +kernel)) (va_eqt (hs (.eq (.length (.static "CircuitTwin$Circuit" "INPUT_WORDS" "[J")) (.int 6)) (by decide +kernel))) (fun j hj => by
    rcases (show j = 0 ∨ j = 1 ∨ j = 2 ∨ j = 3 ∨ j = 4 ∨ j = 5 by omega) with rfl | rfl | rfl | rfl | rfl | rfl
    · exact en_eql (hs (.eq (.elem (.static "CircuitTwin$Circuit" "INPUT_WORDS" "[J") (.int 0)) (.long (-6148914691236517206))) (by decide +kernel))
    · exact en_eql (hs (.eq (.elem (.static "CircuitTwin$Circuit" "INPUT_WORDS" "[J") (.int 1)) (.long (-3689348814741910324))) (by decide +kernel))
    · exact en_eql (hs (.eq (.elem (.static "CircuitTwin$Circuit" "INPUT_WORDS" "[J") (.int 2)) (.long (-1085102592571150096))) (by decide +kernel))
    · exact en_eql (hs (.eq (.elem (.static "CircuitTwin$Circuit" "INPUT_WORDS" "[J") (.int 3)) (.long (-71777214294589696))) (by decide +kernel))
    · exact en_eql (hs (.eq (.elem (.static "CircuitTwin$Circuit" "INPUT_WORDS" "[J") (.int 4)) (.long (-281470681808896))) (by decide +kernel))
    · exact en_eql (hs (.eq (.elem (.static "CircuitTwin$Circuit" "INPUT_WORDS" "[J") (.int 5)) (.long (-4294967296))) (by decide +kernel))) hA
  exact ⟨tb, va_Zref (ht (.laysStatic "CircuitTwin$Circuit" "INPUT_WORDS" "[J") (List.mem_of_getElem? (i := 280) (by decide +kernel))) (ht (.initialized "CircuitTwin$Circuit") (List.mem_of_getElem? (i := 95) (by decide +kernel))) h1 hA, h2⟩
theorem en_Ts {args : Array Value} {s : State} {nm d : String} (hl : (Cond.laysStatic Bundle.tN nm d).before args s = true) (hr : (Cond.isRef (.static Bundle.tN nm d)).before args s = true) : mj_Ts nm d (fun q => s.heap.size ≤ q) s := by
  obtain ⟨c, k, i, f, a, cell, h1, h2, h3, h4, h5, h6, h7, h8, h9⟩ := Cond.laysStatic_spec hl
  obtain ⟨u, hu⟩ := Cond.staticRefV h2 h3 h4 h5 h6 hr
  refine ⟨c, k, i, f, a, cell, u.v, h1, h2, h3, h4, h5, h6, h7, h8, h9, hu, ?_, fun h => ?_⟩
  · obtain ⟨v, hv⟩ := u
    exact hv
  · have := (Array.getElem?_eq_some_iff.mp h5).1
    have h : s.heap.size ≤ a := h
    omega
theorem en_not {args : Array Value} {s : State} {x y : String} (h : (Cond.not (.castable x y)).before args s = true) : (Cond.castable x y).before #[] s = false := by
  cases hb : (Cond.castable x y).before #[] s with
  | false => rfl
  | true =>
    have h1 : (Cond.castable x y).before args s = true := va_tabs rfl rfl hb
    simp only [Cond.before, Cond.holds, Cond.value] at h h1
    simp_all
theorem en_str {args : Array Value} {s : State} {own tx : String} {k : Nat} (h1 : (Cond.stringRef own k tx).before args s = true) (h2 : (Cond.exactly (.string own k) "java/lang/String").before args s = true) : ∃ a, vk_R own k tx a s := by
  obtain ⟨a, c, cell, kk, h3, -⟩ := Cond.exactly_spec h2
  exact ⟨a, vk_R.of h1 h3⟩
theorem en_N {b : Nat} {s : State} (ht : ∀ w ∈ lw_tbl, w.before #[Value.ref b] s = true) (hg : (Jvm.Cond.and given_1 narrow_1).before #[Value.ref b] s = true) : mj_Nw (fun q => s.heap.size ≤ q) s := by
  have hs := flat_of_before _ hg
  refine ⟨?_, ?_, en_Ts (ht _ (List.mem_of_getElem? (i := 441) (by decide +kernel))) (hs (.isRef (.static "java/lang/Throwable" "UNASSIGNED_STACK" "[Ljava/lang/StackTraceElement;")) (by decide +kernel)), en_Ts (ht _ (List.mem_of_getElem? (i := 443) (by decide +kernel))) (hs (.isRef (.static "java/lang/Throwable" "SUPPRESSED_SENTINEL" "Ljava/util/List;")) (by decide +kernel)), ?_⟩
  · intro q hq
    simp only [mj_wn, List.mem_cons, List.not_mem_nil, or_false] at hq
    rcases hq with rfl | rfl | rfl | rfl
    · exact va_Nw.of rfl (ht _ (List.mem_of_getElem? (i := 121) (by decide +kernel)))
    · exact va_Nw.of rfl (ht _ (List.mem_of_getElem? (i := 299) (by decide +kernel)))
    · exact va_Nw.of rfl (ht _ (List.mem_of_getElem? (i := 305) (by decide +kernel)))
    · exact va_Nw.of rfl (ht _ (List.mem_of_getElem? (i := 358) (by decide +kernel)))
  · intro q hq
    simp only [mj_tw, List.mem_cons, List.not_mem_nil, or_false] at hq
    rcases hq with rfl | rfl | rfl | rfl | rfl | rfl | rfl | rfl | rfl | rfl | rfl | rfl
    · exact va_tabs rfl rfl (ht _ (List.mem_of_getElem? (i := 418) (by decide +kernel)))
    · exact va_tabs rfl rfl (ht _ (List.mem_of_getElem? (i := 420) (by decide +kernel)))
    · exact va_tabs rfl rfl (ht _ (List.mem_of_getElem? (i := 422) (by decide +kernel)))
    · exact va_tabs rfl rfl (ht _ (List.mem_of_getElem? (i := 416) (by decide +kernel)))
    · exact en_not (hs (.not (.castable "java/lang/IllegalArgumentException" "java/lang/IllegalStateException")) (by decide +kernel))
    · exact en_not (hs (.not (.castable "java/lang/IllegalArgumentException" "java/util/NoSuchElementException")) (by decide +kernel))
    · exact en_not (hs (.not (.castable "java/lang/IllegalStateException" "java/lang/IllegalArgumentException")) (by decide +kernel))
    · exact va_tabs rfl rfl (ht _ (List.mem_of_getElem? (i := 483) (by decide +kernel)))
    · exact en_not (hs (.not (.castable "java/lang/IllegalStateException" "java/util/NoSuchElementException")) (by decide +kernel))
    · exact en_not (hs (.not (.castable "java/util/NoSuchElementException" "java/lang/IllegalArgumentException")) (by decide +kernel))
    · exact en_not (hs (.not (.castable "java/util/NoSuchElementException" "java/lang/IllegalStateException")) (by decide +kernel))
    · exact va_tabs rfl rfl (ht _ (List.mem_of_getElem? (i := 653) (by decide +kernel)))
  · intro q hq
    simp only [mj_wr, List.mem_cons, List.not_mem_nil, or_false] at hq
    rcases hq with rfl | rfl | rfl | rfl | rfl | rfl | rfl | rfl | rfl | rfl | rfl
    · exact en_str (ht _ (List.mem_of_getElem? (i := 455) (by decide +kernel))) (hs (.exactly (.string "CircuitTwin" 38) "java/lang/String") (by decide +kernel))
    · exact en_str (ht _ (List.mem_of_getElem? (i := 490) (by decide +kernel))) (hs (.exactly (.string "CircuitTwin" 49) "java/lang/String") (by decide +kernel))
    · exact en_str (ht _ (List.mem_of_getElem? (i := 512) (by decide +kernel))) (hs (.exactly (.string "CircuitTwin" 174) "java/lang/String") (by decide +kernel))
    · exact en_str (ht _ (List.mem_of_getElem? (i := 660) (by decide +kernel))) (hs (.exactly (.string "CircuitTwin" 99) "java/lang/String") (by decide +kernel))
    · exact en_str (ht _ (List.mem_of_getElem? (i := 681) (by decide +kernel))) (hs (.exactly (.string "CircuitTwin" 180) "java/lang/String") (by decide +kernel))
    · exact en_str (ht _ (List.mem_of_getElem? (i := 685) (by decide +kernel))) (hs (.exactly (.string "CircuitTwin" 182) "java/lang/String") (by decide +kernel))
    · exact en_str (ht _ (List.mem_of_getElem? (i := 701) (by decide +kernel))) (hs (.exactly (.string "CircuitTwin" 186) "java/lang/String") (by decide +kernel))
    · exact en_str (ht _ (List.mem_of_getElem? (i := 724) (by decide +kernel))) (hs (.exactly (.string "CircuitTwin" 120) "java/lang/String") (by decide +kernel))
    · exact en_str (ht _ (List.mem_of_getElem? (i := 783) (by decide +kernel))) (hs (.exactly (.string "CircuitTwin" 184) "java/lang/String") (by decide +kernel))
    · exact en_str (ht _ (List.mem_of_getElem? (i := 914) (by decide +kernel))) (hs (.exactly (.string "CircuitTwin" 160) "java/lang/String") (by decide +kernel))
    · exact en_str (ht _ (List.mem_of_getElem? (i := 931) (by decide +kernel))) (hs (.exactly (.string "CircuitTwin" 172) "java/lang/String") (by decide +kernel))
end
section
def R_law : String := "CircuitTwinLaw"
def lw_P (b : Addr) (xs : List Int32) (args : Array Value) (s : State) : Prop := args = #[.ref b] ∧ s.IntsAt b xs ∧ xs.length ≤ 2048 ∧ (Jvm.Cond.and given_1 narrow_1).before args s = true
def lw_Q (_ : Array Value) (s : State) (o : Outcome) (t : State) : Prop := o = .returned (some (.int 1)) ∧ Framed s o t [] 601024 7293034
def lw_Z (below : List Frame) (a : Array Value) (s : State) : State → Prop := fun t => ∃ o, t.status = .running ∧ Ended t below o ∧ lw_Q a s o t
/-- what holds at the law's entry: the machine, the code, the tables' words (any of lw_tbl by 'hts w (by decide +kernel)'), the script of L ints xs at the cell b, what the Statement gives of the start (any of its parts by flat_of_before) -/
def lw_At (p : Program) (s : State) (m : MethodId) (meth : Method) (c : Code) (b L : Nat) (xs : Nat → Int32) : Prop :=
  p.tables.exec = Jvm.exec ∧ c.code = code ∧ meth.sig.returnType = ret ∧ c.maxLocals = 8 ∧ s.vm.findClass R_law = some m.cls ∧ (∀ w ∈ lw_tbl, w.before #[Value.ref b] s = true) ∧ va_X b L xs s s.heap ∧ b < s.heap.size ∧ meth.locks = false ∧ (Jvm.Cond.and given_1 narrow_1).before #[Value.ref b] s = true
/-- the law's answer -/
def en_Q : mj_Q := fun r _ _ _ _ _ => r = .inl (some (.inl 1))
/-- the law's body, from its entry, for every script of at most 2048 ints: what is to be shown on the mini machine -/
def en_G : Prop := ∀ (L : Nat) (sc : Nat → Int), L ≤ 2048 → (∀ j, -2147483648 ≤ sc j ∧ sc j < 2147483648) → mj_G (m_L_law L sc) en_Q 0 [some (.inr (.inr (.inr 1))), none, none, none, none, none, none, none] [] (fun _ => (0, 0)) (fun _ _ => .inr 0) (fun _ _ => 0) (fun _ _ => 0) 0 0 0
theorem whole_start {p : Program} {e : Env} {s : State} {m : MethodId} {below : List Frame} {meth : Method} {c : Code} (l : Launch) (hla : mj_la l) (hG : en_G) {b L : Nat} {xs : Nat → Int32} (hL : L ≤ 2048) (C0 : lw_At p s m meth c b L xs) (hname : meth.name = "law") (hxt : c.exceptionTable.isEmpty = true) : W p l e room_1 s m #[Value.ref b] below meth c s.heap [] 0 0 (lw_Z below #[Value.ref b] s) (entryFrame m ([Value.ref b] : List Value).toArray 8) := by
  obtain ⟨hx, hb, hr, hml, hown, hts, hX, hbl, hlk, hgv⟩ := C0
  have hwd : ∀ w ∈ mj_wd, w.before #[Value.ref b] s = true := fun w hw => hts w (List.mem_filter.mp hw).1
  obtain ⟨D, cs, hK⟩ := en_K hwd
  obtain ⟨tb, hSx⟩ := en_S hts hgv
  have hN := en_N hts hgv
  have hX' : va_X b L (fun j => Int32.ofInt ((xs j).toInt)) s s.heap := by
    have : (fun j => Int32.ofInt ((xs j).toInt)) = xs := funext fun j => Int32.ofInt_toInt (xs j)
    rw [this]
    exact hX
  have hC : mj_Cx (m_L_law L fun j => (xs j).toInt) p l e s m #[Value.ref b] meth c D cs ((b, 0, fun _ => 0), tb) (fun q => s.heap.size ≤ q) :=
    ⟨hx, hb, hr, hml, hown, hwd, hlk, hK, fun q h => h, hname, by
      have h0 : c.exceptionTable.toList = [] := by
        have h1 : c.exceptionTable.size = 0 := by simpa [Array.isEmpty] using hxt
        exact List.eq_nil_of_length_eq_zero (by simpa using h1)
      rw [h0]
      rfl, hla, fun _ => ⟨hX', hbl, fun h => by
        have h : s.heap.size ≤ b := h
        omega⟩, hSx, hN⟩
  have hlr := lv_entry ([Value.ref b] : List Value) (n := 8) (Nat.le_of_ble_eq_true rfl)
  have hLr : mj_Lr ((b, 0, fun _ => 0), tb) (fun _ => 0) ((lg_sl [Value.ref b] ++ List.replicate (8 - (lg_sl [Value.ref b]).length) Slot.unset).toArray) 8 [some (.inr (.inr (.inr 1))), none, none, none, none, none, none, none] :=
    ⟨hlr.1, hlr.2.1, fun i v hv => by
      rcases i with _ | _ | _ | _ | _ | _ | _ | _ | i
      · cases hv
        exact hlr.2.2 (0, Value.ref b) List.mem_cons_self
      all_goals cases hv⟩
  rw [lg_entry_eq]
  refine mj_mono ?_ (hG L (fun j => (xs j).toInt) hL (fun j => ⟨(xs j).le_toInt, (xs j).toInt_lt⟩) p l e s m #[Value.ref b] below meth c D cs ((b, 0, fun _ => 0), tb) (fun q => s.heap.size ≤ q) (fun _ => 0) 0 (fun _ => 0) s.heap [] _ hC
    ⟨(fun k q hq => by cases hq), ⟨(fun i j p q hp => by cases hp), (fun k q hq => by cases hq)⟩, va_S.rf, fun _ _ => rfl, Nat.le_refl _⟩ hLr)
  intro t ht
  obtain ⟨o, h1, h2, h3, Lc, h4, h5⟩ := ht
  obtain ⟨r, sh, FR, IA, LA, n, ad, hQ, hou, -⟩ := h3
  have hQ : r = .inl (some (.inl 1)) := hQ
  subst hQ
  have hou : o = .returned (some (.int (Int32.ofInt 1))) := hou
  subst hou
  refine ⟨_, h1, h2, rfl, ⟨_, rfl⟩, h4.1, h4.2.weaken (fun x hx hlt => ?_) (Nat.le_refl _) (Nat.le_refl _)⟩
  have h6 : s.heap.size ≤ x.base := h5 x hx
  exact absurd hlt (Nat.not_lt.mpr h6)
set_option maxHeartbeats 4000000 in
theorem lw_walk (l : Launch) (hla : mj_la l) (hG : en_G) (b : Addr) (xs : List Int32) : MetFree l x (headSpec (Jvm.Cond.code x code maxLocals ret :: tables_1) room_1) (lw_P b xs) (fun _ _ _ _ _ => True) lw_Q := by
  refine MetFree.of_bodyS (code := code) (maxLocals := maxLocals) (ret := ret) (by decide) ?_ ?_
  · intro args s m h hn
    obtain ⟨meth, c, h1, h2, h3, h4, h5, h6, -, -⟩ := Cond.code_spec hn (atoms_spec (ws := Jvm.Cond.code x code maxLocals ret :: tables_1) h _ List.mem_cons_self)
    exact ⟨meth, c, h1, h2, h3, h4, h5, h6⟩
  · intro p e s m args below meth c s₁ B hml0 hP _
    obtain ⟨rfl, hx, hbd, hgv⟩ := hP
    obtain ⟨scr, harrAt, hlist, hof, hsmall⟩ := hx
    obtain ⟨hcb, hkn, -, -⟩ := State.arrayAt?_spec harrAt
    have hown : s.vm.findClass R_law = some m.cls := findClass_of_methodNamed B.named
    have hts0 : ∀ c ∈ (Jvm.Cond.code x code maxLocals ret :: tables_1), c.before #[Value.ref b] s = true := atoms_spec (ws := Jvm.Cond.code x code maxLocals ret :: tables_1) B.pre
    have hts : ∀ w ∈ lw_tbl, w.before #[Value.ref b] s = true := k2_hts_sels lw_privs (fun w hw => hts0 w (List.mem_cons_of_mem _ hw)) lw_privs_ok
    have hml : c.maxLocals = 8 := B.maxLocals_eq (hts0 _ List.mem_cons_self)
    have X₀ : Stand p l e room_1 s m #[Value.ref b] below meth c s₁ [] 0 0 := Stand.of_body B
    have hh0 : s₁.heap = s.heap := by rw [B.state]; rfl
    have hsz : scr.slots.size = xs.length := by rw [← Array.length_toList, hlist, List.length_map]
    have hval : ∀ j : Nat, j < xs.length → scr.slots[j]? = some (.int (xs.getD j 0)) := fun j hj => by
      rw [← Array.getElem?_toList, hlist]
      simp [hj]
    have hbl : b < s.heap.size := (Array.getElem?_eq_some_iff.mp hcb).1
    have hX : va_X b xs.length (fun j => xs.getD j 0) s s.heap := ⟨scr, hcb, hof, hkn, hsz, hval⟩
    have K : W p l e room_1 s m #[Value.ref b] below meth c s₁.heap [] 0 0 (lw_Z below #[Value.ref b] s) (entryFrame m ([Value.ref b] : List Value).toArray 8) := by
      rw [hh0]
      exact whole_start l hla hG hbd ⟨B.exec, B.bytes, B.returns, hml, hown, hts, hX, hbl, B.notSynchronized, hgv⟩ (name_of_methodNamed B.named B.method).1 (B.noHandlers (hts0 _ List.mem_cons_self))
    obtain ⟨t, a1, o, b1, b2, b3⟩ := K s₁ rfl X₀
    exact ⟨t, o, a1, b1, b2, b3⟩
theorem lw_pre_spec {args : Array Value} {s : State} (h : (Jvm.Cond.and given_1 narrow_1).before args s = true) (hr : rest_1_c.before args s = true) : ∃ (b : Addr) (xs : List Int32), lw_P b xs args s := by
  have hs := flat_of_before _ h
  have hq := flat_of_before _ hr
  have hc : (Cond.count 1).before args s = true := hs _ (by decide +kernel)
  have harr : (Cond.arrayOf (.arg 0) .int).before args s = true := hs _ (by decide +kernel)
  have hle : (Cond.le (.length (.arg 0)) (.int 2048)).before args s = true := hs _ (by decide +kernel)
  have hlen : (Cond.isInt (.length (.arg 0))).before args s = true := hq _ (by decide +kernel)
  have hall : (Cond.all (.arg 0) (.isInt (.elem (.arg 0) (.index 0)))).before args s = true := hq _ (by decide +kernel)
  obtain ⟨b, xs, hb, hx⟩ := State.ints_of_pre rfl harr hlen hall
  have hsm : xs.length < 2 ^ 31 := hx.choose_spec.2.2.2
  have hev : (Term.length (.arg 0)).eval args s none [] s = some (.int xs.length.toInt32) := hx.length_eval hb
  have hv := Cond.le_ints hev (show (Term.int 2048).eval args s none [] s = some (.int 2048) from rfl)
  have hd : xs.length.toInt32 ≤ 2048 := by
    simpa [Cond.before, Cond.holds, hv] using hle
  have hN : xs.length ≤ 2048 := (Int32.ofNat_le_ofNat hsm (by decide)).mp (show Int32.ofNat xs.length ≤ Int32.ofNat 2048 from hd)
  exact ⟨b, xs, Cond.one_arg hc (show args[0]? = some (.ref b) from hb), hx, hN, h⟩
theorem lw_comes (l : Launch) (hla : mj_la l) (hG : en_G) : Comes l x (Jvm.Cond.code x code maxLocals ret :: tables_1) room_1 (fun tb e args s => Calls_1 tb e args s ∧ rest_1 tb e args s ∧ Pre_1 tb e args s)
    (fun _ _ args s o t => lw_Q args s o t) := by
  intro p e ha hc hk s m args below hf hfit hheap happ hpre
  obtain ⟨b, xs, hP⟩ := lw_pre_spec hpre.2.2 hpre.2.1
  obtain ⟨k, o, h1, h2, h3, hQ⟩ := lw_walk l hla hG b xs p e ha hc hk s m args below hf ((Spec.applies_iff_loose hf).mp happ).1 hP trivial
  exact ⟨k, o, h1, h2, h3, hQ⟩
theorem lw_frame {s t : State} {o : Outcome} {args : Array Value} (h : Framed s o t [] 601024 7293034) :
    Framed s o t (fieldLocs frame_1_writes args s ++ arrayLocs frame_1_arrays args s ++ staticLocs frame_1_statics s) 601024 7293034 := h
theorem lw_limb (hG : en_G) (L : Cond) (hL : ∀ (args : Array Value) (s t : State), L.after args s (.returned (some (.int 1))) t = true) :
    ArmFor flags0 classFile x code maxLocals ret World_1 tables_1 room_1 Calls_1 rest_1 Pre_1
      (fun tb e a s o t => postC L tb e a s o t ∧ Framed s o t (fieldLocs frame_1_writes a s ++ arrayLocs frame_1_arrays a s ++ staticLocs frame_1_statics s) 601024 7293034) := by
  intro l hfl _ _ p e ha hc hk s m args below hf hfit hheap happ hpre
  obtain ⟨k, o, h1, h2, h3, rfl, hF⟩ := lw_comes l (fun e h => Launch.traces_off hfl h) hG p e ha hc hk s m args below hf hfit hheap happ hpre
  exact ⟨k, _, h1, h2, h3, hL args s _, lw_frame hF⟩
theorem en_vc (hG : en_G) : Claimed_1_1 ∧ Claimed_1_2 := ⟨lw_limb hG limb_1_1 (fun args s t => by simp [limb_1_1, Cond.after, Cond.holds, Cond.value]), lw_limb hG limb_1_2 (fun args s t => Cond.after_iff.mpr (by
  first | (rw [show limb_1_2 = Cond.eq .result (.int 1) from rfl, Cond.eq_ints (x := 1) (y := 1) rfl rfl]; simp; done) | (simp [limb_1_2, Cond.value, Term.eval]; done)))⟩
end
section
def q_N_init : List (Nat × mj_Sem) := [(0, o_al 0 1), (1, o_oi 4), (4, o_al 0 5), (5, o_ic 1001 8), (8, o_na 0 8 2877 10), (10, o_pR 3 0 13), (13, o_al 0 14), (14, o_ic 315 17), (17, o_na 0 8 2877 19), (19, o_pR 3 1 22), (22, o_al 0 23), (23, o_ic 315 26), (26, o_na 0 8 2877 28), (28, o_pR 3 2 31), (31, o_al 0 32), (32, o_ic 315 35), (35, o_na 0 8 2877 37), (37, o_pR 3 3 40), (40, o_al 0 41), (41, o_ic 16 43), (43, o_na 0 8 2877 45), (45, o_pR 3 4 48), (48, o_al 0 49), (49, o_ic 315 52), (52, o_na 0 8 2877 54), (54, o_pR 3 5 57), (57, o_al 0 58), (58, o_ic 300 61), (61, o_na 0 8 2877 63), (63, o_pR 3 6 66), (66, o_al 0 67), (67, o_ic 300 70), (70, o_na 0 8 2877 72), (72, o_pR 3 7 75), (75, o_al 0 76), (76, o_ic 0 77), (77, o_ic 0 78), (78, o_ic 0 79), (79, o_ic 0 80), (80, o_call m_N_begin 5 8 2877 83 (mj_rv 3)), (83, o_retv 8 2877)]
set_option maxRecDepth 100000 in
theorem z_N_init : mj_Code (m_N_init) (q_N_init) :=
  mj_c1 (k_aloadn (k := 0) (by decide +kernel) rfl) <|
  mj_c1 (k_oi (idx := 3) (by decide +kernel) w_37 w_24 w_25 (by decide) (by decide)) <|
  mj_c1 (k_aloadn (k := 0) (by decide +kernel) rfl) <|
  mj_c1 (k_sipush (by decide +kernel) (by decide)) <|
  mj_c1 (k_na (at0 := .int) (by decide +kernel) rfl (Or.inl ⟨rfl, rfl⟩) w_118) <|
  mj_c1 (k_pRF (idx := 9) h_N (by decide) rfl (Or.inr ⟨_, rfl⟩) w_45 rfl rfl rfl (by decide +kernel)) <|
  mj_c1 (k_aloadn (k := 0) (by decide +kernel) rfl) <|
  mj_c1 (k_sipush (by decide +kernel) (by decide)) <|
  mj_c1 (k_na (at0 := .int) (by decide +kernel) rfl (Or.inl ⟨rfl, rfl⟩) w_118) <|
  mj_c1 (k_pRF (idx := 15) h_N (by decide) rfl (Or.inr ⟨_, rfl⟩) w_47 rfl rfl rfl (by decide +kernel)) <|
  mj_c1 (k_aloadn (k := 0) (by decide +kernel) rfl) <|
  mj_c1 (k_sipush (by decide +kernel) (by decide)) <|
  mj_c1 (k_na (at0 := .int) (by decide +kernel) rfl (Or.inl ⟨rfl, rfl⟩) w_118) <|
  mj_c1 (k_pRF (idx := 18) h_N (by decide) rfl (Or.inr ⟨_, rfl⟩) w_51 rfl rfl rfl (by decide +kernel)) <|
  mj_c1 (k_aloadn (k := 0) (by decide +kernel) rfl) <|
  mj_c1 (k_sipush (by decide +kernel) (by decide)) <|
  mj_c1 (k_na (at0 := .int) (by decide +kernel) rfl (Or.inl ⟨rfl, rfl⟩) w_118) <|
  mj_c1 (k_pRF (idx := 21) h_N (by decide) rfl (Or.inr ⟨_, rfl⟩) w_56 rfl rfl rfl (by decide +kernel)) <|
  mj_c1 (k_aloadn (k := 0) (by decide +kernel) rfl) <|
  mj_c1 (k_bipush (by decide +kernel) (by decide)) <|
  mj_c1 (k_na (at0 := .int) (by decide +kernel) rfl (Or.inl ⟨rfl, rfl⟩) w_118) <|
  mj_c1 (k_pRF (idx := 24) h_N (by decide) rfl (Or.inr ⟨_, rfl⟩) w_61 rfl rfl rfl (by decide +kernel)) <|
  mj_c1 (k_aloadn (k := 0) (by decide +kernel) rfl) <|
  mj_c1 (k_sipush (by decide +kernel) (by decide)) <|
  mj_c1 (k_na (at0 := .int) (by decide +kernel) rfl (Or.inl ⟨rfl, rfl⟩) w_118) <|
  mj_c1 (k_pRF (idx := 27) h_N (by decide) rfl (Or.inr ⟨_, rfl⟩) w_65 rfl rfl rfl (by decide +kernel)) <|
  mj_c1 (k_aloadn (k := 0) (by decide +kernel) rfl) <|
  mj_c1 (k_sipush (by decide +kernel) (by decide)) <|
  mj_c1 (k_na (at0 := .int) (by decide +kernel) rfl (Or.inl ⟨rfl, rfl⟩) w_118) <|
  mj_c1 (k_pRF (idx := 30) h_N (by decide) rfl (Or.inr ⟨_, rfl⟩) w_67 rfl rfl rfl (by decide +kernel)) <|
  mj_c1 (k_aloadn (k := 0) (by decide +kernel) rfl) <|
  mj_c1 (k_sipush (by decide +kernel) (by decide)) <|
  mj_c1 (k_na (at0 := .int) (by decide +kernel) rfl (Or.inl ⟨rfl, rfl⟩) w_118) <|
  mj_c1 (k_pRF (idx := 33) h_N (by decide) rfl (Or.inr ⟨_, rfl⟩) w_70 rfl rfl rfl (by decide +kernel)) <|
  mj_c1 (k_aloadn (k := 0) (by decide +kernel) rfl) <|
  mj_c1 (k_iconst (by decide +kernel)) <|
  mj_c1 (k_iconst (by decide +kernel)) <|
  mj_c1 (k_iconst (by decide +kernel)) <|
  mj_c1 (k_iconst (by decide +kernel)) <|
  mj_c1 (k_callV (idx := 36) (by decide +kernel) (fit_m_N_init_m_N_begin) rfl rfl w_38 w_39 w_40 (by decide) (by decide +kernel)) <|
  mj_c1 (k_retv (by decide +kernel) rfl) mj_c0
def q_N_begin : List (Nat × mj_Sem) := [(0, o_al 0 1), (1, o_il 1 2), (2, o_pI 3 9 5), (5, o_al 0 6), (6, o_il 2 7), (7, o_pI 3 10 10), (10, o_al 0 11), (11, o_il 3 12), (12, o_pI 3 12 15), (15, o_al 0 16), (16, o_il 4 18), (18, o_pI 3 11 21), (21, o_al 0 22), (22, o_gR 3 0 25), (25, o_ic (-1) 26), (26, o_call m_A_fill 2 0 0 29 mj_rs), (29, o_al 0 30), (30, o_gR 3 0 33), (33, o_ic 0 34), (34, o_ic 0 35), (35, o_ias 36), (36, o_retv 0 0)]
set_option maxRecDepth 100000 in
theorem z_N_begin : mj_Code (m_N_begin) (q_N_begin) :=
  mj_c1 (k_aloadn (k := 0) (by decide +kernel) rfl) <|
  mj_c1 (k_iloadn (k := 1) (by decide +kernel) rfl) <|
  mj_c1 (k_pI (idx := 40) h_N (by decide) rfl rfl w_74 rfl (by decide +kernel)) <|
  mj_c1 (k_aloadn (k := 0) (by decide +kernel) rfl) <|
  mj_c1 (k_iloadn (k := 2) (by decide +kernel) rfl) <|
  mj_c1 (k_pI (idx := 44) h_N (by decide) rfl rfl w_78 rfl (by decide +kernel)) <|
  mj_c1 (k_aloadn (k := 0) (by decide +kernel) rfl) <|
  mj_c1 (k_iloadn (k := 3) (by decide +kernel) rfl) <|
  mj_c1 (k_pI (idx := 47) h_N (by decide) rfl rfl w_87 rfl (by decide +kernel)) <|
  mj_c1 (k_aloadn (k := 0) (by decide +kernel) rfl) <|
  mj_c1 (k_iload (by decide +kernel)) <|
  mj_c1 (k_pI (idx := 50) h_N (by decide) rfl rfl w_82 rfl (by decide +kernel)) <|
  mj_c1 (k_aloadn (k := 0) (by decide +kernel) rfl) <|
  mj_c1 (k_gR (idx := 9) h_N (by decide) rfl w_45 (by decide +kernel)) <|
  mj_c1 (k_iconst (by decide +kernel)) <|
  mj_c1 (k_callS (idx := 53) (by decide +kernel) (fit_m_N_begin_m_A_fill) rfl w_42 w_43 (by decide) (by decide +kernel)) <|
  mj_c1 (k_aloadn (k := 0) (by decide +kernel) rfl) <|
  mj_c1 (k_gR (idx := 9) h_N (by decide) rfl w_45 (by decide +kernel)) <|
  mj_c1 (k_iconst (by decide +kernel)) <|
  mj_c1 (k_iconst (by decide +kernel)) <|
  mj_c1 (k_ias (by decide +kernel)) <|
  mj_c1 (k_retv (by decide +kernel) rfl) mj_c0
def q_N_slotFor : List (Nat × mj_Sem) := [(0, o_al 0 1), (1, o_gR 3 0 4), (4, o_il 1 5), (5, o_ic 1 6), (6, o_ishr 7), (7, o_ial 8), (8, o_iret 0 0)]
set_option maxRecDepth 100000 in
theorem z_N_slotFor : mj_Code (m_N_slotFor) (q_N_slotFor) :=
  mj_c1 (k_aloadn (k := 0) (by decide +kernel) rfl) <|
  mj_c1 (k_gR (idx := 9) h_N (by decide) rfl w_45 (by decide +kernel)) <|
  mj_c1 (k_iloadn (k := 1) (by decide +kernel) rfl) <|
  mj_c1 (k_iconst (by decide +kernel)) <|
  mj_c1 (k_ishr (by decide +kernel)) <|
  mj_c1 (k_ial (by decide +kernel)) <|
  mj_c1 (k_iret (by decide +kernel) rfl) mj_c0
def q_N_place : List (Nat × mj_Sem) := [(0, o_al 0 1), (1, o_gR 3 1 4), (4, o_il 1 5), (5, o_il 2 6), (6, o_ias 7), (7, o_al 0 8), (8, o_gR 3 0 11), (11, o_il 2 12), (12, o_ic 1 13), (13, o_ishr 14), (14, o_il 1 15), (15, o_ias 16), (16, o_retv 0 0)]
set_option maxRecDepth 100000 in
theorem z_N_place : mj_Code (m_N_place) (q_N_place) :=
  mj_c1 (k_aloadn (k := 0) (by decide +kernel) rfl) <|
  mj_c1 (k_gR (idx := 15) h_N (by decide) rfl w_47 (by decide +kernel)) <|
  mj_c1 (k_iloadn (k := 1) (by decide +kernel) rfl) <|
  mj_c1 (k_iloadn (k := 2) (by decide +kernel) rfl) <|
  mj_c1 (k_ias (by decide +kernel)) <|
  mj_c1 (k_aloadn (k := 0) (by decide +kernel) rfl) <|
  mj_c1 (k_gR (idx := 9) h_N (by decide) rfl w_45 (by decide +kernel)) <|
  mj_c1 (k_iloadn (k := 2) (by decide +kernel) rfl) <|
  mj_c1 (k_iconst (by decide +kernel)) <|
  mj_c1 (k_ishr (by decide +kernel)) <|
  mj_c1 (k_iloadn (k := 1) (by decide +kernel) rfl) <|
  mj_c1 (k_ias (by decide +kernel)) <|
  mj_c1 (k_retv (by decide +kernel) rfl) mj_c0
def q_N_isFree : List (Nat × mj_Sem) := [(0, o_al 0 1), (1, o_il 1 2), (2, o_call m_N_exists 2 0 0 5 (mj_rv 3)), (5, o_ifeq 27 8), (8, o_il 1 9), (9, o_ic 2 10), (10, o_irem 11), (11, o_ifne 27 14), (14, o_al 0 15), (15, o_il 1 16), (16, o_call m_N_slotFor 2 0 0 19 (mj_rv 3)), (19, o_ic (-1) 20), (20, o_icne 27 23), (23, o_ic 1 24), (24, o_goto 28), (27, o_ic 0 28), (28, o_zret 0 0)]
set_option maxRecDepth 100000 in
theorem z_N_isFree : mj_Code (m_N_isFree) (q_N_isFree) :=
  mj_c1 (k_aloadn (k := 0) (by decide +kernel) rfl) <|
  mj_c1 (k_iloadn (k := 1) (by decide +kernel) rfl) <|
  mj_c1 (k_callV (idx := 59) (by decide +kernel) (fit_m_N_isFree_m_N_exists) rfl rfl w_465 w_466 w_467 (by decide) (by decide +kernel)) <|
  mj_c1 (k_ifeq (off := 22) (by decide +kernel) (by decide)) <|
  mj_c1 (k_iloadn (k := 1) (by decide +kernel) rfl) <|
  mj_c1 (k_iconst (by decide +kernel)) <|
  mj_c1 (k_irem (by decide +kernel)) <|
  mj_c1 (k_ifne (off := 16) (by decide +kernel) (by decide)) <|
  mj_c1 (k_aloadn (k := 0) (by decide +kernel) rfl) <|
  mj_c1 (k_iloadn (k := 1) (by decide +kernel) rfl) <|
  mj_c1 (k_callV (idx := 63) (by decide +kernel) (fit_m_N_isFree_m_N_slotFor) rfl rfl w_469 w_197 w_198 (by decide) (by decide +kernel)) <|
  mj_c1 (k_iconst (by decide +kernel)) <|
  mj_c1 (k_icne (off := 7) (by decide +kernel) (by decide)) <|
  mj_c1 (k_iconst (by decide +kernel)) <|
  mj_c1 (k_goto (off := 4) (by decide +kernel) (by decide)) <|
  mj_c1 (k_iconst (by decide +kernel)) <|
  mj_c1 (k_zret (by decide +kernel) rfl) mj_c0
def q_N_exists : List (Nat × mj_Sem) := [(0, o_il 1 1), (1, o_iflt 20 4), (4, o_il 1 5), (5, o_ic 2 6), (6, o_al 0 7), (7, o_gI 3 9 10), (10, o_imul 11), (11, o_ic 1 12), (12, o_iadd 13), (13, o_icgt 20 16), (16, o_ic 1 17), (17, o_goto 21), (20, o_ic 0 21), (21, o_zret 0 0)]
set_option maxRecDepth 100000 in
theorem z_N_exists : mj_Code (m_N_exists) (q_N_exists) :=
  mj_c1 (k_iloadn (k := 1) (by decide +kernel) rfl) <|
  mj_c1 (k_iflt (off := 19) (by decide +kernel) (by decide)) <|
  mj_c1 (k_iloadn (k := 1) (by decide +kernel) rfl) <|
  mj_c1 (k_iconst (by decide +kernel)) <|
  mj_c1 (k_aloadn (k := 0) (by decide +kernel) rfl) <|
  mj_c1 (k_gI (idx := 40) h_N (by decide) rfl w_74 (by decide +kernel)) <|
  mj_c1 (k_imul (by decide +kernel)) <|
  mj_c1 (k_iconst (by decide +kernel)) <|
  mj_c1 (k_iadd (by decide +kernel)) <|
  mj_c1 (k_icgt (off := 7) (by decide +kernel) (by decide)) <|
  mj_c1 (k_iconst (by decide +kernel)) <|
  mj_c1 (k_goto (off := 4) (by decide +kernel) (by decide)) <|
  mj_c1 (k_iconst (by decide +kernel)) <|
  mj_c1 (k_zret (by decide +kernel) rfl) mj_c0
def q_N_leastMissing : List (Nat × mj_Sem) := [(0, o_ic 1001 3), (3, o_is 1 4), (4, o_ic 0 5), (5, o_is 2 6), (6, o_il 2 7), (7, o_al 0 8), (8, o_gI 3 12 11), (11, o_icge 35 14), (14, o_il 1 15), (15, o_al 0 16), (16, o_al 0 17), (17, o_gR 3 4 20), (20, o_il 2 21), (21, o_ial 22), (22, o_call m_N_missingVariable 2 0 0 25 (mj_rv 3)), (25, o_call m_H_min 2 0 0 28 mj_rs), (28, o_is 1 29), (29, o_inc 2 1 32), (32, o_goto 6), (35, o_al 0 36), (36, o_gI 3 10 39), (39, o_ic 1 40), (40, o_iadd 41), (41, o_is 2 42), (42, o_il 2 43), (43, o_al 0 44), (44, o_gI 3 10 47), (47, o_al 0 48), (48, o_gI 3 11 51), (51, o_iadd 52), (52, o_icgt 91 55), (55, o_il 1 56), (56, o_al 0 57), (57, o_al 0 58), (58, o_gR 3 2 61), (61, o_il 2 62), (62, o_ial 63), (63, o_call m_N_missingVariable 2 0 0 66 (mj_rv 3)), (66, o_call m_H_min 2 0 0 69 mj_rs), (69, o_is 1 70), (70, o_il 1 71), (71, o_al 0 72), (72, o_al 0 73), (73, o_gR 3 3 76), (76, o_il 2 77), (77, o_ial 78), (78, o_call m_N_missingVariable 2 0 0 81 (mj_rv 3)), (81, o_call m_H_min 2 0 0 84 mj_rs), (84, o_is 1 85), (85, o_inc 2 1 88), (88, o_goto 42), (91, o_il 1 92), (92, o_ic 1000 95), (95, o_icle 102 98), (98, o_ic 0 99), (99, o_goto 103), (102, o_il 1 103), (103, o_iret 0 0)]
set_option maxRecDepth 100000 in
theorem z_N_leastMissing : mj_Code (m_N_leastMissing) (q_N_leastMissing) :=
  mj_c1 (k_sipush (by decide +kernel) (by decide)) <|
  mj_c1 (k_istoren (k := 1) (by decide +kernel) rfl (by decide)) <|
  mj_c1 (k_iconst (by decide +kernel)) <|
  mj_c1 (k_istoren (k := 2) (by decide +kernel) rfl (by decide)) <|
  mj_c1 (k_iloadn (k := 2) (by decide +kernel) rfl) <|
  mj_c1 (k_aloadn (k := 0) (by decide +kernel) rfl) <|
  mj_c1 (k_gI (idx := 47) h_N (by decide) rfl w_87 (by decide +kernel)) <|
  mj_c1 (k_icge (off := 24) (by decide +kernel) (by decide)) <|
  mj_c1 (k_iloadn (k := 1) (by decide +kernel) rfl) <|
  mj_c1 (k_aloadn (k := 0) (by decide +kernel) rfl) <|
  mj_c1 (k_aloadn (k := 0) (by decide +kernel) rfl) <|
  mj_c1 (k_gR (idx := 24) h_N (by decide) rfl w_61 (by decide +kernel)) <|
  mj_c1 (k_iloadn (k := 2) (by decide +kernel) rfl) <|
  mj_c1 (k_ial (by decide +kernel)) <|
  mj_c1 (k_callV (idx := 73) (by decide +kernel) (fit_m_N_leastMissing_m_N_missingVariable) rfl rfl w_507 w_509 v_26 (by decide) (by decide +kernel)) <|
  mj_c1 (k_callS (idx := 76) (by decide +kernel) (fit_m_N_leastMissing_m_H_min) rfl w_511 w_512 (by decide) (by decide +kernel)) <|
  mj_c1 (k_istoren (k := 1) (by decide +kernel) rfl (by decide)) <|
  mj_c1 (k_iinc (by decide +kernel) (by decide)) <|
  mj_c1 (k_goto (off := -26) (by decide +kernel) (by decide)) <|
  mj_c1 (k_aloadn (k := 0) (by decide +kernel) rfl) <|
  mj_c1 (k_gI (idx := 44) h_N (by decide) rfl w_78 (by decide +kernel)) <|
  mj_c1 (k_iconst (by decide +kernel)) <|
  mj_c1 (k_iadd (by decide +kernel)) <|
  mj_c1 (k_istoren (k := 2) (by decide +kernel) rfl (by decide)) <|
  mj_c1 (k_iloadn (k := 2) (by decide +kernel) rfl) <|
  mj_c1 (k_aloadn (k := 0) (by decide +kernel) rfl) <|
  mj_c1 (k_gI (idx := 44) h_N (by decide) rfl w_78 (by decide +kernel)) <|
  mj_c1 (k_aloadn (k := 0) (by decide +kernel) rfl) <|
  mj_c1 (k_gI (idx := 50) h_N (by decide) rfl w_82 (by decide +kernel)) <|
  mj_c1 (k_iadd (by decide +kernel)) <|
  mj_c1 (k_icgt (off := 39) (by decide +kernel) (by decide)) <|
  mj_c1 (k_iloadn (k := 1) (by decide +kernel) rfl) <|
  mj_c1 (k_aloadn (k := 0) (by decide +kernel) rfl) <|
  mj_c1 (k_aloadn (k := 0) (by decide +kernel) rfl) <|
  mj_c1 (k_gR (idx := 18) h_N (by decide) rfl w_51 (by decide +kernel)) <|
  mj_c1 (k_iloadn (k := 2) (by decide +kernel) rfl) <|
  mj_c1 (k_ial (by decide +kernel)) <|
  mj_c1 (k_callV (idx := 73) (by decide +kernel) (fit_m_N_leastMissing_m_N_missingVariable) rfl rfl w_507 w_509 v_26 (by decide) (by decide +kernel)) <|
  mj_c1 (k_callS (idx := 76) (by decide +kernel) (fit_m_N_leastMissing_m_H_min) rfl w_511 w_512 (by decide) (by decide +kernel)) <|
  mj_c1 (k_istoren (k := 1) (by decide +kernel) rfl (by decide)) <|
  mj_c1 (k_iloadn (k := 1) (by decide +kernel) rfl) <|
  mj_c1 (k_aloadn (k := 0) (by decide +kernel) rfl) <|
  mj_c1 (k_aloadn (k := 0) (by decide +kernel) rfl) <|
  mj_c1 (k_gR (idx := 21) h_N (by decide) rfl w_56 (by decide +kernel)) <|
  mj_c1 (k_iloadn (k := 2) (by decide +kernel) rfl) <|
  mj_c1 (k_ial (by decide +kernel)) <|
  mj_c1 (k_callV (idx := 73) (by decide +kernel) (fit_m_N_leastMissing_m_N_missingVariable) rfl rfl w_507 w_509 v_26 (by decide) (by decide +kernel)) <|
  mj_c1 (k_callS (idx := 76) (by decide +kernel) (fit_m_N_leastMissing_m_H_min) rfl w_511 w_512 (by decide) (by decide +kernel)) <|
  mj_c1 (k_istoren (k := 1) (by decide +kernel) rfl (by decide)) <|
  mj_c1 (k_iinc (by decide +kernel) (by decide)) <|
  mj_c1 (k_goto (off := -46) (by decide +kernel) (by decide)) <|
  mj_c1 (k_iloadn (k := 1) (by decide +kernel) rfl) <|
  mj_c1 (k_sipush (by decide +kernel) (by decide)) <|
  mj_c1 (k_icle (off := 7) (by decide +kernel) (by decide)) <|
  mj_c1 (k_iconst (by decide +kernel)) <|
  mj_c1 (k_goto (off := 4) (by decide +kernel) (by decide)) <|
  mj_c1 (k_iloadn (k := 1) (by decide +kernel) rfl) <|
  mj_c1 (k_iret (by decide +kernel) rfl) mj_c0
def q_N_missingVariable : List (Nat × mj_Sem) := [(0, o_al 0 1), (1, o_il 1 2), (2, o_call m_N_slotFor 2 0 0 5 (mj_rv 3)), (5, o_ic (-1) 6), (6, o_icne 15 9), (9, o_il 1 10), (10, o_ic 1 11), (11, o_ishr 12), (12, o_goto 18), (15, o_ic 1001 18), (18, o_iret 0 0)]
set_option maxRecDepth 100000 in
theorem z_N_missingVariable : mj_Code (m_N_missingVariable) (q_N_missingVariable) :=
  mj_c1 (k_aloadn (k := 0) (by decide +kernel) rfl) <|
  mj_c1 (k_iloadn (k := 1) (by decide +kernel) rfl) <|
  mj_c1 (k_callV (idx := 63) (by decide +kernel) (fit_m_N_missingVariable_m_N_slotFor) rfl rfl w_469 w_197 w_198 (by decide) (by decide +kernel)) <|
  mj_c1 (k_iconst (by decide +kernel)) <|
  mj_c1 (k_icne (off := 9) (by decide +kernel) (by decide)) <|
  mj_c1 (k_iloadn (k := 1) (by decide +kernel) rfl) <|
  mj_c1 (k_iconst (by decide +kernel)) <|
  mj_c1 (k_ishr (by decide +kernel)) <|
  mj_c1 (k_goto (off := 6) (by decide +kernel) (by decide)) <|
  mj_c1 (k_sipush (by decide +kernel) (by decide)) <|
  mj_c1 (k_iret (by decide +kernel) rfl) mj_c0
def q_N_arrange : List (Nat × mj_Sem) := [(0, o_al 0 1), (1, o_call m_N_waitForAll 1 0 0 4 (mj_rv 3)), (4, o_ic 0 5), (5, o_is 1 6), (6, o_ic 1 7), (7, o_is 2 8), (8, o_il 2 9), (9, o_al 0 10), (10, o_gI 3 11 13), (13, o_icgt 146 16), (16, o_al 0 17), (17, o_gI 3 8 20), (20, o_ifle 146 23), (23, o_ic 0 24), (24, o_is 3 25), (25, o_ic 0 26), (26, o_is 4 28), (28, o_il 4 30), (30, o_al 0 31), (31, o_gI 3 8 34), (34, o_icge 125 37), (37, o_al 0 38), (38, o_gR 3 7 41), (41, o_il 4 43), (43, o_ial 44), (44, o_is 5 46), (46, o_al 0 47), (47, o_gR 3 5 50), (50, o_al 0 51), (51, o_al 0 52), (52, o_gR 3 2 55), (55, o_il 5 57), (57, o_ial 58), (58, o_call m_N_slotFor 2 0 0 61 (mj_rv 3)), (61, o_ial 62), (62, o_il 2 63), (63, o_icge 108 66), (66, o_al 0 67), (67, o_gR 3 5 70), (70, o_al 0 71), (71, o_al 0 72), (72, o_gR 3 3 75), (75, o_il 5 77), (77, o_ial 78), (78, o_call m_N_slotFor 2 0 0 81 (mj_rv 3)), (81, o_ial 82), (82, o_il 2 83), (83, o_icge 108 86), (86, o_al 0 87), (87, o_gR 3 5 90), (90, o_il 5 92), (92, o_il 2 93), (93, o_ias 94), (94, o_al 0 95), (95, o_gR 3 6 98), (98, o_il 1 99), (99, o_il 5 101), (101, o_ias 102), (102, o_inc 1 1 105), (105, o_goto 119), (108, o_al 0 109), (109, o_gR 3 7 112), (112, o_il 3 113), (113, o_il 5 115), (115, o_ias 116), (116, o_inc 3 1 119), (119, o_inc 4 1 122), (122, o_goto 28), (125, o_il 3 126), (126, o_al 0 127), (127, o_gI 3 8 130), (130, o_icne 135 133), (133, o_ic 0 134), (134, o_zret 0 0), (135, o_al 0 136), (136, o_il 3 137), (137, o_pI 3 8 140), (140, o_inc 2 1 143), (143, o_goto 8), (146, o_ic 1 147), (147, o_zret 0 0)]
set_option maxRecDepth 100000 in
theorem z_N_arrange : mj_Code (m_N_arrange) (q_N_arrange) :=
  mj_c1 (k_aloadn (k := 0) (by decide +kernel) rfl) <|
  mj_c1 (k_callV (idx := 79) (by decide +kernel) (fit_m_N_arrange_m_N_waitForAll) rfl rfl w_518 w_520 v_27 (by decide) (by decide +kernel)) <|
  mj_c1 (k_iconst (by decide +kernel)) <|
  mj_c1 (k_istoren (k := 1) (by decide +kernel) rfl (by decide)) <|
  mj_c1 (k_iconst (by decide +kernel)) <|
  mj_c1 (k_istoren (k := 2) (by decide +kernel) rfl (by decide)) <|
  mj_c1 (k_iloadn (k := 2) (by decide +kernel) rfl) <|
  mj_c1 (k_aloadn (k := 0) (by decide +kernel) rfl) <|
  mj_c1 (k_gI (idx := 50) h_N (by decide) rfl w_82 (by decide +kernel)) <|
  mj_c1 (k_icgt (off := 133) (by decide +kernel) (by decide)) <|
  mj_c1 (k_aloadn (k := 0) (by decide +kernel) rfl) <|
  mj_c1 (k_gI (idx := 82) h_N (by decide) rfl w_73 (by decide +kernel)) <|
  mj_c1 (k_ifle (off := 126) (by decide +kernel) (by decide)) <|
  mj_c1 (k_iconst (by decide +kernel)) <|
  mj_c1 (k_istoren (k := 3) (by decide +kernel) rfl (by decide)) <|
  mj_c1 (k_iconst (by decide +kernel)) <|
  mj_c1 (k_istore (by decide +kernel) (by decide)) <|
  mj_c1 (k_iload (by decide +kernel)) <|
  mj_c1 (k_aloadn (k := 0) (by decide +kernel) rfl) <|
  mj_c1 (k_gI (idx := 82) h_N (by decide) rfl w_73 (by decide +kernel)) <|
  mj_c1 (k_icge (off := 91) (by decide +kernel) (by decide)) <|
  mj_c1 (k_aloadn (k := 0) (by decide +kernel) rfl) <|
  mj_c1 (k_gR (idx := 33) h_N (by decide) rfl w_70 (by decide +kernel)) <|
  mj_c1 (k_iload (by decide +kernel)) <|
  mj_c1 (k_ial (by decide +kernel)) <|
  mj_c1 (k_istore (by decide +kernel) (by decide)) <|
  mj_c1 (k_aloadn (k := 0) (by decide +kernel) rfl) <|
  mj_c1 (k_gR (idx := 27) h_N (by decide) rfl w_65 (by decide +kernel)) <|
  mj_c1 (k_aloadn (k := 0) (by decide +kernel) rfl) <|
  mj_c1 (k_aloadn (k := 0) (by decide +kernel) rfl) <|
  mj_c1 (k_gR (idx := 18) h_N (by decide) rfl w_51 (by decide +kernel)) <|
  mj_c1 (k_iload (by decide +kernel)) <|
  mj_c1 (k_ial (by decide +kernel)) <|
  mj_c1 (k_callV (idx := 63) (by decide +kernel) (fit_m_N_arrange_m_N_slotFor) rfl rfl w_469 w_197 w_198 (by decide) (by decide +kernel)) <|
  mj_c1 (k_ial (by decide +kernel)) <|
  mj_c1 (k_iloadn (k := 2) (by decide +kernel) rfl) <|
  mj_c1 (k_icge (off := 45) (by decide +kernel) (by decide)) <|
  mj_c1 (k_aloadn (k := 0) (by decide +kernel) rfl) <|
  mj_c1 (k_gR (idx := 27) h_N (by decide) rfl w_65 (by decide +kernel)) <|
  mj_c1 (k_aloadn (k := 0) (by decide +kernel) rfl) <|
  mj_c1 (k_aloadn (k := 0) (by decide +kernel) rfl) <|
  mj_c1 (k_gR (idx := 21) h_N (by decide) rfl w_56 (by decide +kernel)) <|
  mj_c1 (k_iload (by decide +kernel)) <|
  mj_c1 (k_ial (by decide +kernel)) <|
  mj_c1 (k_callV (idx := 63) (by decide +kernel) (fit_m_N_arrange_m_N_slotFor) rfl rfl w_469 w_197 w_198 (by decide) (by decide +kernel)) <|
  mj_c1 (k_ial (by decide +kernel)) <|
  mj_c1 (k_iloadn (k := 2) (by decide +kernel) rfl) <|
  mj_c1 (k_icge (off := 25) (by decide +kernel) (by decide)) <|
  mj_c1 (k_aloadn (k := 0) (by decide +kernel) rfl) <|
  mj_c1 (k_gR (idx := 27) h_N (by decide) rfl w_65 (by decide +kernel)) <|
  mj_c1 (k_iload (by decide +kernel)) <|
  mj_c1 (k_iloadn (k := 2) (by decide +kernel) rfl) <|
  mj_c1 (k_ias (by decide +kernel)) <|
  mj_c1 (k_aloadn (k := 0) (by decide +kernel) rfl) <|
  mj_c1 (k_gR (idx := 30) h_N (by decide) rfl w_67 (by decide +kernel)) <|
  mj_c1 (k_iloadn (k := 1) (by decide +kernel) rfl) <|
  mj_c1 (k_iload (by decide +kernel)) <|
  mj_c1 (k_ias (by decide +kernel)) <|
  mj_c1 (k_iinc (by decide +kernel) (by decide)) <|
  mj_c1 (k_goto (off := 14) (by decide +kernel) (by decide)) <|
  mj_c1 (k_aloadn (k := 0) (by decide +kernel) rfl) <|
  mj_c1 (k_gR (idx := 33) h_N (by decide) rfl w_70 (by decide +kernel)) <|
  mj_c1 (k_iloadn (k := 3) (by decide +kernel) rfl) <|
  mj_c1 (k_iload (by decide +kernel)) <|
  mj_c1 (k_ias (by decide +kernel)) <|
  mj_c1 (k_iinc (by decide +kernel) (by decide)) <|
  mj_c1 (k_iinc (by decide +kernel) (by decide)) <|
  mj_c1 (k_goto (off := -94) (by decide +kernel) (by decide)) <|
  mj_c1 (k_iloadn (k := 3) (by decide +kernel) rfl) <|
  mj_c1 (k_aloadn (k := 0) (by decide +kernel) rfl) <|
  mj_c1 (k_gI (idx := 82) h_N (by decide) rfl w_73 (by decide +kernel)) <|
  mj_c1 (k_icne (off := 5) (by decide +kernel) (by decide)) <|
  mj_c1 (k_iconst (by decide +kernel)) <|
  mj_c1 (k_zret (by decide +kernel) rfl) <|
  mj_c1 (k_aloadn (k := 0) (by decide +kernel) rfl) <|
  mj_c1 (k_iloadn (k := 3) (by decide +kernel) rfl) <|
  mj_c1 (k_pI (idx := 82) h_N (by decide) rfl rfl w_73 rfl (by decide +kernel)) <|
  mj_c1 (k_iinc (by decide +kernel) (by decide)) <|
  mj_c1 (k_goto (off := -135) (by decide +kernel) (by decide)) <|
  mj_c1 (k_iconst (by decide +kernel)) <|
  mj_c1 (k_zret (by decide +kernel) rfl) mj_c0
def q_N_waitForAll : List (Nat × mj_Sem) := [(0, o_al 0 1), (1, o_gR 3 5 4), (4, o_ic 0 5), (5, o_call m_A_fill 2 0 0 8 mj_rs), (8, o_al 0 9), (9, o_ic 0 10), (10, o_pI 3 8 13), (13, o_ic 1 14), (14, o_is 1 15), (15, o_il 1 16), (16, o_al 0 17), (17, o_gI 3 9 20), (20, o_icgt 72 23), (23, o_al 0 24), (24, o_gR 3 0 27), (27, o_il 1 28), (28, o_ial 29), (29, o_is 2 30), (30, o_al 0 31), (31, o_il 2 32), (32, o_call m_N_isGate 2 0 0 35 (mj_rv 3)), (35, o_ifeq 66 38), (38, o_al 0 39), (39, o_gR 3 5 42), (42, o_il 2 43), (43, o_ic 1000000 45), (45, o_ias 46), (46, o_al 0 47), (47, o_gR 3 7 50), (50, o_al 0 51), (51, o_gI 3 8 54), (54, o_il 2 55), (55, o_ias 56), (56, o_al 0 57), (57, o_dup 58), (58, o_gI 3 8 61), (61, o_ic 1 62), (62, o_iadd 63), (63, o_pI 3 8 66), (66, o_inc 1 1 69), (69, o_goto 15), (72, o_retv 0 0)]
set_option maxRecDepth 100000 in
theorem z_N_waitForAll : mj_Code (m_N_waitForAll) (q_N_waitForAll) :=
  mj_c1 (k_aloadn (k := 0) (by decide +kernel) rfl) <|
  mj_c1 (k_gR (idx := 27) h_N (by decide) rfl w_65 (by decide +kernel)) <|
  mj_c1 (k_iconst (by decide +kernel)) <|
  mj_c1 (k_callS (idx := 53) (by decide +kernel) (fit_m_N_waitForAll_m_A_fill) rfl w_42 w_43 (by decide) (by decide +kernel)) <|
  mj_c1 (k_aloadn (k := 0) (by decide +kernel) rfl) <|
  mj_c1 (k_iconst (by decide +kernel)) <|
  mj_c1 (k_pI (idx := 82) h_N (by decide) rfl rfl w_73 rfl (by decide +kernel)) <|
  mj_c1 (k_iconst (by decide +kernel)) <|
  mj_c1 (k_istoren (k := 1) (by decide +kernel) rfl (by decide)) <|
  mj_c1 (k_iloadn (k := 1) (by decide +kernel) rfl) <|
  mj_c1 (k_aloadn (k := 0) (by decide +kernel) rfl) <|
  mj_c1 (k_gI (idx := 40) h_N (by decide) rfl w_74 (by decide +kernel)) <|
  mj_c1 (k_icgt (off := 52) (by decide +kernel) (by decide)) <|
  mj_c1 (k_aloadn (k := 0) (by decide +kernel) rfl) <|
  mj_c1 (k_gR (idx := 9) h_N (by decide) rfl w_45 (by decide +kernel)) <|
  mj_c1 (k_iloadn (k := 1) (by decide +kernel) rfl) <|
  mj_c1 (k_ial (by decide +kernel)) <|
  mj_c1 (k_istoren (k := 2) (by decide +kernel) rfl (by decide)) <|
  mj_c1 (k_aloadn (k := 0) (by decide +kernel) rfl) <|
  mj_c1 (k_iloadn (k := 2) (by decide +kernel) rfl) <|
  mj_c1 (k_callV (idx := 85) (by decide +kernel) (fit_m_N_waitForAll_m_N_isGate) rfl rfl w_522 w_523 w_524 (by decide) (by decide +kernel)) <|
  mj_c1 (k_ifeq (off := 31) (by decide +kernel) (by decide)) <|
  mj_c1 (k_aloadn (k := 0) (by decide +kernel) rfl) <|
  mj_c1 (k_gR (idx := 27) h_N (by decide) rfl w_65 (by decide +kernel)) <|
  mj_c1 (k_iloadn (k := 2) (by decide +kernel) rfl) <|
  mj_c1 (k_ldc (idx := 88) (by decide +kernel) w_526) <|
  mj_c1 (k_ias (by decide +kernel)) <|
  mj_c1 (k_aloadn (k := 0) (by decide +kernel) rfl) <|
  mj_c1 (k_gR (idx := 33) h_N (by decide) rfl w_70 (by decide +kernel)) <|
  mj_c1 (k_aloadn (k := 0) (by decide +kernel) rfl) <|
  mj_c1 (k_gI (idx := 82) h_N (by decide) rfl w_73 (by decide +kernel)) <|
  mj_c1 (k_iloadn (k := 2) (by decide +kernel) rfl) <|
  mj_c1 (k_ias (by decide +kernel)) <|
  mj_c1 (k_aloadn (k := 0) (by decide +kernel) rfl) <|
  mj_c1 (k_dup (by decide +kernel)) <|
  mj_c1 (k_gI (idx := 82) h_N (by decide) rfl w_73 (by decide +kernel)) <|
  mj_c1 (k_iconst (by decide +kernel)) <|
  mj_c1 (k_iadd (by decide +kernel)) <|
  mj_c1 (k_pI (idx := 82) h_N (by decide) rfl rfl w_73 rfl (by decide +kernel)) <|
  mj_c1 (k_iinc (by decide +kernel) (by decide)) <|
  mj_c1 (k_goto (off := -54) (by decide +kernel) (by decide)) <|
  mj_c1 (k_retv (by decide +kernel) rfl) mj_c0
def q_N_isGate : List (Nat × mj_Sem) := [(0, o_il 1 1), (1, o_al 0 2), (2, o_gI 3 10 5), (5, o_icle 12 8), (8, o_ic 1 9), (9, o_goto 13), (12, o_ic 0 13), (13, o_zret 0 0)]
set_option maxRecDepth 100000 in
theorem z_N_isGate : mj_Code (m_N_isGate) (q_N_isGate) :=
  mj_c1 (k_iloadn (k := 1) (by decide +kernel) rfl) <|
  mj_c1 (k_aloadn (k := 0) (by decide +kernel) rfl) <|
  mj_c1 (k_gI (idx := 44) h_N (by decide) rfl w_78 (by decide +kernel)) <|
  mj_c1 (k_icle (off := 7) (by decide +kernel) (by decide)) <|
  mj_c1 (k_iconst (by decide +kernel)) <|
  mj_c1 (k_goto (off := 4) (by decide +kernel) (by decide)) <|
  mj_c1 (k_iconst (by decide +kernel)) <|
  mj_c1 (k_zret (by decide +kernel) rfl) mj_c0
def q_N_stands : List (Nat × mj_Sem) := [(0, o_al 0 1), (1, o_il 1 2), (2, o_call m_N_exists 2 0 0 5 (mj_rv 3)), (5, o_ifeq 21 8), (8, o_al 0 9), (9, o_il 1 10), (10, o_call m_N_slotFor 2 0 0 13 (mj_rv 3)), (13, o_ic (-1) 14), (14, o_iceq 21 17), (17, o_ic 1 18), (18, o_goto 22), (21, o_ic 0 22), (22, o_zret 0 0)]
set_option maxRecDepth 100000 in
theorem z_N_stands : mj_Code (m_N_stands) (q_N_stands) :=
  mj_c1 (k_aloadn (k := 0) (by decide +kernel) rfl) <|
  mj_c1 (k_iloadn (k := 1) (by decide +kernel) rfl) <|
  mj_c1 (k_callV (idx := 59) (by decide +kernel) (fit_m_N_stands_m_N_exists) rfl rfl w_465 w_466 w_467 (by decide) (by decide +kernel)) <|
  mj_c1 (k_ifeq (off := 16) (by decide +kernel) (by decide)) <|
  mj_c1 (k_aloadn (k := 0) (by decide +kernel) rfl) <|
  mj_c1 (k_iloadn (k := 1) (by decide +kernel) rfl) <|
  mj_c1 (k_callV (idx := 63) (by decide +kernel) (fit_m_N_stands_m_N_slotFor) rfl rfl w_469 w_197 w_198 (by decide) (by decide +kernel)) <|
  mj_c1 (k_iconst (by decide +kernel)) <|
  mj_c1 (k_iceq (off := 7) (by decide +kernel) (by decide)) <|
  mj_c1 (k_iconst (by decide +kernel)) <|
  mj_c1 (k_goto (off := 4) (by decide +kernel) (by decide)) <|
  mj_c1 (k_iconst (by decide +kernel)) <|
  mj_c1 (k_zret (by decide +kernel) rfl) mj_c0
def q_N_outputDepth : List (Nat × mj_Sem) := [(0, o_ic 0 1), (1, o_is 1 2), (2, o_ic 0 3), (3, o_is 2 4), (4, o_il 2 5), (5, o_al 0 6), (6, o_gI 3 12 9), (9, o_icge 38 12), (12, o_il 1 13), (13, o_al 0 14), (14, o_gR 3 5 17), (17, o_al 0 18), (18, o_al 0 19), (19, o_gR 3 4 22), (22, o_il 2 23), (23, o_ial 24), (24, o_call m_N_slotFor 2 0 0 27 (mj_rv 3)), (27, o_ial 28), (28, o_call m_H_max 2 0 0 31 mj_rs), (31, o_is 1 32), (32, o_inc 2 1 35), (35, o_goto 4), (38, o_il 1 39), (39, o_iret 0 0)]
set_option maxRecDepth 100000 in
theorem z_N_outputDepth : mj_Code (m_N_outputDepth) (q_N_outputDepth) :=
  mj_c1 (k_iconst (by decide +kernel)) <|
  mj_c1 (k_istoren (k := 1) (by decide +kernel) rfl (by decide)) <|
  mj_c1 (k_iconst (by decide +kernel)) <|
  mj_c1 (k_istoren (k := 2) (by decide +kernel) rfl (by decide)) <|
  mj_c1 (k_iloadn (k := 2) (by decide +kernel) rfl) <|
  mj_c1 (k_aloadn (k := 0) (by decide +kernel) rfl) <|
  mj_c1 (k_gI (idx := 47) h_N (by decide) rfl w_87 (by decide +kernel)) <|
  mj_c1 (k_icge (off := 29) (by decide +kernel) (by decide)) <|
  mj_c1 (k_iloadn (k := 1) (by decide +kernel) rfl) <|
  mj_c1 (k_aloadn (k := 0) (by decide +kernel) rfl) <|
  mj_c1 (k_gR (idx := 27) h_N (by decide) rfl w_65 (by decide +kernel)) <|
  mj_c1 (k_aloadn (k := 0) (by decide +kernel) rfl) <|
  mj_c1 (k_aloadn (k := 0) (by decide +kernel) rfl) <|
  mj_c1 (k_gR (idx := 24) h_N (by decide) rfl w_61 (by decide +kernel)) <|
  mj_c1 (k_iloadn (k := 2) (by decide +kernel) rfl) <|
  mj_c1 (k_ial (by decide +kernel)) <|
  mj_c1 (k_callV (idx := 63) (by decide +kernel) (fit_m_N_outputDepth_m_N_slotFor) rfl rfl w_469 w_197 w_198 (by decide) (by decide +kernel)) <|
  mj_c1 (k_ial (by decide +kernel)) <|
  mj_c1 (k_callS (idx := 67) (by decide +kernel) (fit_m_N_outputDepth_m_H_max) rfl w_837 w_766 (by decide) (by decide +kernel)) <|
  mj_c1 (k_istoren (k := 1) (by decide +kernel) rfl (by decide)) <|
  mj_c1 (k_iinc (by decide +kernel) (by decide)) <|
  mj_c1 (k_goto (off := -31) (by decide +kernel) (by decide)) <|
  mj_c1 (k_iloadn (k := 1) (by decide +kernel) rfl) <|
  mj_c1 (k_iret (by decide +kernel) rfl) mj_c0
def q_A_fill : List (Nat × mj_Sem) := [(0, o_ic 0 1), (1, o_is 2 2), (2, o_al 0 3), (3, o_alen 0 4), (4, o_is 3 5), (5, o_il 2 6), (6, o_il 3 7), (7, o_icge 20 10), (10, o_al 0 11), (11, o_il 2 12), (12, o_il 1 13), (13, o_ias 14), (14, o_inc 2 1 17), (17, o_goto 5), (20, o_retv 0 0)]
set_option maxRecDepth 100000 in
theorem z_A_fill : mj_Code (m_A_fill) (q_A_fill) :=
  mj_c1 (k_iconst (by decide +kernel)) <|
  mj_c1 (k_istoren (k := 2) (by decide +kernel) rfl (by decide)) <|
  mj_c1 (k_aloadn (k := 0) (by decide +kernel) rfl) <|
  mj_c1 (k_alen (by decide +kernel) (by decide)) <|
  mj_c1 (k_istoren (k := 3) (by decide +kernel) rfl (by decide)) <|
  mj_c1 (k_iloadn (k := 2) (by decide +kernel) rfl) <|
  mj_c1 (k_iloadn (k := 3) (by decide +kernel) rfl) <|
  mj_c1 (k_icge (off := 13) (by decide +kernel) (by decide)) <|
  mj_c1 (k_aloadn (k := 0) (by decide +kernel) rfl) <|
  mj_c1 (k_iloadn (k := 2) (by decide +kernel) rfl) <|
  mj_c1 (k_iloadn (k := 1) (by decide +kernel) rfl) <|
  mj_c1 (k_ias (by decide +kernel)) <|
  mj_c1 (k_iinc (by decide +kernel) (by decide)) <|
  mj_c1 (k_goto (off := -12) (by decide +kernel) (by decide)) <|
  mj_c1 (k_retv (by decide +kernel) rfl) mj_c0
def q_H_min : List (Nat × mj_Sem) := [(0, o_il 0 1), (1, o_il 1 2), (2, o_icgt 9 5), (5, o_il 0 6), (6, o_goto 10), (9, o_il 1 10), (10, o_iret 0 0)]
set_option maxRecDepth 100000 in
theorem z_H_min : mj_Code (m_H_min) (q_H_min) :=
  mj_c1 (k_iloadn (k := 0) (by decide +kernel) rfl) <|
  mj_c1 (k_iloadn (k := 1) (by decide +kernel) rfl) <|
  mj_c1 (k_icgt (off := 7) (by decide +kernel) (by decide)) <|
  mj_c1 (k_iloadn (k := 0) (by decide +kernel) rfl) <|
  mj_c1 (k_goto (off := 4) (by decide +kernel) (by decide)) <|
  mj_c1 (k_iloadn (k := 1) (by decide +kernel) rfl) <|
  mj_c1 (k_iret (by decide +kernel) rfl) mj_c0
def q_H_max : List (Nat × mj_Sem) := [(0, o_il 0 1), (1, o_il 1 2), (2, o_iclt 9 5), (5, o_il 0 6), (6, o_goto 10), (9, o_il 1 10), (10, o_iret 0 0)]
set_option maxRecDepth 100000 in
theorem z_H_max : mj_Code (m_H_max) (q_H_max) :=
  mj_c1 (k_iloadn (k := 0) (by decide +kernel) rfl) <|
  mj_c1 (k_iloadn (k := 1) (by decide +kernel) rfl) <|
  mj_c1 (k_iclt (off := 7) (by decide +kernel) (by decide)) <|
  mj_c1 (k_iloadn (k := 0) (by decide +kernel) rfl) <|
  mj_c1 (k_goto (off := 4) (by decide +kernel) (by decide)) <|
  mj_c1 (k_iloadn (k := 1) (by decide +kernel) rfl) <|
  mj_c1 (k_iret (by decide +kernel) rfl) mj_c0
end
section
def q_R_init : List (Nat × mj_Sem) := [(0, o_al 0 1), (1, o_oi 4), (4, o_al 0 5), (5, o_ic 8192 8), (8, o_na 1 15 11710 10), (10, o_pR 4 3 13), (13, o_al 0 14), (14, o_ic 5 15), (15, o_na 0 15 11710 17), (17, o_pR 4 4 20), (20, o_al 0 21), (21, o_ic 5 22), (22, o_na 0 15 11710 24), (24, o_pR 4 5 27), (27, o_al 0 28), (28, o_new 2 3 15 11710 31), (31, o_dup 32), (32, o_call m_F_init 1 15 11710 35 mj_ri), (35, o_pR 4 6 38), (38, o_al 0 39), (39, o_new 3 13 15 11710 42), (42, o_dup 43), (43, o_call m_N_init 1 15 11710 46 mj_ri), (46, o_pR 4 7 49), (49, o_retv 15 11710)]
set_option maxRecDepth 100000 in
theorem z_R_init : mj_Code (m_R_init) (q_R_init) :=
  mj_c1 (k_aloadn (k := 0) (by decide +kernel) rfl) <|
  mj_c1 (k_oi (idx := 3) (by decide +kernel) w_209 w_24 w_25 (by decide) (by decide)) <|
  mj_c1 (k_aloadn (k := 0) (by decide +kernel) rfl) <|
  mj_c1 (k_sipush (by decide +kernel) (by decide)) <|
  mj_c1 (k_na (at0 := .byte) (by decide +kernel) rfl (Or.inr (Or.inl ⟨rfl, rfl⟩)) w_226) <|
  mj_c1 (k_pRF (idx := 9) h_R (by decide) rfl (Or.inr ⟨_, rfl⟩) w_235 rfl rfl rfl (by decide +kernel)) <|
  mj_c1 (k_aloadn (k := 0) (by decide +kernel) rfl) <|
  mj_c1 (k_iconst (by decide +kernel)) <|
  mj_c1 (k_na (at0 := .int) (by decide +kernel) rfl (Or.inl ⟨rfl, rfl⟩) w_118) <|
  mj_c1 (k_pRF (idx := 15) h_R (by decide) rfl (Or.inr ⟨_, rfl⟩) w_236 rfl rfl rfl (by decide +kernel)) <|
  mj_c1 (k_aloadn (k := 0) (by decide +kernel) rfl) <|
  mj_c1 (k_iconst (by decide +kernel)) <|
  mj_c1 (k_na (at0 := .int) (by decide +kernel) rfl (Or.inl ⟨rfl, rfl⟩) w_118) <|
  mj_c1 (k_pRF (idx := 19) h_R (by decide) rfl (Or.inr ⟨_, rfl⟩) w_237 rfl rfl rfl (by decide +kernel)) <|
  mj_c1 (k_aloadn (k := 0) (by decide +kernel) rfl) <|
  mj_c1 (k_new (idx := 22) (by decide +kernel) h_F (by decide) w_210 w_211 w_6) <|
  mj_c1 (k_dup (by decide +kernel)) <|
  mj_c1 (k_callIN (idx := 24) (host := "CircuitTwin") (by decide +kernel) (fit_m_R_init_m_F_init) rfl (by decide) w_213 w_214 rfl (by decide) (by decide +kernel)) <|
  mj_c1 (k_pRF (idx := 25) h_R (by decide) rfl (Or.inl ⟨_, rfl⟩) w_238 rfl rfl rfl (by decide +kernel)) <|
  mj_c1 (k_aloadn (k := 0) (by decide +kernel) rfl) <|
  mj_c1 (k_new (idx := 29) (by decide +kernel) h_N (by decide) w_227 w_33 w_3) <|
  mj_c1 (k_dup (by decide +kernel)) <|
  mj_c1 (k_callI (idx := 31) (by decide +kernel) (fit_m_R_init_m_N_init) rfl w_228 w_35 w_36 rfl (by decide) (by decide +kernel)) <|
  mj_c1 (k_pR (idx := 32) h_R (by decide) rfl (Or.inl ⟨_, rfl⟩) w_239 rfl (by decide +kernel)) <|
  mj_c1 (k_retv (by decide +kernel) rfl) mj_c0
def q_R_append : List (Nat × mj_Sem) := [(0, o_al 0 1), (1, o_gI 4 0 4), (4, o_ic 8192 7), (7, o_icge 30 10), (10, o_al 0 11), (11, o_gR 4 3 14), (14, o_al 0 15), (15, o_gI 4 0 18), (18, o_il 1 19), (19, o_bas 20), (20, o_al 0 21), (21, o_dup 22), (22, o_gI 4 0 25), (25, o_ic 1 26), (26, o_iadd 27), (27, o_pI 4 0 30), (30, o_retv 0 0)]
set_option maxRecDepth 100000 in
theorem z_R_append : mj_Code (m_R_append) (q_R_append) :=
  mj_c1 (k_aloadn (k := 0) (by decide +kernel) rfl) <|
  mj_c1 (k_gI (idx := 36) h_R (by decide) rfl w_229 (by decide +kernel)) <|
  mj_c1 (k_sipush (by decide +kernel) (by decide)) <|
  mj_c1 (k_icge (off := 23) (by decide +kernel) (by decide)) <|
  mj_c1 (k_aloadn (k := 0) (by decide +kernel) rfl) <|
  mj_c1 (k_gR (idx := 9) h_R (by decide) rfl w_235 (by decide +kernel)) <|
  mj_c1 (k_aloadn (k := 0) (by decide +kernel) rfl) <|
  mj_c1 (k_gI (idx := 36) h_R (by decide) rfl w_229 (by decide +kernel)) <|
  mj_c1 (k_iloadn (k := 1) (by decide +kernel) rfl) <|
  mj_c1 (k_bas (by decide +kernel)) <|
  mj_c1 (k_aloadn (k := 0) (by decide +kernel) rfl) <|
  mj_c1 (k_dup (by decide +kernel)) <|
  mj_c1 (k_gI (idx := 36) h_R (by decide) rfl w_229 (by decide +kernel)) <|
  mj_c1 (k_iconst (by decide +kernel)) <|
  mj_c1 (k_iadd (by decide +kernel)) <|
  mj_c1 (k_pI (idx := 36) h_R (by decide) rfl rfl w_229 rfl (by decide +kernel)) <|
  mj_c1 (k_retv (by decide +kernel) rfl) mj_c0
def q_R_readTape : List (Nat × mj_Sem) := [(0, o_al 0 1), (1, o_ic 0 2), (2, o_pI 4 8 5), (5, o_al 0 6), (6, o_ic 0 7), (7, o_pI 4 1 10), (10, o_al 0 11), (11, o_ic 0 12), (12, o_pI 4 2 15), (15, o_al 0 16), (16, o_call m_R_takeKind 1 0 0 19 (mj_rv 4)), (19, o_ifeq 61 22), (22, o_al 0 23), (23, o_call m_R_takeSizes 1 0 0 26 (mj_rv 4)), (26, o_ifeq 61 29), (29, o_al 0 30), (30, o_call m_R_takeInputs 1 0 0 33 (mj_rv 4)), (33, o_ifeq 61 36), (36, o_al 0 37), (37, o_call m_R_takeOutputs 1 0 0 40 (mj_rv 4)), (40, o_ifeq 61 43), (43, o_al 0 44), (44, o_call m_R_takeGates 1 0 0 47 (mj_rv 4)), (47, o_ifeq 61 50), (50, o_al 0 51), (51, o_call m_R_takeEnd 1 0 0 54 (mj_rv 4)), (54, o_ifeq 61 57), (57, o_al 0 58), (58, o_call m_R_checkWhole 1 0 0 61 (mj_rv 4)), (61, o_al 0 62), (62, o_ic 0 63), (63, o_pI 4 0 66), (66, o_retv 0 0)]
set_option maxRecDepth 100000 in
theorem z_R_readTape : mj_Code (m_R_readTape) (q_R_readTape) :=
  mj_c1 (k_aloadn (k := 0) (by decide +kernel) rfl) <|
  mj_c1 (k_iconst (by decide +kernel)) <|
  mj_c1 (k_pI (idx := 40) h_R (by decide) rfl rfl w_240 rfl (by decide +kernel)) <|
  mj_c1 (k_aloadn (k := 0) (by decide +kernel) rfl) <|
  mj_c1 (k_iconst (by decide +kernel)) <|
  mj_c1 (k_pI (idx := 43) h_R (by decide) rfl rfl w_231 rfl (by decide +kernel)) <|
  mj_c1 (k_aloadn (k := 0) (by decide +kernel) rfl) <|
  mj_c1 (k_iconst (by decide +kernel)) <|
  mj_c1 (k_pI (idx := 46) h_R (by decide) rfl rfl w_233 rfl (by decide +kernel)) <|
  mj_c1 (k_aloadn (k := 0) (by decide +kernel) rfl) <|
  mj_c1 (k_callV (idx := 49) (by decide +kernel) (fit_m_R_readTape_m_R_takeKind) rfl rfl w_424 w_426 v_10 (by decide) (by decide +kernel)) <|
  mj_c1 (k_ifeq (off := 42) (by decide +kernel) (by decide)) <|
  mj_c1 (k_aloadn (k := 0) (by decide +kernel) rfl) <|
  mj_c1 (k_callV (idx := 53) (by decide +kernel) (fit_m_R_readTape_m_R_takeSizes) rfl rfl w_436 w_438 v_13 (by decide) (by decide +kernel)) <|
  mj_c1 (k_ifeq (off := 35) (by decide +kernel) (by decide)) <|
  mj_c1 (k_aloadn (k := 0) (by decide +kernel) rfl) <|
  mj_c1 (k_callV (idx := 56) (by decide +kernel) (fit_m_R_readTape_m_R_takeInputs) rfl rfl w_449 w_451 v_16 (by decide) (by decide +kernel)) <|
  mj_c1 (k_ifeq (off := 28) (by decide +kernel) (by decide)) <|
  mj_c1 (k_aloadn (k := 0) (by decide +kernel) rfl) <|
  mj_c1 (k_callV (idx := 59) (by decide +kernel) (fit_m_R_readTape_m_R_takeOutputs) rfl rfl w_470 w_472 v_18 (by decide) (by decide +kernel)) <|
  mj_c1 (k_ifeq (off := 21) (by decide +kernel) (by decide)) <|
  mj_c1 (k_aloadn (k := 0) (by decide +kernel) rfl) <|
  mj_c1 (k_callV (idx := 62) (by decide +kernel) (fit_m_R_readTape_m_R_takeGates) rfl rfl w_479 w_481 v_20 (by decide) (by decide +kernel)) <|
  mj_c1 (k_ifeq (off := 14) (by decide +kernel) (by decide)) <|
  mj_c1 (k_aloadn (k := 0) (by decide +kernel) rfl) <|
  mj_c1 (k_callV (idx := 65) (by decide +kernel) (fit_m_R_readTape_m_R_takeEnd) rfl rfl w_495 w_497 v_24 (by decide) (by decide +kernel)) <|
  mj_c1 (k_ifeq (off := 7) (by decide +kernel) (by decide)) <|
  mj_c1 (k_aloadn (k := 0) (by decide +kernel) rfl) <|
  mj_c1 (k_callV (idx := 68) (by decide +kernel) (fit_m_R_readTape_m_R_checkWhole) rfl rfl w_499 w_501 v_25 (by decide) (by decide +kernel)) <|
  mj_c1 (k_aloadn (k := 0) (by decide +kernel) rfl) <|
  mj_c1 (k_iconst (by decide +kernel)) <|
  mj_c1 (k_pI (idx := 36) h_R (by decide) rfl rfl w_229 rfl (by decide +kernel)) <|
  mj_c1 (k_retv (by decide +kernel) rfl) mj_c0
def q_R_takeKind : List (Nat × mj_Sem) := [(0, o_al 0 1), (1, o_ic 1 2), (2, o_call m_R_byteAt 2 0 0 5 (mj_rv 4)), (5, o_is 1 6), (6, o_al 0 7), (7, o_ic 0 8), (8, o_call m_R_byteAt 2 0 0 11 (mj_rv 4)), (11, o_ic 97 13), (13, o_icne 52 16), (16, o_il 1 17), (17, o_ic 97 19), (19, o_iceq 28 22), (22, o_il 1 23), (23, o_ic 105 25), (25, o_icne 52 28), (28, o_al 0 29), (29, o_ic 2 30), (30, o_call m_R_byteAt 2 0 0 33 (mj_rv 4)), (33, o_ic 103 35), (35, o_icne 52 38), (38, o_al 0 39), (39, o_ic 3 40), (40, o_call m_R_byteAt 2 0 0 43 (mj_rv 4)), (43, o_ic 32 45), (45, o_icne 52 48), (48, o_ic 1 49), (49, o_goto 53), (52, o_ic 0 53), (53, o_is 2 54), (54, o_il 2 55), (55, o_ifne 65 58), (58, o_al 0 59), (59, o_ic 1 60), (60, o_ic 0 61), (61, o_call m_R_fail 3 0 0 64 (mj_rv 4)), (64, o_zret 0 0), (65, o_al 0 66), (66, o_il 1 67), (67, o_ic 105 69), (69, o_icne 76 72), (72, o_ic 1 73), (73, o_goto 77), (76, o_ic 0 77), (77, o_pZ 4 9 80), (80, o_al 0 81), (81, o_ic 4 82), (82, o_pI 4 8 85), (85, o_ic 1 86), (86, o_zret 0 0)]
set_option maxRecDepth 100000 in
theorem z_R_takeKind : mj_Code (m_R_takeKind) (q_R_takeKind) :=
  mj_c1 (k_aloadn (k := 0) (by decide +kernel) rfl) <|
  mj_c1 (k_iconst (by decide +kernel)) <|
  mj_c1 (k_callV (idx := 71) (by decide +kernel) (fit_m_R_takeKind_m_R_byteAt) rfl rfl w_428 w_430 v_11 (by decide) (by decide +kernel)) <|
  mj_c1 (k_istoren (k := 1) (by decide +kernel) rfl (by decide)) <|
  mj_c1 (k_aloadn (k := 0) (by decide +kernel) rfl) <|
  mj_c1 (k_iconst (by decide +kernel)) <|
  mj_c1 (k_callV (idx := 71) (by decide +kernel) (fit_m_R_takeKind_m_R_byteAt) rfl rfl w_428 w_430 v_11 (by decide) (by decide +kernel)) <|
  mj_c1 (k_bipush (by decide +kernel) (by decide)) <|
  mj_c1 (k_icne (off := 39) (by decide +kernel) (by decide)) <|
  mj_c1 (k_iloadn (k := 1) (by decide +kernel) rfl) <|
  mj_c1 (k_bipush (by decide +kernel) (by decide)) <|
  mj_c1 (k_iceq (off := 9) (by decide +kernel) (by decide)) <|
  mj_c1 (k_iloadn (k := 1) (by decide +kernel) rfl) <|
  mj_c1 (k_bipush (by decide +kernel) (by decide)) <|
  mj_c1 (k_icne (off := 27) (by decide +kernel) (by decide)) <|
  mj_c1 (k_aloadn (k := 0) (by decide +kernel) rfl) <|
  mj_c1 (k_iconst (by decide +kernel)) <|
  mj_c1 (k_callV (idx := 71) (by decide +kernel) (fit_m_R_takeKind_m_R_byteAt) rfl rfl w_428 w_430 v_11 (by decide) (by decide +kernel)) <|
  mj_c1 (k_bipush (by decide +kernel) (by decide)) <|
  mj_c1 (k_icne (off := 17) (by decide +kernel) (by decide)) <|
  mj_c1 (k_aloadn (k := 0) (by decide +kernel) rfl) <|
  mj_c1 (k_iconst (by decide +kernel)) <|
  mj_c1 (k_callV (idx := 71) (by decide +kernel) (fit_m_R_takeKind_m_R_byteAt) rfl rfl w_428 w_430 v_11 (by decide) (by decide +kernel)) <|
  mj_c1 (k_bipush (by decide +kernel) (by decide)) <|
  mj_c1 (k_icne (off := 7) (by decide +kernel) (by decide)) <|
  mj_c1 (k_iconst (by decide +kernel)) <|
  mj_c1 (k_goto (off := 4) (by decide +kernel) (by decide)) <|
  mj_c1 (k_iconst (by decide +kernel)) <|
  mj_c1 (k_istoren (k := 2) (by decide +kernel) rfl (by decide)) <|
  mj_c1 (k_iloadn (k := 2) (by decide +kernel) rfl) <|
  mj_c1 (k_ifne (off := 10) (by decide +kernel) (by decide)) <|
  mj_c1 (k_aloadn (k := 0) (by decide +kernel) rfl) <|
  mj_c1 (k_iconst (by decide +kernel)) <|
  mj_c1 (k_iconst (by decide +kernel)) <|
  mj_c1 (k_callV (idx := 75) (by decide +kernel) (fit_m_R_takeKind_m_R_fail) rfl rfl w_432 w_434 v_12 (by decide) (by decide +kernel)) <|
  mj_c1 (k_zret (by decide +kernel) rfl) <|
  mj_c1 (k_aloadn (k := 0) (by decide +kernel) rfl) <|
  mj_c1 (k_iloadn (k := 1) (by decide +kernel) rfl) <|
  mj_c1 (k_bipush (by decide +kernel) (by decide)) <|
  mj_c1 (k_icne (off := 7) (by decide +kernel) (by decide)) <|
  mj_c1 (k_iconst (by decide +kernel)) <|
  mj_c1 (k_goto (off := 4) (by decide +kernel) (by decide)) <|
  mj_c1 (k_iconst (by decide +kernel)) <|
  mj_c1 (k_pZ (idx := 79) h_R (by decide) rfl rfl w_241 rfl (by decide +kernel)) <|
  mj_c1 (k_aloadn (k := 0) (by decide +kernel) rfl) <|
  mj_c1 (k_iconst (by decide +kernel)) <|
  mj_c1 (k_pI (idx := 40) h_R (by decide) rfl rfl w_240 rfl (by decide +kernel)) <|
  mj_c1 (k_iconst (by decide +kernel)) <|
  mj_c1 (k_zret (by decide +kernel) rfl) mj_c0
def q_R_byteAt : List (Nat × mj_Sem) := [(0, o_il 1 1), (1, o_al 0 2), (2, o_gI 4 0 5), (5, o_icge 21 8), (8, o_al 0 9), (9, o_gR 4 3 12), (12, o_il 1 13), (13, o_bal 14), (14, o_ic 255 17), (17, o_iand 18), (18, o_goto 22), (21, o_ic (-1) 22), (22, o_iret 0 0)]
set_option maxRecDepth 100000 in
theorem z_R_byteAt : mj_Code (m_R_byteAt) (q_R_byteAt) :=
  mj_c1 (k_iloadn (k := 1) (by decide +kernel) rfl) <|
  mj_c1 (k_aloadn (k := 0) (by decide +kernel) rfl) <|
  mj_c1 (k_gI (idx := 36) h_R (by decide) rfl w_229 (by decide +kernel)) <|
  mj_c1 (k_icge (off := 16) (by decide +kernel) (by decide)) <|
  mj_c1 (k_aloadn (k := 0) (by decide +kernel) rfl) <|
  mj_c1 (k_gR (idx := 9) h_R (by decide) rfl w_235 (by decide +kernel)) <|
  mj_c1 (k_iloadn (k := 1) (by decide +kernel) rfl) <|
  mj_c1 (k_bal (by decide +kernel)) <|
  mj_c1 (k_sipush (by decide +kernel) (by decide)) <|
  mj_c1 (k_iand (by decide +kernel)) <|
  mj_c1 (k_goto (off := 4) (by decide +kernel) (by decide)) <|
  mj_c1 (k_iconst (by decide +kernel)) <|
  mj_c1 (k_iret (by decide +kernel) rfl) mj_c0
def q_R_fail : List (Nat × mj_Sem) := [(0, o_al 0 1), (1, o_il 1 2), (2, o_pI 4 1 5), (5, o_al 0 6), (6, o_il 2 7), (7, o_pI 4 2 10), (10, o_ic 0 11), (11, o_zret 0 0)]
set_option maxRecDepth 100000 in
theorem z_R_fail : mj_Code (m_R_fail) (q_R_fail) :=
  mj_c1 (k_aloadn (k := 0) (by decide +kernel) rfl) <|
  mj_c1 (k_iloadn (k := 1) (by decide +kernel) rfl) <|
  mj_c1 (k_pI (idx := 43) h_R (by decide) rfl rfl w_231 rfl (by decide +kernel)) <|
  mj_c1 (k_aloadn (k := 0) (by decide +kernel) rfl) <|
  mj_c1 (k_iloadn (k := 2) (by decide +kernel) rfl) <|
  mj_c1 (k_pI (idx := 46) h_R (by decide) rfl rfl w_233 rfl (by decide +kernel)) <|
  mj_c1 (k_iconst (by decide +kernel)) <|
  mj_c1 (k_zret (by decide +kernel) rfl) mj_c0
def q_R_takeSizes : List (Nat × mj_Sem) := [(0, o_al 0 1), (1, o_ic 5 2), (2, o_ic 2 3), (3, o_call m_R_takeLine 3 0 0 6 (mj_rv 4)), (6, o_ifne 11 9), (9, o_ic 0 10), (10, o_zret 0 0), (11, o_al 0 12), (12, o_gR 4 4 15), (15, o_ic 0 16), (16, o_ial 17), (17, o_is 1 18), (18, o_al 0 19), (19, o_gR 4 4 22), (22, o_ic 1 23), (23, o_ial 24), (24, o_is 2 25), (25, o_al 0 26), (26, o_gR 4 4 29), (29, o_ic 3 30), (30, o_ial 31), (31, o_is 3 32), (32, o_al 0 33), (33, o_gR 4 4 36), (36, o_ic 4 37), (37, o_ial 38), (38, o_is 4 40), (40, o_al 0 41), (41, o_gR 4 4 44), (44, o_ic 2 45), (45, o_ial 46), (46, o_ifeq 56 49), (49, o_al 0 50), (50, o_ic 3 51), (51, o_ic 0 52), (52, o_call m_R_fail 3 0 0 55 (mj_rv 4)), (55, o_zret 0 0), (56, o_il 1 57), (57, o_ic 1000 60), (60, o_icgt 83 63), (63, o_il 2 64), (64, o_ic 14 66), (66, o_icgt 83 69), (69, o_il 3 70), (70, o_ic 16 72), (72, o_icgt 83 75), (75, o_il 4 77), (77, o_ic 300 80), (80, o_icle 90 83), (83, o_al 0 84), (84, o_ic 4 85), (85, o_ic 0 86), (86, o_call m_R_fail 3 0 0 89 (mj_rv 4)), (89, o_zret 0 0), (90, o_il 1 91), (91, o_il 2 92), (92, o_il 4 94), (94, o_iadd 95), (95, o_iclt 113 98), (98, o_al 0 99), (99, o_gI 4 9 102), (102, o_ifeq 120 105), (105, o_il 1 106), (106, o_il 2 107), (107, o_il 4 109), (109, o_iadd 110), (110, o_iceq 120 113), (113, o_al 0 114), (114, o_ic 4 115), (115, o_ic 0 116), (116, o_call m_R_fail 3 0 0 119 (mj_rv 4)), (119, o_zret 0 0), (120, o_al 0 121), (121, o_gR 4 7 124), (124, o_il 1 125), (125, o_il 2 126), (126, o_il 3 127), (127, o_il 4 129), (129, o_call m_N_begin 5 0 0 132 (mj_rv 3)), (132, o_ic 1 133), (133, o_zret 0 0)]
set_option maxRecDepth 100000 in
theorem z_R_takeSizes : mj_Code (m_R_takeSizes) (q_R_takeSizes) :=
  mj_c1 (k_aloadn (k := 0) (by decide +kernel) rfl) <|
  mj_c1 (k_iconst (by decide +kernel)) <|
  mj_c1 (k_iconst (by decide +kernel)) <|
  mj_c1 (k_callV (idx := 83) (by decide +kernel) (fit_m_R_takeSizes_m_R_takeLine) rfl rfl w_440 w_442 v_14 (by decide) (by decide +kernel)) <|
  mj_c1 (k_ifne (off := 5) (by decide +kernel) (by decide)) <|
  mj_c1 (k_iconst (by decide +kernel)) <|
  mj_c1 (k_zret (by decide +kernel) rfl) <|
  mj_c1 (k_aloadn (k := 0) (by decide +kernel) rfl) <|
  mj_c1 (k_gR (idx := 15) h_R (by decide) rfl w_236 (by decide +kernel)) <|
  mj_c1 (k_iconst (by decide +kernel)) <|
  mj_c1 (k_ial (by decide +kernel)) <|
  mj_c1 (k_istoren (k := 1) (by decide +kernel) rfl (by decide)) <|
  mj_c1 (k_aloadn (k := 0) (by decide +kernel) rfl) <|
  mj_c1 (k_gR (idx := 15) h_R (by decide) rfl w_236 (by decide +kernel)) <|
  mj_c1 (k_iconst (by decide +kernel)) <|
  mj_c1 (k_ial (by decide +kernel)) <|
  mj_c1 (k_istoren (k := 2) (by decide +kernel) rfl (by decide)) <|
  mj_c1 (k_aloadn (k := 0) (by decide +kernel) rfl) <|
  mj_c1 (k_gR (idx := 15) h_R (by decide) rfl w_236 (by decide +kernel)) <|
  mj_c1 (k_iconst (by decide +kernel)) <|
  mj_c1 (k_ial (by decide +kernel)) <|
  mj_c1 (k_istoren (k := 3) (by decide +kernel) rfl (by decide)) <|
  mj_c1 (k_aloadn (k := 0) (by decide +kernel) rfl) <|
  mj_c1 (k_gR (idx := 15) h_R (by decide) rfl w_236 (by decide +kernel)) <|
  mj_c1 (k_iconst (by decide +kernel)) <|
  mj_c1 (k_ial (by decide +kernel)) <|
  mj_c1 (k_istore (by decide +kernel) (by decide)) <|
  mj_c1 (k_aloadn (k := 0) (by decide +kernel) rfl) <|
  mj_c1 (k_gR (idx := 15) h_R (by decide) rfl w_236 (by decide +kernel)) <|
  mj_c1 (k_iconst (by decide +kernel)) <|
  mj_c1 (k_ial (by decide +kernel)) <|
  mj_c1 (k_ifeq (off := 10) (by decide +kernel) (by decide)) <|
  mj_c1 (k_aloadn (k := 0) (by decide +kernel) rfl) <|
  mj_c1 (k_iconst (by decide +kernel)) <|
  mj_c1 (k_iconst (by decide +kernel)) <|
  mj_c1 (k_callV (idx := 75) (by decide +kernel) (fit_m_R_takeSizes_m_R_fail) rfl rfl w_432 w_434 v_12 (by decide) (by decide +kernel)) <|
  mj_c1 (k_zret (by decide +kernel) rfl) <|
  mj_c1 (k_iloadn (k := 1) (by decide +kernel) rfl) <|
  mj_c1 (k_sipush (by decide +kernel) (by decide)) <|
  mj_c1 (k_icgt (off := 23) (by decide +kernel) (by decide)) <|
  mj_c1 (k_iloadn (k := 2) (by decide +kernel) rfl) <|
  mj_c1 (k_bipush (by decide +kernel) (by decide)) <|
  mj_c1 (k_icgt (off := 17) (by decide +kernel) (by decide)) <|
  mj_c1 (k_iloadn (k := 3) (by decide +kernel) rfl) <|
  mj_c1 (k_bipush (by decide +kernel) (by decide)) <|
  mj_c1 (k_icgt (off := 11) (by decide +kernel) (by decide)) <|
  mj_c1 (k_iload (by decide +kernel)) <|
  mj_c1 (k_sipush (by decide +kernel) (by decide)) <|
  mj_c1 (k_icle (off := 10) (by decide +kernel) (by decide)) <|
  mj_c1 (k_aloadn (k := 0) (by decide +kernel) rfl) <|
  mj_c1 (k_iconst (by decide +kernel)) <|
  mj_c1 (k_iconst (by decide +kernel)) <|
  mj_c1 (k_callV (idx := 75) (by decide +kernel) (fit_m_R_takeSizes_m_R_fail) rfl rfl w_432 w_434 v_12 (by decide) (by decide +kernel)) <|
  mj_c1 (k_zret (by decide +kernel) rfl) <|
  mj_c1 (k_iloadn (k := 1) (by decide +kernel) rfl) <|
  mj_c1 (k_iloadn (k := 2) (by decide +kernel) rfl) <|
  mj_c1 (k_iload (by decide +kernel)) <|
  mj_c1 (k_iadd (by decide +kernel)) <|
  mj_c1 (k_iclt (off := 18) (by decide +kernel) (by decide)) <|
  mj_c1 (k_aloadn (k := 0) (by decide +kernel) rfl) <|
  mj_c1 (k_gI (idx := 79) h_R (by decide) rfl w_241 (by decide +kernel)) <|
  mj_c1 (k_ifeq (off := 18) (by decide +kernel) (by decide)) <|
  mj_c1 (k_iloadn (k := 1) (by decide +kernel) rfl) <|
  mj_c1 (k_iloadn (k := 2) (by decide +kernel) rfl) <|
  mj_c1 (k_iload (by decide +kernel)) <|
  mj_c1 (k_iadd (by decide +kernel)) <|
  mj_c1 (k_iceq (off := 10) (by decide +kernel) (by decide)) <|
  mj_c1 (k_aloadn (k := 0) (by decide +kernel) rfl) <|
  mj_c1 (k_iconst (by decide +kernel)) <|
  mj_c1 (k_iconst (by decide +kernel)) <|
  mj_c1 (k_callV (idx := 75) (by decide +kernel) (fit_m_R_takeSizes_m_R_fail) rfl rfl w_432 w_434 v_12 (by decide) (by decide +kernel)) <|
  mj_c1 (k_zret (by decide +kernel) rfl) <|
  mj_c1 (k_aloadn (k := 0) (by decide +kernel) rfl) <|
  mj_c1 (k_gR (idx := 32) h_R (by decide) rfl w_239 (by decide +kernel)) <|
  mj_c1 (k_iloadn (k := 1) (by decide +kernel) rfl) <|
  mj_c1 (k_iloadn (k := 2) (by decide +kernel) rfl) <|
  mj_c1 (k_iloadn (k := 3) (by decide +kernel) rfl) <|
  mj_c1 (k_iload (by decide +kernel)) <|
  mj_c1 (k_callV (idx := 86) (by decide +kernel) (fit_m_R_takeSizes_m_N_begin) rfl rfl w_448 w_39 w_40 (by decide) (by decide +kernel)) <|
  mj_c1 (k_iconst (by decide +kernel)) <|
  mj_c1 (k_zret (by decide +kernel) rfl) mj_c0
def q_R_takeLine : List (Nat × mj_Sem) := [(0, o_ic 0 1), (1, o_is 3 2), (2, o_il 3 3), (3, o_il 1 4), (4, o_icge 38 7), (7, o_al 0 8), (8, o_il 3 9), (9, o_il 3 10), (10, o_il 1 11), (11, o_ic 1 12), (12, o_isub 13), (13, o_icne 21 16), (16, o_ic 10 18), (18, o_goto 23), (21, o_ic 32 23), (23, o_il 2 24), (24, o_call m_R_takeNumber 4 0 0 27 (mj_rv 4)), (27, o_ifne 32 30), (30, o_ic 0 31), (31, o_zret 0 0), (32, o_inc 3 1 35), (35, o_goto 2), (38, o_ic 1 39), (39, o_zret 0 0)]
set_option maxRecDepth 100000 in
theorem z_R_takeLine : mj_Code (m_R_takeLine) (q_R_takeLine) :=
  mj_c1 (k_iconst (by decide +kernel)) <|
  mj_c1 (k_istoren (k := 3) (by decide +kernel) rfl (by decide)) <|
  mj_c1 (k_iloadn (k := 3) (by decide +kernel) rfl) <|
  mj_c1 (k_iloadn (k := 1) (by decide +kernel) rfl) <|
  mj_c1 (k_icge (off := 34) (by decide +kernel) (by decide)) <|
  mj_c1 (k_aloadn (k := 0) (by decide +kernel) rfl) <|
  mj_c1 (k_iloadn (k := 3) (by decide +kernel) rfl) <|
  mj_c1 (k_iloadn (k := 3) (by decide +kernel) rfl) <|
  mj_c1 (k_iloadn (k := 1) (by decide +kernel) rfl) <|
  mj_c1 (k_iconst (by decide +kernel)) <|
  mj_c1 (k_isub (by decide +kernel)) <|
  mj_c1 (k_icne (off := 8) (by decide +kernel) (by decide)) <|
  mj_c1 (k_bipush (by decide +kernel) (by decide)) <|
  mj_c1 (k_goto (off := 5) (by decide +kernel) (by decide)) <|
  mj_c1 (k_bipush (by decide +kernel) (by decide)) <|
  mj_c1 (k_iloadn (k := 2) (by decide +kernel) rfl) <|
  mj_c1 (k_callV (idx := 128) (by decide +kernel) (fit_m_R_takeLine_m_R_takeNumber) rfl rfl w_444 w_446 v_15 (by decide) (by decide +kernel)) <|
  mj_c1 (k_ifne (off := 5) (by decide +kernel) (by decide)) <|
  mj_c1 (k_iconst (by decide +kernel)) <|
  mj_c1 (k_zret (by decide +kernel) rfl) <|
  mj_c1 (k_iinc (by decide +kernel) (by decide)) <|
  mj_c1 (k_goto (off := -33) (by decide +kernel) (by decide)) <|
  mj_c1 (k_iconst (by decide +kernel)) <|
  mj_c1 (k_zret (by decide +kernel) rfl) mj_c0
def q_R_takeNumber : List (Nat × mj_Sem) := [(0, o_al 0 1), (1, o_gR 4 5 4), (4, o_il 1 5), (5, o_al 0 6), (6, o_gI 4 8 9), (9, o_ias 10), (10, o_ic 0 11), (11, o_is 4 13), (13, o_ic 0 14), (14, o_is 5 16), (16, o_al 0 17), (17, o_al 0 18), (18, o_gI 4 8 21), (21, o_call m_R_byteAt 2 0 0 24 (mj_rv 4)), (24, o_is 6 26), (26, o_il 5 28), (28, o_ic 9 30), (30, o_icge 96 33), (33, o_il 6 35), (35, o_ic 48 37), (37, o_iclt 96 40), (40, o_il 6 42), (42, o_ic 57 44), (44, o_icgt 96 47), (47, o_il 5 49), (49, o_ifeq 57 52), (52, o_il 4 54), (54, o_ifle 96 57), (57, o_ic 10 59), (59, o_il 4 61), (61, o_imul 62), (62, o_il 6 64), (64, o_iadd 65), (65, o_ic 48 67), (67, o_isub 68), (68, o_is 4 70), (70, o_inc 5 1 73), (73, o_al 0 74), (74, o_dup 75), (75, o_gI 4 8 78), (78, o_ic 1 79), (79, o_iadd 80), (80, o_pI 4 8 83), (83, o_al 0 84), (84, o_al 0 85), (85, o_gI 4 8 88), (88, o_call m_R_byteAt 2 0 0 91 (mj_rv 4)), (91, o_is 6 93), (93, o_goto 26), (96, o_al 0 97), (97, o_gR 4 4 100), (100, o_il 1 101), (101, o_il 4 103), (103, o_ias 104), (104, o_il 5 106), (106, o_ifeq 115 109), (109, o_il 6 111), (111, o_il 2 112), (112, o_iceq 125 115), (115, o_al 0 116), (116, o_il 3 117), (117, o_al 0 118), (118, o_gI 4 8 121), (121, o_call m_R_fail 3 0 0 124 (mj_rv 4)), (124, o_zret 0 0), (125, o_al 0 126), (126, o_dup 127), (127, o_gI 4 8 130), (130, o_ic 1 131), (131, o_iadd 132), (132, o_pI 4 8 135), (135, o_ic 1 136), (136, o_zret 0 0)]
set_option maxRecDepth 100000 in
theorem z_R_takeNumber : mj_Code (m_R_takeNumber) (q_R_takeNumber) :=
  mj_c1 (k_aloadn (k := 0) (by decide +kernel) rfl) <|
  mj_c1 (k_gR (idx := 19) h_R (by decide) rfl w_237 (by decide +kernel)) <|
  mj_c1 (k_iloadn (k := 1) (by decide +kernel) rfl) <|
  mj_c1 (k_aloadn (k := 0) (by decide +kernel) rfl) <|
  mj_c1 (k_gI (idx := 40) h_R (by decide) rfl w_240 (by decide +kernel)) <|
  mj_c1 (k_ias (by decide +kernel)) <|
  mj_c1 (k_iconst (by decide +kernel)) <|
  mj_c1 (k_istore (by decide +kernel) (by decide)) <|
  mj_c1 (k_iconst (by decide +kernel)) <|
  mj_c1 (k_istore (by decide +kernel) (by decide)) <|
  mj_c1 (k_aloadn (k := 0) (by decide +kernel) rfl) <|
  mj_c1 (k_aloadn (k := 0) (by decide +kernel) rfl) <|
  mj_c1 (k_gI (idx := 40) h_R (by decide) rfl w_240 (by decide +kernel)) <|
  mj_c1 (k_callV (idx := 71) (by decide +kernel) (fit_m_R_takeNumber_m_R_byteAt) rfl rfl w_428 w_430 v_11 (by decide) (by decide +kernel)) <|
  mj_c1 (k_istore (by decide +kernel) (by decide)) <|
  mj_c1 (k_iload (by decide +kernel)) <|
  mj_c1 (k_bipush (by decide +kernel) (by decide)) <|
  mj_c1 (k_icge (off := 66) (by decide +kernel) (by decide)) <|
  mj_c1 (k_iload (by decide +kernel)) <|
  mj_c1 (k_bipush (by decide +kernel) (by decide)) <|
  mj_c1 (k_iclt (off := 59) (by decide +kernel) (by decide)) <|
  mj_c1 (k_iload (by decide +kernel)) <|
  mj_c1 (k_bipush (by decide +kernel) (by decide)) <|
  mj_c1 (k_icgt (off := 52) (by decide +kernel) (by decide)) <|
  mj_c1 (k_iload (by decide +kernel)) <|
  mj_c1 (k_ifeq (off := 8) (by decide +kernel) (by decide)) <|
  mj_c1 (k_iload (by decide +kernel)) <|
  mj_c1 (k_ifle (off := 42) (by decide +kernel) (by decide)) <|
  mj_c1 (k_bipush (by decide +kernel) (by decide)) <|
  mj_c1 (k_iload (by decide +kernel)) <|
  mj_c1 (k_imul (by decide +kernel)) <|
  mj_c1 (k_iload (by decide +kernel)) <|
  mj_c1 (k_iadd (by decide +kernel)) <|
  mj_c1 (k_bipush (by decide +kernel) (by decide)) <|
  mj_c1 (k_isub (by decide +kernel)) <|
  mj_c1 (k_istore (by decide +kernel) (by decide)) <|
  mj_c1 (k_iinc (by decide +kernel) (by decide)) <|
  mj_c1 (k_aloadn (k := 0) (by decide +kernel) rfl) <|
  mj_c1 (k_dup (by decide +kernel)) <|
  mj_c1 (k_gI (idx := 40) h_R (by decide) rfl w_240 (by decide +kernel)) <|
  mj_c1 (k_iconst (by decide +kernel)) <|
  mj_c1 (k_iadd (by decide +kernel)) <|
  mj_c1 (k_pI (idx := 40) h_R (by decide) rfl rfl w_240 rfl (by decide +kernel)) <|
  mj_c1 (k_aloadn (k := 0) (by decide +kernel) rfl) <|
  mj_c1 (k_aloadn (k := 0) (by decide +kernel) rfl) <|
  mj_c1 (k_gI (idx := 40) h_R (by decide) rfl w_240 (by decide +kernel)) <|
  mj_c1 (k_callV (idx := 71) (by decide +kernel) (fit_m_R_takeNumber_m_R_byteAt) rfl rfl w_428 w_430 v_11 (by decide) (by decide +kernel)) <|
  mj_c1 (k_istore (by decide +kernel) (by decide)) <|
  mj_c1 (k_goto (off := -67) (by decide +kernel) (by decide)) <|
  mj_c1 (k_aloadn (k := 0) (by decide +kernel) rfl) <|
  mj_c1 (k_gR (idx := 15) h_R (by decide) rfl w_236 (by decide +kernel)) <|
  mj_c1 (k_iloadn (k := 1) (by decide +kernel) rfl) <|
  mj_c1 (k_iload (by decide +kernel)) <|
  mj_c1 (k_ias (by decide +kernel)) <|
  mj_c1 (k_iload (by decide +kernel)) <|
  mj_c1 (k_ifeq (off := 9) (by decide +kernel) (by decide)) <|
  mj_c1 (k_iload (by decide +kernel)) <|
  mj_c1 (k_iloadn (k := 2) (by decide +kernel) rfl) <|
  mj_c1 (k_iceq (off := 13) (by decide +kernel) (by decide)) <|
  mj_c1 (k_aloadn (k := 0) (by decide +kernel) rfl) <|
  mj_c1 (k_iloadn (k := 3) (by decide +kernel) rfl) <|
  mj_c1 (k_aloadn (k := 0) (by decide +kernel) rfl) <|
  mj_c1 (k_gI (idx := 40) h_R (by decide) rfl w_240 (by decide +kernel)) <|
  mj_c1 (k_callV (idx := 75) (by decide +kernel) (fit_m_R_takeNumber_m_R_fail) rfl rfl w_432 w_434 v_12 (by decide) (by decide +kernel)) <|
  mj_c1 (k_zret (by decide +kernel) rfl) <|
  mj_c1 (k_aloadn (k := 0) (by decide +kernel) rfl) <|
  mj_c1 (k_dup (by decide +kernel)) <|
  mj_c1 (k_gI (idx := 40) h_R (by decide) rfl w_240 (by decide +kernel)) <|
  mj_c1 (k_iconst (by decide +kernel)) <|
  mj_c1 (k_iadd (by decide +kernel)) <|
  mj_c1 (k_pI (idx := 40) h_R (by decide) rfl rfl w_240 rfl (by decide +kernel)) <|
  mj_c1 (k_iconst (by decide +kernel)) <|
  mj_c1 (k_zret (by decide +kernel) rfl) mj_c0
def q_R_takeInputs : List (Nat × mj_Sem) := [(0, o_ic 1 1), (1, o_is 1 2), (2, o_il 1 3), (3, o_al 0 4), (4, o_gR 4 7 7), (7, o_gI 3 10 10), (10, o_icgt 59 13), (13, o_al 0 14), (14, o_gI 4 9 17), (17, o_ifeq 34 20), (20, o_al 0 21), (21, o_gR 4 7 24), (24, o_il 1 25), (25, o_ic 2 26), (26, o_il 1 27), (27, o_imul 28), (28, o_call m_N_place 3 0 0 31 (mj_rv 3)), (31, o_goto 53), (34, o_al 0 35), (35, o_ic 1 36), (36, o_ic 5 37), (37, o_call m_R_takeLine 3 0 0 40 (mj_rv 4)), (40, o_ifeq 51 43), (43, o_al 0 44), (44, o_il 1 45), (45, o_call m_R_takeOwn 2 0 0 48 (mj_rv 4)), (48, o_ifne 53 51), (51, o_ic 0 52), (52, o_zret 0 0), (53, o_inc 1 1 56), (56, o_goto 2), (59, o_ic 1 60), (60, o_zret 0 0)]
set_option maxRecDepth 100000 in
theorem z_R_takeInputs : mj_Code (m_R_takeInputs) (q_R_takeInputs) :=
  mj_c1 (k_iconst (by decide +kernel)) <|
  mj_c1 (k_istoren (k := 1) (by decide +kernel) rfl (by decide)) <|
  mj_c1 (k_iloadn (k := 1) (by decide +kernel) rfl) <|
  mj_c1 (k_aloadn (k := 0) (by decide +kernel) rfl) <|
  mj_c1 (k_gR (idx := 32) h_R (by decide) rfl w_239 (by decide +kernel)) <|
  mj_c1 (k_gI (idx := 90) h_N (by decide) rfl w_81 (by decide +kernel)) <|
  mj_c1 (k_icgt (off := 49) (by decide +kernel) (by decide)) <|
  mj_c1 (k_aloadn (k := 0) (by decide +kernel) rfl) <|
  mj_c1 (k_gI (idx := 79) h_R (by decide) rfl w_241 (by decide +kernel)) <|
  mj_c1 (k_ifeq (off := 17) (by decide +kernel) (by decide)) <|
  mj_c1 (k_aloadn (k := 0) (by decide +kernel) rfl) <|
  mj_c1 (k_gR (idx := 32) h_R (by decide) rfl w_239 (by decide +kernel)) <|
  mj_c1 (k_iloadn (k := 1) (by decide +kernel) rfl) <|
  mj_c1 (k_iconst (by decide +kernel)) <|
  mj_c1 (k_iloadn (k := 1) (by decide +kernel) rfl) <|
  mj_c1 (k_imul (by decide +kernel)) <|
  mj_c1 (k_callV (idx := 93) (by decide +kernel) (fit_m_R_takeInputs_m_N_place) rfl rfl w_453 w_454 w_455 (by decide) (by decide +kernel)) <|
  mj_c1 (k_goto (off := 22) (by decide +kernel) (by decide)) <|
  mj_c1 (k_aloadn (k := 0) (by decide +kernel) rfl) <|
  mj_c1 (k_iconst (by decide +kernel)) <|
  mj_c1 (k_iconst (by decide +kernel)) <|
  mj_c1 (k_callV (idx := 83) (by decide +kernel) (fit_m_R_takeInputs_m_R_takeLine) rfl rfl w_440 w_442 v_14 (by decide) (by decide +kernel)) <|
  mj_c1 (k_ifeq (off := 11) (by decide +kernel) (by decide)) <|
  mj_c1 (k_aloadn (k := 0) (by decide +kernel) rfl) <|
  mj_c1 (k_iloadn (k := 1) (by decide +kernel) rfl) <|
  mj_c1 (k_callV (idx := 96) (by decide +kernel) (fit_m_R_takeInputs_m_R_takeOwn) rfl rfl w_457 w_459 v_17 (by decide) (by decide +kernel)) <|
  mj_c1 (k_ifne (off := 5) (by decide +kernel) (by decide)) <|
  mj_c1 (k_iconst (by decide +kernel)) <|
  mj_c1 (k_zret (by decide +kernel) rfl) <|
  mj_c1 (k_iinc (by decide +kernel) (by decide)) <|
  mj_c1 (k_goto (off := -54) (by decide +kernel) (by decide)) <|
  mj_c1 (k_iconst (by decide +kernel)) <|
  mj_c1 (k_zret (by decide +kernel) rfl) mj_c0
def q_R_takeOwn : List (Nat × mj_Sem) := [(0, o_al 0 1), (1, o_gR 4 7 4), (4, o_al 0 5), (5, o_gR 4 4 8), (8, o_ic 0 9), (9, o_ial 10), (10, o_call m_N_isFree 2 0 0 13 (mj_rv 3)), (13, o_ifne 29 16), (16, o_al 0 17), (17, o_ic 6 19), (19, o_al 0 20), (20, o_gR 4 5 23), (23, o_ic 0 24), (24, o_ial 25), (25, o_call m_R_fail 3 0 0 28 (mj_rv 4)), (28, o_zret 0 0), (29, o_al 0 30), (30, o_gR 4 7 33), (33, o_il 1 34), (34, o_al 0 35), (35, o_gR 4 4 38), (38, o_ic 0 39), (39, o_ial 40), (40, o_call m_N_place 3 0 0 43 (mj_rv 3)), (43, o_ic 1 44), (44, o_zret 0 0)]
set_option maxRecDepth 100000 in
theorem z_R_takeOwn : mj_Code (m_R_takeOwn) (q_R_takeOwn) :=
  mj_c1 (k_aloadn (k := 0) (by decide +kernel) rfl) <|
  mj_c1 (k_gR (idx := 32) h_R (by decide) rfl w_239 (by decide +kernel)) <|
  mj_c1 (k_aloadn (k := 0) (by decide +kernel) rfl) <|
  mj_c1 (k_gR (idx := 15) h_R (by decide) rfl w_236 (by decide +kernel)) <|
  mj_c1 (k_iconst (by decide +kernel)) <|
  mj_c1 (k_ial (by decide +kernel)) <|
  mj_c1 (k_callV (idx := 132) (by decide +kernel) (fit_m_R_takeOwn_m_N_isFree) rfl rfl w_461 w_462 w_463 (by decide) (by decide +kernel)) <|
  mj_c1 (k_ifne (off := 16) (by decide +kernel) (by decide)) <|
  mj_c1 (k_aloadn (k := 0) (by decide +kernel) rfl) <|
  mj_c1 (k_bipush (by decide +kernel) (by decide)) <|
  mj_c1 (k_aloadn (k := 0) (by decide +kernel) rfl) <|
  mj_c1 (k_gR (idx := 19) h_R (by decide) rfl w_237 (by decide +kernel)) <|
  mj_c1 (k_iconst (by decide +kernel)) <|
  mj_c1 (k_ial (by decide +kernel)) <|
  mj_c1 (k_callV (idx := 75) (by decide +kernel) (fit_m_R_takeOwn_m_R_fail) rfl rfl w_432 w_434 v_12 (by decide) (by decide +kernel)) <|
  mj_c1 (k_zret (by decide +kernel) rfl) <|
  mj_c1 (k_aloadn (k := 0) (by decide +kernel) rfl) <|
  mj_c1 (k_gR (idx := 32) h_R (by decide) rfl w_239 (by decide +kernel)) <|
  mj_c1 (k_iloadn (k := 1) (by decide +kernel) rfl) <|
  mj_c1 (k_aloadn (k := 0) (by decide +kernel) rfl) <|
  mj_c1 (k_gR (idx := 15) h_R (by decide) rfl w_236 (by decide +kernel)) <|
  mj_c1 (k_iconst (by decide +kernel)) <|
  mj_c1 (k_ial (by decide +kernel)) <|
  mj_c1 (k_callV (idx := 93) (by decide +kernel) (fit_m_R_takeOwn_m_N_place) rfl rfl w_453 w_454 w_455 (by decide) (by decide +kernel)) <|
  mj_c1 (k_iconst (by decide +kernel)) <|
  mj_c1 (k_zret (by decide +kernel) rfl) mj_c0
def q_R_takeOutputs : List (Nat × mj_Sem) := [(0, o_ic 0 1), (1, o_is 1 2), (2, o_il 1 3), (3, o_al 0 4), (4, o_gR 4 7 7), (7, o_gI 3 12 10), (10, o_icge 53 13), (13, o_al 0 14), (14, o_ic 1 15), (15, o_ic 5 16), (16, o_call m_R_takeLine 3 0 0 19 (mj_rv 4)), (19, o_ifeq 30 22), (22, o_al 0 23), (23, o_ic 0 24), (24, o_call m_R_takeUsed 2 0 0 27 (mj_rv 4)), (27, o_ifne 32 30), (30, o_ic 0 31), (31, o_zret 0 0), (32, o_al 0 33), (33, o_gR 4 7 36), (36, o_gR 3 4 39), (39, o_il 1 40), (40, o_al 0 41), (41, o_gR 4 4 44), (44, o_ic 0 45), (45, o_ial 46), (46, o_ias 47), (47, o_inc 1 1 50), (50, o_goto 2), (53, o_ic 1 54), (54, o_zret 0 0)]
set_option maxRecDepth 100000 in
theorem z_R_takeOutputs : mj_Code (m_R_takeOutputs) (q_R_takeOutputs) :=
  mj_c1 (k_iconst (by decide +kernel)) <|
  mj_c1 (k_istoren (k := 1) (by decide +kernel) rfl (by decide)) <|
  mj_c1 (k_iloadn (k := 1) (by decide +kernel) rfl) <|
  mj_c1 (k_aloadn (k := 0) (by decide +kernel) rfl) <|
  mj_c1 (k_gR (idx := 32) h_R (by decide) rfl w_239 (by decide +kernel)) <|
  mj_c1 (k_gI (idx := 100) h_N (by decide) rfl w_90 (by decide +kernel)) <|
  mj_c1 (k_icge (off := 43) (by decide +kernel) (by decide)) <|
  mj_c1 (k_aloadn (k := 0) (by decide +kernel) rfl) <|
  mj_c1 (k_iconst (by decide +kernel)) <|
  mj_c1 (k_iconst (by decide +kernel)) <|
  mj_c1 (k_callV (idx := 83) (by decide +kernel) (fit_m_R_takeOutputs_m_R_takeLine) rfl rfl w_440 w_442 v_14 (by decide) (by decide +kernel)) <|
  mj_c1 (k_ifeq (off := 11) (by decide +kernel) (by decide)) <|
  mj_c1 (k_aloadn (k := 0) (by decide +kernel) rfl) <|
  mj_c1 (k_iconst (by decide +kernel)) <|
  mj_c1 (k_callV (idx := 103) (by decide +kernel) (fit_m_R_takeOutputs_m_R_takeUsed) rfl rfl w_474 w_476 v_19 (by decide) (by decide +kernel)) <|
  mj_c1 (k_ifne (off := 5) (by decide +kernel) (by decide)) <|
  mj_c1 (k_iconst (by decide +kernel)) <|
  mj_c1 (k_zret (by decide +kernel) rfl) <|
  mj_c1 (k_aloadn (k := 0) (by decide +kernel) rfl) <|
  mj_c1 (k_gR (idx := 32) h_R (by decide) rfl w_239 (by decide +kernel)) <|
  mj_c1 (k_gR (idx := 106) h_N (by decide) rfl w_64 (by decide +kernel)) <|
  mj_c1 (k_iloadn (k := 1) (by decide +kernel) rfl) <|
  mj_c1 (k_aloadn (k := 0) (by decide +kernel) rfl) <|
  mj_c1 (k_gR (idx := 15) h_R (by decide) rfl w_236 (by decide +kernel)) <|
  mj_c1 (k_iconst (by decide +kernel)) <|
  mj_c1 (k_ial (by decide +kernel)) <|
  mj_c1 (k_ias (by decide +kernel)) <|
  mj_c1 (k_iinc (by decide +kernel) (by decide)) <|
  mj_c1 (k_goto (off := -48) (by decide +kernel) (by decide)) <|
  mj_c1 (k_iconst (by decide +kernel)) <|
  mj_c1 (k_zret (by decide +kernel) rfl) mj_c0
def q_R_takeUsed : List (Nat × mj_Sem) := [(0, o_al 0 1), (1, o_gR 4 7 4), (4, o_al 0 5), (5, o_gR 4 4 8), (8, o_il 1 9), (9, o_ial 10), (10, o_call m_N_exists 2 0 0 13 (mj_rv 3)), (13, o_ifne 31 16), (16, o_al 0 17), (17, o_ic 6 19), (19, o_al 0 20), (20, o_gR 4 5 23), (23, o_il 1 24), (24, o_ial 25), (25, o_call m_R_fail 3 0 0 28 (mj_rv 4)), (28, o_ifeq 35 31), (31, o_ic 1 32), (32, o_goto 36), (35, o_ic 0 36), (36, o_zret 0 0)]
set_option maxRecDepth 100000 in
theorem z_R_takeUsed : mj_Code (m_R_takeUsed) (q_R_takeUsed) :=
  mj_c1 (k_aloadn (k := 0) (by decide +kernel) rfl) <|
  mj_c1 (k_gR (idx := 32) h_R (by decide) rfl w_239 (by decide +kernel)) <|
  mj_c1 (k_aloadn (k := 0) (by decide +kernel) rfl) <|
  mj_c1 (k_gR (idx := 15) h_R (by decide) rfl w_236 (by decide +kernel)) <|
  mj_c1 (k_iloadn (k := 1) (by decide +kernel) rfl) <|
  mj_c1 (k_ial (by decide +kernel)) <|
  mj_c1 (k_callV (idx := 135) (by decide +kernel) (fit_m_R_takeUsed_m_N_exists) rfl rfl w_478 w_466 w_467 (by decide) (by decide +kernel)) <|
  mj_c1 (k_ifne (off := 18) (by decide +kernel) (by decide)) <|
  mj_c1 (k_aloadn (k := 0) (by decide +kernel) rfl) <|
  mj_c1 (k_bipush (by decide +kernel) (by decide)) <|
  mj_c1 (k_aloadn (k := 0) (by decide +kernel) rfl) <|
  mj_c1 (k_gR (idx := 19) h_R (by decide) rfl w_237 (by decide +kernel)) <|
  mj_c1 (k_iloadn (k := 1) (by decide +kernel) rfl) <|
  mj_c1 (k_ial (by decide +kernel)) <|
  mj_c1 (k_callV (idx := 75) (by decide +kernel) (fit_m_R_takeUsed_m_R_fail) rfl rfl w_432 w_434 v_12 (by decide) (by decide +kernel)) <|
  mj_c1 (k_ifeq (off := 7) (by decide +kernel) (by decide)) <|
  mj_c1 (k_iconst (by decide +kernel)) <|
  mj_c1 (k_goto (off := 4) (by decide +kernel) (by decide)) <|
  mj_c1 (k_iconst (by decide +kernel)) <|
  mj_c1 (k_zret (by decide +kernel) rfl) mj_c0
def q_R_takeGates : List (Nat × mj_Sem) := [(0, o_al 0 1), (1, o_gR 4 7 4), (4, o_gI 3 10 7), (7, o_ic 1 8), (8, o_iadd 9), (9, o_is 1 10), (10, o_il 1 11), (11, o_al 0 12), (12, o_gR 4 7 15), (15, o_gI 3 10 18), (18, o_al 0 19), (19, o_gR 4 7 22), (22, o_gI 3 11 25), (25, o_iadd 26), (26, o_icgt 62 29), (29, o_al 0 30), (30, o_gI 4 9 33), (33, o_ifeq 44 36), (36, o_al 0 37), (37, o_il 1 38), (38, o_call m_R_takeStepGate 2 0 0 41 (mj_rv 4)), (41, o_goto 49), (44, o_al 0 45), (45, o_il 1 46), (46, o_call m_R_takeLineGate 2 0 0 49 (mj_rv 4)), (49, o_is 2 50), (50, o_il 2 51), (51, o_ifne 56 54), (54, o_ic 0 55), (55, o_zret 0 0), (56, o_inc 1 1 59), (59, o_goto 10), (62, o_ic 1 63), (63, o_zret 0 0)]
set_option maxRecDepth 100000 in
theorem z_R_takeGates : mj_Code (m_R_takeGates) (q_R_takeGates) :=
  mj_c1 (k_aloadn (k := 0) (by decide +kernel) rfl) <|
  mj_c1 (k_gR (idx := 32) h_R (by decide) rfl w_239 (by decide +kernel)) <|
  mj_c1 (k_gI (idx := 90) h_N (by decide) rfl w_81 (by decide +kernel)) <|
  mj_c1 (k_iconst (by decide +kernel)) <|
  mj_c1 (k_iadd (by decide +kernel)) <|
  mj_c1 (k_istoren (k := 1) (by decide +kernel) rfl (by decide)) <|
  mj_c1 (k_iloadn (k := 1) (by decide +kernel) rfl) <|
  mj_c1 (k_aloadn (k := 0) (by decide +kernel) rfl) <|
  mj_c1 (k_gR (idx := 32) h_R (by decide) rfl w_239 (by decide +kernel)) <|
  mj_c1 (k_gI (idx := 90) h_N (by decide) rfl w_81 (by decide +kernel)) <|
  mj_c1 (k_aloadn (k := 0) (by decide +kernel) rfl) <|
  mj_c1 (k_gR (idx := 32) h_R (by decide) rfl w_239 (by decide +kernel)) <|
  mj_c1 (k_gI (idx := 109) h_N (by decide) rfl w_86 (by decide +kernel)) <|
  mj_c1 (k_iadd (by decide +kernel)) <|
  mj_c1 (k_icgt (off := 36) (by decide +kernel) (by decide)) <|
  mj_c1 (k_aloadn (k := 0) (by decide +kernel) rfl) <|
  mj_c1 (k_gI (idx := 79) h_R (by decide) rfl w_241 (by decide +kernel)) <|
  mj_c1 (k_ifeq (off := 11) (by decide +kernel) (by decide)) <|
  mj_c1 (k_aloadn (k := 0) (by decide +kernel) rfl) <|
  mj_c1 (k_iloadn (k := 1) (by decide +kernel) rfl) <|
  mj_c1 (k_callV (idx := 112) (by decide +kernel) (fit_m_R_takeGates_m_R_takeStepGate) rfl rfl w_483 w_485 v_21 (by decide) (by decide +kernel)) <|
  mj_c1 (k_goto (off := 8) (by decide +kernel) (by decide)) <|
  mj_c1 (k_aloadn (k := 0) (by decide +kernel) rfl) <|
  mj_c1 (k_iloadn (k := 1) (by decide +kernel) rfl) <|
  mj_c1 (k_callV (idx := 115) (by decide +kernel) (fit_m_R_takeGates_m_R_takeLineGate) rfl rfl w_491 w_493 v_23 (by decide) (by decide +kernel)) <|
  mj_c1 (k_istoren (k := 2) (by decide +kernel) rfl (by decide)) <|
  mj_c1 (k_iloadn (k := 2) (by decide +kernel) rfl) <|
  mj_c1 (k_ifne (off := 5) (by decide +kernel) (by decide)) <|
  mj_c1 (k_iconst (by decide +kernel)) <|
  mj_c1 (k_zret (by decide +kernel) rfl) <|
  mj_c1 (k_iinc (by decide +kernel) (by decide)) <|
  mj_c1 (k_goto (off := -49) (by decide +kernel) (by decide)) <|
  mj_c1 (k_iconst (by decide +kernel)) <|
  mj_c1 (k_zret (by decide +kernel) rfl) mj_c0
def q_R_takeStepGate : List (Nat × mj_Sem) := [(0, o_ic 2 1), (1, o_il 1 2), (2, o_imul 3), (3, o_is 2 4), (4, o_al 0 5), (5, o_gR 4 7 8), (8, o_il 1 9), (9, o_il 2 10), (10, o_call m_N_place 3 0 0 13 (mj_rv 3)), (13, o_al 0 14), (14, o_gI 4 8 17), (17, o_is 3 18), (18, o_al 0 19), (19, o_call m_R_takeStep 1 0 0 22 (mj_rv 4)), (22, o_is 4 24), (24, o_il 4 26), (26, o_ic (-1) 27), (27, o_icne 32 30), (30, o_ic 0 31), (31, o_zret 0 0), (32, o_il 4 34), (34, o_ifeq 43 37), (37, o_il 4 39), (39, o_il 2 40), (40, o_icle 51 43), (43, o_al 0 44), (44, o_ic 6 46), (46, o_il 3 47), (47, o_call m_R_fail 3 0 0 50 (mj_rv 4)), (50, o_zret 0 0), (51, o_al 0 52), (52, o_gR 4 7 55), (55, o_gR 3 2 58), (58, o_il 1 59), (59, o_il 2 60), (60, o_il 4 62), (62, o_isub 63), (63, o_ias 64), (64, o_al 0 65), (65, o_gI 4 8 68), (68, o_is 3 69), (69, o_al 0 70), (70, o_call m_R_takeStep 1 0 0 73 (mj_rv 4)), (73, o_is 4 75), (75, o_il 4 77), (77, o_ic (-1) 78), (78, o_icne 83 81), (81, o_ic 0 82), (82, o_zret 0 0), (83, o_il 4 85), (85, o_al 0 86), (86, o_gR 4 7 89), (89, o_gR 3 2 92), (92, o_il 1 93), (93, o_ial 94), (94, o_icle 105 97), (97, o_al 0 98), (98, o_ic 6 100), (100, o_il 3 101), (101, o_call m_R_fail 3 0 0 104 (mj_rv 4)), (104, o_zret 0 0), (105, o_al 0 106), (106, o_gR 4 7 109), (109, o_gR 3 3 112), (112, o_il 1 113), (113, o_al 0 114), (114, o_gR 4 7 117), (117, o_gR 3 2 120), (120, o_il 1 121), (121, o_ial 122), (122, o_il 4 124), (124, o_isub 125), (125, o_ias 126), (126, o_ic 1 127), (127, o_zret 0 0)]
set_option maxRecDepth 100000 in
theorem z_R_takeStepGate : mj_Code (m_R_takeStepGate) (q_R_takeStepGate) :=
  mj_c1 (k_iconst (by decide +kernel)) <|
  mj_c1 (k_iloadn (k := 1) (by decide +kernel) rfl) <|
  mj_c1 (k_imul (by decide +kernel)) <|
  mj_c1 (k_istoren (k := 2) (by decide +kernel) rfl (by decide)) <|
  mj_c1 (k_aloadn (k := 0) (by decide +kernel) rfl) <|
  mj_c1 (k_gR (idx := 32) h_R (by decide) rfl w_239 (by decide +kernel)) <|
  mj_c1 (k_iloadn (k := 1) (by decide +kernel) rfl) <|
  mj_c1 (k_iloadn (k := 2) (by decide +kernel) rfl) <|
  mj_c1 (k_callV (idx := 93) (by decide +kernel) (fit_m_R_takeStepGate_m_N_place) rfl rfl w_453 w_454 w_455 (by decide) (by decide +kernel)) <|
  mj_c1 (k_aloadn (k := 0) (by decide +kernel) rfl) <|
  mj_c1 (k_gI (idx := 40) h_R (by decide) rfl w_240 (by decide +kernel)) <|
  mj_c1 (k_istoren (k := 3) (by decide +kernel) rfl (by decide)) <|
  mj_c1 (k_aloadn (k := 0) (by decide +kernel) rfl) <|
  mj_c1 (k_callV (idx := 124) (by decide +kernel) (fit_m_R_takeStepGate_m_R_takeStep) rfl rfl w_487 w_489 v_22 (by decide) (by decide +kernel)) <|
  mj_c1 (k_istore (by decide +kernel) (by decide)) <|
  mj_c1 (k_iload (by decide +kernel)) <|
  mj_c1 (k_iconst (by decide +kernel)) <|
  mj_c1 (k_icne (off := 5) (by decide +kernel) (by decide)) <|
  mj_c1 (k_iconst (by decide +kernel)) <|
  mj_c1 (k_zret (by decide +kernel) rfl) <|
  mj_c1 (k_iload (by decide +kernel)) <|
  mj_c1 (k_ifeq (off := 9) (by decide +kernel) (by decide)) <|
  mj_c1 (k_iload (by decide +kernel)) <|
  mj_c1 (k_iloadn (k := 2) (by decide +kernel) rfl) <|
  mj_c1 (k_icle (off := 11) (by decide +kernel) (by decide)) <|
  mj_c1 (k_aloadn (k := 0) (by decide +kernel) rfl) <|
  mj_c1 (k_bipush (by decide +kernel) (by decide)) <|
  mj_c1 (k_iloadn (k := 3) (by decide +kernel) rfl) <|
  mj_c1 (k_callV (idx := 75) (by decide +kernel) (fit_m_R_takeStepGate_m_R_fail) rfl rfl w_432 w_434 v_12 (by decide) (by decide +kernel)) <|
  mj_c1 (k_zret (by decide +kernel) rfl) <|
  mj_c1 (k_aloadn (k := 0) (by decide +kernel) rfl) <|
  mj_c1 (k_gR (idx := 32) h_R (by decide) rfl w_239 (by decide +kernel)) <|
  mj_c1 (k_gR (idx := 118) h_N (by decide) rfl w_55 (by decide +kernel)) <|
  mj_c1 (k_iloadn (k := 1) (by decide +kernel) rfl) <|
  mj_c1 (k_iloadn (k := 2) (by decide +kernel) rfl) <|
  mj_c1 (k_iload (by decide +kernel)) <|
  mj_c1 (k_isub (by decide +kernel)) <|
  mj_c1 (k_ias (by decide +kernel)) <|
  mj_c1 (k_aloadn (k := 0) (by decide +kernel) rfl) <|
  mj_c1 (k_gI (idx := 40) h_R (by decide) rfl w_240 (by decide +kernel)) <|
  mj_c1 (k_istoren (k := 3) (by decide +kernel) rfl (by decide)) <|
  mj_c1 (k_aloadn (k := 0) (by decide +kernel) rfl) <|
  mj_c1 (k_callV (idx := 124) (by decide +kernel) (fit_m_R_takeStepGate_m_R_takeStep) rfl rfl w_487 w_489 v_22 (by decide) (by decide +kernel)) <|
  mj_c1 (k_istore (by decide +kernel) (by decide)) <|
  mj_c1 (k_iload (by decide +kernel)) <|
  mj_c1 (k_iconst (by decide +kernel)) <|
  mj_c1 (k_icne (off := 5) (by decide +kernel) (by decide)) <|
  mj_c1 (k_iconst (by decide +kernel)) <|
  mj_c1 (k_zret (by decide +kernel) rfl) <|
  mj_c1 (k_iload (by decide +kernel)) <|
  mj_c1 (k_aloadn (k := 0) (by decide +kernel) rfl) <|
  mj_c1 (k_gR (idx := 32) h_R (by decide) rfl w_239 (by decide +kernel)) <|
  mj_c1 (k_gR (idx := 118) h_N (by decide) rfl w_55 (by decide +kernel)) <|
  mj_c1 (k_iloadn (k := 1) (by decide +kernel) rfl) <|
  mj_c1 (k_ial (by decide +kernel)) <|
  mj_c1 (k_icle (off := 11) (by decide +kernel) (by decide)) <|
  mj_c1 (k_aloadn (k := 0) (by decide +kernel) rfl) <|
  mj_c1 (k_bipush (by decide +kernel) (by decide)) <|
  mj_c1 (k_iloadn (k := 3) (by decide +kernel) rfl) <|
  mj_c1 (k_callV (idx := 75) (by decide +kernel) (fit_m_R_takeStepGate_m_R_fail) rfl rfl w_432 w_434 v_12 (by decide) (by decide +kernel)) <|
  mj_c1 (k_zret (by decide +kernel) rfl) <|
  mj_c1 (k_aloadn (k := 0) (by decide +kernel) rfl) <|
  mj_c1 (k_gR (idx := 32) h_R (by decide) rfl w_239 (by decide +kernel)) <|
  mj_c1 (k_gR (idx := 121) h_N (by decide) rfl w_60 (by decide +kernel)) <|
  mj_c1 (k_iloadn (k := 1) (by decide +kernel) rfl) <|
  mj_c1 (k_aloadn (k := 0) (by decide +kernel) rfl) <|
  mj_c1 (k_gR (idx := 32) h_R (by decide) rfl w_239 (by decide +kernel)) <|
  mj_c1 (k_gR (idx := 118) h_N (by decide) rfl w_55 (by decide +kernel)) <|
  mj_c1 (k_iloadn (k := 1) (by decide +kernel) rfl) <|
  mj_c1 (k_ial (by decide +kernel)) <|
  mj_c1 (k_iload (by decide +kernel)) <|
  mj_c1 (k_isub (by decide +kernel)) <|
  mj_c1 (k_ias (by decide +kernel)) <|
  mj_c1 (k_iconst (by decide +kernel)) <|
  mj_c1 (k_zret (by decide +kernel) rfl) mj_c0
def q_R_takeStep : List (Nat × mj_Sem) := [(0, o_al 0 1), (1, o_al 0 2), (2, o_gI 4 8 5), (5, o_call m_R_byteAt 2 0 0 8 (mj_rv 4)), (8, o_is 1 9), (9, o_ic 0 10), (10, o_is 2 11), (11, o_il 1 12), (12, o_ic 128 15), (15, o_iclt 53 18), (18, o_al 0 19), (19, o_dup 20), (20, o_gI 4 8 23), (23, o_ic 1 24), (24, o_iadd 25), (25, o_pI 4 8 28), (28, o_inc 1 (-128) 31), (31, o_al 0 32), (32, o_al 0 33), (33, o_gI 4 8 36), (36, o_call m_R_byteAt 2 0 0 39 (mj_rv 4)), (39, o_is 2 40), (40, o_il 2 41), (41, o_ifeq 51 44), (44, o_il 2 45), (45, o_ic 128 48), (48, o_iclt 53 51), (51, o_ic (-1) 52), (52, o_is 2 53), (53, o_il 1 54), (54, o_ic (-1) 55), (55, o_iceq 63 58), (58, o_il 2 59), (59, o_ic (-1) 60), (60, o_icne 75 63), (63, o_al 0 64), (64, o_ic 5 65), (65, o_al 0 66), (66, o_gI 4 8 69), (69, o_call m_R_fail 3 0 0 72 (mj_rv 4)), (72, o_pop 73), (73, o_ic (-1) 74), (74, o_iret 0 0), (75, o_al 0 76), (76, o_dup 77), (77, o_gI 4 8 80), (80, o_ic 1 81), (81, o_iadd 82), (82, o_pI 4 8 85), (85, o_il 1 86), (86, o_ic 128 89), (89, o_il 2 90), (90, o_imul 91), (91, o_iadd 92), (92, o_iret 0 0)]
set_option maxRecDepth 100000 in
theorem z_R_takeStep : mj_Code (m_R_takeStep) (q_R_takeStep) :=
  mj_c1 (k_aloadn (k := 0) (by decide +kernel) rfl) <|
  mj_c1 (k_aloadn (k := 0) (by decide +kernel) rfl) <|
  mj_c1 (k_gI (idx := 40) h_R (by decide) rfl w_240 (by decide +kernel)) <|
  mj_c1 (k_callV (idx := 71) (by decide +kernel) (fit_m_R_takeStep_m_R_byteAt) rfl rfl w_428 w_430 v_11 (by decide) (by decide +kernel)) <|
  mj_c1 (k_istoren (k := 1) (by decide +kernel) rfl (by decide)) <|
  mj_c1 (k_iconst (by decide +kernel)) <|
  mj_c1 (k_istoren (k := 2) (by decide +kernel) rfl (by decide)) <|
  mj_c1 (k_iloadn (k := 1) (by decide +kernel) rfl) <|
  mj_c1 (k_sipush (by decide +kernel) (by decide)) <|
  mj_c1 (k_iclt (off := 38) (by decide +kernel) (by decide)) <|
  mj_c1 (k_aloadn (k := 0) (by decide +kernel) rfl) <|
  mj_c1 (k_dup (by decide +kernel)) <|
  mj_c1 (k_gI (idx := 40) h_R (by decide) rfl w_240 (by decide +kernel)) <|
  mj_c1 (k_iconst (by decide +kernel)) <|
  mj_c1 (k_iadd (by decide +kernel)) <|
  mj_c1 (k_pI (idx := 40) h_R (by decide) rfl rfl w_240 rfl (by decide +kernel)) <|
  mj_c1 (k_iinc (by decide +kernel) (by decide)) <|
  mj_c1 (k_aloadn (k := 0) (by decide +kernel) rfl) <|
  mj_c1 (k_aloadn (k := 0) (by decide +kernel) rfl) <|
  mj_c1 (k_gI (idx := 40) h_R (by decide) rfl w_240 (by decide +kernel)) <|
  mj_c1 (k_callV (idx := 71) (by decide +kernel) (fit_m_R_takeStep_m_R_byteAt) rfl rfl w_428 w_430 v_11 (by decide) (by decide +kernel)) <|
  mj_c1 (k_istoren (k := 2) (by decide +kernel) rfl (by decide)) <|
  mj_c1 (k_iloadn (k := 2) (by decide +kernel) rfl) <|
  mj_c1 (k_ifeq (off := 10) (by decide +kernel) (by decide)) <|
  mj_c1 (k_iloadn (k := 2) (by decide +kernel) rfl) <|
  mj_c1 (k_sipush (by decide +kernel) (by decide)) <|
  mj_c1 (k_iclt (off := 5) (by decide +kernel) (by decide)) <|
  mj_c1 (k_iconst (by decide +kernel)) <|
  mj_c1 (k_istoren (k := 2) (by decide +kernel) rfl (by decide)) <|
  mj_c1 (k_iloadn (k := 1) (by decide +kernel) rfl) <|
  mj_c1 (k_iconst (by decide +kernel)) <|
  mj_c1 (k_iceq (off := 8) (by decide +kernel) (by decide)) <|
  mj_c1 (k_iloadn (k := 2) (by decide +kernel) rfl) <|
  mj_c1 (k_iconst (by decide +kernel)) <|
  mj_c1 (k_icne (off := 15) (by decide +kernel) (by decide)) <|
  mj_c1 (k_aloadn (k := 0) (by decide +kernel) rfl) <|
  mj_c1 (k_iconst (by decide +kernel)) <|
  mj_c1 (k_aloadn (k := 0) (by decide +kernel) rfl) <|
  mj_c1 (k_gI (idx := 40) h_R (by decide) rfl w_240 (by decide +kernel)) <|
  mj_c1 (k_callV (idx := 75) (by decide +kernel) (fit_m_R_takeStep_m_R_fail) rfl rfl w_432 w_434 v_12 (by decide) (by decide +kernel)) <|
  mj_c1 (k_pop (by decide +kernel)) <|
  mj_c1 (k_iconst (by decide +kernel)) <|
  mj_c1 (k_iret (by decide +kernel) rfl) <|
  mj_c1 (k_aloadn (k := 0) (by decide +kernel) rfl) <|
  mj_c1 (k_dup (by decide +kernel)) <|
  mj_c1 (k_gI (idx := 40) h_R (by decide) rfl w_240 (by decide +kernel)) <|
  mj_c1 (k_iconst (by decide +kernel)) <|
  mj_c1 (k_iadd (by decide +kernel)) <|
  mj_c1 (k_pI (idx := 40) h_R (by decide) rfl rfl w_240 rfl (by decide +kernel)) <|
  mj_c1 (k_iloadn (k := 1) (by decide +kernel) rfl) <|
  mj_c1 (k_sipush (by decide +kernel) (by decide)) <|
  mj_c1 (k_iloadn (k := 2) (by decide +kernel) rfl) <|
  mj_c1 (k_imul (by decide +kernel)) <|
  mj_c1 (k_iadd (by decide +kernel)) <|
  mj_c1 (k_iret (by decide +kernel) rfl) mj_c0
def q_R_takeLineGate : List (Nat × mj_Sem) := [(0, o_al 0 1), (1, o_ic 3 2), (2, o_ic 5 3), (3, o_call m_R_takeLine 3 0 0 6 (mj_rv 4)), (6, o_ifeq 33 9), (9, o_al 0 10), (10, o_il 1 11), (11, o_call m_R_takeOwn 2 0 0 14 (mj_rv 4)), (14, o_ifeq 33 17), (17, o_al 0 18), (18, o_ic 1 19), (19, o_call m_R_takeUsed 2 0 0 22 (mj_rv 4)), (22, o_ifeq 33 25), (25, o_al 0 26), (26, o_ic 2 27), (27, o_call m_R_takeUsed 2 0 0 30 (mj_rv 4)), (30, o_ifne 35 33), (33, o_ic 0 34), (34, o_zret 0 0), (35, o_al 0 36), (36, o_gR 4 7 39), (39, o_gR 3 2 42), (42, o_il 1 43), (43, o_al 0 44), (44, o_gR 4 4 47), (47, o_ic 1 48), (48, o_ial 49), (49, o_ias 50), (50, o_al 0 51), (51, o_gR 4 7 54), (54, o_gR 3 3 57), (57, o_il 1 58), (58, o_al 0 59), (59, o_gR 4 4 62), (62, o_ic 2 63), (63, o_ial 64), (64, o_ias 65), (65, o_ic 1 66), (66, o_zret 0 0)]
set_option maxRecDepth 100000 in
theorem z_R_takeLineGate : mj_Code (m_R_takeLineGate) (q_R_takeLineGate) :=
  mj_c1 (k_aloadn (k := 0) (by decide +kernel) rfl) <|
  mj_c1 (k_iconst (by decide +kernel)) <|
  mj_c1 (k_iconst (by decide +kernel)) <|
  mj_c1 (k_callV (idx := 83) (by decide +kernel) (fit_m_R_takeLineGate_m_R_takeLine) rfl rfl w_440 w_442 v_14 (by decide) (by decide +kernel)) <|
  mj_c1 (k_ifeq (off := 27) (by decide +kernel) (by decide)) <|
  mj_c1 (k_aloadn (k := 0) (by decide +kernel) rfl) <|
  mj_c1 (k_iloadn (k := 1) (by decide +kernel) rfl) <|
  mj_c1 (k_callV (idx := 96) (by decide +kernel) (fit_m_R_takeLineGate_m_R_takeOwn) rfl rfl w_457 w_459 v_17 (by decide) (by decide +kernel)) <|
  mj_c1 (k_ifeq (off := 19) (by decide +kernel) (by decide)) <|
  mj_c1 (k_aloadn (k := 0) (by decide +kernel) rfl) <|
  mj_c1 (k_iconst (by decide +kernel)) <|
  mj_c1 (k_callV (idx := 103) (by decide +kernel) (fit_m_R_takeLineGate_m_R_takeUsed) rfl rfl w_474 w_476 v_19 (by decide) (by decide +kernel)) <|
  mj_c1 (k_ifeq (off := 11) (by decide +kernel) (by decide)) <|
  mj_c1 (k_aloadn (k := 0) (by decide +kernel) rfl) <|
  mj_c1 (k_iconst (by decide +kernel)) <|
  mj_c1 (k_callV (idx := 103) (by decide +kernel) (fit_m_R_takeLineGate_m_R_takeUsed) rfl rfl w_474 w_476 v_19 (by decide) (by decide +kernel)) <|
  mj_c1 (k_ifne (off := 5) (by decide +kernel) (by decide)) <|
  mj_c1 (k_iconst (by decide +kernel)) <|
  mj_c1 (k_zret (by decide +kernel) rfl) <|
  mj_c1 (k_aloadn (k := 0) (by decide +kernel) rfl) <|
  mj_c1 (k_gR (idx := 32) h_R (by decide) rfl w_239 (by decide +kernel)) <|
  mj_c1 (k_gR (idx := 118) h_N (by decide) rfl w_55 (by decide +kernel)) <|
  mj_c1 (k_iloadn (k := 1) (by decide +kernel) rfl) <|
  mj_c1 (k_aloadn (k := 0) (by decide +kernel) rfl) <|
  mj_c1 (k_gR (idx := 15) h_R (by decide) rfl w_236 (by decide +kernel)) <|
  mj_c1 (k_iconst (by decide +kernel)) <|
  mj_c1 (k_ial (by decide +kernel)) <|
  mj_c1 (k_ias (by decide +kernel)) <|
  mj_c1 (k_aloadn (k := 0) (by decide +kernel) rfl) <|
  mj_c1 (k_gR (idx := 32) h_R (by decide) rfl w_239 (by decide +kernel)) <|
  mj_c1 (k_gR (idx := 121) h_N (by decide) rfl w_60 (by decide +kernel)) <|
  mj_c1 (k_iloadn (k := 1) (by decide +kernel) rfl) <|
  mj_c1 (k_aloadn (k := 0) (by decide +kernel) rfl) <|
  mj_c1 (k_gR (idx := 15) h_R (by decide) rfl w_236 (by decide +kernel)) <|
  mj_c1 (k_iconst (by decide +kernel)) <|
  mj_c1 (k_ial (by decide +kernel)) <|
  mj_c1 (k_ias (by decide +kernel)) <|
  mj_c1 (k_iconst (by decide +kernel)) <|
  mj_c1 (k_zret (by decide +kernel) rfl) mj_c0
def q_R_takeEnd : List (Nat × mj_Sem) := [(0, o_al 0 1), (1, o_gI 4 8 4), (4, o_al 0 5), (5, o_gI 4 0 8), (8, o_icne 13 11), (11, o_ic 1 12), (12, o_zret 0 0), (13, o_al 0 14), (14, o_al 0 15), (15, o_gI 4 8 18), (18, o_call m_R_byteAt 2 0 0 21 (mj_rv 4)), (21, o_ic 99 23), (23, o_iceq 36 26), (26, o_al 0 27), (27, o_ic 5 28), (28, o_al 0 29), (29, o_gI 4 8 32), (32, o_call m_R_fail 3 0 0 35 (mj_rv 4)), (35, o_zret 0 0), (36, o_al 0 37), (37, o_al 0 38), (38, o_gI 4 8 41), (41, o_ic 1 42), (42, o_iadd 43), (43, o_call m_R_byteAt 2 0 0 46 (mj_rv 4)), (46, o_ic 10 48), (48, o_iceq 65 51), (51, o_al 0 52), (52, o_ic 5 53), (53, o_al 0 54), (54, o_gI 4 8 57), (57, o_ic 1 58), (58, o_iadd 59), (59, o_call m_R_fail 3 0 0 62 (mj_rv 4)), (62, o_ifeq 69 65), (65, o_ic 1 66), (66, o_goto 70), (69, o_ic 0 70), (70, o_zret 0 0)]
set_option maxRecDepth 100000 in
theorem z_R_takeEnd : mj_Code (m_R_takeEnd) (q_R_takeEnd) :=
  mj_c1 (k_aloadn (k := 0) (by decide +kernel) rfl) <|
  mj_c1 (k_gI (idx := 40) h_R (by decide) rfl w_240 (by decide +kernel)) <|
  mj_c1 (k_aloadn (k := 0) (by decide +kernel) rfl) <|
  mj_c1 (k_gI (idx := 36) h_R (by decide) rfl w_229 (by decide +kernel)) <|
  mj_c1 (k_icne (off := 5) (by decide +kernel) (by decide)) <|
  mj_c1 (k_iconst (by decide +kernel)) <|
  mj_c1 (k_zret (by decide +kernel) rfl) <|
  mj_c1 (k_aloadn (k := 0) (by decide +kernel) rfl) <|
  mj_c1 (k_aloadn (k := 0) (by decide +kernel) rfl) <|
  mj_c1 (k_gI (idx := 40) h_R (by decide) rfl w_240 (by decide +kernel)) <|
  mj_c1 (k_callV (idx := 71) (by decide +kernel) (fit_m_R_takeEnd_m_R_byteAt) rfl rfl w_428 w_430 v_11 (by decide) (by decide +kernel)) <|
  mj_c1 (k_bipush (by decide +kernel) (by decide)) <|
  mj_c1 (k_iceq (off := 13) (by decide +kernel) (by decide)) <|
  mj_c1 (k_aloadn (k := 0) (by decide +kernel) rfl) <|
  mj_c1 (k_iconst (by decide +kernel)) <|
  mj_c1 (k_aloadn (k := 0) (by decide +kernel) rfl) <|
  mj_c1 (k_gI (idx := 40) h_R (by decide) rfl w_240 (by decide +kernel)) <|
  mj_c1 (k_callV (idx := 75) (by decide +kernel) (fit_m_R_takeEnd_m_R_fail) rfl rfl w_432 w_434 v_12 (by decide) (by decide +kernel)) <|
  mj_c1 (k_zret (by decide +kernel) rfl) <|
  mj_c1 (k_aloadn (k := 0) (by decide +kernel) rfl) <|
  mj_c1 (k_aloadn (k := 0) (by decide +kernel) rfl) <|
  mj_c1 (k_gI (idx := 40) h_R (by decide) rfl w_240 (by decide +kernel)) <|
  mj_c1 (k_iconst (by decide +kernel)) <|
  mj_c1 (k_iadd (by decide +kernel)) <|
  mj_c1 (k_callV (idx := 71) (by decide +kernel) (fit_m_R_takeEnd_m_R_byteAt) rfl rfl w_428 w_430 v_11 (by decide) (by decide +kernel)) <|
  mj_c1 (k_bipush (by decide +kernel) (by decide)) <|
  mj_c1 (k_iceq (off := 17) (by decide +kernel) (by decide)) <|
  mj_c1 (k_aloadn (k := 0) (by decide +kernel) rfl) <|
  mj_c1 (k_iconst (by decide +kernel)) <|
  mj_c1 (k_aloadn (k := 0) (by decide +kernel) rfl) <|
  mj_c1 (k_gI (idx := 40) h_R (by decide) rfl w_240 (by decide +kernel)) <|
  mj_c1 (k_iconst (by decide +kernel)) <|
  mj_c1 (k_iadd (by decide +kernel)) <|
  mj_c1 (k_callV (idx := 75) (by decide +kernel) (fit_m_R_takeEnd_m_R_fail) rfl rfl w_432 w_434 v_12 (by decide) (by decide +kernel)) <|
  mj_c1 (k_ifeq (off := 7) (by decide +kernel) (by decide)) <|
  mj_c1 (k_iconst (by decide +kernel)) <|
  mj_c1 (k_goto (off := 4) (by decide +kernel) (by decide)) <|
  mj_c1 (k_iconst (by decide +kernel)) <|
  mj_c1 (k_zret (by decide +kernel) rfl) mj_c0
def q_R_checkWhole : List (Nat × mj_Sem) := [(0, o_al 0 1), (1, o_gR 4 7 4), (4, o_call m_N_leastMissing 1 0 0 7 (mj_rv 3)), (7, o_is 1 8), (8, o_il 1 9), (9, o_ifle 23 12), (12, o_al 0 13), (13, o_ic 7 15), (15, o_il 1 16), (16, o_call m_R_fail 3 0 0 19 (mj_rv 4)), (19, o_pop 20), (20, o_goto 51), (23, o_al 0 24), (24, o_gR 4 7 27), (27, o_call m_N_arrange 1 0 0 30 (mj_rv 3)), (30, o_ifne 51 33), (33, o_al 0 34), (34, o_ic 8 36), (36, o_al 0 37), (37, o_gR 4 6 40), (40, o_al 0 41), (41, o_gR 4 7 44), (44, o_call m_F_leastOnLoop 2 0 0 47 (mj_rv 2)), (47, o_call m_R_fail 3 0 0 50 (mj_rv 4)), (50, o_pop 51), (51, o_retv 0 0)]
set_option maxRecDepth 100000 in
theorem z_R_checkWhole : mj_Code (m_R_checkWhole) (q_R_checkWhole) :=
  mj_c1 (k_aloadn (k := 0) (by decide +kernel) rfl) <|
  mj_c1 (k_gR (idx := 32) h_R (by decide) rfl w_239 (by decide +kernel)) <|
  mj_c1 (k_callV (idx := 138) (by decide +kernel) (fit_m_R_checkWhole_m_N_leastMissing) rfl rfl w_503 w_504 w_505 (by decide) (by decide +kernel)) <|
  mj_c1 (k_istoren (k := 1) (by decide +kernel) rfl (by decide)) <|
  mj_c1 (k_iloadn (k := 1) (by decide +kernel) rfl) <|
  mj_c1 (k_ifle (off := 14) (by decide +kernel) (by decide)) <|
  mj_c1 (k_aloadn (k := 0) (by decide +kernel) rfl) <|
  mj_c1 (k_bipush (by decide +kernel) (by decide)) <|
  mj_c1 (k_iloadn (k := 1) (by decide +kernel) rfl) <|
  mj_c1 (k_callV (idx := 75) (by decide +kernel) (fit_m_R_checkWhole_m_R_fail) rfl rfl w_432 w_434 v_12 (by decide) (by decide +kernel)) <|
  mj_c1 (k_pop (by decide +kernel)) <|
  mj_c1 (k_goto (off := 31) (by decide +kernel) (by decide)) <|
  mj_c1 (k_aloadn (k := 0) (by decide +kernel) rfl) <|
  mj_c1 (k_gR (idx := 32) h_R (by decide) rfl w_239 (by decide +kernel)) <|
  mj_c1 (k_callV (idx := 141) (by decide +kernel) (fit_m_R_checkWhole_m_N_arrange) rfl rfl w_514 w_515 w_516 (by decide) (by decide +kernel)) <|
  mj_c1 (k_ifne (off := 21) (by decide +kernel) (by decide)) <|
  mj_c1 (k_aloadn (k := 0) (by decide +kernel) rfl) <|
  mj_c1 (k_bipush (by decide +kernel) (by decide)) <|
  mj_c1 (k_aloadn (k := 0) (by decide +kernel) rfl) <|
  mj_c1 (k_gR (idx := 25) h_R (by decide) rfl w_238 (by decide +kernel)) <|
  mj_c1 (k_aloadn (k := 0) (by decide +kernel) rfl) <|
  mj_c1 (k_gR (idx := 32) h_R (by decide) rfl w_239 (by decide +kernel)) <|
  mj_c1 (k_callV (idx := 144) (by decide +kernel) (fit_m_R_checkWhole_m_F_leastOnLoop) rfl rfl w_527 w_528 w_529 (by decide) (by decide +kernel)) <|
  mj_c1 (k_callV (idx := 75) (by decide +kernel) (fit_m_R_checkWhole_m_R_fail) rfl rfl w_432 w_434 v_12 (by decide) (by decide +kernel)) <|
  mj_c1 (k_pop (by decide +kernel)) <|
  mj_c1 (k_retv (by decide +kernel) rfl) mj_c0
def q_R_exchangeNet : List (Nat × mj_Sem) := [(0, o_al 0 1), (1, o_gR 4 7 4), (4, o_as 2 5), (5, o_al 0 6), (6, o_al 1 7), (7, o_pR 4 7 10), (10, o_al 2 11), (11, o_aret 0 0)]
set_option maxRecDepth 100000 in
theorem z_R_exchangeNet : mj_Code (m_R_exchangeNet) (q_R_exchangeNet) :=
  mj_c1 (k_aloadn (k := 0) (by decide +kernel) rfl) <|
  mj_c1 (k_gR (idx := 32) h_R (by decide) rfl w_239 (by decide +kernel)) <|
  mj_c1 (k_astoren (k := 2) (by decide +kernel) rfl (by decide)) <|
  mj_c1 (k_aloadn (k := 0) (by decide +kernel) rfl) <|
  mj_c1 (k_aloadn (k := 1) (by decide +kernel) rfl) <|
  mj_c1 (k_pR (idx := 32) h_R (by decide) rfl (Or.inl ⟨_, rfl⟩) w_239 rfl (by decide +kernel)) <|
  mj_c1 (k_aloadn (k := 2) (by decide +kernel) rfl) <|
  mj_c1 (k_aret (by decide +kernel) rfl (Or.inl ⟨_, rfl⟩)) mj_c0
end
section
/-! NET -/
/-- a method's answer alone: the state stays -/
def mj_pu (v : mj_O) (sh : mj_Sh) (FR : mj_FR) (IA : mj_FI) (LA : mj_LA) (n : Nat) : mj_Q := fun r sh' FR' IA' LA' n' => r = v ∧ sh' = sh ∧ FR' = FR ∧ IA' = IA ∧ LA' = LA ∧ n' = n
/-- the net whose object lies at the place b: its arrays lie behind it -/
def isNet (sh : mj_Sh) (FR : mj_FR) (n b : Nat) : Prop :=
  mj_is sh n b 7 0 ∧ FR b 0 = .inl (b + 1) ∧ FR b 1 = .inl (b + 2) ∧ FR b 2 = .inl (b + 3) ∧ FR b 3 = .inl (b + 4) ∧ FR b 4 = .inl (b + 5) ∧ FR b 5 = .inl (b + 6) ∧ FR b 6 = .inl (b + 7) ∧ FR b 7 = .inl (b + 8) ∧
  mj_is sh n (b + 1) 0 1001 ∧ mj_is sh n (b + 2) 0 315 ∧ mj_is sh n (b + 3) 0 315 ∧ mj_is sh n (b + 4) 0 315 ∧ mj_is sh n (b + 5) 0 16 ∧ mj_is sh n (b + 6) 0 315 ∧ mj_is sh n (b + 7) 0 300 ∧ mj_is sh n (b + 8) 0 300
/-- the first len elements of the array a filled with v -/
def mj_fl (IA : mj_FI) (a len : Nat) (v : Int) : mj_FI := fun q j => if q = a ∧ j < len then v else IA q j
theorem mj_fl_0 {IA : mj_FI} {a : Nat} {v : Int} : mj_fl IA a 0 v = IA := by
  funext q j
  simp [mj_fl]
theorem mj_fl_s {IA : mj_FI} {a i : Nat} {v : Int} : mj_up (mj_fl IA a i v) a i v = mj_fl IA a (i + 1) v := by
  funext q j
  simp only [mj_up, mj_fl]
  by_cases h1 : q = a
  · by_cases h2 : j = i
    · simp [h1, h2]
    · by_cases h3 : j < i
      · have : j < i + 1 := by omega
        simp [h1, h2, h3, this]
      · have : ¬ j < i + 1 := by omega
        simp [h1, h2, h3, this]
  · simp [h1]
section NN
variable {sh : mj_Sh} {FR : mj_FR} {IA : mj_FI} {LA : mj_LA} {n b : Nat}
theorem ct_H_max {x y : Int} (h1 : -2147483648 ≤ x) (h2 : x < 2147483648) (h3 : -2147483648 ≤ y) (h4 : y < 2147483648) : mj_Ct m_H_max [.inl x, .inl y] sh FR IA LA n (mj_pu (.inl (some (.inl (max x y)))) sh FR IA LA n) := by
  refine mj_Ct_of (by decide +kernel) (by decide) (Nat.le_of_ble_eq_true rfl) ?_
  refine mj_go z_H_max [] 60 ?_
  refine And.intro (fun c => ?_) (fun c => ?_)
  · simp (disch := omega) only [mj_w_id] at c
    rw [show max x y = y by omega]
    exact ⟨⟨rfl, rfl, rfl, rfl, rfl, rfl⟩, Nat.le_of_ble_eq_true rfl, Nat.le_of_ble_eq_true rfl⟩
  · simp (disch := omega) only [mj_w_id] at c
    rw [show max x y = x by omega]
    exact ⟨⟨rfl, rfl, rfl, rfl, rfl, rfl⟩, Nat.le_of_ble_eq_true rfl, Nat.le_of_ble_eq_true rfl⟩
theorem ct_H_min {x y : Int} (h1 : -2147483648 ≤ x) (h2 : x < 2147483648) (h3 : -2147483648 ≤ y) (h4 : y < 2147483648) : mj_Ct m_H_min [.inl x, .inl y] sh FR IA LA n (mj_pu (.inl (some (.inl (min x y)))) sh FR IA LA n) := by
  refine mj_Ct_of (by decide +kernel) (by decide) (Nat.le_of_ble_eq_true rfl) ?_
  refine mj_go z_H_min [] 60 ?_
  refine And.intro (fun c => ?_) (fun c => ?_)
  · simp (disch := omega) only [mj_w_id] at c
    rw [show min x y = y by omega]
    exact ⟨⟨rfl, rfl, rfl, rfl, rfl, rfl⟩, Nat.le_of_ble_eq_true rfl, Nat.le_of_ble_eq_true rfl⟩
  · simp (disch := omega) only [mj_w_id] at c
    rw [show min x y = x by omega]
    exact ⟨⟨rfl, rfl, rfl, rfl, rfl, rfl⟩, Nat.le_of_ble_eq_true rfl, Nat.le_of_ble_eq_true rfl⟩
theorem ct_A_fill {a len : Nat} {v : Int} (h : mj_is sh n a 0 len) (hl : len ≤ 1000000) : mj_Ct m_A_fill [.inr (.inr (.inl a)), .inl v] sh FR IA LA n (mj_pu (.inl none) sh FR (mj_fl IA a len v) LA n) := by
  have loop : ∀ k i : Nat, i + k = len → mj_G m_A_fill (mj_pu (.inl none) sh FR (mj_fl IA a len v) LA n) 5 [some (.inr (.inr (.inl a))), some (.inl v), some (.inl i), some (.inl len)] [] sh FR (mj_fl IA a i v) LA n 0 0 := by
    intro k
    induction k with
    | zero =>
      intro i hi
      have hi : i = len := by omega
      subst hi
      refine mj_go z_A_fill [5] 60 ?_
      refine And.intro (fun c => ?_) (fun c => ?_)
      · exact ⟨⟨rfl, rfl, rfl, rfl, rfl, rfl⟩, Nat.le_of_ble_eq_true rfl, Nat.le_of_ble_eq_true rfl⟩
      · exact absurd (Int.le_refl _) c
    | succ k ih =>
      intro i hi
      refine mj_go z_A_fill [5] 60 ?_
      refine And.intro (fun c => ?_) (fun c => ?_)
      · simp (disch := omega) only [mj_w_id] at c
        omega
      · refine Exists.intro _ (Exists.intro (i) (And.intro h (And.intro (by first | (rw [mj_w_id (by omega) (by omega)]; done) | (rw [mj_w_id (by omega) (by omega)]; omega) | (unfold mj_w; omega)) (And.intro (by omega) ?_))))
        refine Exists.intro (((i + 1 : Nat) : Int)) (And.intro (by first | (rw [mj_w_id (by omega) (by omega)]; done) | (rw [mj_w_id (by omega) (by omega)]; omega) | (unfold mj_w; omega)) ?_)
        have h1 := ih (i + 1) (by omega)
        rw [← mj_fl_s] at h1
        exact h1
  refine mj_Ct_of (by decide +kernel) (by decide) (Nat.le_of_ble_eq_true rfl) ?_
  refine mj_go z_A_fill [5] 60 ?_
  refine Exists.intro _ (And.intro h ?_)
  have h1 := loop len 0 (by omega)
  rw [mj_fl_0] at h1
  exact h1
theorem ct_N_slotFor (hN : isNet sh FR n b) {lit : Int} (h1 : 0 ≤ lit) (h2 : lit ≤ 2001) : mj_Ct m_N_slotFor [.inr (.inr (.inl b)), .inl lit] sh FR IA LA n (mj_pu (.inl (some (.inl (IA (b + 1) (lit / 2).toNat)))) sh FR IA LA n) := by
  obtain ⟨h0, r0, r1, r2, r3, r4, r5, r6, r7, a0, a1, a2, a3, a4, a5, a6, a7⟩ := hN
  refine mj_Ct_of (by decide +kernel) (by decide) (Nat.le_of_ble_eq_true rfl) ?_
  refine mj_go z_N_slotFor [] 60 ?_
  refine And.intro h0 (Exists.intro _ (And.intro r0 ?_))
  refine Exists.intro (lit / 2) (And.intro (nu_shr1 (by omega) (by omega)) ?_)
  refine Exists.intro _ (Exists.intro ((lit / 2).toNat) (And.intro a0 (And.intro (by first | (rw [mj_w_id (by omega) (by omega)]; done) | (rw [mj_w_id (by omega) (by omega)]; omega) | (unfold mj_w; omega)) (And.intro (by omega) ?_))))
  exact ⟨⟨rfl, rfl, rfl, rfl, rfl, rfl⟩, Nat.le_of_ble_eq_true rfl, Nat.le_of_ble_eq_true rfl⟩
theorem ct_N_place (hN : isNet sh FR n b) {slot : Nat} {lit : Int} (h1 : 0 ≤ lit) (h2 : lit ≤ 2001) (h3 : slot < 315) : mj_Ct m_N_place [.inr (.inr (.inl b)), .inl slot, .inl lit] sh FR IA LA n (mj_pu (.inl none) sh FR (mj_up (mj_up IA (b + 2) slot lit) (b + 1) (lit / 2).toNat slot) LA n) := by
  obtain ⟨h0, r0, r1, r2, r3, r4, r5, r6, r7, a0, a1, a2, a3, a4, a5, a6, a7⟩ := hN
  refine mj_Ct_of (by decide +kernel) (by decide) (Nat.le_of_ble_eq_true rfl) ?_
  refine mj_go z_N_place [] 60 ?_
  refine And.intro h0 (Exists.intro _ (And.intro r1 ?_))
  refine Exists.intro _ (Exists.intro (slot) (And.intro a1 (And.intro (by first | (rw [mj_w_id (by omega) (by omega)]; done) | (rw [mj_w_id (by omega) (by omega)]; omega) | (unfold mj_w; omega)) (And.intro (by omega) ?_))))
  refine And.intro h0 (Exists.intro _ (And.intro r0 ?_))
  refine Exists.intro (lit / 2) (And.intro (nu_shr1 (by omega) (by omega)) ?_)
  refine Exists.intro _ (Exists.intro ((lit / 2).toNat) (And.intro a0 (And.intro (by first | (rw [mj_w_id (by omega) (by omega)]; done) | (rw [mj_w_id (by omega) (by omega)]; omega) | (unfold mj_w; omega)) (And.intro (by omega) ?_))))
  exact ⟨⟨rfl, rfl, rfl, rfl, rfl, rfl⟩, Nat.le_of_ble_eq_true rfl, Nat.le_of_ble_eq_true rfl⟩
/-- does a literal exist in a net of so many variables -/
def nt_ex (m lit : Int) : Prop := 0 ≤ lit ∧ lit ≤ 2 * m + 1
theorem ct_N_exists (hN : isNet sh FR n b) {lit : Int} (h1 : -2147483648 ≤ lit) (h2 : lit < 2147483648) (h3 : 0 ≤ IA b 9) (h4 : IA b 9 ≤ 1000) : mj_Ct m_N_exists [.inr (.inr (.inl b)), .inl lit] sh FR IA LA n (mj_pu (.inl (some (.inl (if 0 ≤ lit ∧ lit ≤ 2 * IA b 9 + 1 then 1 else 0)))) sh FR IA LA n) := by
  obtain ⟨h0, r0, r1, r2, r3, r4, r5, r6, r7, a0, a1, a2, a3, a4, a5, a6, a7⟩ := hN
  refine mj_Ct_of (by decide +kernel) (by decide) (Nat.le_of_ble_eq_true rfl) ?_
  refine mj_go z_N_exists [] 60 ?_
  refine And.intro (fun c => ?_) (fun c => ?_)
  · simp (disch := omega) only [mj_w_id] at c
    rw [if_neg (by omega)]
    exact ⟨Or.inl rfl, ⟨rfl, rfl, rfl, rfl, rfl, rfl⟩, Nat.le_of_ble_eq_true rfl, Nat.le_of_ble_eq_true rfl⟩
  · simp (disch := omega) only [mj_w_id] at c
    refine And.intro h0 ?_
    refine Exists.intro (2 * IA b 9) (And.intro (by first | (rw [mj_w_id (by omega) (by omega)]; done) | (rw [mj_w_id (by omega) (by omega)]; omega) | (unfold mj_w; omega)) ?_)
    refine Exists.intro (2 * IA b 9 + 1) (And.intro (by first | (rw [mj_w_id (by omega) (by omega)]; done) | (rw [mj_w_id (by omega) (by omega)]; omega) | (unfold mj_w; omega)) ?_)
    refine And.intro (fun d => ?_) (fun d => ?_)
    · simp (disch := omega) only [mj_w_id] at d
      rw [if_neg (by omega)]
      exact ⟨Or.inl rfl, ⟨rfl, rfl, rfl, rfl, rfl, rfl⟩, Nat.le_of_ble_eq_true rfl, Nat.le_of_ble_eq_true rfl⟩
    · simp (disch := omega) only [mj_w_id] at d
      rw [if_pos (by omega)]
      exact ⟨Or.inr rfl, ⟨rfl, rfl, rfl, rfl, rfl, rfl⟩, Nat.le_of_ble_eq_true rfl, Nat.le_of_ble_eq_true rfl⟩
theorem ct_N_isGate (hN : isNet sh FR n b) {slot : Int} (h1 : -2147483648 ≤ slot) (h2 : slot < 2147483648) (h3 : 0 ≤ IA b 10) (h4 : IA b 10 ≤ 14) : mj_Ct m_N_isGate [.inr (.inr (.inl b)), .inl slot] sh FR IA LA n (mj_pu (.inl (some (.inl (if IA b 10 < slot then 1 else 0)))) sh FR IA LA n) := by
  obtain ⟨h0, r0, r1, r2, r3, r4, r5, r6, r7, a0, a1, a2, a3, a4, a5, a6, a7⟩ := hN
  refine mj_Ct_of (by decide +kernel) (by decide) (Nat.le_of_ble_eq_true rfl) ?_
  refine mj_go z_N_isGate [] 60 ?_
  refine And.intro h0 ?_
  refine And.intro (fun c => ?_) (fun c => ?_)
  · simp (disch := omega) only [mj_w_id] at c
    rw [if_neg (by omega)]
    exact ⟨Or.inl rfl, ⟨rfl, rfl, rfl, rfl, rfl, rfl⟩, Nat.le_of_ble_eq_true rfl, Nat.le_of_ble_eq_true rfl⟩
  · simp (disch := omega) only [mj_w_id] at c
    rw [if_pos (by omega)]
    exact ⟨Or.inr rfl, ⟨rfl, rfl, rfl, rfl, rfl, rfl⟩, Nat.le_of_ble_eq_true rfl, Nat.le_of_ble_eq_true rfl⟩
theorem ct_N_stands (hN : isNet sh FR n b) {lit : Int} (h1 : -2147483648 ≤ lit) (h2 : lit < 2147483648) (h3 : 0 ≤ IA b 9) (h4 : IA b 9 ≤ 1000) (h5 : ∀ j, j < 1001 → -1 ≤ IA (b + 1) j ∧ IA (b + 1) j < 315) : mj_Ct m_N_stands [.inr (.inr (.inl b)), .inl lit] sh FR IA LA n (mj_pu (.inl (some (.inl (if (0 ≤ lit ∧ lit ≤ 2 * IA b 9 + 1) ∧ ¬ IA (b + 1) (lit / 2).toNat = -1 then 1 else 0)))) sh FR IA LA n) := by
  have hN' := hN
  obtain ⟨h0, r0, r1, r2, r3, r4, r5, r6, r7, a0, a1, a2, a3, a4, a5, a6, a7⟩ := hN
  refine mj_Ct_of (by decide +kernel) (by decide) (Nat.le_of_ble_eq_true rfl) ?_
  refine mj_go z_N_stands [] 60 ?_
  refine And.intro h0 (And.intro (Nat.le_of_ble_eq_true rfl) (And.intro (Nat.le_of_ble_eq_true rfl) (And.intro (Nat.le_of_ble_eq_true rfl) (Exists.intro _ (And.intro (ct_N_exists hN' h1 h2 h3 h4) ?_)))))
  rintro r9 sh9 FR9 IA9 LA9 n9 ⟨e0, e1, e2, e3, e4, e5⟩
  subst e0
  obtain rfl := e1.symm
  obtain rfl := e2.symm
  obtain rfl := e3.symm
  obtain rfl := e4.symm
  obtain rfl := e5.symm
  refine And.intro (Or.inl rfl) ?_
  by_cases he : 0 ≤ lit ∧ lit ≤ 2 * IA b 9 + 1
  · rw [if_pos he]
    refine And.intro (fun c => ?_) (fun c => ?_)
    · exact absurd c (by decide)
    · have h6 := h5 (lit / 2).toNat (by omega)
      refine And.intro h0 (And.intro (Nat.le_of_ble_eq_true rfl) (And.intro (Nat.le_of_ble_eq_true rfl) (And.intro (Nat.le_of_ble_eq_true rfl) (Exists.intro _ (And.intro (ct_N_slotFor hN' (by omega) (by omega)) ?_)))))
      rintro r9 sh9 FR9 IA9 LA9 n9 ⟨e0, e1, e2, e3, e4, e5⟩
      subst e0
      obtain rfl := e1.symm
      obtain rfl := e2.symm
      obtain rfl := e3.symm
      obtain rfl := e4.symm
      obtain rfl := e5.symm
      refine And.intro (Or.inl rfl) ?_
      refine And.intro (fun d => ?_) (fun d => ?_)
      · simp (disch := omega) only [mj_w_id] at d
        rw [if_neg (by omega)]
        exact ⟨Or.inl rfl, ⟨rfl, rfl, rfl, rfl, rfl, rfl⟩, Nat.le_of_ble_eq_true rfl, Nat.le_of_ble_eq_true rfl⟩
      · simp (disch := omega) only [mj_w_id] at d
        rw [if_pos (by omega)]
        exact ⟨Or.inr rfl, ⟨rfl, rfl, rfl, rfl, rfl, rfl⟩, Nat.le_of_ble_eq_true rfl, Nat.le_of_ble_eq_true rfl⟩
  · rw [if_neg he, if_neg (fun z => he z.1)]
    refine And.intro (fun c => ?_) (fun c => ?_)
    · exact ⟨Or.inl rfl, ⟨rfl, rfl, rfl, rfl, rfl, rfl⟩, Nat.le_of_ble_eq_true rfl, Nat.le_of_ble_eq_true rfl⟩
    · exact absurd (by decide) c
end NN
end
section
/-! NET, second: begin, isFree, missingVariable, outputDepth -/
def nt_begin (IA : mj_FI) (b : Nat) (m i o g : Int) : mj_FI := mj_up (mj_fl (mj_up (mj_up (mj_up (mj_up IA b 9 m) b 10 i) b 12 o) b 11 g) (b + 1) 1001 (-1)) (b + 1) 0 0
/-- the greatest depth of the first k outputs -/
def nt_od (IA : mj_FI) (b : Nat) : Nat → Int
  | 0 => 0
  | k + 1 => max (nt_od IA b k) (IA (b + 6) (IA (b + 1) (IA (b + 5) k / 2).toNat).toNat)
section NN
variable {sh : mj_Sh} {FR : mj_FR} {IA : mj_FI} {LA : mj_LA} {n b : Nat}
theorem ct_N_begin (hN : isNet sh FR n b) {m i o g : Int} : mj_Ct m_N_begin [.inr (.inr (.inl b)), .inl m, .inl i, .inl o, .inl g] sh FR IA LA n (mj_pu (.inl none) sh FR (nt_begin IA b m i o g) LA n) := by
  obtain ⟨h0, r0, r1, r2, r3, r4, r5, r6, r7, a0, a1, a2, a3, a4, a5, a6, a7⟩ := hN
  refine mj_Ct_of (by decide +kernel) (by decide) (Nat.le_of_ble_eq_true rfl) ?_
  refine mj_go z_N_begin [] 60 ?_
  refine And.intro h0 ?_
  refine And.intro h0 ?_
  refine And.intro h0 ?_
  refine And.intro h0 ?_
  refine And.intro h0 (Exists.intro _ (And.intro r0 ?_))
  refine And.intro trivial (And.intro (Nat.le_of_ble_eq_true rfl) (And.intro (Nat.le_of_ble_eq_true rfl) (And.intro (Nat.le_of_ble_eq_true rfl) (Exists.intro _ (And.intro (ct_A_fill a0 (by decide)) ?_)))))
  rintro r9 sh9 FR9 IA9 LA9 n9 ⟨e0, e1, e2, e3, e4, e5⟩
  subst e0
  obtain rfl := e1.symm
  obtain rfl := e2.symm
  obtain rfl := e3.symm
  obtain rfl := e4.symm
  obtain rfl := e5.symm
  refine And.intro (Or.inl rfl) ?_
  refine And.intro h0 (Exists.intro _ (And.intro r0 ?_))
  refine Exists.intro _ (Exists.intro (0) (And.intro a0 (And.intro (by first | (rw [mj_w_id (by omega) (by omega)]; done) | (rw [mj_w_id (by omega) (by omega)]; omega) | (unfold mj_w; omega)) (And.intro (by omega) ?_))))
  exact ⟨⟨rfl, rfl, rfl, rfl, rfl, rfl⟩, Nat.le_of_ble_eq_true rfl, Nat.le_of_ble_eq_true rfl⟩
theorem ct_N_isFree (hN : isNet sh FR n b) {lit : Int} (h1 : -2147483648 ≤ lit) (h2 : lit < 2147483648) (h3 : 0 ≤ IA b 9) (h4 : IA b 9 ≤ 1000) (h5 : ∀ j, j < 1001 → -1 ≤ IA (b + 1) j ∧ IA (b + 1) j < 315) : mj_Ct m_N_isFree [.inr (.inr (.inl b)), .inl lit] sh FR IA LA n (mj_pu (.inl (some (.inl (if (0 ≤ lit ∧ lit ≤ 2 * IA b 9 + 1) ∧ lit % 2 = 0 ∧ IA (b + 1) (lit / 2).toNat = -1 then 1 else 0)))) sh FR IA LA n) := by
  have hN' := hN
  obtain ⟨h0, r0, r1, r2, r3, r4, r5, r6, r7, a0, a1, a2, a3, a4, a5, a6, a7⟩ := hN
  refine mj_Ct_of (by decide +kernel) (by decide) (Nat.le_of_ble_eq_true rfl) ?_
  refine mj_go z_N_isFree [] 60 ?_
  refine And.intro h0 (And.intro (Nat.le_of_ble_eq_true rfl) (And.intro (Nat.le_of_ble_eq_true rfl) (And.intro (Nat.le_of_ble_eq_true rfl) (Exists.intro _ (And.intro (ct_N_exists hN' h1 h2 h3 h4) ?_)))))
  rintro r9 sh9 FR9 IA9 LA9 n9 ⟨e0, e1, e2, e3, e4, e5⟩
  subst e0
  obtain rfl := e1.symm
  obtain rfl := e2.symm
  obtain rfl := e3.symm
  obtain rfl := e4.symm
  obtain rfl := e5.symm
  refine And.intro (Or.inl rfl) ?_
  by_cases he : 0 ≤ lit ∧ lit ≤ 2 * IA b 9 + 1
  · rw [if_pos he]
    refine And.intro (fun c => ?_) (fun c => ?_)
    · exact absurd c (by decide)
    · refine And.intro (by decide) ?_
      refine Exists.intro (lit % 2) (And.intro (nu_rem (by omega) (by omega) (by decide) (by decide)) ?_)
      refine And.intro (fun d => ?_) (fun d => ?_)
      · simp (disch := omega) only [mj_w_id] at d
        rw [if_neg (by omega)]
        exact ⟨Or.inl rfl, ⟨rfl, rfl, rfl, rfl, rfl, rfl⟩, Nat.le_of_ble_eq_true rfl, Nat.le_of_ble_eq_true rfl⟩
      · simp (disch := omega) only [mj_w_id] at d
        have h6 := h5 (lit / 2).toNat (by omega)
        refine And.intro h0 (And.intro (Nat.le_of_ble_eq_true rfl) (And.intro (Nat.le_of_ble_eq_true rfl) (And.intro (Nat.le_of_ble_eq_true rfl) (Exists.intro _ (And.intro (ct_N_slotFor hN' (by omega) (by omega)) ?_)))))
        rintro r9 sh9 FR9 IA9 LA9 n9 ⟨e0, e1, e2, e3, e4, e5⟩
        subst e0
        obtain rfl := e1.symm
        obtain rfl := e2.symm
        obtain rfl := e3.symm
        obtain rfl := e4.symm
        obtain rfl := e5.symm
        refine And.intro (Or.inl rfl) ?_
        refine And.intro (fun f => ?_) (fun f => ?_)
        · simp (disch := omega) only [mj_w_id] at f
          rw [if_neg (by omega)]
          exact ⟨Or.inl rfl, ⟨rfl, rfl, rfl, rfl, rfl, rfl⟩, Nat.le_of_ble_eq_true rfl, Nat.le_of_ble_eq_true rfl⟩
        · simp (disch := omega) only [mj_w_id] at f
          rw [if_pos (by omega)]
          exact ⟨Or.inr rfl, ⟨rfl, rfl, rfl, rfl, rfl, rfl⟩, Nat.le_of_ble_eq_true rfl, Nat.le_of_ble_eq_true rfl⟩
  · rw [if_neg he, if_neg (fun z => he z.1)]
    refine And.intro (fun c => ?_) (fun c => ?_)
    · exact ⟨Or.inl rfl, ⟨rfl, rfl, rfl, rfl, rfl, rfl⟩, Nat.le_of_ble_eq_true rfl, Nat.le_of_ble_eq_true rfl⟩
    · exact absurd (by decide) c
theorem ct_N_missingVariable (hN : isNet sh FR n b) {lit : Int} (h1 : 0 ≤ lit) (h2 : lit ≤ 2001) (h5 : ∀ j, j < 1001 → -1 ≤ IA (b + 1) j ∧ IA (b + 1) j < 315) : mj_Ct m_N_missingVariable [.inr (.inr (.inl b)), .inl lit] sh FR IA LA n (mj_pu (.inl (some (.inl (if IA (b + 1) (lit / 2).toNat = -1 then lit / 2 else 1001)))) sh FR IA LA n) := by
  have hN' := hN
  have h6 := h5 (lit / 2).toNat (by omega)
  obtain ⟨h0, r0, r1, r2, r3, r4, r5, r6, r7, a0, a1, a2, a3, a4, a5, a6, a7⟩ := hN
  refine mj_Ct_of (by decide +kernel) (by decide) (Nat.le_of_ble_eq_true rfl) ?_
  refine mj_go z_N_missingVariable [] 60 ?_
  refine And.intro h0 (And.intro (Nat.le_of_ble_eq_true rfl) (And.intro (Nat.le_of_ble_eq_true rfl) (And.intro (Nat.le_of_ble_eq_true rfl) (Exists.intro _ (And.intro (ct_N_slotFor hN' h1 h2) ?_)))))
  rintro r9 sh9 FR9 IA9 LA9 n9 ⟨e0, e1, e2, e3, e4, e5⟩
  subst e0
  obtain rfl := e1.symm
  obtain rfl := e2.symm
  obtain rfl := e3.symm
  obtain rfl := e4.symm
  obtain rfl := e5.symm
  refine And.intro (Or.inl rfl) ?_
  refine And.intro (fun d => ?_) (fun d => ?_)
  · simp (disch := omega) only [mj_w_id] at d
    rw [if_neg (by omega)]
    exact ⟨⟨rfl, rfl, rfl, rfl, rfl, rfl⟩, Nat.le_of_ble_eq_true rfl, Nat.le_of_ble_eq_true rfl⟩
  · simp (disch := omega) only [mj_w_id] at d
    rw [if_pos (by omega)]
    refine Exists.intro (lit / 2) (And.intro (nu_shr1 (by omega) (by omega)) ?_)
    exact ⟨⟨rfl, rfl, rfl, rfl, rfl, rfl⟩, Nat.le_of_ble_eq_true rfl, Nat.le_of_ble_eq_true rfl⟩
theorem ct_N_outputDepth (hN : isNet sh FR n b) {o : Nat} (ho : IA b 12 = (o : Int)) (ho16 : o ≤ 16) (h1 : ∀ k, k < o → 0 ≤ IA (b + 5) k ∧ IA (b + 5) k ≤ 2001 ∧ 0 ≤ IA (b + 1) (IA (b + 5) k / 2).toNat ∧ IA (b + 1) (IA (b + 5) k / 2).toNat < 315) (h2 : ∀ j, j < 315 → 0 ≤ IA (b + 6) j ∧ IA (b + 6) j ≤ 1000000) : mj_Ct m_N_outputDepth [.inr (.inr (.inl b))] sh FR IA LA n (mj_pu (.inl (some (.inl (nt_od IA b o)))) sh FR IA LA n) := by
  have hN' := hN
  obtain ⟨h0, r0, r1, r2, r3, r4, r5, r6, r7, a0, a1, a2, a3, a4, a5, a6, a7⟩ := hN
  have hod : ∀ k : Nat, k ≤ o → 0 ≤ nt_od IA b k ∧ nt_od IA b k ≤ 1000000 := by
    intro k
    induction k with
    | zero =>
      intro _
      simp [nt_od]
    | succ k ih =>
      intro hk
      have q1 := ih (by omega)
      have q2 := h1 k (by omega)
      have q3 := h2 (IA (b + 1) (IA (b + 5) k / 2).toNat).toNat (by omega)
      simp only [nt_od]
      omega
  have loop : ∀ j k : Nat, k + j = o → mj_G m_N_outputDepth (mj_pu (.inl (some (.inl (nt_od IA b o)))) sh FR IA LA n) 4 [some (.inr (.inr (.inl b))), some (.inl (nt_od IA b k)), some (.inl k)] [] sh FR IA LA n 0 0 := by
    intro j
    induction j with
    | zero =>
      intro k hk
      have hk : k = o := by omega
      subst hk
      refine mj_go z_N_outputDepth [4] 60 ?_
      refine And.intro h0 ?_
      rw [ho]
      refine And.intro (fun c => ?_) (fun c => ?_)
      · exact ⟨⟨rfl, rfl, rfl, rfl, rfl, rfl⟩, Nat.le_of_ble_eq_true rfl, Nat.le_of_ble_eq_true rfl⟩
      · exact absurd (Int.le_refl _) c
    | succ j ih =>
      intro k hk
      have q1 := hod k (by omega)
      have q2 := h1 k (by omega)
      have q3 := h2 (IA (b + 1) (IA (b + 5) k / 2).toNat).toNat (by omega)
      refine mj_go z_N_outputDepth [4] 60 ?_
      refine And.intro h0 ?_
      rw [ho]
      refine And.intro (fun c => ?_) (fun c => ?_)
      · simp (disch := omega) only [mj_w_id] at c
        omega
      · refine And.intro h0 (Exists.intro _ (And.intro r5 ?_))
        refine And.intro h0 (Exists.intro _ (And.intro r4 ?_))
        refine Exists.intro _ (Exists.intro (k) (And.intro a4 (And.intro (by first | (rw [mj_w_id (by omega) (by omega)]; done) | (rw [mj_w_id (by omega) (by omega)]; omega) | (unfold mj_w; omega)) (And.intro (by omega) ?_))))
        refine And.intro h0 (And.intro (Nat.le_of_ble_eq_true rfl) (And.intro (Nat.le_of_ble_eq_true rfl) (And.intro (Nat.le_of_ble_eq_true rfl) (Exists.intro _ (And.intro (ct_N_slotFor hN' (by omega) (by omega)) ?_)))))
        rintro r9 sh9 FR9 IA9 LA9 n9 ⟨e0, e1, e2, e3, e4, e5⟩
        subst e0
        obtain rfl := e1.symm
        obtain rfl := e2.symm
        obtain rfl := e3.symm
        obtain rfl := e4.symm
        obtain rfl := e5.symm
        refine And.intro (Or.inl rfl) ?_
        refine Exists.intro _ (Exists.intro ((IA (b + 1) (IA (b + 5) k / 2).toNat).toNat) (And.intro a5 (And.intro (by first | (rw [mj_w_id (by omega) (by omega)]; done) | (rw [mj_w_id (by omega) (by omega)]; omega) | (unfold mj_w; omega)) (And.intro (by omega) ?_))))
        refine And.intro trivial (And.intro (Nat.le_of_ble_eq_true rfl) (And.intro (Nat.le_of_ble_eq_true rfl) (And.intro (Nat.le_of_ble_eq_true rfl) (Exists.intro _ (And.intro (ct_H_max (by omega) (by omega) (by omega) (by omega)) ?_)))))
        rintro r9 sh9 FR9 IA9 LA9 n9 ⟨e0, e1, e2, e3, e4, e5⟩
        subst e0
        obtain rfl := e1.symm
        obtain rfl := e2.symm
        obtain rfl := e3.symm
        obtain rfl := e4.symm
        obtain rfl := e5.symm
        refine And.intro (Or.inl rfl) ?_
        refine Exists.intro (((k + 1 : Nat) : Int)) (And.intro (by first | (rw [mj_w_id (by omega) (by omega)]; done) | (rw [mj_w_id (by omega) (by omega)]; omega) | (unfold mj_w; omega)) ?_)
        exact ih (k + 1) (by omega)
  refine mj_Ct_of (by decide +kernel) (by decide) (Nat.le_of_ble_eq_true rfl) ?_
  refine mj_go z_N_outputDepth [4] 60 ?_
  exact loop o 0 (by omega)
end NN
end
section
/-! NET, third: leastMissing -/
def nt_mv (IA : mj_FI) (b : Nat) (lit : Int) : Int := if IA (b + 1) (lit / 2).toNat = -1 then lit / 2 else 1001
/-- the least missing variable of the first k outputs, 1001 without one -/
def nt_lo (IA : mj_FI) (b : Nat) : Nat → Int
  | 0 => 1001
  | k + 1 => min (nt_lo IA b k) (nt_mv IA b (IA (b + 5) k))
/-- the same, of the first j gates too, the gates' slots beginning with i + 1 -/
def nt_lg (IA : mj_FI) (b i : Nat) (x : Int) : Nat → Int
  | 0 => x
  | j + 1 => min (min (nt_lg IA b i x j) (nt_mv IA b (IA (b + 3) (i + 1 + j)))) (nt_mv IA b (IA (b + 4) (i + 1 + j)))
def nt_lm (IA : mj_FI) (b i o g : Nat) : Int := if nt_lg IA b i (nt_lo IA b o) g ≤ 1000 then nt_lg IA b i (nt_lo IA b o) g else 0
theorem nt_mv_in {IA : mj_FI} {b : Nat} {lit : Int} (h1 : 0 ≤ lit) (h2 : lit ≤ 2001) : 0 ≤ nt_mv IA b lit ∧ nt_mv IA b lit ≤ 1001 := by
  unfold nt_mv
  split <;> omega
section NN
variable {sh : mj_Sh} {FR : mj_FR} {IA : mj_FI} {LA : mj_LA} {n b : Nat}
theorem ct_N_leastMissing (hN : isNet sh FR n b) {i o g : Nat} (hi : IA b 10 = (i : Int)) (ho : IA b 12 = (o : Int)) (hg : IA b 11 = (g : Int)) (hi14 : i ≤ 14) (ho16 : o ≤ 16) (hg300 : g ≤ 300)
    (h5 : ∀ j, j < 1001 → -1 ≤ IA (b + 1) j ∧ IA (b + 1) j < 315) (h1 : ∀ k, k < o → 0 ≤ IA (b + 5) k ∧ IA (b + 5) k ≤ 2001) (h2 : ∀ j, j < g → (0 ≤ IA (b + 3) (i + 1 + j) ∧ IA (b + 3) (i + 1 + j) ≤ 2001) ∧ 0 ≤ IA (b + 4) (i + 1 + j) ∧ IA (b + 4) (i + 1 + j) ≤ 2001) :
    mj_Ct m_N_leastMissing [.inr (.inr (.inl b))] sh FR IA LA n (mj_pu (.inl (some (.inl (nt_lm IA b i o g)))) sh FR IA LA n) := by
  have hN' := hN
  obtain ⟨h0, r0, r1, r2, r3, r4, r5, r6, r7, a0, a1, a2, a3, a4, a5, a6, a7⟩ := hN
  have hlo : ∀ k : Nat, k ≤ o → 0 ≤ nt_lo IA b k ∧ nt_lo IA b k ≤ 1001 := by
    intro k
    induction k with
    | zero =>
      intro _
      simp [nt_lo]
    | succ k ih =>
      intro hk
      have q1 := ih (by omega)
      have q2 := h1 k (by omega)
      have q3 := nt_mv_in (IA := IA) (b := b) q2.1 q2.2
      simp only [nt_lo]
      omega
  have hlg : ∀ j : Nat, j ≤ g → 0 ≤ nt_lg IA b i (nt_lo IA b o) j ∧ nt_lg IA b i (nt_lo IA b o) j ≤ 1001 := by
    intro j
    induction j with
    | zero =>
      intro _
      exact hlo o (Nat.le_refl _)
    | succ j ih =>
      intro hj
      have q1 := ih (by omega)
      have q2 := h2 j (by omega)
      have q3 := nt_mv_in (IA := IA) (b := b) q2.1.1 q2.1.2
      have q4 := nt_mv_in (IA := IA) (b := b) q2.2.1 q2.2.2
      simp only [nt_lg]
      omega
  have loop2 : ∀ t j : Nat, j + t = g → mj_G m_N_leastMissing (mj_pu (.inl (some (.inl (nt_lm IA b i o g)))) sh FR IA LA n) 42 [some (.inr (.inr (.inl b))), some (.inl (nt_lg IA b i (nt_lo IA b o) j)), some (.inl ((i + 1 + j : Nat) : Int))] [] sh FR IA LA n 0 0 := by
    intro t
    induction t with
    | zero =>
      intro j hj
      have hj : j = g := by omega
      subst hj
      have q1 := hlg j (Nat.le_refl _)
      refine mj_go z_N_leastMissing [42] 60 ?_
      refine And.intro h0 ?_
      refine And.intro h0 ?_
      rw [hi, hg]
      refine Exists.intro (((i + j : Nat) : Int)) (And.intro (by first | (rw [mj_w_id (by omega) (by omega)]; done) | (rw [mj_w_id (by omega) (by omega)]; omega) | (unfold mj_w; omega)) ?_)
      refine And.intro (fun c => ?_) (fun c => ?_)
      · refine And.intro (fun d => ?_) (fun d => ?_)
        · simp (disch := omega) only [mj_w_id] at d
          rw [show nt_lm IA b i o j = nt_lg IA b i (nt_lo IA b o) j from if_pos d]
          exact ⟨⟨rfl, rfl, rfl, rfl, rfl, rfl⟩, Nat.le_of_ble_eq_true rfl, Nat.le_of_ble_eq_true rfl⟩
        · simp (disch := omega) only [mj_w_id] at d
          rw [show nt_lm IA b i o j = 0 from if_neg d]
          exact ⟨⟨rfl, rfl, rfl, rfl, rfl, rfl⟩, Nat.le_of_ble_eq_true rfl, Nat.le_of_ble_eq_true rfl⟩
      · simp (disch := omega) only [mj_w_id] at c
        omega
    | succ t ih =>
      intro j hj
      have q1 := hlg j (by omega)
      have q2 := h2 j (by omega)
      have q3 := nt_mv_in (IA := IA) (b := b) q2.1.1 q2.1.2
      have q4 := nt_mv_in (IA := IA) (b := b) q2.2.1 q2.2.2
      refine mj_go z_N_leastMissing [42] 60 ?_
      refine And.intro h0 ?_
      refine And.intro h0 ?_
      rw [hi, hg]
      refine Exists.intro (((i + g : Nat) : Int)) (And.intro (by first | (rw [mj_w_id (by omega) (by omega)]; done) | (rw [mj_w_id (by omega) (by omega)]; omega) | (unfold mj_w; omega)) ?_)
      refine And.intro (fun c => ?_) (fun c => ?_)
      · simp (disch := omega) only [mj_w_id] at c
        omega
      · refine And.intro h0 (Exists.intro _ (And.intro r2 ?_))
        refine Exists.intro _ (Exists.intro (i + 1 + j) (And.intro a2 (And.intro (by first | (rw [mj_w_id (by omega) (by omega)]; done) | (rw [mj_w_id (by omega) (by omega)]; omega) | (unfold mj_w; omega)) (And.intro (by omega) ?_))))
        refine And.intro h0 (And.intro (Nat.le_of_ble_eq_true rfl) (And.intro (Nat.le_of_ble_eq_true rfl) (And.intro (Nat.le_of_ble_eq_true rfl) (Exists.intro _ (And.intro (ct_N_missingVariable hN' q2.1.1 q2.1.2 h5) ?_)))))
        rintro r9 sh9 FR9 IA9 LA9 n9 ⟨e0, e1, e2, e3, e4, e5⟩
        subst e0
        obtain rfl := e1.symm
        obtain rfl := e2.symm
        obtain rfl := e3.symm
        obtain rfl := e4.symm
        obtain rfl := e5.symm
        refine And.intro (Or.inl rfl) ?_
        refine And.intro trivial (And.intro (Nat.le_of_ble_eq_true rfl) (And.intro (Nat.le_of_ble_eq_true rfl) (And.intro (Nat.le_of_ble_eq_true rfl) (Exists.intro _ (And.intro (ct_H_min (y := nt_mv IA b (IA (b + 3) (i + 1 + j))) (by omega) (by omega) (by omega) (by omega)) ?_)))))
        rintro r9 sh9 FR9 IA9 LA9 n9 ⟨e0, e1, e2, e3, e4, e5⟩
        subst e0
        obtain rfl := e1.symm
        obtain rfl := e2.symm
        obtain rfl := e3.symm
        obtain rfl := e4.symm
        obtain rfl := e5.symm
        refine And.intro (Or.inl rfl) ?_
        refine And.intro h0 (Exists.intro _ (And.intro r3 ?_))
        refine Exists.intro _ (Exists.intro (i + 1 + j) (And.intro a3 (And.intro (by first | (rw [mj_w_id (by omega) (by omega)]; done) | (rw [mj_w_id (by omega) (by omega)]; omega) | (unfold mj_w; omega)) (And.intro (by omega) ?_))))
        refine And.intro h0 (And.intro (Nat.le_of_ble_eq_true rfl) (And.intro (Nat.le_of_ble_eq_true rfl) (And.intro (Nat.le_of_ble_eq_true rfl) (Exists.intro _ (And.intro (ct_N_missingVariable hN' q2.2.1 q2.2.2 h5) ?_)))))
        rintro r9 sh9 FR9 IA9 LA9 n9 ⟨e0, e1, e2, e3, e4, e5⟩
        subst e0
        obtain rfl := e1.symm
        obtain rfl := e2.symm
        obtain rfl := e3.symm
        obtain rfl := e4.symm
        obtain rfl := e5.symm
        refine And.intro (Or.inl rfl) ?_
        refine And.intro trivial (And.intro (Nat.le_of_ble_eq_true rfl) (And.intro (Nat.le_of_ble_eq_true rfl) (And.intro (Nat.le_of_ble_eq_true rfl) (Exists.intro _ (And.intro (ct_H_min (y := nt_mv IA b (IA (b + 4) (i + 1 + j))) (by omega) (by omega) (by omega) (by omega)) ?_)))))
        rintro r9 sh9 FR9 IA9 LA9 n9 ⟨e0, e1, e2, e3, e4, e5⟩
        subst e0
        obtain rfl := e1.symm
        obtain rfl := e2.symm
        obtain rfl := e3.symm
        obtain rfl := e4.symm
        obtain rfl := e5.symm
        refine And.intro (Or.inl rfl) ?_
        refine Exists.intro (((i + 1 + (j + 1) : Nat) : Int)) (And.intro (by first | (rw [mj_w_id (by omega) (by omega)]; done) | (rw [mj_w_id (by omega) (by omega)]; omega) | (unfold mj_w; omega)) ?_)
        exact ih (j + 1) (by omega)
  have loop : ∀ j k : Nat, k + j = o → mj_G m_N_leastMissing (mj_pu (.inl (some (.inl (nt_lm IA b i o g)))) sh FR IA LA n) 6 [some (.inr (.inr (.inl b))), some (.inl (nt_lo IA b k)), some (.inl k)] [] sh FR IA LA n 0 0 := by
    intro j
    induction j with
    | zero =>
      intro k hk
      have hk : k = o := by omega
      subst hk
      refine mj_go z_N_leastMissing [6, 42] 60 ?_
      refine And.intro h0 ?_
      rw [ho]
      refine And.intro (fun c => ?_) (fun c => ?_)
      · refine And.intro h0 ?_
        rw [hi]
        refine Exists.intro (((i + 1 : Nat) : Int)) (And.intro (by first | (rw [mj_w_id (by omega) (by omega)]; done) | (rw [mj_w_id (by omega) (by omega)]; omega) | (unfold mj_w; omega)) ?_)
        exact loop2 g 0 (by omega)
      · exact absurd (Int.le_refl _) c
    | succ j ih =>
      intro k hk
      have q1 := hlo k (by omega)
      have q2 := h1 k (by omega)
      have q3 := nt_mv_in (IA := IA) (b := b) q2.1 q2.2
      refine mj_go z_N_leastMissing [6, 42] 60 ?_
      refine And.intro h0 ?_
      rw [ho]
      refine And.intro (fun c => ?_) (fun c => ?_)
      · simp (disch := omega) only [mj_w_id] at c
        omega
      · refine And.intro h0 (Exists.intro _ (And.intro r4 ?_))
        refine Exists.intro _ (Exists.intro (k) (And.intro a4 (And.intro (by first | (rw [mj_w_id (by omega) (by omega)]; done) | (rw [mj_w_id (by omega) (by omega)]; omega) | (unfold mj_w; omega)) (And.intro (by omega) ?_))))
        refine And.intro h0 (And.intro (Nat.le_of_ble_eq_true rfl) (And.intro (Nat.le_of_ble_eq_true rfl) (And.intro (Nat.le_of_ble_eq_true rfl) (Exists.intro _ (And.intro (ct_N_missingVariable hN' q2.1 q2.2 h5) ?_)))))
        rintro r9 sh9 FR9 IA9 LA9 n9 ⟨e0, e1, e2, e3, e4, e5⟩
        subst e0
        obtain rfl := e1.symm
        obtain rfl := e2.symm
        obtain rfl := e3.symm
        obtain rfl := e4.symm
        obtain rfl := e5.symm
        refine And.intro (Or.inl rfl) ?_
        refine And.intro trivial (And.intro (Nat.le_of_ble_eq_true rfl) (And.intro (Nat.le_of_ble_eq_true rfl) (And.intro (Nat.le_of_ble_eq_true rfl) (Exists.intro _ (And.intro (ct_H_min (y := nt_mv IA b (IA (b + 5) k)) (by omega) (by omega) (by omega) (by omega)) ?_)))))
        rintro r9 sh9 FR9 IA9 LA9 n9 ⟨e0, e1, e2, e3, e4, e5⟩
        subst e0
        obtain rfl := e1.symm
        obtain rfl := e2.symm
        obtain rfl := e3.symm
        obtain rfl := e4.symm
        obtain rfl := e5.symm
        refine And.intro (Or.inl rfl) ?_
        refine Exists.intro (((k + 1 : Nat) : Int)) (And.intro (by first | (rw [mj_w_id (by omega) (by omega)]; done) | (rw [mj_w_id (by omega) (by omega)]; omega) | (unfold mj_w; omega)) ?_)
        exact ih (k + 1) (by omega)
  refine mj_Ct_of (by decide +kernel) (by decide) (Nat.le_of_ble_eq_true rfl) ?_
  refine mj_go z_N_leastMissing [6] 60 ?_
  exact loop o 0 (by omega)
end NN
end
section
/-! NET, fourth: waitForAll -/
/-- how many of the variables 1 .. v stand for gates -/
def nt_wn (IA : mj_FI) (b : Nat) : Nat → Nat
  | 0 => 0
  | v + 1 => if IA b 10 < IA (b + 1) (v + 1) then nt_wn IA b v + 1 else nt_wn IA b v
/-- the state when the variables 1 .. v have been looked at -/
def nt_wa (IA : mj_FI) (b : Nat) : Nat → mj_FI
  | 0 => mj_up (mj_fl IA (b + 6) 315 0) b 8 0
  | v + 1 => if IA b 10 < IA (b + 1) (v + 1) then mj_up (mj_up (mj_up (nt_wa IA b v) (b + 6) (IA (b + 1) (v + 1)).toNat 1000000) (b + 8) (nt_wn IA b v) (IA (b + 1) (v + 1))) b 8 ((nt_wn IA b v + 1 : Nat) : Int) else nt_wa IA b v
theorem nt_wa_o {IA : mj_FI} {b q : Nat} (h1 : q ≠ b + 6) (h2 : q ≠ b + 8) (h3 : q ≠ b) : ∀ v, nt_wa IA b v q = IA q
  | 0 => by
    simp only [nt_wa]
    rw [mj_up_ne h3]
    funext j
    simp [mj_fl, h1]
  | v + 1 => by
    simp only [nt_wa]
    split
    · rw [mj_up_ne h3, mj_up_ne h2, mj_up_ne h1, nt_wa_o h1 h2 h3 v]
    · exact nt_wa_o h1 h2 h3 v
theorem nt_wa_b {IA : mj_FI} {b k : Nat} (hk : k ≠ 8) : ∀ v, nt_wa IA b v b k = IA b k
  | 0 => by
    simp only [nt_wa]
    rw [mj_up_eq, if_neg hk]
    simp [mj_fl]
  | v + 1 => by
    simp only [nt_wa]
    split
    · rw [mj_up_eq, if_neg hk, mj_up_ne (by omega), mj_up_ne (by omega), nt_wa_b hk v]
    · exact nt_wa_b hk v
theorem nt_wa_8 {IA : mj_FI} {b : Nat} : ∀ v, nt_wa IA b v b 8 = (nt_wn IA b v : Int)
  | 0 => by
    simp only [nt_wa, nt_wn]
    rw [mj_up_eq, if_pos rfl]
    rfl
  | v + 1 => by
    simp only [nt_wa, nt_wn]
    split
    · rw [mj_up_eq, if_pos rfl]
    · exact nt_wa_8 v
theorem nt_wn_mono {IA : mj_FI} {b : Nat} : ∀ (t v : Nat), nt_wn IA b v ≤ nt_wn IA b (v + t)
  | 0, v => Nat.le_refl _
  | t + 1, v => by
    have h := nt_wn_mono (IA := IA) (b := b) t v
    show nt_wn IA b v ≤ nt_wn IA b (v + t + 1)
    simp only [nt_wn]
    split <;> omega
section NN
variable {sh : mj_Sh} {FR : mj_FR} {IA : mj_FI} {LA : mj_LA} {n b : Nat}
theorem ct_N_waitForAll (hN : isNet sh FR n b) {m i : Nat} (hm : IA b 9 = (m : Int)) (hi : IA b 10 = (i : Int)) (hm1 : m ≤ 1000) (hi14 : i ≤ 14) (h5 : ∀ j, j < 1001 → -1 ≤ IA (b + 1) j ∧ IA (b + 1) j < 315) (h6 : nt_wn IA b m ≤ 300) :
    mj_Ct m_N_waitForAll [.inr (.inr (.inl b))] sh FR IA LA n (mj_pu (.inl none) sh FR (nt_wa IA b m) LA n) := by
  have hN' := hN
  obtain ⟨h0, r0, r1, r2, r3, r4, r5, r6, r7, a0, a1, a2, a3, a4, a5, a6, a7⟩ := hN
  have loop : ∀ (t v : Nat) (x : Option mj_V), v + t = m → mj_G m_N_waitForAll (mj_pu (.inl none) sh FR (nt_wa IA b m) LA n) 15 [some (.inr (.inr (.inl b))), some (.inl ((v + 1 : Nat) : Int)), x] [] sh FR (nt_wa IA b v) LA n 0 0 := by
    intro t
    induction t with
    | zero =>
      intro v x hv
      have hv : v = m := by omega
      subst hv
      refine mj_go z_N_waitForAll [15] 60 ?_
      refine And.intro h0 ?_
      rw [nt_wa_b (by decide), hm]
      refine And.intro (fun c => ?_) (fun c => ?_)
      · exact ⟨⟨rfl, rfl, rfl, rfl, rfl, rfl⟩, Nat.le_of_ble_eq_true rfl, Nat.le_of_ble_eq_true rfl⟩
      · simp (disch := omega) only [mj_w_id] at c
        omega
    | succ t ih =>
      intro v x hv
      have q5 := h5 (v + 1) (by omega)
      have q6 := nt_wn_mono (IA := IA) (b := b) t (v + 1)
      rw [show v + 1 + t = m by omega] at q6
      have e1 : nt_wa IA b v b 10 = (i : Int) := (nt_wa_b (by decide) v).trans hi
      have e2 : nt_wa IA b v (b + 1) (v + 1) = IA (b + 1) (v + 1) := by rw [nt_wa_o (by omega) (by omega) (by omega)]
      have e3 : nt_wa IA b v b 8 = (nt_wn IA b v : Int) := nt_wa_8 v
      have e4 : nt_wa IA b v b 9 = (m : Int) := (nt_wa_b (by decide) v).trans hm
      have e5 : nt_wa IA b (v + 1) = if IA b 10 < IA (b + 1) (v + 1) then mj_up (mj_up (mj_up (nt_wa IA b v) (b + 6) (IA (b + 1) (v + 1)).toNat 1000000) (b + 8) (nt_wn IA b v) (IA (b + 1) (v + 1))) b 8 ((nt_wn IA b v + 1 : Nat) : Int) else nt_wa IA b v := rfl
      have e6 : nt_wn IA b (v + 1) = if IA b 10 < IA (b + 1) (v + 1) then nt_wn IA b v + 1 else nt_wn IA b v := rfl
      have ih1 := ih (v + 1)
      generalize hs : IA (b + 1) (v + 1) = s at *
      generalize hJ : nt_wa IA b v = J at *
      refine mj_go z_N_waitForAll [15] 60 ?_
      refine And.intro h0 ?_
      rw [e4]
      refine And.intro (fun c => ?_) (fun c => ?_)
      · simp (disch := omega) only [mj_w_id] at c
        omega
      · refine And.intro h0 (Exists.intro _ (And.intro r0 ?_))
        refine Exists.intro _ (Exists.intro (v + 1) (And.intro a0 (And.intro (by first | (rw [mj_w_id (by omega) (by omega)]; done) | (rw [mj_w_id (by omega) (by omega)]; omega) | (unfold mj_w; omega)) (And.intro (by omega) ?_))))
        rw [e2]
        refine And.intro h0 (And.intro (Nat.le_of_ble_eq_true rfl) (And.intro (Nat.le_of_ble_eq_true rfl) (And.intro (Nat.le_of_ble_eq_true rfl) (Exists.intro _ (And.intro (ct_N_isGate hN' (by omega) (by omega) (by omega) (by omega)) ?_)))))
        rintro r9 sh9 FR9 IA9 LA9 n9 ⟨z0, z1, z2, z3, z4, z5⟩
        subst z0
        replace z1 := z1.symm
        subst z1
        replace z2 := z2.symm
        subst z2
        replace z3 := z3.symm
        subst z3
        replace z4 := z4.symm
        subst z4
        replace z5 := z5.symm
        subst z5
        refine And.intro (Or.inl rfl) ?_
        rw [e1]
        by_cases hg : (i : Int) < s
        · rw [if_pos hg]
          rw [hi, if_pos hg] at e5 e6
          refine And.intro (fun d => ?_) (fun d => ?_)
          · exact absurd d (by decide)
          · refine And.intro h0 (Exists.intro _ (And.intro r5 ?_))
            refine Exists.intro _ (Exists.intro (s.toNat) (And.intro a5 (And.intro (by first | (rw [mj_w_id (by omega) (by omega)]; done) | (rw [mj_w_id (by omega) (by omega)]; omega) | (unfold mj_w; omega)) (And.intro (by omega) ?_))))
            refine And.intro h0 (Exists.intro _ (And.intro r7 ?_))
            refine And.intro h0 ?_
            rw [mj_up_ne (show b ≠ b + 6 by omega), e3]
            refine Exists.intro _ (Exists.intro (nt_wn IA b v) (And.intro a7 (And.intro (by first | (rw [mj_w_id (by omega) (by omega)]; done) | (rw [mj_w_id (by omega) (by omega)]; omega) | (unfold mj_w; omega)) (And.intro (by omega) ?_))))
            refine And.intro rfl ?_
            refine And.intro h0 ?_
            rw [mj_up_ne (show b ≠ b + 8 by omega), mj_up_ne (show b ≠ b + 6 by omega), e3]
            refine Exists.intro (((nt_wn IA b v + 1 : Nat) : Int)) (And.intro (by first | (rw [mj_w_id (by omega) (by omega)]; done) | (rw [mj_w_id (by omega) (by omega)]; omega) | (unfold mj_w; omega)) ?_)
            refine And.intro h0 ?_
            refine Exists.intro (((v + 1 + 1 : Nat) : Int)) (And.intro (by first | (rw [mj_w_id (by omega) (by omega)]; done) | (rw [mj_w_id (by omega) (by omega)]; omega) | (unfold mj_w; omega)) ?_)
            have h9 := ih1 (some (.inl s)) (by omega)
            rw [e5] at h9
            exact h9
        · rw [if_neg hg]
          rw [hi, if_neg hg] at e5 e6
          refine And.intro (fun d => ?_) (fun d => ?_)
          · refine Exists.intro (((v + 1 + 1 : Nat) : Int)) (And.intro (by first | (rw [mj_w_id (by omega) (by omega)]; done) | (rw [mj_w_id (by omega) (by omega)]; omega) | (unfold mj_w; omega)) ?_)
            have h9 := ih1 (some (.inl s)) (by omega)
            rw [e5] at h9
            exact h9
          · exact absurd (by decide) d
  refine mj_Ct_of (by decide +kernel) (by decide) (Nat.le_of_ble_eq_true rfl) ?_
  refine mj_go z_N_waitForAll [15] 60 ?_
  refine And.intro h0 (Exists.intro _ (And.intro r5 ?_))
  refine And.intro trivial (And.intro (Nat.le_of_ble_eq_true rfl) (And.intro (Nat.le_of_ble_eq_true rfl) (And.intro (Nat.le_of_ble_eq_true rfl) (Exists.intro _ (And.intro (ct_A_fill a5 (by decide)) ?_)))))
  rintro r9 sh9 FR9 IA9 LA9 n9 ⟨z0, z1, z2, z3, z4, z5⟩
  subst z0
  replace z1 := z1.symm
  subst z1
  replace z2 := z2.symm
  subst z2
  replace z3 := z3.symm
  subst z3
  replace z4 := z4.symm
  subst z4
  replace z5 := z5.symm
  subst z5
  refine And.intro (Or.inl rfl) ?_
  refine And.intro h0 ?_
  exact loop m 0 none (by omega)
end NN
end
section
/-! READER -/
theorem mj_up_up {α : Type} {F : Nat → Nat → α} {q k : Nat} {x y : α} : mj_up (mj_up F q k x) q k y = mj_up F q k y := by
  funext a c
  simp only [mj_up]
  by_cases h1 : a = q
  · by_cases h2 : c = k <;> simp [h1, h2]
  · simp [h1]
theorem mj_up_self {α : Type} {F : Nat → Nat → α} {q k : Nat} {x : α} (h : F q k = x) : mj_up F q k x = F := by
  funext a c
  simp only [mj_up]
  by_cases h1 : a = q
  · by_cases h2 : c = k
    · simp [h1, h2, h]
    · simp [h1, h2]
  · simp [h1]
theorem mj_up_k {α : Type} {F : Nat → Nat → α} {q k j : Nat} {x : α} (h : j ≠ k) : mj_up F q k x q j = F q j := by rw [mj_up_eq, if_neg h]
theorem mj_up_at {α : Type} {F : Nat → Nat → α} {q k : Nat} {x : α} : mj_up F q k x q k = x := by rw [mj_up_eq, if_pos rfl]
/-- the reader at the place r: bytes, numbers, starts, the loop finder (with trail and reachedFrom) behind it; the net that it fills at b -/
def isRd (sh : mj_Sh) (FR : mj_FR) (n r b : Nat) : Prop :=
  mj_is sh n r 8 0 ∧ FR r 3 = .inl (r + 1) ∧ FR r 4 = .inl (r + 2) ∧ FR r 5 = .inl (r + 3) ∧ FR r 6 = .inl (r + 4) ∧ FR r 7 = .inl b ∧ mj_is sh n (r + 1) 1 8192 ∧ mj_is sh n (r + 2) 0 5 ∧ mj_is sh n (r + 3) 0 5 ∧
  mj_is sh n (r + 4) 6 0 ∧ FR (r + 4) 0 = .inl (r + 5) ∧ FR (r + 4) 1 = .inl (r + 6) ∧ mj_is sh n (r + 5) 0 300 ∧ mj_is sh n (r + 6) 0 315
/-- the byte at a place of the tape, -1 behind its end -/
def rd_by (IA : mj_FI) (r i : Nat) : Int := if (i : Int) < IA r 0 then IA (r + 1) i % 256 else -1
theorem rd_by_in (IA : mj_FI) (r i : Nat) : -1 ≤ rd_by IA r i ∧ rd_by IA r i < 256 := by
  unfold rd_by
  split <;> omega
section RR
variable {sh : mj_Sh} {FR : mj_FR} {IA : mj_FI} {LA : mj_LA} {n r b : Nat}
theorem ct_R_fail (h : isRd sh FR n r b) {x y : Int} : mj_Ct m_R_fail [.inr (.inr (.inl r)), .inl x, .inl y] sh FR IA LA n (mj_pu (.inl (some (.inl 0))) sh FR (mj_up (mj_up IA r 1 x) r 2 y) LA n) := by
  obtain ⟨h0, r3, r4, r5, r6, r7, a1, a2, a3, a4, s0, s1, a5, a6⟩ := h
  refine mj_Ct_of (by decide +kernel) (by decide) (Nat.le_of_ble_eq_true rfl) ?_
  refine mj_go z_R_fail [] 60 ?_
  refine And.intro h0 ?_
  refine And.intro h0 ?_
  exact ⟨Or.inl rfl, ⟨rfl, rfl, rfl, rfl, rfl, rfl⟩, Nat.le_of_ble_eq_true rfl, Nat.le_of_ble_eq_true rfl⟩
theorem ct_R_byteAt (h : isRd sh FR n r b) {i : Nat} (hi : i ≤ 1000000) (h1 : 0 ≤ IA r 0) (h2 : IA r 0 ≤ 8192) : mj_Ct m_R_byteAt [.inr (.inr (.inl r)), .inl i] sh FR IA LA n (mj_pu (.inl (some (.inl (rd_by IA r i)))) sh FR IA LA n) := by
  obtain ⟨h0, r3, r4, r5, r6, r7, a1, a2, a3, a4, s0, s1, a5, a6⟩ := h
  refine mj_Ct_of (by decide +kernel) (by decide) (Nat.le_of_ble_eq_true rfl) ?_
  refine mj_go z_R_byteAt [] 60 ?_
  refine And.intro h0 ?_
  refine And.intro (fun c => ?_) (fun c => ?_)
  · simp (disch := omega) only [mj_w_id] at c
    rw [show rd_by IA r i = -1 from if_neg (by omega)]
    exact ⟨⟨rfl, rfl, rfl, rfl, rfl, rfl⟩, Nat.le_of_ble_eq_true rfl, Nat.le_of_ble_eq_true rfl⟩
  · simp (disch := omega) only [mj_w_id] at c
    rw [show rd_by IA r i = IA (r + 1) i % 256 from if_pos (by omega)]
    refine And.intro h0 (Exists.intro _ (And.intro r3 ?_))
    refine Exists.intro _ (Exists.intro (i) (And.intro a1 (And.intro (by first | (rw [mj_w_id (by omega) (by omega)]; done) | (rw [mj_w_id (by omega) (by omega)]; omega) | (unfold mj_w; omega)) (And.intro (by omega) ?_))))
    refine Exists.intro (IA (r + 1) i % 256) (And.intro (nu_and255 _) ?_)
    exact ⟨⟨rfl, rfl, rfl, rfl, rfl, rfl⟩, Nat.le_of_ble_eq_true rfl, Nat.le_of_ble_eq_true rfl⟩
theorem ct_R_append (h : isRd sh FR n r b) {x : Int} {t : Nat} (ht : IA r 0 = (t : Int)) (h2 : t < 8192) : mj_Ct m_R_append [.inr (.inr (.inl r)), .inl x] sh FR IA LA n (mj_pu (.inl none) sh FR (mj_up (mj_up IA (r + 1) t (mj_b x)) r 0 ((t + 1 : Nat) : Int)) LA n) := by
  obtain ⟨h0, r3, r4, r5, r6, r7, a1, a2, a3, a4, s0, s1, a5, a6⟩ := h
  refine mj_Ct_of (by decide +kernel) (by decide) (Nat.le_of_ble_eq_true rfl) ?_
  refine mj_go z_R_append [] 60 ?_
  refine And.intro h0 ?_
  rw [ht]
  refine And.intro (fun c => ?_) (fun c => ?_)
  · simp (disch := omega) only [mj_w_id] at c
    omega
  · refine And.intro h0 (Exists.intro _ (And.intro r3 ?_))
    refine And.intro h0 ?_
    rw [ht]
    refine Exists.intro _ (Exists.intro (t) (And.intro a1 (And.intro (by first | (rw [mj_w_id (by omega) (by omega)]; done) | (rw [mj_w_id (by omega) (by omega)]; omega) | (unfold mj_w; omega)) (And.intro (by omega) ?_))))
    refine And.intro rfl ?_
    refine And.intro h0 ?_
    rw [mj_up_ne (show r ≠ r + 1 by omega), ht]
    refine Exists.intro (((t + 1 : Nat) : Int)) (And.intro (by first | (rw [mj_w_id (by omega) (by omega)]; done) | (rw [mj_w_id (by omega) (by omega)]; omega) | (unfold mj_w; omega)) ?_)
    refine And.intro h0 ?_
    exact ⟨⟨rfl, rfl, rfl, rfl, rfl, rfl⟩, Nat.le_of_ble_eq_true rfl, Nat.le_of_ble_eq_true rfl⟩
/-- what takeEnd answers and where it fails: none: the text ends rightly -/
def rd_end (IA : mj_FI) (r p : Nat) : Option Nat := if (p : Int) = IA r 0 then none else if rd_by IA r p = 99 then (if rd_by IA r (p + 1) = 10 then none else some (p + 1)) else some p
theorem ct_R_takeEnd (h : isRd sh FR n r b) {p : Nat} (hp : IA r 8 = (p : Int)) (hp2 : p ≤ 10000) (h1 : 0 ≤ IA r 0) (h2 : IA r 0 ≤ 8192) :
    mj_Ct m_R_takeEnd [.inr (.inr (.inl r))] sh FR IA LA n (mj_pu (.inl (some (.inl (if rd_end IA r p = none then 1 else 0)))) sh FR (match rd_end IA r p with
      | none => IA
      | some q => mj_up (mj_up IA r 1 5) r 2 q) LA n) := by
  have hR := h
  obtain ⟨h0, r3, r4, r5, r6, r7, a1, a2, a3, a4, s0, s1, a5, a6⟩ := h
  have g1 := rd_by_in IA r p
  have g2 := rd_by_in IA r (p + 1)
  refine mj_Ct_of (by decide +kernel) (by decide) (Nat.le_of_ble_eq_true rfl) ?_
  refine mj_go z_R_takeEnd [] 60 ?_
  refine And.intro h0 ?_
  refine And.intro h0 ?_
  rw [hp]
  refine And.intro (fun c => ?_) (fun c => ?_)
  · have e : rd_end IA r p = if rd_by IA r p = 99 then (if rd_by IA r (p + 1) = 10 then none else some (p + 1)) else some p := if_neg (fun z => c (by rw [z]))
    refine And.intro h0 ?_
    rw [hp]
    refine And.intro h0 (And.intro (Nat.le_of_ble_eq_true rfl) (And.intro (Nat.le_of_ble_eq_true rfl) (And.intro (Nat.le_of_ble_eq_true rfl) (Exists.intro _ (And.intro (ct_R_byteAt hR (by omega) h1 h2) ?_)))))
    rintro r9 sh9 FR9 IA9 LA9 n9 ⟨z0, z1, z2, z3, z4, z5⟩
    subst z0
    replace z1 := z1.symm
    subst z1
    replace z2 := z2.symm
    subst z2
    replace z3 := z3.symm
    subst z3
    replace z4 := z4.symm
    subst z4
    replace z5 := z5.symm
    subst z5
    refine And.intro (Or.inl rfl) ?_
    refine And.intro (fun d => ?_) (fun d => ?_)
    · simp (disch := omega) only [mj_w_id] at d
      rw [if_pos d] at e
      refine And.intro h0 ?_
      rw [hp]
      refine Exists.intro (((p + 1 : Nat) : Int)) (And.intro (by first | (rw [mj_w_id (by omega) (by omega)]; done) | (rw [mj_w_id (by omega) (by omega)]; omega) | (unfold mj_w; omega)) ?_)
      refine And.intro h0 (And.intro (Nat.le_of_ble_eq_true rfl) (And.intro (Nat.le_of_ble_eq_true rfl) (And.intro (Nat.le_of_ble_eq_true rfl) (Exists.intro _ (And.intro (ct_R_byteAt hR (by omega) h1 h2) ?_)))))
      rintro r9 sh9 FR9 IA9 LA9 n9 ⟨z0, z1, z2, z3, z4, z5⟩
      subst z0
      replace z1 := z1.symm
      subst z1
      replace z2 := z2.symm
      subst z2
      replace z3 := z3.symm
      subst z3
      replace z4 := z4.symm
      subst z4
      replace z5 := z5.symm
      subst z5
      refine And.intro (Or.inl rfl) ?_
      refine And.intro (fun f => ?_) (fun f => ?_)
      · simp (disch := omega) only [mj_w_id] at f
        rw [if_pos f] at e
        rw [e]
        exact ⟨Or.inr rfl, ⟨rfl, rfl, rfl, rfl, rfl, rfl⟩, Nat.le_of_ble_eq_true rfl, Nat.le_of_ble_eq_true rfl⟩
      · simp (disch := omega) only [mj_w_id] at f
        rw [if_neg f] at e
        rw [e]
        refine And.intro h0 ?_
        rw [hp]
        refine Exists.intro (((p + 1 : Nat) : Int)) (And.intro (by first | (rw [mj_w_id (by omega) (by omega)]; done) | (rw [mj_w_id (by omega) (by omega)]; omega) | (unfold mj_w; omega)) ?_)
        refine And.intro h0 (And.intro (Nat.le_of_ble_eq_true rfl) (And.intro (Nat.le_of_ble_eq_true rfl) (And.intro (Nat.le_of_ble_eq_true rfl) (Exists.intro _ (And.intro (ct_R_fail hR) ?_)))))
        rintro r9 sh9 FR9 IA9 LA9 n9 ⟨z0, z1, z2, z3, z4, z5⟩
        subst z0
        replace z1 := z1.symm
        subst z1
        replace z2 := z2.symm
        subst z2
        replace z3 := z3.symm
        subst z3
        replace z4 := z4.symm
        subst z4
        replace z5 := z5.symm
        subst z5
        refine And.intro (Or.inl rfl) ?_
        refine And.intro (fun g => ?_) (fun g => ?_)
        · exact ⟨Or.inl rfl, ⟨rfl, rfl, rfl, rfl, rfl, rfl⟩, Nat.le_of_ble_eq_true rfl, Nat.le_of_ble_eq_true rfl⟩
        · exact absurd (by decide) g
    · simp (disch := omega) only [mj_w_id] at d
      rw [if_neg d] at e
      rw [e]
      refine And.intro h0 ?_
      rw [hp]
      refine And.intro h0 (And.intro (Nat.le_of_ble_eq_true rfl) (And.intro (Nat.le_of_ble_eq_true rfl) (And.intro (Nat.le_of_ble_eq_true rfl) (Exists.intro _ (And.intro (ct_R_fail hR) ?_)))))
      rintro r9 sh9 FR9 IA9 LA9 n9 ⟨z0, z1, z2, z3, z4, z5⟩
      subst z0
      replace z1 := z1.symm
      subst z1
      replace z2 := z2.symm
      subst z2
      replace z3 := z3.symm
      subst z3
      replace z4 := z4.symm
      subst z4
      replace z5 := z5.symm
      subst z5
      refine And.intro (Or.inl rfl) ?_
      exact ⟨Or.inl rfl, ⟨rfl, rfl, rfl, rfl, rfl, rfl⟩, Nat.le_of_ble_eq_true rfl, Nat.le_of_ble_eq_true rfl⟩
  · have hc : (p : Int) = IA r 0 := by
      have c := Classical.not_not.mp c
      simp (disch := omega) only [mj_w_id] at c
      exact c
    rw [show rd_end IA r p = none from if_pos hc]
    exact ⟨Or.inr rfl, ⟨rfl, rfl, rfl, rfl, rfl, rfl⟩, Nat.le_of_ble_eq_true rfl, Nat.le_of_ble_eq_true rfl⟩
end RR
end
section
/-! READER: takeNumber -/
/-- the digits from p on: how many, their number, the place behind them; at most t more -/
def rd_num (by0 : Nat → Int) : Nat → Nat → Int → Nat → Nat × Int × Nat
  | 0, d, v, p => (d, v, p)
  | t + 1, d, v, p => if 48 ≤ by0 p ∧ by0 p ≤ 57 ∧ (d = 0 ∨ 0 < v) then rd_num by0 t (d + 1) (10 * v + by0 p - 48) (p + 1) else (d, v, p)
def rd_t3 (IA : mj_FI) (r pos : Nat) : Nat × Int × Nat := rd_num (rd_by IA r) 9 0 0 pos
def rd_tJ (IA : mj_FI) (r idx pos : Nat) : mj_FI := mj_up (mj_up (mj_up IA (r + 3) idx (pos : Int)) r 8 ((rd_t3 IA r pos).2.2 : Int)) (r + 2) idx (rd_t3 IA r pos).2.1
/-- the state behind takeNumber -/
def rd_tN (IA : mj_FI) (r idx : Nat) (fol code : Int) (pos : Nat) : mj_FI :=
  if ¬ (rd_t3 IA r pos).1 = 0 ∧ rd_by IA r (rd_t3 IA r pos).2.2 = fol then mj_up (rd_tJ IA r idx pos) r 8 (((rd_t3 IA r pos).2.2 + 1 : Nat) : Int) else mj_up (mj_up (rd_tJ IA r idx pos) r 1 code) r 2 ((rd_t3 IA r pos).2.2 : Int)
theorem rd_num_p (by0 : Nat → Int) : ∀ (t d : Nat) (v : Int) (p : Nat), (rd_num by0 t d v p).2.2 ≤ p + t
  | 0, d, v, p => Nat.le_refl _
  | t + 1, d, v, p => by
    simp only [rd_num]
    split
    · have := rd_num_p by0 t (d + 1) (10 * v + by0 p - 48) (p + 1)
      omega
    · show p ≤ p + (t + 1)
      omega
theorem rd_num_d (by0 : Nat → Int) : ∀ (t d : Nat) (v : Int) (p : Nat), (rd_num by0 t d v p).1 ≤ d + t
  | 0, d, v, p => Nat.le_refl _
  | t + 1, d, v, p => by
    simp only [rd_num]
    split
    · have := rd_num_d by0 t (d + 1) (10 * v + by0 p - 48) (p + 1)
      omega
    · show d ≤ d + (t + 1)
      omega
section RR
variable {sh : mj_Sh} {FR : mj_FR} {IA : mj_FI} {LA : mj_LA} {n r b : Nat}
set_option maxHeartbeats 1000000 in
theorem ct_R_takeNumber (h : isRd sh FR n r b) {idx pos : Nat} {fol code : Int} (hx : idx < 5) (hf1 : 0 ≤ fol) (hf2 : fol ≤ 255) (hp : IA r 8 = (pos : Int)) (hp2 : pos ≤ 9000) (h1 : 0 ≤ IA r 0) (h2 : IA r 0 ≤ 8192) :
    mj_Ct m_R_takeNumber [.inr (.inr (.inl r)), .inl idx, .inl fol, .inl code] sh FR IA LA n (mj_pu (.inl (some (.inl (if ¬ (rd_t3 IA r pos).1 = 0 ∧ rd_by IA r (rd_t3 IA r pos).2.2 = fol then 1 else 0)))) sh FR (rd_tN IA r idx fol code pos) LA n) := by
  have hR := h
  obtain ⟨h0, r3, r4, r5, r6, r7, a1, a2, a3, a4, s0, s1, a5, a6⟩ := h
  obtain ⟨d9, v9, p9, hT⟩ : ∃ d v p, rd_t3 IA r pos = (d, v, p) := ⟨_, _, _, rfl⟩
  have hp9 : p9 ≤ pos + 9 := by
    have q := rd_num_p (rd_by IA r) 9 0 0 pos
    rw [show rd_num (rd_by IA r) 9 0 0 pos = (d9, v9, p9) from hT] at q
    exact q
  have hd9 : d9 ≤ 9 := by
    have q := rd_num_d (rd_by IA r) 9 0 0 pos
    rw [show rd_num (rd_by IA r) 9 0 0 pos = (d9, v9, p9) from hT] at q
    omega
  have hJ : rd_tJ IA r idx pos = mj_up (mj_up (mj_up IA (r + 3) idx (pos : Int)) r 8 (p9 : Int)) (r + 2) idx v9 := by
    unfold rd_tJ
    rw [hT]
  have hN : rd_tN IA r idx fol code pos = if ¬ d9 = 0 ∧ rd_by IA r p9 = fol then mj_up (rd_tJ IA r idx pos) r 8 ((p9 + 1 : Nat) : Int) else mj_up (mj_up (rd_tJ IA r idx pos) r 1 code) r 2 (p9 : Int) := by
    unfold rd_tN
    rw [hT]
  rw [hN, hT]
  show mj_Ct m_R_takeNumber [.inr (.inr (.inl r)), .inl idx, .inl fol, .inl code] sh FR IA LA n (mj_pu (.inl (some (.inl (if ¬ d9 = 0 ∧ rd_by IA r p9 = fol then 1 else 0)))) sh FR (if ¬ d9 = 0 ∧ rd_by IA r p9 = fol then mj_up (rd_tJ IA r idx pos) r 8 ((p9 + 1 : Nat) : Int) else mj_up (mj_up (rd_tJ IA r idx pos) r 1 code) r 2 (p9 : Int)) LA n)
  generalize hQ : mj_pu (.inl (some (.inl (if ¬ d9 = 0 ∧ rd_by IA r p9 = fol then 1 else 0)))) sh FR (if ¬ d9 = 0 ∧ rd_by IA r p9 = fol then mj_up (rd_tJ IA r idx pos) r 8 ((p9 + 1 : Nat) : Int) else mj_up (mj_up (rd_tJ IA r idx pos) r 1 code) r 2 (p9 : Int)) LA n = Q
  have hby : ∀ (p : Nat) (x : Int), rd_by (mj_up (mj_up IA (r + 3) idx (pos : Int)) r 8 x) r p = rd_by IA r p := by
    intro p x
    unfold rd_by
    rw [mj_up_k (show (0 : Nat) ≠ 8 by decide), mj_up_ne (show r ≠ r + 3 by omega), mj_up_ne (show r + 1 ≠ r by omega), mj_up_ne (show r + 1 ≠ r + 3 by omega)]
  have hl0 : ∀ x : Int, mj_up (mj_up IA (r + 3) idx (pos : Int)) r 8 x r 0 = IA r 0 := by
    intro x
    rw [mj_up_k (show (0 : Nat) ≠ 8 by decide), mj_up_ne (show r ≠ r + 3 by omega)]
  have g9 := rd_by_in IA r p9
  have bad : ¬ (¬ d9 = 0 ∧ rd_by IA r p9 = fol) → mj_G m_R_takeNumber Q 115 [some (.inr (.inr (.inl r))), some (.inl idx), some (.inl fol), some (.inl code), some (.inl v9), some (.inl d9), some (.inl (rd_by IA r p9))] [] sh FR (rd_tJ IA r idx pos) LA n 0 0 := by
    intro hb
    rw [if_neg hb, if_neg hb] at hQ
    subst hQ
    refine mj_go z_R_takeNumber [26, 57, 96] 60 ?_
    refine And.intro h0 ?_
    rw [show rd_tJ IA r idx pos r 8 = (p9 : Int) by rw [hJ, mj_up_ne (show r ≠ r + 2 by omega), mj_up_at]]
    refine And.intro h0 (And.intro (Nat.le_of_ble_eq_true rfl) (And.intro (Nat.le_of_ble_eq_true rfl) (And.intro (Nat.le_of_ble_eq_true rfl) (Exists.intro _ (And.intro (ct_R_fail hR) ?_)))))
    rintro r9 sh9 FR9 IA9 LA9 n9 ⟨z0, z1, z2, z3, z4, z5⟩
    subst z0
    replace z1 := z1.symm
    subst z1
    replace z2 := z2.symm
    subst z2
    replace z3 := z3.symm
    subst z3
    replace z4 := z4.symm
    subst z4
    replace z5 := z5.symm
    subst z5
    refine And.intro (Or.inl rfl) ?_
    exact ⟨Or.inl rfl, ⟨rfl, rfl, rfl, rfl, rfl, rfl⟩, Nat.le_of_ble_eq_true rfl, Nat.le_of_ble_eq_true rfl⟩
  have fin : mj_G m_R_takeNumber Q 96 [some (.inr (.inr (.inl r))), some (.inl idx), some (.inl fol), some (.inl code), some (.inl v9), some (.inl d9), some (.inl (rd_by IA r p9))] [] sh FR (mj_up (mj_up IA (r + 3) idx (pos : Int)) r 8 (p9 : Int)) LA n 0 0 := by
    refine mj_go z_R_takeNumber [26, 57, 115] 60 ?_
    refine And.intro h0 (Exists.intro _ (And.intro r4 ?_))
    refine Exists.intro _ (Exists.intro (idx) (And.intro a2 (And.intro (by first | (rw [mj_w_id (by omega) (by omega)]; done) | (rw [mj_w_id (by omega) (by omega)]; omega) | (unfold mj_w; omega)) (And.intro (by omega) ?_))))
    rw [← hJ]
    refine And.intro (fun c => ?_) (fun c => ?_)
    · simp (disch := omega) only [mj_w_id] at c
      exact bad (fun z => z.1 (by omega))
    · simp (disch := omega) only [mj_w_id] at c
      refine And.intro (fun d => ?_) (fun d => ?_)
      · simp (disch := omega) only [mj_w_id] at d
        have hok : ¬ d9 = 0 ∧ rd_by IA r p9 = fol := ⟨by omega, d⟩
        rw [if_pos hok, if_pos hok] at hQ
        subst hQ
        refine And.intro rfl ?_
        refine And.intro h0 ?_
        rw [show rd_tJ IA r idx pos r 8 = (p9 : Int) by rw [hJ, mj_up_ne (show r ≠ r + 2 by omega), mj_up_at]]
        refine Exists.intro (((p9 + 1 : Nat) : Int)) (And.intro (by first | (rw [mj_w_id (by omega) (by omega)]; done) | (rw [mj_w_id (by omega) (by omega)]; omega) | (unfold mj_w; omega)) ?_)
        refine And.intro h0 ?_
        exact ⟨Or.inr rfl, ⟨rfl, rfl, rfl, rfl, rfl, rfl⟩, Nat.le_of_ble_eq_true rfl, Nat.le_of_ble_eq_true rfl⟩
      · simp (disch := omega) only [mj_w_id] at d
        exact bad (fun z => d z.2)
  have loop : ∀ (t d : Nat) (v : Int) (p : Nat), d + t = 9 → 0 ≤ v → v < ((10 ^ d : Nat) : Int) → p ≤ pos + d → rd_num (rd_by IA r) t d v p = (d9, v9, p9) →
      mj_G m_R_takeNumber Q 26 [some (.inr (.inr (.inl r))), some (.inl idx), some (.inl fol), some (.inl code), some (.inl v), some (.inl d), some (.inl (rd_by IA r p))] [] sh FR (mj_up (mj_up IA (r + 3) idx (pos : Int)) r 8 (p : Int)) LA n 0 0 := by
    intro t
    induction t with
    | zero =>
      intro d v p hd hv0 hv1 hpp hn
      cases hn
      refine mj_go z_R_takeNumber [26, 57, 96] 60 ?_
      refine And.intro (fun c => ?_) (fun c => ?_)
      · exact fin
      · simp (disch := omega) only [mj_w_id] at c
        omega
    | succ t ih =>
      intro d v p hd hv0 hv1 hpp hn
      have hpw : (10 ^ d : Nat) ≤ 10 ^ 8 := Nat.pow_le_pow_right (by decide) (by omega)
      have hpw1 : (10 ^ (d + 1) : Nat) = 10 * 10 ^ d := by rw [Nat.pow_succ, Nat.mul_comm]
      have gp := rd_by_in IA r p
      simp only [rd_num] at hn
      have out : ¬ (48 ≤ rd_by IA r p ∧ rd_by IA r p ≤ 57 ∧ (d = 0 ∨ 0 < v)) → mj_G m_R_takeNumber Q 96 [some (.inr (.inr (.inl r))), some (.inl idx), some (.inl fol), some (.inl code), some (.inl v), some (.inl d), some (.inl (rd_by IA r p))] [] sh FR (mj_up (mj_up IA (r + 3) idx (pos : Int)) r 8 (p : Int)) LA n 0 0 := by
        intro hc
        rw [if_neg hc] at hn
        cases hn
        exact fin
      have body : (48 ≤ rd_by IA r p ∧ rd_by IA r p ≤ 57 ∧ (d = 0 ∨ 0 < v)) → mj_G m_R_takeNumber Q 57 [some (.inr (.inr (.inl r))), some (.inl idx), some (.inl fol), some (.inl code), some (.inl v), some (.inl d), some (.inl (rd_by IA r p))] [] sh FR (mj_up (mj_up IA (r + 3) idx (pos : Int)) r 8 (p : Int)) LA n 0 0 := by
        intro hc
        rw [if_pos hc] at hn
        refine mj_go z_R_takeNumber [26, 96] 60 ?_
        refine Exists.intro (10 * v) (And.intro (by first | (rw [mj_w_id (by omega) (by omega)]; done) | (rw [mj_w_id (by omega) (by omega)]; omega) | (unfold mj_w; omega)) ?_)
        refine Exists.intro (10 * v + rd_by IA r p) (And.intro (by first | (rw [mj_w_id (by omega) (by omega)]; done) | (rw [mj_w_id (by omega) (by omega)]; omega) | (unfold mj_w; omega)) ?_)
        refine Exists.intro (10 * v + rd_by IA r p - 48) (And.intro (by first | (rw [mj_w_id (by omega) (by omega)]; done) | (rw [mj_w_id (by omega) (by omega)]; omega) | (unfold mj_w; omega)) ?_)
        refine Exists.intro (((d + 1 : Nat) : Int)) (And.intro (by first | (rw [mj_w_id (by omega) (by omega)]; done) | (rw [mj_w_id (by omega) (by omega)]; omega) | (unfold mj_w; omega)) ?_)
        refine And.intro rfl ?_
        refine And.intro h0 ?_
        rw [mj_up_at]
        refine Exists.intro (((p + 1 : Nat) : Int)) (And.intro (by first | (rw [mj_w_id (by omega) (by omega)]; done) | (rw [mj_w_id (by omega) (by omega)]; omega) | (unfold mj_w; omega)) ?_)
        refine And.intro h0 ?_
        rw [mj_up_up]
        refine And.intro h0 ?_
        rw [mj_up_at]
        refine And.intro h0 (And.intro (Nat.le_of_ble_eq_true rfl) (And.intro (Nat.le_of_ble_eq_true rfl) (And.intro (Nat.le_of_ble_eq_true rfl) (Exists.intro _ (And.intro (ct_R_byteAt hR (by omega) (by rw [hl0]; exact h1) (by rw [hl0]; exact h2)) ?_)))))
        rintro r9 sh9 FR9 IA9 LA9 n9 ⟨z0, z1, z2, z3, z4, z5⟩
        subst z0
        replace z1 := z1.symm
        subst z1
        replace z2 := z2.symm
        subst z2
        replace z3 := z3.symm
        subst z3
        replace z4 := z4.symm
        subst z4
        replace z5 := z5.symm
        subst z5
        refine And.intro (Or.inl rfl) ?_
        rw [hby]
        exact ih (d + 1) (10 * v + rd_by IA r p - 48) (p + 1) (by omega) (by omega) (by omega) (by omega) hn
      refine mj_go z_R_takeNumber [26, 57, 96] 60 ?_
      refine And.intro (fun c1 => ?_) (fun c1 => ?_)
      · simp (disch := omega) only [mj_w_id] at c1
        omega
      · refine And.intro (fun c2 => ?_) (fun c2 => ?_)
        · simp (disch := omega) only [mj_w_id] at c2
          exact out (by omega)
        · simp (disch := omega) only [mj_w_id] at c2
          refine And.intro (fun c3 => ?_) (fun c3 => ?_)
          · simp (disch := omega) only [mj_w_id] at c3
            exact out (by omega)
          · simp (disch := omega) only [mj_w_id] at c3
            refine And.intro (fun c4 => ?_) (fun c4 => ?_)
            · simp (disch := omega) only [mj_w_id] at c4
              exact body (by omega)
            · simp (disch := omega) only [mj_w_id] at c4
              refine And.intro (fun c5 => ?_) (fun c5 => ?_)
              · simp (disch := omega) only [mj_w_id] at c5
                exact out (by omega)
              · simp (disch := omega) only [mj_w_id] at c5
                exact body (by omega)
  refine mj_Ct_of (by decide +kernel) (by decide) (Nat.le_of_ble_eq_true rfl) ?_
  refine mj_go z_R_takeNumber [26] 60 ?_
  refine And.intro h0 (Exists.intro _ (And.intro r5 ?_))
  refine And.intro h0 ?_
  rw [hp]
  refine Exists.intro _ (Exists.intro (idx) (And.intro a3 (And.intro (by first | (rw [mj_w_id (by omega) (by omega)]; done) | (rw [mj_w_id (by omega) (by omega)]; omega) | (unfold mj_w; omega)) (And.intro (by omega) ?_))))
  refine And.intro h0 ?_
  rw [mj_up_ne (show r ≠ r + 3 by omega), hp]
  refine And.intro h0 (And.intro (Nat.le_of_ble_eq_true rfl) (And.intro (Nat.le_of_ble_eq_true rfl) (And.intro (Nat.le_of_ble_eq_true rfl) (Exists.intro _ (And.intro (ct_R_byteAt hR (by omega) (by rw [mj_up_ne (show r ≠ r + 3 by omega)]; exact h1) (by rw [mj_up_ne (show r ≠ r + 3 by omega)]; exact h2)) ?_)))))
  rintro r9 sh9 FR9 IA9 LA9 n9 ⟨z0, z1, z2, z3, z4, z5⟩
  subst z0
  replace z1 := z1.symm
  subst z1
  replace z2 := z2.symm
  subst z2
  replace z3 := z3.symm
  subst z3
  replace z4 := z4.symm
  subst z4
  replace z5 := z5.symm
  subst z5
  refine And.intro (Or.inl rfl) ?_
  have e8 : mj_up (mj_up IA (r + 3) idx (pos : Int)) r 8 (pos : Int) = mj_up IA (r + 3) idx (pos : Int) := mj_up_self (by rw [mj_up_ne (show r ≠ r + 3 by omega)]; exact hp)
  have hb0 := hby pos pos
  rw [e8] at hb0
  rw [hb0]
  have h9 := loop 9 0 0 pos (by omega) (by decide) (by decide) (by omega) hT
  rw [e8] at h9
  exact h9
end RR
end
section
/-! READER: takeLine -/
/-- numbers i .. of a line of cnt: t of them are left -/
def rd_ln (r : Nat) (code : Int) (cnt : Nat) : Nat → Nat → mj_FI → Bool × mj_FI
  | 0, _, J => (true, J)
  | t + 1, i, J => if ¬ (rd_t3 J r (J r 8).toNat).1 = 0 ∧ rd_by J r (rd_t3 J r (J r 8).toNat).2.2 = (if i + 1 = cnt then 10 else 32) then rd_ln r code cnt t (i + 1) (rd_tN J r i (if i + 1 = cnt then 10 else 32) code (J r 8).toNat)
      else (false, rd_tN J r i (if i + 1 = cnt then 10 else 32) code (J r 8).toNat)
theorem rd_tN_o {IA : mj_FI} {r idx pos q : Nat} {fol code : Int} (h1 : q ≠ r) (h2 : q ≠ r + 2) (h3 : q ≠ r + 3) : rd_tN IA r idx fol code pos q = IA q := by
  unfold rd_tN rd_tJ
  split
  · rw [mj_up_ne h1, mj_up_ne h2, mj_up_ne h1, mj_up_ne h3]
  · rw [mj_up_ne h1, mj_up_ne h1, mj_up_ne h2, mj_up_ne h1, mj_up_ne h3]
theorem rd_tN_k {IA : mj_FI} {r idx pos k : Nat} {fol code : Int} (h1 : k ≠ 1) (h2 : k ≠ 2) (h3 : k ≠ 8) : rd_tN IA r idx fol code pos r k = IA r k := by
  unfold rd_tN rd_tJ
  split
  · rw [mj_up_k h3, mj_up_ne (by omega), mj_up_k h3, mj_up_ne (by omega)]
  · rw [mj_up_k h2, mj_up_k h1, mj_up_ne (by omega), mj_up_k h3, mj_up_ne (by omega)]
theorem rd_tN_8 {IA : mj_FI} {r idx pos : Nat} {fol code : Int} (h : ¬ (rd_t3 IA r pos).1 = 0 ∧ rd_by IA r (rd_t3 IA r pos).2.2 = fol) : rd_tN IA r idx fol code pos r 8 = (((rd_t3 IA r pos).2.2 + 1 : Nat) : Int) := by
  unfold rd_tN
  rw [if_pos h, mj_up_at]
section RR
variable {sh : mj_Sh} {FR : mj_FR} {IA : mj_FI} {LA : mj_LA} {n r b : Nat}
theorem ct_R_takeLine (h : isRd sh FR n r b) {cnt pos : Nat} {code : Int} (hc : cnt ≤ 5) (hp : IA r 8 = (pos : Int)) (hp2 : pos ≤ 8900) (h1 : 0 ≤ IA r 0) (h2 : IA r 0 ≤ 8192) :
    mj_Ct m_R_takeLine [.inr (.inr (.inl r)), .inl cnt, .inl code] sh FR IA LA n (mj_pu (.inl (some (.inl (if (rd_ln r code cnt cnt 0 IA).1 then 1 else 0)))) sh FR (rd_ln r code cnt cnt 0 IA).2 LA n) := by
  have hR := h
  obtain ⟨h0, r3, r4, r5, r6, r7, a1, a2, a3, a4, s0, s1, a5, a6⟩ := h
  obtain ⟨o9, J9, hT⟩ : ∃ o J, rd_ln r code cnt cnt 0 IA = (o, J) := ⟨_, _, rfl⟩
  rw [hT]
  show mj_Ct m_R_takeLine [.inr (.inr (.inl r)), .inl cnt, .inl code] sh FR IA LA n (mj_pu (.inl (some (.inl (if o9 then 1 else 0)))) sh FR J9 LA n)
  have loop : ∀ (t i : Nat) (J : mj_FI) (p : Nat), i + t = cnt → J r 0 = IA r 0 → J r 8 = (p : Int) → p + 10 * t ≤ 8950 → rd_ln r code cnt t i J = (o9, J9) →
      mj_G m_R_takeLine (mj_pu (.inl (some (.inl (if o9 then 1 else 0)))) sh FR J9 LA n) 2 [some (.inr (.inr (.inl r))), some (.inl cnt), some (.inl code), some (.inl i)] [] sh FR J LA n 0 0 := by
    intro t
    induction t with
    | zero =>
      intro i J p hi hJ0 hJ8 hpt hn
      cases hn
      refine mj_go z_R_takeLine [2] 60 ?_
      refine And.intro (fun c => ?_) (fun c => ?_)
      · exact ⟨Or.inr rfl, ⟨rfl, rfl, rfl, rfl, rfl, rfl⟩, Nat.le_of_ble_eq_true rfl, Nat.le_of_ble_eq_true rfl⟩
      · simp (disch := omega) only [mj_w_id] at c
        omega
    | succ t ih =>
      intro i J p hi hJ0 hJ8 hpt hn
      have hpp : (J r 8).toNat = p := by rw [hJ8]; rfl
      simp only [rd_ln] at hn
      rw [hpp] at hn
      generalize hfo : (if i + 1 = cnt then (10 : Int) else 32) = fol at hn
      have hfol : 0 ≤ fol ∧ fol ≤ 255 := by
        rw [← hfo]
        split <;> decide
      have hp3 := rd_num_p (rd_by J r) 9 0 0 p
      have step : mj_G m_R_takeLine (mj_pu (.inl (some (.inl (if o9 then 1 else 0)))) sh FR J9 LA n) 23 [some (.inr (.inr (.inl r))), some (.inl cnt), some (.inl code), some (.inl i)] [.inl fol, .inl i, .inr (.inr (.inl r))] sh FR J LA n 0 0 := by
        refine mj_go z_R_takeLine [2] 60 ?_
        refine And.intro h0 (And.intro (Nat.le_of_ble_eq_true rfl) (And.intro (Nat.le_of_ble_eq_true rfl) (And.intro (Nat.le_of_ble_eq_true rfl) (Exists.intro _ (And.intro (ct_R_takeNumber hR (by omega) hfol.1 hfol.2 hJ8 (by omega) (by rw [hJ0]; exact h1) (by rw [hJ0]; exact h2)) ?_)))))
        rintro r9 sh9 FR9 IA9 LA9 n9 ⟨z0, z1, z2, z3, z4, z5⟩
        subst z0
        replace z1 := z1.symm
        subst z1
        replace z2 := z2.symm
        subst z2
        replace z3 := z3.symm
        subst z3
        replace z4 := z4.symm
        subst z4
        replace z5 := z5.symm
        subst z5
        refine And.intro (Or.inl rfl) ?_
        by_cases hok : ¬ (rd_t3 J r p).1 = 0 ∧ rd_by J r (rd_t3 J r p).2.2 = fol
        · rw [if_pos hok] at hn ⊢
          refine And.intro (fun d => ?_) (fun d => ?_)
          · refine Exists.intro (((i + 1 : Nat) : Int)) (And.intro (by first | (rw [mj_w_id (by omega) (by omega)]; done) | (rw [mj_w_id (by omega) (by omega)]; omega) | (unfold mj_w; omega)) ?_)
            refine ih (i + 1) _ ((rd_t3 J r p).2.2 + 1) (by omega) (by rw [rd_tN_k (by decide) (by decide) (by decide)]; exact hJ0) (rd_tN_8 hok) ?_ hn
            have : (rd_t3 J r p).2.2 ≤ p + 9 := hp3
            omega
          · exact absurd (by decide) d
        · rw [if_neg hok] at hn ⊢
          cases hn
          refine And.intro (fun d => ?_) (fun d => ?_)
          · exact absurd d (by decide)
          · exact ⟨Or.inl rfl, ⟨rfl, rfl, rfl, rfl, rfl, rfl⟩, Nat.le_of_ble_eq_true rfl, Nat.le_of_ble_eq_true rfl⟩
      refine mj_go z_R_takeLine [23] 60 ?_
      refine And.intro (fun c => ?_) (fun c => ?_)
      · simp (disch := omega) only [mj_w_id] at c
        omega
      · simp (disch := omega) only [mj_w_id] at c
        refine Exists.intro (((cnt : Int) - 1)) (And.intro (by first | (rw [mj_w_id (by omega) (by omega)]; done) | (rw [mj_w_id (by omega) (by omega)]; omega) | (unfold mj_w; omega)) ?_)
        refine And.intro (fun d => ?_) (fun d => ?_)
        · simp (disch := omega) only [mj_w_id] at d
          rw [if_neg (by omega)] at hfo
          subst hfo
          exact step
        · simp (disch := omega) only [mj_w_id] at d
          rw [if_pos (by omega)] at hfo
          subst hfo
          exact step
  refine mj_Ct_of (by decide +kernel) (by decide) (Nat.le_of_ble_eq_true rfl) ?_
  refine mj_go z_R_takeLine [2] 60 ?_
  exact loop cnt 0 IA pos (by omega) rfl hp (by omega) hT
end RR
end
section
/-! READER: takeUsed, takeOwn, takeKind -/
/-- the net's places and the reader's lie apart -/
def rd_ap (r b : Nat) : Prop := b + 8 < r ∨ r + 6 < b
def rd_kd (IA : mj_FI) (r : Nat) : Prop := rd_by IA r 0 = 97 ∧ (rd_by IA r 1 = 97 ∨ rd_by IA r 1 = 105) ∧ rd_by IA r 2 = 103 ∧ rd_by IA r 3 = 32
section RR
variable {sh : mj_Sh} {FR : mj_FR} {IA : mj_FI} {LA : mj_LA} {n r b : Nat}
theorem ct_R_takeUsed (h : isRd sh FR n r b) (hN : isNet sh FR n b) {idx : Nat} (hx : idx < 5) (g1 : 0 ≤ IA (r + 2) idx) (g2 : IA (r + 2) idx < 2147483648) (h3 : 0 ≤ IA b 9) (h4 : IA b 9 ≤ 1000) :
    mj_Ct m_R_takeUsed [.inr (.inr (.inl r)), .inl idx] sh FR IA LA n (mj_pu (.inl (some (.inl (if IA (r + 2) idx ≤ 2 * IA b 9 + 1 then 1 else 0)))) sh FR (if IA (r + 2) idx ≤ 2 * IA b 9 + 1 then IA else mj_up (mj_up IA r 1 6) r 2 (IA (r + 3) idx)) LA n) := by
  have hR := h
  obtain ⟨h0, r3, r4, r5, r6, r7, a1, a2, a3, a4, s0, s1, a5, a6⟩ := h
  refine mj_Ct_of (by decide +kernel) (by decide) (Nat.le_of_ble_eq_true rfl) ?_
  refine mj_go z_R_takeUsed [] 60 ?_
  refine And.intro h0 (Exists.intro _ (And.intro r7 ?_))
  refine And.intro h0 (Exists.intro _ (And.intro r4 ?_))
  refine Exists.intro _ (Exists.intro (idx) (And.intro a2 (And.intro (by first | (rw [mj_w_id (by omega) (by omega)]; done) | (rw [mj_w_id (by omega) (by omega)]; omega) | (unfold mj_w; omega)) (And.intro (by omega) ?_))))
  refine And.intro hN.1 (And.intro (Nat.le_of_ble_eq_true rfl) (And.intro (Nat.le_of_ble_eq_true rfl) (And.intro (Nat.le_of_ble_eq_true rfl) (Exists.intro _ (And.intro (ct_N_exists hN (by omega) (by omega) h3 h4) ?_)))))
  rintro r9 sh9 FR9 IA9 LA9 n9 ⟨z0, z1, z2, z3, z4, z5⟩
  subst z0
  replace z1 := z1.symm
  subst z1
  replace z2 := z2.symm
  subst z2
  replace z3 := z3.symm
  subst z3
  replace z4 := z4.symm
  subst z4
  replace z5 := z5.symm
  subst z5
  refine And.intro (Or.inl rfl) ?_
  by_cases he : IA (r + 2) idx ≤ 2 * IA b 9 + 1
  · rw [if_pos (show 0 ≤ IA (r + 2) idx ∧ IA (r + 2) idx ≤ 2 * IA b 9 + 1 from ⟨g1, he⟩), if_pos he, if_pos he]
    refine And.intro (fun c => ?_) (fun c => ?_)
    · exact ⟨Or.inr rfl, ⟨rfl, rfl, rfl, rfl, rfl, rfl⟩, Nat.le_of_ble_eq_true rfl, Nat.le_of_ble_eq_true rfl⟩
    · exact absurd (by decide) c
  · rw [if_neg (show ¬ (0 ≤ IA (r + 2) idx ∧ IA (r + 2) idx ≤ 2 * IA b 9 + 1) from fun z => he z.2), if_neg he, if_neg he]
    refine And.intro (fun c => ?_) (fun c => ?_)
    · exact absurd c (by decide)
    · refine And.intro h0 (Exists.intro _ (And.intro r5 ?_))
      refine Exists.intro _ (Exists.intro (idx) (And.intro a3 (And.intro (by first | (rw [mj_w_id (by omega) (by omega)]; done) | (rw [mj_w_id (by omega) (by omega)]; omega) | (unfold mj_w; omega)) (And.intro (by omega) ?_))))
      refine And.intro h0 (And.intro (Nat.le_of_ble_eq_true rfl) (And.intro (Nat.le_of_ble_eq_true rfl) (And.intro (Nat.le_of_ble_eq_true rfl) (Exists.intro _ (And.intro (ct_R_fail hR) ?_)))))
      rintro r9 sh9 FR9 IA9 LA9 n9 ⟨z0, z1, z2, z3, z4, z5⟩
      subst z0
      replace z1 := z1.symm
      subst z1
      replace z2 := z2.symm
      subst z2
      replace z3 := z3.symm
      subst z3
      replace z4 := z4.symm
      subst z4
      replace z5 := z5.symm
      subst z5
      refine And.intro (Or.inl rfl) ?_
      refine And.intro (fun d => ?_) (fun d => ?_)
      · exact ⟨Or.inl rfl, ⟨rfl, rfl, rfl, rfl, rfl, rfl⟩, Nat.le_of_ble_eq_true rfl, Nat.le_of_ble_eq_true rfl⟩
      · exact absurd (by decide) d
theorem ct_R_takeOwn (h : isRd sh FR n r b) (hN : isNet sh FR n b) {slot : Nat} (hx : slot < 315) (g1 : 0 ≤ IA (r + 2) 0) (g2 : IA (r + 2) 0 < 2147483648) (h3 : 0 ≤ IA b 9) (h4 : IA b 9 ≤ 1000) (h5 : ∀ j, j < 1001 → -1 ≤ IA (b + 1) j ∧ IA (b + 1) j < 315) :
    mj_Ct m_R_takeOwn [.inr (.inr (.inl r)), .inl slot] sh FR IA LA n (mj_pu (.inl (some (.inl (if (0 ≤ IA (r + 2) 0 ∧ IA (r + 2) 0 ≤ 2 * IA b 9 + 1) ∧ IA (r + 2) 0 % 2 = 0 ∧ IA (b + 1) (IA (r + 2) 0 / 2).toNat = -1 then 1 else 0)))) sh FR
      (if (0 ≤ IA (r + 2) 0 ∧ IA (r + 2) 0 ≤ 2 * IA b 9 + 1) ∧ IA (r + 2) 0 % 2 = 0 ∧ IA (b + 1) (IA (r + 2) 0 / 2).toNat = -1 then mj_up (mj_up IA (b + 2) slot (IA (r + 2) 0)) (b + 1) (IA (r + 2) 0 / 2).toNat slot else mj_up (mj_up IA r 1 6) r 2 (IA (r + 3) 0)) LA n) := by
  have hR := h
  obtain ⟨h0, r3, r4, r5, r6, r7, a1, a2, a3, a4, s0, s1, a5, a6⟩ := h
  refine mj_Ct_of (by decide +kernel) (by decide) (Nat.le_of_ble_eq_true rfl) ?_
  refine mj_go z_R_takeOwn [] 60 ?_
  refine And.intro h0 (Exists.intro _ (And.intro r7 ?_))
  refine And.intro h0 (Exists.intro _ (And.intro r4 ?_))
  refine Exists.intro _ (Exists.intro (0) (And.intro a2 (And.intro (by first | (rw [mj_w_id (by omega) (by omega)]; done) | (rw [mj_w_id (by omega) (by omega)]; omega) | (unfold mj_w; omega)) (And.intro (by omega) ?_))))
  refine And.intro hN.1 (And.intro (Nat.le_of_ble_eq_true rfl) (And.intro (Nat.le_of_ble_eq_true rfl) (And.intro (Nat.le_of_ble_eq_true rfl) (Exists.intro _ (And.intro (ct_N_isFree hN (by omega) (by omega) h3 h4 h5) ?_)))))
  rintro r9 sh9 FR9 IA9 LA9 n9 ⟨z0, z1, z2, z3, z4, z5⟩
  subst z0
  replace z1 := z1.symm
  subst z1
  replace z2 := z2.symm
  subst z2
  replace z3 := z3.symm
  subst z3
  replace z4 := z4.symm
  subst z4
  replace z5 := z5.symm
  subst z5
  refine And.intro (Or.inl rfl) ?_
  by_cases he : (0 ≤ IA (r + 2) 0 ∧ IA (r + 2) 0 ≤ 2 * IA b 9 + 1) ∧ IA (r + 2) 0 % 2 = 0 ∧ IA (b + 1) (IA (r + 2) 0 / 2).toNat = -1
  · rw [if_pos he, if_pos he]
    refine And.intro (fun c => ?_) (fun c => ?_)
    · refine And.intro h0 (Exists.intro _ (And.intro r7 ?_))
      refine And.intro h0 (Exists.intro _ (And.intro r4 ?_))
      refine Exists.intro _ (Exists.intro (0) (And.intro a2 (And.intro (by first | (rw [mj_w_id (by omega) (by omega)]; done) | (rw [mj_w_id (by omega) (by omega)]; omega) | (unfold mj_w; omega)) (And.intro (by omega) ?_))))
      refine And.intro hN.1 (And.intro (Nat.le_of_ble_eq_true rfl) (And.intro (Nat.le_of_ble_eq_true rfl) (And.intro (Nat.le_of_ble_eq_true rfl) (Exists.intro _ (And.intro (ct_N_place hN (by omega) (by omega) hx) ?_)))))
      rintro r9 sh9 FR9 IA9 LA9 n9 ⟨z0, z1, z2, z3, z4, z5⟩
      subst z0
      replace z1 := z1.symm
      subst z1
      replace z2 := z2.symm
      subst z2
      replace z3 := z3.symm
      subst z3
      replace z4 := z4.symm
      subst z4
      replace z5 := z5.symm
      subst z5
      refine And.intro (Or.inl rfl) ?_
      exact ⟨Or.inr rfl, ⟨rfl, rfl, rfl, rfl, rfl, rfl⟩, Nat.le_of_ble_eq_true rfl, Nat.le_of_ble_eq_true rfl⟩
    · exact absurd (by decide) c
  · rw [if_neg he, if_neg he]
    refine And.intro (fun c => ?_) (fun c => ?_)
    · exact absurd c (by decide)
    · refine And.intro h0 (Exists.intro _ (And.intro r5 ?_))
      refine Exists.intro _ (Exists.intro (0) (And.intro a3 (And.intro (by first | (rw [mj_w_id (by omega) (by omega)]; done) | (rw [mj_w_id (by omega) (by omega)]; omega) | (unfold mj_w; omega)) (And.intro (by omega) ?_))))
      refine And.intro h0 (And.intro (Nat.le_of_ble_eq_true rfl) (And.intro (Nat.le_of_ble_eq_true rfl) (And.intro (Nat.le_of_ble_eq_true rfl) (Exists.intro _ (And.intro (ct_R_fail hR) ?_)))))
      rintro r9 sh9 FR9 IA9 LA9 n9 ⟨z0, z1, z2, z3, z4, z5⟩
      subst z0
      replace z1 := z1.symm
      subst z1
      replace z2 := z2.symm
      subst z2
      replace z3 := z3.symm
      subst z3
      replace z4 := z4.symm
      subst z4
      replace z5 := z5.symm
      subst z5
      refine And.intro (Or.inl rfl) ?_
      exact ⟨Or.inl rfl, ⟨rfl, rfl, rfl, rfl, rfl, rfl⟩, Nat.le_of_ble_eq_true rfl, Nat.le_of_ble_eq_true rfl⟩
theorem ct_R_takeKind (h : isRd sh FR n r b) (h1 : 0 ≤ IA r 0) (h2 : IA r 0 ≤ 8192) :
    mj_Ct m_R_takeKind [.inr (.inr (.inl r))] sh FR IA LA n (fun o sh' FR' IA' LA' n' => sh' = sh ∧ FR' = FR ∧ LA' = LA ∧ n' = n ∧ ((rd_kd IA r ∧ o = .inl (some (.inl 1)) ∧ IA' = mj_up (mj_up IA r 9 (if rd_by IA r 1 = 105 then 1 else 0)) r 8 4) ∨ (¬ rd_kd IA r ∧ o = .inl (some (.inl 0)) ∧ IA' = mj_up (mj_up IA r 1 1) r 2 0))) := by
  have hR := h
  obtain ⟨h0, r3, r4, r5, r6, r7, a1, a2, a3, a4, s0, s1, a5, a6⟩ := h
  have b0 := rd_by_in IA r 0
  have b1 := rd_by_in IA r 1
  have b2 := rd_by_in IA r 2
  have b3 := rd_by_in IA r 3
  generalize hQ : (fun (o : mj_O) (sh' : mj_Sh) (FR' : mj_FR) (IA' : mj_FI) (LA' : mj_LA) (n' : Nat) => sh' = sh ∧ FR' = FR ∧ LA' = LA ∧ n' = n ∧ ((rd_kd IA r ∧ o = .inl (some (.inl 1)) ∧ IA' = mj_up (mj_up IA r 9 (if rd_by IA r 1 = 105 then 1 else 0)) r 8 4) ∨ (¬ rd_kd IA r ∧ o = .inl (some (.inl 0)) ∧ IA' = mj_up (mj_up IA r 1 1) r 2 0))) = Q
  have no : ¬ rd_kd IA r → mj_G m_R_takeKind Q 52 [some (.inr (.inr (.inl r))), some (.inl (rd_by IA r 1)), none] [] sh FR IA LA n 0 0 := by
    intro hk
    subst hQ
    refine mj_go z_R_takeKind [] 60 ?_
    refine And.intro (fun c => ?_) (fun c => ?_)
    · exact absurd (by decide) c
    · refine And.intro h0 (And.intro (Nat.le_of_ble_eq_true rfl) (And.intro (Nat.le_of_ble_eq_true rfl) (And.intro (Nat.le_of_ble_eq_true rfl) (Exists.intro _ (And.intro (ct_R_fail hR) ?_)))))
      rintro r9 sh9 FR9 IA9 LA9 n9 ⟨z0, z1, z2, z3, z4, z5⟩
      subst z0
      replace z1 := z1.symm
      subst z1
      replace z2 := z2.symm
      subst z2
      replace z3 := z3.symm
      subst z3
      replace z4 := z4.symm
      subst z4
      replace z5 := z5.symm
      subst z5
      refine And.intro (Or.inl rfl) ?_
      exact ⟨Or.inl rfl, ⟨rfl, rfl, rfl, rfl, Or.inr ⟨hk, rfl, rfl⟩⟩, Nat.le_of_ble_eq_true rfl, Nat.le_of_ble_eq_true rfl⟩
  have mid : (rd_by IA r 0 = 97 ∧ (rd_by IA r 1 = 97 ∨ rd_by IA r 1 = 105)) → mj_G m_R_takeKind Q 28 [some (.inr (.inr (.inl r))), some (.inl (rd_by IA r 1)), none] [] sh FR IA LA n 0 0 := by
    intro hk
    refine mj_go z_R_takeKind [52] 60 ?_
    refine And.intro h0 (And.intro (Nat.le_of_ble_eq_true rfl) (And.intro (Nat.le_of_ble_eq_true rfl) (And.intro (Nat.le_of_ble_eq_true rfl) (Exists.intro _ (And.intro (ct_R_byteAt (i := 2) hR (by decide) h1 h2) ?_)))))
    rintro r9 sh9 FR9 IA9 LA9 n9 ⟨z0, z1, z2, z3, z4, z5⟩
    subst z0
    replace z1 := z1.symm
    subst z1
    replace z2 := z2.symm
    subst z2
    replace z3 := z3.symm
    subst z3
    replace z4 := z4.symm
    subst z4
    replace z5 := z5.symm
    subst z5
    refine And.intro (Or.inl rfl) ?_
    refine And.intro (fun c => ?_) (fun c => ?_)
    · simp (disch := omega) only [mj_w_id] at c
      exact no (fun z => c z.2.2.1)
    · have c := Classical.not_not.mp c
      simp (disch := omega) only [mj_w_id] at c
      refine And.intro h0 (And.intro (Nat.le_of_ble_eq_true rfl) (And.intro (Nat.le_of_ble_eq_true rfl) (And.intro (Nat.le_of_ble_eq_true rfl) (Exists.intro _ (And.intro (ct_R_byteAt (i := 3) hR (by decide) h1 h2) ?_)))))
      rintro r9 sh9 FR9 IA9 LA9 n9 ⟨z0, z1, z2, z3, z4, z5⟩
      subst z0
      replace z1 := z1.symm
      subst z1
      replace z2 := z2.symm
      subst z2
      replace z3 := z3.symm
      subst z3
      replace z4 := z4.symm
      subst z4
      replace z5 := z5.symm
      subst z5
      refine And.intro (Or.inl rfl) ?_
      refine And.intro (fun d => ?_) (fun d => ?_)
      · simp (disch := omega) only [mj_w_id] at d
        exact no (fun z => d z.2.2.2)
      · have d := Classical.not_not.mp d
        simp (disch := omega) only [mj_w_id] at d
        have hkd : rd_kd IA r := ⟨hk.1, hk.2, c, d⟩
        subst hQ
        refine And.intro (fun e => ?_) (fun e => ?_)
        · refine And.intro (fun f => ?_) (fun f => ?_)
          · simp (disch := omega) only [mj_w_id] at f
            refine And.intro h0 (And.intro (Or.inl rfl) ?_)
            refine And.intro h0 ?_
            refine ⟨Or.inr rfl, ⟨rfl, rfl, rfl, rfl, Or.inl ⟨hkd, rfl, ?_⟩⟩, Nat.le_of_ble_eq_true rfl, Nat.le_of_ble_eq_true rfl⟩
            rw [if_neg f]
          · have f := Classical.not_not.mp f
            simp (disch := omega) only [mj_w_id] at f
            refine And.intro h0 (And.intro (Or.inr rfl) ?_)
            refine And.intro h0 ?_
            refine ⟨Or.inr rfl, ⟨rfl, rfl, rfl, rfl, Or.inl ⟨hkd, rfl, ?_⟩⟩, Nat.le_of_ble_eq_true rfl, Nat.le_of_ble_eq_true rfl⟩
            rw [if_pos f]
        · exact absurd (by decide) e
  refine mj_Ct_of (by decide +kernel) (by decide) (Nat.le_of_ble_eq_true rfl) ?_
  refine mj_go z_R_takeKind [28, 52] 60 ?_
  refine And.intro h0 (And.intro (Nat.le_of_ble_eq_true rfl) (And.intro (Nat.le_of_ble_eq_true rfl) (And.intro (Nat.le_of_ble_eq_true rfl) (Exists.intro _ (And.intro (ct_R_byteAt (i := 1) hR (by decide) h1 h2) ?_)))))
  rintro r9 sh9 FR9 IA9 LA9 n9 ⟨z0, z1, z2, z3, z4, z5⟩
  subst z0
  replace z1 := z1.symm
  subst z1
  replace z2 := z2.symm
  subst z2
  replace z3 := z3.symm
  subst z3
  replace z4 := z4.symm
  subst z4
  replace z5 := z5.symm
  subst z5
  refine And.intro (Or.inl rfl) ?_
  refine And.intro h0 (And.intro (Nat.le_of_ble_eq_true rfl) (And.intro (Nat.le_of_ble_eq_true rfl) (And.intro (Nat.le_of_ble_eq_true rfl) (Exists.intro _ (And.intro (ct_R_byteAt (i := 0) hR (by decide) h1 h2) ?_)))))
  rintro r9 sh9 FR9 IA9 LA9 n9 ⟨z0, z1, z2, z3, z4, z5⟩
  subst z0
  replace z1 := z1.symm
  subst z1
  replace z2 := z2.symm
  subst z2
  replace z3 := z3.symm
  subst z3
  replace z4 := z4.symm
  subst z4
  replace z5 := z5.symm
  subst z5
  refine And.intro (Or.inl rfl) ?_
  refine And.intro (fun c => ?_) (fun c => ?_)
  · simp (disch := omega) only [mj_w_id] at c
    exact no (fun z => c z.1)
  · have c := Classical.not_not.mp c
    simp (disch := omega) only [mj_w_id] at c
    refine And.intro (fun d => ?_) (fun d => ?_)
    · simp (disch := omega) only [mj_w_id] at d
      exact mid ⟨c, Or.inl d⟩
    · simp (disch := omega) only [mj_w_id] at d
      refine And.intro (fun e => ?_) (fun e => ?_)
      · simp (disch := omega) only [mj_w_id] at e
        exact no (fun z => z.2.1.elim d e)
      · have e := Classical.not_not.mp e
        simp (disch := omega) only [mj_w_id] at e
        exact mid ⟨c, Or.inr e⟩
end RR
end
section
/-! READER: exchangeNet -/
section RR
variable {sh : mj_Sh} {FR : mj_FR} {IA : mj_FI} {LA : mj_LA} {n r b u : Nat}
theorem ct_R_exchangeNet (h : isRd sh FR n r b) : mj_Ct m_R_exchangeNet [.inr (.inr (.inl r)), .inr (.inr (.inl u))] sh FR IA LA n (mj_pu (.inl (some (.inr (.inr (.inl b))))) sh (mj_up FR r 7 (.inl u)) IA LA n) := by
  obtain ⟨h0, r3, r4, r5, r6, r7, a1, a2, a3, a4, s0, s1, a5, a6⟩ := h
  refine mj_Ct_of (by decide +kernel) (by decide) (Nat.le_of_ble_eq_true rfl) ?_
  refine mj_go z_R_exchangeNet [] 60 ?_
  refine And.intro h0 (Exists.intro _ (And.intro r7 ?_))
  refine And.intro h0 ?_
  exact ⟨⟨rfl, rfl, rfl, rfl, rfl, rfl⟩, Nat.le_of_ble_eq_true rfl, Nat.le_of_ble_eq_true rfl⟩
end RR
end
section
/-! READER: what a line leaves -/
theorem rd_num_v (by0 : Nat → Int) : ∀ (t d : Nat) (v : Int) (p : Nat), 0 ≤ v → v < ((10 ^ d : Nat) : Int) → 0 ≤ (rd_num by0 t d v p).2.1 ∧ (rd_num by0 t d v p).2.1 < ((10 ^ (d + t) : Nat) : Int)
  | 0, d, v, p, h1, h2 => ⟨h1, h2⟩
  | t + 1, d, v, p, h1, h2 => by
    have hp : (10 ^ (d + 1) : Nat) = 10 * 10 ^ d := by rw [Nat.pow_succ, Nat.mul_comm]
    have hm : (10 ^ d : Nat) ≤ 10 ^ (d + (t + 1)) := Nat.pow_le_pow_right (by decide) (by omega)
    simp only [rd_num]
    split
    · rename_i hc
      have h := rd_num_v by0 t (d + 1) (10 * v + by0 p - 48) (p + 1) (by omega) (by omega)
      rw [show d + 1 + t = d + (t + 1) by omega] at h
      exact h
    · refine ⟨h1, ?_⟩
      show v < _
      omega
theorem rd_t3_v (IA : mj_FI) (r pos : Nat) : 0 ≤ (rd_t3 IA r pos).2.1 ∧ (rd_t3 IA r pos).2.1 < 1000000000 := rd_num_v (rd_by IA r) 9 0 0 pos (by decide) (by decide)
theorem rd_t3_p (IA : mj_FI) (r pos : Nat) : (rd_t3 IA r pos).2.2 ≤ pos + 9 := rd_num_p (rd_by IA r) 9 0 0 pos
theorem rd_tN_num {IA : mj_FI} {r idx pos : Nat} {fol code : Int} (j : Nat) : rd_tN IA r idx fol code pos (r + 2) j = if j = idx then (rd_t3 IA r pos).2.1 else IA (r + 2) j := by
  unfold rd_tN rd_tJ
  split
  · rw [mj_up_ne (by omega), mj_up_eq, mj_up_ne (by omega), mj_up_ne (by omega)]
  · rw [mj_up_ne (by omega), mj_up_ne (by omega), mj_up_eq, mj_up_ne (by omega), mj_up_ne (by omega)]
theorem rd_ln_o {r cnt q : Nat} {code : Int} (h1 : q ≠ r) (h2 : q ≠ r + 2) (h3 : q ≠ r + 3) : ∀ (t i : Nat) (J : mj_FI), (rd_ln r code cnt t i J).2 q = J q
  | 0, _, _ => rfl
  | t + 1, i, J => by
    simp only [rd_ln]
    generalize (if i + 1 = cnt then (10 : Int) else 32) = fol
    split
    · rw [rd_ln_o h1 h2 h3 t, rd_tN_o h1 h2 h3]
    · exact rd_tN_o h1 h2 h3
theorem rd_ln_k {r cnt k : Nat} {code : Int} (h1 : k ≠ 1) (h2 : k ≠ 2) (h3 : k ≠ 8) : ∀ (t i : Nat) (J : mj_FI), (rd_ln r code cnt t i J).2 r k = J r k
  | 0, _, _ => rfl
  | t + 1, i, J => by
    simp only [rd_ln]
    generalize (if i + 1 = cnt then (10 : Int) else 32) = fol
    split
    · rw [rd_ln_k h1 h2 h3 t, rd_tN_k h1 h2 h3]
    · exact rd_tN_k h1 h2 h3
/-- the numbers of a line are in their range where they were before -/
theorem rd_ln_num {r cnt : Nat} {code : Int} : ∀ (t i : Nat) (J : mj_FI) (j : Nat), (i ≤ j ∧ j < i + t) ∨ (0 ≤ J (r + 2) j ∧ J (r + 2) j < 1000000000) → (rd_ln r code cnt t i J).1 = true → 0 ≤ (rd_ln r code cnt t i J).2 (r + 2) j ∧ (rd_ln r code cnt t i J).2 (r + 2) j < 1000000000
  | 0, i, J, j, h, _ => by
    rcases h with h | h
    · omega
    · exact h
  | t + 1, i, J, j, h, hok => by
    simp only [rd_ln] at hok ⊢
    generalize (if i + 1 = cnt then (10 : Int) else 32) = fol at hok ⊢
    split at hok
    · rename_i hc
      rw [if_pos hc]
      refine rd_ln_num t (i + 1) _ j ?_ hok
      by_cases hj : j = i
      · refine Or.inr ?_
        rw [rd_tN_num, if_pos hj]
        exact rd_t3_v J r _
      · rcases h with h | h
        · exact Or.inl ⟨by omega, by omega⟩
        · refine Or.inr ?_
          rw [rd_tN_num, if_neg hj]
          exact h
    · cases hok
/-- where a line that was taken ends -/
theorem rd_ln_p {r cnt : Nat} {code : Int} : ∀ (t i : Nat) (J : mj_FI) (p : Nat), J r 8 = (p : Int) → (rd_ln r code cnt t i J).1 = true → ∃ p' : Nat, (rd_ln r code cnt t i J).2 r 8 = (p' : Int) ∧ p' ≤ p + 10 * t
  | 0, i, J, p, h, _ => ⟨p, h, by omega⟩
  | t + 1, i, J, p, h, hok => by
    simp only [rd_ln] at hok ⊢
    generalize (if i + 1 = cnt then (10 : Int) else 32) = fol at hok ⊢
    split at hok
    · rename_i hc
      rw [if_pos hc]
      have hp : (J r 8).toNat = p := by rw [h]; rfl
      rw [hp] at hok hc ⊢
      have h8 := rd_tN_8 (idx := i) (code := code) hc
      obtain ⟨p', q1, q2⟩ := rd_ln_p t (i + 1) _ _ h8 hok
      have := rd_t3_p J r p
      exact ⟨p', q1, by omega⟩
    · cases hok
end
section
/-! READER: takeSizes -/
def rd_bs (J : mj_FI) (r : Nat) : Prop := (1000 < J (r + 2) 0 ∨ 14 < J (r + 2) 1 ∨ 16 < J (r + 2) 3 ∨ 300 < J (r + 2) 4) ∨ J (r + 2) 0 < J (r + 2) 1 + J (r + 2) 4 ∨ (¬ J r 9 = 0 ∧ ¬ J (r + 2) 0 = J (r + 2) 1 + J (r + 2) 4)
/-- how takeSizes ends, behind the first line (ok, J) -/
def rd_sz (ok : Bool) (J : mj_FI) (r b : Nat) (o : mj_O) (IA' : mj_FI) : Prop :=
  (ok = false ∧ o = .inl (some (.inl 0)) ∧ IA' = J) ∨ (ok = true ∧ ¬ J (r + 2) 2 = 0 ∧ o = .inl (some (.inl 0)) ∧ IA' = mj_up (mj_up J r 1 3) r 2 0) ∨
  (ok = true ∧ J (r + 2) 2 = 0 ∧ rd_bs J r ∧ o = .inl (some (.inl 0)) ∧ IA' = mj_up (mj_up J r 1 4) r 2 0) ∨
  (ok = true ∧ J (r + 2) 2 = 0 ∧ ¬ rd_bs J r ∧ o = .inl (some (.inl 1)) ∧ IA' = nt_begin J b (J (r + 2) 0) (J (r + 2) 1) (J (r + 2) 3) (J (r + 2) 4))
section RR
variable {sh : mj_Sh} {FR : mj_FR} {IA : mj_FI} {LA : mj_LA} {n r b : Nat}
set_option maxHeartbeats 4000000 in
theorem ct_R_takeSizes (h : isRd sh FR n r b) (hN : isNet sh FR n b) {pos : Nat} (hp : IA r 8 = (pos : Int)) (hp2 : pos ≤ 8900) (h1 : 0 ≤ IA r 0) (h2 : IA r 0 ≤ 8192) (h9 : IA r 9 = 0 ∨ IA r 9 = 1) :
    mj_Ct m_R_takeSizes [.inr (.inr (.inl r))] sh FR IA LA n (fun o sh' FR' IA' LA' n' => sh' = sh ∧ FR' = FR ∧ LA' = LA ∧ n' = n ∧ rd_sz (rd_ln r 2 5 5 0 IA).1 (rd_ln r 2 5 5 0 IA).2 r b o IA') := by
  have hR := h
  obtain ⟨h0, r3, r4, r5, r6, r7, a1, a2, a3, a4, s0, s1, a5, a6⟩ := h
  have hk9 := rd_ln_k (r := r) (cnt := 5) (code := 2) (k := 9) (by decide) (by decide) (by decide) 5 0 IA
  have hnum := fun j hj => rd_ln_num (r := r) (cnt := 5) (code := 2) 5 0 IA j (Or.inl ⟨Nat.zero_le j, hj⟩)
  have hct := ct_R_takeLine (LA := LA) (IA := IA) hR (cnt := 5) (code := 2) (by decide) hp hp2 h1 h2
  generalize rd_ln r 2 5 5 0 IA = S at *
  obtain ⟨ok, J⟩ := S
  have hk9 : J r 9 = IA r 9 := hk9
  generalize hQ : (fun (o : mj_O) (sh' : mj_Sh) (FR' : mj_FR) (IA' : mj_FI) (LA' : mj_LA) (n' : Nat) => sh' = sh ∧ FR' = FR ∧ LA' = LA ∧ n' = n ∧ rd_sz ok J r b o IA') = Q
  show mj_Ct m_R_takeSizes [.inr (.inr (.inl r))] sh FR IA LA n Q
  have cont : ok = true → mj_G m_R_takeSizes Q 11 [some (.inr (.inr (.inl r))), none, none, none, none] [] sh FR J LA n 0 0 := by
    intro hok
    have q0 := hnum 0 (by decide) hok
    have q1 := hnum 1 (by decide) hok
    have q2 := hnum 2 (by decide) hok
    have q3 := hnum 3 (by decide) hok
    have q4 := hnum 4 (by decide) hok
    have q0 : 0 ≤ J (r + 2) 0 ∧ J (r + 2) 0 < 1000000000 := q0
    have q1 : 0 ≤ J (r + 2) 1 ∧ J (r + 2) 1 < 1000000000 := q1
    have q2 : 0 ≤ J (r + 2) 2 ∧ J (r + 2) 2 < 1000000000 := q2
    have q3 : 0 ≤ J (r + 2) 3 ∧ J (r + 2) 3 < 1000000000 := q3
    have q4 : 0 ≤ J (r + 2) 4 ∧ J (r + 2) 4 < 1000000000 := q4
    have b83 : J (r + 2) 2 = 0 → rd_bs J r → mj_G m_R_takeSizes Q 83 [some (.inr (.inr (.inl r))), some (.inl (J (r + 2) 0)), some (.inl (J (r + 2) 1)), some (.inl (J (r + 2) 3)), some (.inl (J (r + 2) 4))] [] sh FR J LA n 0 0 := by
      intro hl hb
      subst hQ
      refine mj_go z_R_takeSizes [] 60 ?_
      refine And.intro h0 (And.intro (Nat.le_of_ble_eq_true rfl) (And.intro (Nat.le_of_ble_eq_true rfl) (And.intro (Nat.le_of_ble_eq_true rfl) (Exists.intro _ (And.intro (ct_R_fail hR) ?_)))))
      rintro r9 sh9 FR9 IA9 LA9 n9 ⟨z0, z1, z2, z3, z4, z5⟩
      subst z0
      replace z1 := z1.symm
      subst z1
      replace z2 := z2.symm
      subst z2
      replace z3 := z3.symm
      subst z3
      replace z4 := z4.symm
      subst z4
      replace z5 := z5.symm
      subst z5
      refine And.intro (Or.inl rfl) ?_
      exact ⟨Or.inl rfl, ⟨rfl, rfl, rfl, rfl, Or.inr (Or.inr (Or.inl ⟨hok, hl, hb, rfl, rfl⟩))⟩, Nat.le_of_ble_eq_true rfl, Nat.le_of_ble_eq_true rfl⟩
    have b113 : J (r + 2) 2 = 0 → rd_bs J r → mj_G m_R_takeSizes Q 113 [some (.inr (.inr (.inl r))), some (.inl (J (r + 2) 0)), some (.inl (J (r + 2) 1)), some (.inl (J (r + 2) 3)), some (.inl (J (r + 2) 4))] [] sh FR J LA n 0 0 := by
      intro hl hb
      subst hQ
      refine mj_go z_R_takeSizes [] 60 ?_
      refine And.intro h0 (And.intro (Nat.le_of_ble_eq_true rfl) (And.intro (Nat.le_of_ble_eq_true rfl) (And.intro (Nat.le_of_ble_eq_true rfl) (Exists.intro _ (And.intro (ct_R_fail hR) ?_)))))
      rintro r9 sh9 FR9 IA9 LA9 n9 ⟨z0, z1, z2, z3, z4, z5⟩
      subst z0
      replace z1 := z1.symm
      subst z1
      replace z2 := z2.symm
      subst z2
      replace z3 := z3.symm
      subst z3
      replace z4 := z4.symm
      subst z4
      replace z5 := z5.symm
      subst z5
      refine And.intro (Or.inl rfl) ?_
      exact ⟨Or.inl rfl, ⟨rfl, rfl, rfl, rfl, Or.inr (Or.inr (Or.inl ⟨hok, hl, hb, rfl, rfl⟩))⟩, Nat.le_of_ble_eq_true rfl, Nat.le_of_ble_eq_true rfl⟩
    have g120 : J (r + 2) 2 = 0 → ¬ rd_bs J r → mj_G m_R_takeSizes Q 120 [some (.inr (.inr (.inl r))), some (.inl (J (r + 2) 0)), some (.inl (J (r + 2) 1)), some (.inl (J (r + 2) 3)), some (.inl (J (r + 2) 4))] [] sh FR J LA n 0 0 := by
      intro hl hb
      subst hQ
      refine mj_go z_R_takeSizes [] 60 ?_
      refine And.intro h0 (Exists.intro _ (And.intro r7 ?_))
      refine And.intro hN.1 (And.intro (Nat.le_of_ble_eq_true rfl) (And.intro (Nat.le_of_ble_eq_true rfl) (And.intro (Nat.le_of_ble_eq_true rfl) (Exists.intro _ (And.intro (ct_N_begin hN) ?_)))))
      rintro r9 sh9 FR9 IA9 LA9 n9 ⟨z0, z1, z2, z3, z4, z5⟩
      subst z0
      replace z1 := z1.symm
      subst z1
      replace z2 := z2.symm
      subst z2
      replace z3 := z3.symm
      subst z3
      replace z4 := z4.symm
      subst z4
      replace z5 := z5.symm
      subst z5
      refine And.intro (Or.inl rfl) ?_
      exact ⟨Or.inr rfl, ⟨rfl, rfl, rfl, rfl, Or.inr (Or.inr (Or.inr ⟨hok, hl, hb, rfl, rfl⟩))⟩, Nat.le_of_ble_eq_true rfl, Nat.le_of_ble_eq_true rfl⟩
    refine mj_go z_R_takeSizes [83, 113, 120] 60 ?_
    refine And.intro h0 (Exists.intro _ (And.intro r4 ?_))
    refine Exists.intro _ (Exists.intro (0) (And.intro a2 (And.intro (by first | (rw [mj_w_id (by omega) (by omega)]; done) | (rw [mj_w_id (by omega) (by omega)]; omega) | (unfold mj_w; omega)) (And.intro (by omega) ?_))))
    refine And.intro h0 (Exists.intro _ (And.intro r4 ?_))
    refine Exists.intro _ (Exists.intro (1) (And.intro a2 (And.intro (by first | (rw [mj_w_id (by omega) (by omega)]; done) | (rw [mj_w_id (by omega) (by omega)]; omega) | (unfold mj_w; omega)) (And.intro (by omega) ?_))))
    refine And.intro h0 (Exists.intro _ (And.intro r4 ?_))
    refine Exists.intro _ (Exists.intro (3) (And.intro a2 (And.intro (by first | (rw [mj_w_id (by omega) (by omega)]; done) | (rw [mj_w_id (by omega) (by omega)]; omega) | (unfold mj_w; omega)) (And.intro (by omega) ?_))))
    refine And.intro h0 (Exists.intro _ (And.intro r4 ?_))
    refine Exists.intro _ (Exists.intro (4) (And.intro a2 (And.intro (by first | (rw [mj_w_id (by omega) (by omega)]; done) | (rw [mj_w_id (by omega) (by omega)]; omega) | (unfold mj_w; omega)) (And.intro (by omega) ?_))))
    refine And.intro h0 (Exists.intro _ (And.intro r4 ?_))
    refine Exists.intro _ (Exists.intro (2) (And.intro a2 (And.intro (by first | (rw [mj_w_id (by omega) (by omega)]; done) | (rw [mj_w_id (by omega) (by omega)]; omega) | (unfold mj_w; omega)) (And.intro (by omega) ?_))))
    refine And.intro (fun c => ?_) (fun c => ?_)
    · simp (disch := omega) only [mj_w_id] at c
      refine And.intro (fun d1 => ?_) (fun d1 => ?_)
      · simp (disch := omega) only [mj_w_id] at d1
        exact b83 c (Or.inl (Or.inl d1))
      · simp (disch := omega) only [mj_w_id] at d1
        refine And.intro (fun d2 => ?_) (fun d2 => ?_)
        · simp (disch := omega) only [mj_w_id] at d2
          exact b83 c (Or.inl (Or.inr (Or.inl d2)))
        · simp (disch := omega) only [mj_w_id] at d2
          refine And.intro (fun d3 => ?_) (fun d3 => ?_)
          · simp (disch := omega) only [mj_w_id] at d3
            exact b83 c (Or.inl (Or.inr (Or.inr (Or.inl d3))))
          · simp (disch := omega) only [mj_w_id] at d3
            refine And.intro (fun d4 => ?_) (fun d4 => ?_)
            · simp (disch := omega) only [mj_w_id] at d4
              refine Exists.intro (J (r + 2) 1 + J (r + 2) 4) (And.intro (by first | (rw [mj_w_id (by omega) (by omega)]; done) | (rw [mj_w_id (by omega) (by omega)]; omega) | (unfold mj_w; omega)) ?_)
              refine And.intro (fun e1 => ?_) (fun e1 => ?_)
              · simp (disch := omega) only [mj_w_id] at e1
                exact b113 c (Or.inr (Or.inl e1))
              · simp (disch := omega) only [mj_w_id] at e1
                refine And.intro h0 ?_
                refine And.intro (fun e2 => ?_) (fun e2 => ?_)
                · simp (disch := omega) only [mj_w_id] at e2
                  exact g120 c (by unfold rd_bs; omega)
                · simp (disch := omega) only [mj_w_id] at e2
                  refine Exists.intro (J (r + 2) 1 + J (r + 2) 4) (And.intro (by first | (rw [mj_w_id (by omega) (by omega)]; done) | (rw [mj_w_id (by omega) (by omega)]; omega) | (unfold mj_w; omega)) ?_)
                  refine And.intro (fun e3 => ?_) (fun e3 => ?_)
                  · simp (disch := omega) only [mj_w_id] at e3
                    exact g120 c (by unfold rd_bs; omega)
                  · simp (disch := omega) only [mj_w_id] at e3
                    exact b113 c (Or.inr (Or.inr ⟨by omega, e3⟩))
            · simp (disch := omega) only [mj_w_id] at d4
              exact b83 c (Or.inl (Or.inr (Or.inr (Or.inr (by omega)))))
    · simp (disch := omega) only [mj_w_id] at c
      subst hQ
      refine And.intro h0 (And.intro (Nat.le_of_ble_eq_true rfl) (And.intro (Nat.le_of_ble_eq_true rfl) (And.intro (Nat.le_of_ble_eq_true rfl) (Exists.intro _ (And.intro (ct_R_fail hR) ?_)))))
      rintro r9 sh9 FR9 IA9 LA9 n9 ⟨z0, z1, z2, z3, z4, z5⟩
      subst z0
      replace z1 := z1.symm
      subst z1
      replace z2 := z2.symm
      subst z2
      replace z3 := z3.symm
      subst z3
      replace z4 := z4.symm
      subst z4
      replace z5 := z5.symm
      subst z5
      refine And.intro (Or.inl rfl) ?_
      exact ⟨Or.inl rfl, ⟨rfl, rfl, rfl, rfl, Or.inr (Or.inl ⟨hok, c, rfl, rfl⟩)⟩, Nat.le_of_ble_eq_true rfl, Nat.le_of_ble_eq_true rfl⟩
  refine mj_Ct_of (by decide +kernel) (by decide) (Nat.le_of_ble_eq_true rfl) ?_
  refine mj_go z_R_takeSizes [11] 60 ?_
  refine And.intro h0 (And.intro (Nat.le_of_ble_eq_true rfl) (And.intro (Nat.le_of_ble_eq_true rfl) (And.intro (Nat.le_of_ble_eq_true rfl) (Exists.intro _ (And.intro (hct) ?_)))))
  rintro r9 sh9 FR9 IA9 LA9 n9 ⟨z0, z1, z2, z3, z4, z5⟩
  subst z0
  replace z1 := z1.symm
  subst z1
  replace z2 := z2.symm
  subst z2
  replace z3 := z3.symm
  subst z3
  replace z4 := z4.symm
  subst z4
  replace z5 := z5.symm
  subst z5
  refine And.intro (Or.inl rfl) ?_
  cases ok with
  | true =>
    refine And.intro (fun c => ?_) (fun c => ?_)
    · exact cont rfl
    · exact absurd (show ¬ mj_w 1 = 0 by decide) c
  | false =>
    subst hQ
    refine And.intro (fun c => ?_) (fun c => ?_)
    · exact absurd c (show ¬ ¬ mj_w 0 = 0 by decide)
    · exact ⟨Or.inl rfl, ⟨rfl, rfl, rfl, rfl, Or.inl ⟨rfl, rfl, rfl⟩⟩, Nat.le_of_ble_eq_true rfl, Nat.le_of_ble_eq_true rfl⟩
end RR
end
