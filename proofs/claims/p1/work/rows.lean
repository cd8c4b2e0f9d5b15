section
-- ===== PART A: goes FIRST, ahead of the names: the tables' words, and 'selects' of the private methods out of them =====
/-- a private method of a class that the tables say can be made, by its rows of tables_1 -/
def lw_okq (q : MethodName × Nat) : Prop := (q.1.cls ≠ "java/lang/invoke/MethodHandle" ∧ q.1.cls ≠ "java/lang/invoke/VarHandle") ∧ Cond.instantiable q.1.cls q.2 ∈ tables_1 ∧ Cond.privateMethod q.1 ∈ tables_1 ∧ Cond.instanceMethod q.1 ∈ tables_1
theorem lw_p0 : lw_okq (⟨"SamplerLaw$Tape", "readToken", "()V"⟩, 10) := ⟨⟨by decide +kernel, by decide +kernel⟩, List.mem_of_getElem? (i := 99) (by decide +kernel), List.mem_of_getElem? (i := 243) (by decide +kernel), List.mem_of_getElem? (i := 244) (by decide +kernel)⟩
theorem lw_p1 : lw_okq (⟨"SamplerLaw$Tape", "fail", "(I)V"⟩, 10) := ⟨⟨by decide +kernel, by decide +kernel⟩, List.mem_of_getElem? (i := 99) (by decide +kernel), List.mem_of_getElem? (i := 253) (by decide +kernel), List.mem_of_getElem? (i := 254) (by decide +kernel)⟩
theorem lw_p2 : lw_okq (⟨"SamplerLaw$Tape", "readLine", "(LSamplerLaw$Charter;)V"⟩, 10) := ⟨⟨by decide +kernel, by decide +kernel⟩, List.mem_of_getElem? (i := 99) (by decide +kernel), List.mem_of_getElem? (i := 257) (by decide +kernel), List.mem_of_getElem? (i := 258) (by decide +kernel)⟩
theorem lw_p3 : lw_okq (⟨"SamplerLaw$Tape", "isName", "(Ljava/lang/String;)Z"⟩, 10) := ⟨⟨by decide +kernel, by decide +kernel⟩, List.mem_of_getElem? (i := 99) (by decide +kernel), List.mem_of_getElem? (i := 262) (by decide +kernel), List.mem_of_getElem? (i := 263) (by decide +kernel)⟩
theorem lw_p4 : lw_okq (⟨"SamplerLaw$Tape", "readRow", "(LSamplerLaw$Charter;)V"⟩, 10) := ⟨⟨by decide +kernel, by decide +kernel⟩, List.mem_of_getElem? (i := 99) (by decide +kernel), List.mem_of_getElem? (i := 314) (by decide +kernel), List.mem_of_getElem? (i := 315) (by decide +kernel)⟩
theorem lw_p5 : lw_okq (⟨"SamplerLaw$Tape", "takeNumber", "(II)I"⟩, 10) := ⟨⟨by decide +kernel, by decide +kernel⟩, List.mem_of_getElem? (i := 99) (by decide +kernel), List.mem_of_getElem? (i := 318) (by decide +kernel), List.mem_of_getElem? (i := 319) (by decide +kernel)⟩
theorem lw_p6 : lw_okq (⟨"SamplerLaw$Tape", "takeCell", "(LSamplerLaw$Charter;II)V"⟩, 10) := ⟨⟨by decide +kernel, by decide +kernel⟩, List.mem_of_getElem? (i := 99) (by decide +kernel), List.mem_of_getElem? (i := 322) (by decide +kernel), List.mem_of_getElem? (i := 323) (by decide +kernel)⟩
theorem lw_p7 : lw_okq (⟨"SamplerLaw$Charter", "tallyAround", "(II)V"⟩, 11) := ⟨⟨by decide +kernel, by decide +kernel⟩, List.mem_of_getElem? (i := 24) (by decide +kernel), List.mem_of_getElem? (i := 330) (by decide +kernel), List.mem_of_getElem? (i := 331) (by decide +kernel)⟩
theorem lw_p8 : lw_okq (⟨"SamplerLaw$Tape", "readThread", "(LSamplerLaw$Charter;)V"⟩, 10) := ⟨⟨by decide +kernel, by decide +kernel⟩, List.mem_of_getElem? (i := 99) (by decide +kernel), List.mem_of_getElem? (i := 335) (by decide +kernel), List.mem_of_getElem? (i := 336) (by decide +kernel)⟩
theorem lw_p9 : lw_okq (⟨"SamplerLaw$Tape", "takeStop", "()V"⟩, 10) := ⟨⟨by decide +kernel, by decide +kernel⟩, List.mem_of_getElem? (i := 99) (by decide +kernel), List.mem_of_getElem? (i := 339) (by decide +kernel), List.mem_of_getElem? (i := 340) (by decide +kernel)⟩
theorem lw_p10 : lw_okq (⟨"SamplerLaw$Tape", "readLaw", "(LSamplerLaw$Charter;I)V"⟩, 10) := ⟨⟨by decide +kernel, by decide +kernel⟩, List.mem_of_getElem? (i := 99) (by decide +kernel), List.mem_of_getElem? (i := 344) (by decide +kernel), List.mem_of_getElem? (i := 345) (by decide +kernel)⟩
theorem lw_p11 : lw_okq (⟨"SamplerLaw", "isLaw", "(I)Z"⟩, 17) := ⟨⟨by decide +kernel, by decide +kernel⟩, List.mem_of_getElem? (i := 16) (by decide +kernel), List.mem_of_getElem? (i := 411) (by decide +kernel), List.mem_of_getElem? (i := 412) (by decide +kernel)⟩
theorem lw_p12 : lw_okq (⟨"SamplerLaw", "followPlan", "(I)V"⟩, 17) := ⟨⟨by decide +kernel, by decide +kernel⟩, List.mem_of_getElem? (i := 16) (by decide +kernel), List.mem_of_getElem? (i := 478) (by decide +kernel), List.mem_of_getElem? (i := 479) (by decide +kernel)⟩
theorem lw_p13 : lw_okq (⟨"SamplerLaw", "fewestToHold", "(I)I"⟩, 17) := ⟨⟨by decide +kernel, by decide +kernel⟩, List.mem_of_getElem? (i := 16) (by decide +kernel), List.mem_of_getElem? (i := 518) (by decide +kernel), List.mem_of_getElem? (i := 519) (by decide +kernel)⟩
theorem lw_p14 : lw_okq (⟨"SamplerLaw", "holdsByOne", "(I)Z"⟩, 17) := ⟨⟨by decide +kernel, by decide +kernel⟩, List.mem_of_getElem? (i := 16) (by decide +kernel), List.mem_of_getElem? (i := 522) (by decide +kernel), List.mem_of_getElem? (i := 523) (by decide +kernel)⟩
theorem lw_p15 : lw_okq (⟨"SamplerLaw", "holdsByStitchAt", "(III)Z"⟩, 17) := ⟨⟨by decide +kernel, by decide +kernel⟩, List.mem_of_getElem? (i := 16) (by decide +kernel), List.mem_of_getElem? (i := 529) (by decide +kernel), List.mem_of_getElem? (i := 530) (by decide +kernel)⟩
def lw_privs_1 : List (MethodName × Nat) := [(⟨"SamplerLaw$Tape", "readToken", "()V"⟩, 10), (⟨"SamplerLaw$Tape", "fail", "(I)V"⟩, 10), (⟨"SamplerLaw$Tape", "readLine", "(LSamplerLaw$Charter;)V"⟩, 10), (⟨"SamplerLaw$Tape", "isName", "(Ljava/lang/String;)Z"⟩, 10), (⟨"SamplerLaw$Tape", "readRow", "(LSamplerLaw$Charter;)V"⟩, 10), (⟨"SamplerLaw$Tape", "takeNumber", "(II)I"⟩, 10), (⟨"SamplerLaw$Tape", "takeCell", "(LSamplerLaw$Charter;II)V"⟩, 10), (⟨"SamplerLaw$Charter", "tallyAround", "(II)V"⟩, 11), (⟨"SamplerLaw$Tape", "readThread", "(LSamplerLaw$Charter;)V"⟩, 10), (⟨"SamplerLaw$Tape", "takeStop", "()V"⟩, 10), (⟨"SamplerLaw$Tape", "readLaw", "(LSamplerLaw$Charter;I)V"⟩, 10), (⟨"SamplerLaw", "isLaw", "(I)Z"⟩, 17), (⟨"SamplerLaw", "followPlan", "(I)V"⟩, 17), (⟨"SamplerLaw", "fewestToHold", "(I)I"⟩, 17), (⟨"SamplerLaw", "holdsByOne", "(I)Z"⟩, 17), (⟨"SamplerLaw", "holdsByStitchAt", "(III)Z"⟩, 17)]
theorem lw_r1 : ∀ q ∈ lw_privs_1, lw_okq q := List.forall_mem_cons.mpr ⟨lw_p0, List.forall_mem_cons.mpr ⟨lw_p1, List.forall_mem_cons.mpr ⟨lw_p2, List.forall_mem_cons.mpr ⟨lw_p3, List.forall_mem_cons.mpr ⟨lw_p4, List.forall_mem_cons.mpr ⟨lw_p5, List.forall_mem_cons.mpr ⟨lw_p6, List.forall_mem_cons.mpr ⟨lw_p7, List.forall_mem_cons.mpr ⟨lw_p8, List.forall_mem_cons.mpr ⟨lw_p9, List.forall_mem_cons.mpr ⟨lw_p10, List.forall_mem_cons.mpr ⟨lw_p11, List.forall_mem_cons.mpr ⟨lw_p12, List.forall_mem_cons.mpr ⟨lw_p13, List.forall_mem_cons.mpr ⟨lw_p14, List.forall_mem_cons.mpr ⟨lw_p15, fun _ h => absurd h List.not_mem_nil⟩⟩⟩⟩⟩⟩⟩⟩⟩⟩⟩⟩⟩⟩⟩⟩
theorem lw_p16 : lw_okq (⟨"SamplerLaw", "holdsByTwo", "(I)Z"⟩, 17) := ⟨⟨by decide +kernel, by decide +kernel⟩, List.mem_of_getElem? (i := 16) (by decide +kernel), List.mem_of_getElem? (i := 533) (by decide +kernel), List.mem_of_getElem? (i := 534) (by decide +kernel)⟩
theorem lw_p17 : lw_okq (⟨"SamplerLaw", "gatherRunners", "()Z"⟩, 17) := ⟨⟨by decide +kernel, by decide +kernel⟩, List.mem_of_getElem? (i := 16) (by decide +kernel), List.mem_of_getElem? (i := 570) (by decide +kernel), List.mem_of_getElem? (i := 571) (by decide +kernel)⟩
theorem lw_p18 : lw_okq (⟨"SamplerLaw", "letRun", "(I)V"⟩, 17) := ⟨⟨by decide +kernel, by decide +kernel⟩, List.mem_of_getElem? (i := 16) (by decide +kernel), List.mem_of_getElem? (i := 583) (by decide +kernel), List.mem_of_getElem? (i := 584) (by decide +kernel)⟩
theorem lw_p19 : lw_okq (⟨"SamplerLaw", "weight", "(II)J"⟩, 17) := ⟨⟨by decide +kernel, by decide +kernel⟩, List.mem_of_getElem? (i := 16) (by decide +kernel), List.mem_of_getElem? (i := 587) (by decide +kernel), List.mem_of_getElem? (i := 588) (by decide +kernel)⟩
theorem lw_p20 : lw_okq (⟨"SamplerLaw", "fractionPart", "(JI)J"⟩, 17) := ⟨⟨by decide +kernel, by decide +kernel⟩, List.mem_of_getElem? (i := 16) (by decide +kernel), List.mem_of_getElem? (i := 591) (by decide +kernel), List.mem_of_getElem? (i := 592) (by decide +kernel)⟩
theorem lw_p21 : lw_okq (⟨"SamplerLaw", "gatherHoles", "()Z"⟩, 17) := ⟨⟨by decide +kernel, by decide +kernel⟩, List.mem_of_getElem? (i := 16) (by decide +kernel), List.mem_of_getElem? (i := 618) (by decide +kernel), List.mem_of_getElem? (i := 619) (by decide +kernel)⟩
theorem lw_p22 : lw_okq (⟨"SamplerLaw", "fillCount", "()I"⟩, 17) := ⟨⟨by decide +kernel, by decide +kernel⟩, List.mem_of_getElem? (i := 16) (by decide +kernel), List.mem_of_getElem? (i := 622) (by decide +kernel), List.mem_of_getElem? (i := 623) (by decide +kernel)⟩
theorem lw_p23 : lw_okq (⟨"SamplerLaw", "fits", "(I)Z"⟩, 17) := ⟨⟨by decide +kernel, by decide +kernel⟩, List.mem_of_getElem? (i := 16) (by decide +kernel), List.mem_of_getElem? (i := 626) (by decide +kernel), List.mem_of_getElem? (i := 627) (by decide +kernel)⟩
theorem lw_p24 : lw_okq (⟨"SamplerLaw", "groupByReads", "()I"⟩, 17) := ⟨⟨by decide +kernel, by decide +kernel⟩, List.mem_of_getElem? (i := 16) (by decide +kernel), List.mem_of_getElem? (i := 648) (by decide +kernel), List.mem_of_getElem? (i := 649) (by decide +kernel)⟩
theorem lw_p25 : lw_okq (⟨"SamplerLaw", "largestGroup", "(I)I"⟩, 17) := ⟨⟨by decide +kernel, by decide +kernel⟩, List.mem_of_getElem? (i := 16) (by decide +kernel), List.mem_of_getElem? (i := 653) (by decide +kernel), List.mem_of_getElem? (i := 654) (by decide +kernel)⟩
theorem lw_p26 : lw_okq (⟨"SamplerLaw", "driftOnce", "(I)V"⟩, 17) := ⟨⟨by decide +kernel, by decide +kernel⟩, List.mem_of_getElem? (i := 16) (by decide +kernel), List.mem_of_getElem? (i := 662) (by decide +kernel), List.mem_of_getElem? (i := 663) (by decide +kernel)⟩
theorem lw_p27 : lw_okq (⟨"SamplerLaw", "workFrom", "(LSamplerLaw$Sheet;I)Z"⟩, 17) := ⟨⟨by decide +kernel, by decide +kernel⟩, List.mem_of_getElem? (i := 16) (by decide +kernel), List.mem_of_getElem? (i := 710) (by decide +kernel), List.mem_of_getElem? (i := 711) (by decide +kernel)⟩
theorem lw_p28 : lw_okq (⟨"SamplerLawModel", "step", "()V"⟩, 31) := ⟨⟨by decide +kernel, by decide +kernel⟩, List.mem_of_getElem? (i := 722) (by decide +kernel), List.mem_of_getElem? (i := 839) (by decide +kernel), List.mem_of_getElem? (i := 840) (by decide +kernel)⟩
theorem lw_p29 : lw_okq (⟨"SamplerLawModel", "byteAt", "(I)I"⟩, 31) := ⟨⟨by decide +kernel, by decide +kernel⟩, List.mem_of_getElem? (i := 722) (by decide +kernel), List.mem_of_getElem? (i := 843) (by decide +kernel), List.mem_of_getElem? (i := 844) (by decide +kernel)⟩
theorem lw_p30 : lw_okq (⟨"SamplerLawModel", "fails", "(I)V"⟩, 31) := ⟨⟨by decide +kernel, by decide +kernel⟩, List.mem_of_getElem? (i := 722) (by decide +kernel), List.mem_of_getElem? (i := 851) (by decide +kernel), List.mem_of_getElem? (i := 852) (by decide +kernel)⟩
theorem lw_p31 : lw_okq (⟨"SamplerLawModel", "readLine", "()V"⟩, 31) := ⟨⟨by decide +kernel, by decide +kernel⟩, List.mem_of_getElem? (i := 722) (by decide +kernel), List.mem_of_getElem? (i := 855) (by decide +kernel), List.mem_of_getElem? (i := 856) (by decide +kernel)⟩
def lw_privs_2 : List (MethodName × Nat) := [(⟨"SamplerLaw", "holdsByTwo", "(I)Z"⟩, 17), (⟨"SamplerLaw", "gatherRunners", "()Z"⟩, 17), (⟨"SamplerLaw", "letRun", "(I)V"⟩, 17), (⟨"SamplerLaw", "weight", "(II)J"⟩, 17), (⟨"SamplerLaw", "fractionPart", "(JI)J"⟩, 17), (⟨"SamplerLaw", "gatherHoles", "()Z"⟩, 17), (⟨"SamplerLaw", "fillCount", "()I"⟩, 17), (⟨"SamplerLaw", "fits", "(I)Z"⟩, 17), (⟨"SamplerLaw", "groupByReads", "()I"⟩, 17), (⟨"SamplerLaw", "largestGroup", "(I)I"⟩, 17), (⟨"SamplerLaw", "driftOnce", "(I)V"⟩, 17), (⟨"SamplerLaw", "workFrom", "(LSamplerLaw$Sheet;I)Z"⟩, 17), (⟨"SamplerLawModel", "step", "()V"⟩, 31), (⟨"SamplerLawModel", "byteAt", "(I)I"⟩, 31), (⟨"SamplerLawModel", "fails", "(I)V"⟩, 31), (⟨"SamplerLawModel", "readLine", "()V"⟩, 31)]
theorem lw_r2 : ∀ q ∈ lw_privs_2, lw_okq q := List.forall_mem_cons.mpr ⟨lw_p16, List.forall_mem_cons.mpr ⟨lw_p17, List.forall_mem_cons.mpr ⟨lw_p18, List.forall_mem_cons.mpr ⟨lw_p19, List.forall_mem_cons.mpr ⟨lw_p20, List.forall_mem_cons.mpr ⟨lw_p21, List.forall_mem_cons.mpr ⟨lw_p22, List.forall_mem_cons.mpr ⟨lw_p23, List.forall_mem_cons.mpr ⟨lw_p24, List.forall_mem_cons.mpr ⟨lw_p25, List.forall_mem_cons.mpr ⟨lw_p26, List.forall_mem_cons.mpr ⟨lw_p27, List.forall_mem_cons.mpr ⟨lw_p28, List.forall_mem_cons.mpr ⟨lw_p29, List.forall_mem_cons.mpr ⟨lw_p30, List.forall_mem_cons.mpr ⟨lw_p31, fun _ h => absurd h List.not_mem_nil⟩⟩⟩⟩⟩⟩⟩⟩⟩⟩⟩⟩⟩⟩⟩⟩
theorem lw_p32 : lw_okq (⟨"SamplerLawModel", "nameHere", "()I"⟩, 31) := ⟨⟨by decide +kernel, by decide +kernel⟩, List.mem_of_getElem? (i := 722) (by decide +kernel), List.mem_of_getElem? (i := 859) (by decide +kernel), List.mem_of_getElem? (i := 860) (by decide +kernel)⟩
theorem lw_p33 : lw_okq (⟨"SamplerLawModel", "readMore", "(I)V"⟩, 31) := ⟨⟨by decide +kernel, by decide +kernel⟩, List.mem_of_getElem? (i := 722) (by decide +kernel), List.mem_of_getElem? (i := 864) (by decide +kernel), List.mem_of_getElem? (i := 865) (by decide +kernel)⟩
theorem lw_p34 : lw_okq (⟨"SamplerLawModel", "other", "(III)I"⟩, 31) := ⟨⟨by decide +kernel, by decide +kernel⟩, List.mem_of_getElem? (i := 722) (by decide +kernel), List.mem_of_getElem? (i := 868) (by decide +kernel), List.mem_of_getElem? (i := 869) (by decide +kernel)⟩
theorem lw_p35 : lw_okq (⟨"SamplerLawModel", "readRow", "()V"⟩, 31) := ⟨⟨by decide +kernel, by decide +kernel⟩, List.mem_of_getElem? (i := 722) (by decide +kernel), List.mem_of_getElem? (i := 872) (by decide +kernel), List.mem_of_getElem? (i := 873) (by decide +kernel)⟩
theorem lw_p36 : lw_okq (⟨"SamplerLawModel", "holesOn", "(I)I"⟩, 31) := ⟨⟨by decide +kernel, by decide +kernel⟩, List.mem_of_getElem? (i := 722) (by decide +kernel), List.mem_of_getElem? (i := 888) (by decide +kernel), List.mem_of_getElem? (i := 889) (by decide +kernel)⟩
theorem lw_p37 : lw_okq (⟨"SamplerLawModel", "heldOn", "(I)I"⟩, 31) := ⟨⟨by decide +kernel, by decide +kernel⟩, List.mem_of_getElem? (i := 722) (by decide +kernel), List.mem_of_getElem? (i := 892) (by decide +kernel), List.mem_of_getElem? (i := 893) (by decide +kernel)⟩
theorem lw_p38 : lw_okq (⟨"SamplerLawModel", "readsOn", "(IIZ)I"⟩, 31) := ⟨⟨by decide +kernel, by decide +kernel⟩, List.mem_of_getElem? (i := 722) (by decide +kernel), List.mem_of_getElem? (i := 896) (by decide +kernel), List.mem_of_getElem? (i := 897) (by decide +kernel)⟩
theorem lw_p39 : lw_okq (⟨"SamplerLawModel", "besideOn", "(III)I"⟩, 31) := ⟨⟨by decide +kernel, by decide +kernel⟩, List.mem_of_getElem? (i := 722) (by decide +kernel), List.mem_of_getElem? (i := 900) (by decide +kernel), List.mem_of_getElem? (i := 901) (by decide +kernel)⟩
theorem lw_p40 : lw_okq (⟨"SamplerLawModel", "aboveOn", "(III)I"⟩, 31) := ⟨⟨by decide +kernel, by decide +kernel⟩, List.mem_of_getElem? (i := 722) (by decide +kernel), List.mem_of_getElem? (i := 904) (by decide +kernel), List.mem_of_getElem? (i := 905) (by decide +kernel)⟩
theorem lw_p41 : lw_okq (⟨"SamplerLawModel", "worthOn", "(I)I"⟩, 31) := ⟨⟨by decide +kernel, by decide +kernel⟩, List.mem_of_getElem? (i := 722) (by decide +kernel), List.mem_of_getElem? (i := 908) (by decide +kernel), List.mem_of_getElem? (i := 909) (by decide +kernel)⟩
theorem lw_p42 : lw_okq (⟨"SamplerLawModel", "isLaw", "(I)Z"⟩, 31) := ⟨⟨by decide +kernel, by decide +kernel⟩, List.mem_of_getElem? (i := 722) (by decide +kernel), List.mem_of_getElem? (i := 927) (by decide +kernel), List.mem_of_getElem? (i := 928) (by decide +kernel)⟩
theorem lw_p43 : lw_okq (⟨"SamplerLawModel", "puts", "(ZIII)I"⟩, 31) := ⟨⟨by decide +kernel, by decide +kernel⟩, List.mem_of_getElem? (i := 722) (by decide +kernel), List.mem_of_getElem? (i := 941) (by decide +kernel), List.mem_of_getElem? (i := 942) (by decide +kernel)⟩
theorem lw_p44 : lw_okq (⟨"SamplerLawModel", "works", "(III)I"⟩, 31) := ⟨⟨by decide +kernel, by decide +kernel⟩, List.mem_of_getElem? (i := 722) (by decide +kernel), List.mem_of_getElem? (i := 966) (by decide +kernel), List.mem_of_getElem? (i := 967) (by decide +kernel)⟩
theorem lw_p45 : lw_okq (⟨"SamplerLawModel", "stitchesOn", "(III)Z"⟩, 31) := ⟨⟨by decide +kernel, by decide +kernel⟩, List.mem_of_getElem? (i := 722) (by decide +kernel), List.mem_of_getElem? (i := 970) (by decide +kernel), List.mem_of_getElem? (i := 971) (by decide +kernel)⟩
theorem lw_p46 : lw_okq (⟨"SamplerLawModel", "planGoes", "(I)V"⟩, 31) := ⟨⟨by decide +kernel, by decide +kernel⟩, List.mem_of_getElem? (i := 722) (by decide +kernel), List.mem_of_getElem? (i := 990) (by decide +kernel), List.mem_of_getElem? (i := 991) (by decide +kernel)⟩
theorem lw_p47 : lw_okq (⟨"SamplerLawModel", "copies", "(II)V"⟩, 31) := ⟨⟨by decide +kernel, by decide +kernel⟩, List.mem_of_getElem? (i := 722) (by decide +kernel), List.mem_of_getElem? (i := 994) (by decide +kernel), List.mem_of_getElem? (i := 995) (by decide +kernel)⟩
def lw_privs_3 : List (MethodName × Nat) := [(⟨"SamplerLawModel", "nameHere", "()I"⟩, 31), (⟨"SamplerLawModel", "readMore", "(I)V"⟩, 31), (⟨"SamplerLawModel", "other", "(III)I"⟩, 31), (⟨"SamplerLawModel", "readRow", "()V"⟩, 31), (⟨"SamplerLawModel", "holesOn", "(I)I"⟩, 31), (⟨"SamplerLawModel", "heldOn", "(I)I"⟩, 31), (⟨"SamplerLawModel", "readsOn", "(IIZ)I"⟩, 31), (⟨"SamplerLawModel", "besideOn", "(III)I"⟩, 31), (⟨"SamplerLawModel", "aboveOn", "(III)I"⟩, 31), (⟨"SamplerLawModel", "worthOn", "(I)I"⟩, 31), (⟨"SamplerLawModel", "isLaw", "(I)Z"⟩, 31), (⟨"SamplerLawModel", "puts", "(ZIII)I"⟩, 31), (⟨"SamplerLawModel", "works", "(III)I"⟩, 31), (⟨"SamplerLawModel", "stitchesOn", "(III)Z"⟩, 31), (⟨"SamplerLawModel", "planGoes", "(I)V"⟩, 31), (⟨"SamplerLawModel", "copies", "(II)V"⟩, 31)]
theorem lw_r3 : ∀ q ∈ lw_privs_3, lw_okq q := List.forall_mem_cons.mpr ⟨lw_p32, List.forall_mem_cons.mpr ⟨lw_p33, List.forall_mem_cons.mpr ⟨lw_p34, List.forall_mem_cons.mpr ⟨lw_p35, List.forall_mem_cons.mpr ⟨lw_p36, List.forall_mem_cons.mpr ⟨lw_p37, List.forall_mem_cons.mpr ⟨lw_p38, List.forall_mem_cons.mpr ⟨lw_p39, List.forall_mem_cons.mpr ⟨lw_p40, List.forall_mem_cons.mpr ⟨lw_p41, List.forall_mem_cons.mpr ⟨lw_p42, List.forall_mem_cons.mpr ⟨lw_p43, List.forall_mem_cons.mpr ⟨lw_p44, List.forall_mem_cons.mpr ⟨lw_p45, List.forall_mem_cons.mpr ⟨lw_p46, List.forall_mem_cons.mpr ⟨lw_p47, fun _ h => absurd h List.not_mem_nil⟩⟩⟩⟩⟩⟩⟩⟩⟩⟩⟩⟩⟩⟩⟩⟩
theorem lw_p48 : lw_okq (⟨"SamplerLawModel", "stitchesBy", "(II)Z"⟩, 31) := ⟨⟨by decide +kernel, by decide +kernel⟩, List.mem_of_getElem? (i := 722) (by decide +kernel), List.mem_of_getElem? (i := 1006) (by decide +kernel), List.mem_of_getElem? (i := 1007) (by decide +kernel)⟩
theorem lw_p49 : lw_okq (⟨"SamplerLawModel", "isMore", "(I)Z"⟩, 31) := ⟨⟨by decide +kernel, by decide +kernel⟩, List.mem_of_getElem? (i := 722) (by decide +kernel), List.mem_of_getElem? (i := 1010) (by decide +kernel), List.mem_of_getElem? (i := 1011) (by decide +kernel)⟩
theorem lw_p50 : lw_okq (⟨"SamplerLawModel", "isHeldBy", "(II)Z"⟩, 31) := ⟨⟨by decide +kernel, by decide +kernel⟩, List.mem_of_getElem? (i := 722) (by decide +kernel), List.mem_of_getElem? (i := 1020) (by decide +kernel), List.mem_of_getElem? (i := 1021) (by decide +kernel)⟩
theorem lw_p51 : lw_okq (⟨"SamplerLawModel", "laysRunning", "()I"⟩, 31) := ⟨⟨by decide +kernel, by decide +kernel⟩, List.mem_of_getElem? (i := 722) (by decide +kernel), List.mem_of_getElem? (i := 1045) (by decide +kernel), List.mem_of_getElem? (i := 1046) (by decide +kernel)⟩
theorem lw_p52 : lw_okq (⟨"SamplerLawModel", "byRuns", "(III)J"⟩, 31) := ⟨⟨by decide +kernel, by decide +kernel⟩, List.mem_of_getElem? (i := 722) (by decide +kernel), List.mem_of_getElem? (i := 1050) (by decide +kernel), List.mem_of_getElem? (i := 1051) (by decide +kernel)⟩
theorem lw_p53 : lw_okq (⟨"SamplerLawModel", "isTooMany", "()Z"⟩, 31) := ⟨⟨by decide +kernel, by decide +kernel⟩, List.mem_of_getElem? (i := 722) (by decide +kernel), List.mem_of_getElem? (i := 1074) (by decide +kernel), List.mem_of_getElem? (i := 1075) (by decide +kernel)⟩
theorem lw_p54 : lw_okq (⟨"SamplerLawModel", "fillMany", "()I"⟩, 31) := ⟨⟨by decide +kernel, by decide +kernel⟩, List.mem_of_getElem? (i := 722) (by decide +kernel), List.mem_of_getElem? (i := 1078) (by decide +kernel), List.mem_of_getElem? (i := 1079) (by decide +kernel)⟩
theorem lw_p55 : lw_okq (⟨"SamplerLawModel", "isFit", "(I)Z"⟩, 31) := ⟨⟨by decide +kernel, by decide +kernel⟩, List.mem_of_getElem? (i := 722) (by decide +kernel), List.mem_of_getElem? (i := 1082) (by decide +kernel), List.mem_of_getElem? (i := 1083) (by decide +kernel)⟩
theorem lw_p56 : lw_okq (⟨"SamplerLawModel", "worstOf", "(I)I"⟩, 31) := ⟨⟨by decide +kernel, by decide +kernel⟩, List.mem_of_getElem? (i := 722) (by decide +kernel), List.mem_of_getElem? (i := 1099) (by decide +kernel), List.mem_of_getElem? (i := 1100) (by decide +kernel)⟩
def lw_privs_4 : List (MethodName × Nat) := [(⟨"SamplerLawModel", "stitchesBy", "(II)Z"⟩, 31), (⟨"SamplerLawModel", "isMore", "(I)Z"⟩, 31), (⟨"SamplerLawModel", "isHeldBy", "(II)Z"⟩, 31), (⟨"SamplerLawModel", "laysRunning", "()I"⟩, 31), (⟨"SamplerLawModel", "byRuns", "(III)J"⟩, 31), (⟨"SamplerLawModel", "isTooMany", "()Z"⟩, 31), (⟨"SamplerLawModel", "fillMany", "()I"⟩, 31), (⟨"SamplerLawModel", "isFit", "(I)Z"⟩, 31), (⟨"SamplerLawModel", "worstOf", "(I)I"⟩, 31)]
theorem lw_r4 : ∀ q ∈ lw_privs_4, lw_okq q := List.forall_mem_cons.mpr ⟨lw_p48, List.forall_mem_cons.mpr ⟨lw_p49, List.forall_mem_cons.mpr ⟨lw_p50, List.forall_mem_cons.mpr ⟨lw_p51, List.forall_mem_cons.mpr ⟨lw_p52, List.forall_mem_cons.mpr ⟨lw_p53, List.forall_mem_cons.mpr ⟨lw_p54, List.forall_mem_cons.mpr ⟨lw_p55, List.forall_mem_cons.mpr ⟨lw_p56, fun _ h => absurd h List.not_mem_nil⟩⟩⟩⟩⟩⟩⟩⟩⟩
def lw_privs : List (MethodName × Nat) := lw_privs_1 ++ (lw_privs_2 ++ (lw_privs_3 ++ (lw_privs_4)))
def lw_tbl : List Cond := k2_sels lw_privs ++ tables_1
theorem lw_privs_ok : ∀ q ∈ lw_privs, lw_okq q := by
  show ∀ q ∈ lw_privs_1 ++ (lw_privs_2 ++ (lw_privs_3 ++ (lw_privs_4))), lw_okq q
  exact List.forall_mem_append.mpr ⟨lw_r1, List.forall_mem_append.mpr ⟨lw_r2, List.forall_mem_append.mpr ⟨lw_r3, lw_r4⟩⟩⟩
end
section
/-! THE ABSTRACT MACHINE: ints as Int, cells by number, code as blocks of rows; K says what holds at the labels -/
abbrev mVal : Type := Int ⊕ Int ⊕ Nat ⊕ Nat
abbrev vi (z : Int) : mVal := .inl z
abbrev vl (z : Int) : mVal := .inr (.inl z)
abbrev vr (k : Nat) : mVal := .inr (.inr (.inl k))
abbrev vs (k : Nat) : mVal := .inr (.inr (.inr k))
abbrev mSh : Type := List (Nat × Nat) × List ((Nat × Nat) × Nat)
abbrev mMem : Type := Nat → Int → Int
abbrev mHp : Type := mSh × mMem
abbrev mLV : Type := List (Nat × mVal)
abbrev mRow : Type := Instr × Nat × Nat × Nat × Int × List Nat
abbrev mCal : Type := Nat → List mVal → mHp → Option mVal × mHp → Prop
def w32 (z : Int) : Int := (z + 2147483648) % 4294967296 - 2147483648
def w64 (z : Int) : Int := (z + 9223372036854775808) % 18446744073709551616 - 9223372036854775808
def w8 (z : Int) : Int := (z + 128) % 256 - 128
def w16 (z : Int) : Int := (z + 32768) % 65536 - 32768
def jand (a b : Int) : Int := (Int32.ofInt a &&& Int32.ofInt b).toInt
def jor (a b : Int) : Int := (Int32.ofInt a ||| Int32.ofInt b).toInt
def jshl (a b : Int) : Int := (Int32.ofInt a <<< (Int32.ofInt b &&& 31)).toInt
def jshr (a b : Int) : Int := (Int32.ofInt a >>> (Int32.ofInt b &&& 31)).toInt
def jushr (a b : Int) : Int := ((Int32.ofInt a).toUInt32 >>> ((Int32.ofInt b).toUInt32 &&& Int32.toUInt32 31)).toInt32.toInt
def jdiv (a b : Int) : Int := w32 (a.tdiv b)
def jrem (a b : Int) : Int := a.tmod b
def jldiv (a b : Int) : Int := w64 (a.tdiv b)
def jlrem (a b : Int) : Int := a.tmod b
def jlcmp (a b : Int) : Int := if a < b then -1 else if a = b then 0 else 1
def mupd (m : mMem) (k : Nat) (i v : Int) : mMem := fun k' i' => if k' = k ∧ i' = i then v else m k' i'
def mzero (m : mMem) (k : Nat) : mMem := fun k' i' => if k' = k then 0 else m k' i'
def mcpy (m : mMem) (s : Nat) (sp : Int) (d : Nat) (dp n : Int) : mMem := fun k i => if k = d ∧ dp ≤ i ∧ i < dp + n then m s (sp + (i - dp)) else m k i
def mcat (v : mVal) : Nat := match v with
  | .inr (.inl _) => 2
  | _ => 1
def mtot (l : List (Nat × Nat)) : Nat := (l.map fun q => q.2).sum
def lset (i : Nat) (v : mVal) (lv : mLV) : mLV := (i, v) :: lv.filter (fun q => !(q.1 == i) && !(q.1 + 1 == i && mcat q.2 == 2))
def lset2 (i : Nat) (v : mVal) (lv : mLV) : mLV := (i, v) :: lv.filter (fun q => !(q.1 == i) && (!(q.1 == i + 1) && !(q.1 + 1 == i && mcat q.2 == 2)))
def lpick (lb : List (Nat × List Nat)) (t : Nat) (lv : mLV) : mLV := ((lb.lookup t).getD []).filterMap fun i => (lv.lookup i).map fun v => (i, v)
def mcmp (c : Jvm.ClassFile.Cond) (x y : Int) : Prop := match c with
  | .eq => x = y
  | .ne => x ≠ y
  | .lt => x < y
  | .ge => y ≤ x
  | .gt => y < x
  | .le => x ≤ y
def mI (st : List mVal) (k : Int → List mVal → Prop) : Prop := match st with
  | .inl x :: r => k x r
  | _ => False
def mL (st : List mVal) (k : Int → List mVal → Prop) : Prop := match st with
  | .inr (.inl x) :: r => k x r
  | _ => False
def mR (st : List mVal) (k : Nat → List mVal → Prop) : Prop := match st with
  | .inr (.inr (.inl x)) :: r => k x r
  | _ => False
def mA (st : List mVal) (k : mVal → List mVal → Prop) : Prop := match st with
  | x :: r => k x r
  | _ => False
def lget (lv : mLV) (i : Nat) (k : mVal → Prop) : Prop := match lv.lookup i with
  | some v => k v
  | none => False
def lgetI (lv : mLV) (i : Nat) (k : Int → Prop) : Prop := match lv.lookup i with
  | some (.inl v) => k v
  | _ => False
def lgetL (lv : mLV) (i : Nat) (k : Int → Prop) : Prop := match lv.lookup i with
  | some (.inr (.inl v)) => k v
  | _ => False
def lgetA (lv : mLV) (i : Nat) (k : Nat ⊕ Nat → Prop) : Prop := match lv.lookup i with
  | some (.inr (.inr v)) => k v
  | _ => False
/-- the cell k is of that tag (0 ints, 1 booleans, 2 references, 3 and more objects): its length -/
def mTag (sh : mSh) (k t : Nat) (c : Nat → Prop) : Prop := match sh.1[k]? with
  | some (t', n) => bif t' == t then c n else False
  | none => False
def mRef (sh : mSh) (k j : Nat) (c : Nat → Prop) : Prop := match sh.2.lookup (k, j) with
  | some t => c t
  | none => False
def mB (b : Bool) (p : Prop) : Prop := bif b then p else False
/-- the place i is one of n -/
def mIn (i : Int) (n : Nat) (p : Prop) : Prop := bif decide (0 ≤ i) && decide (i < (n : Int)) then p else False
def mBo (v : Int) (p : Prop) : Prop := bif decide (v = 0) || decide (v = 1) then p else False
theorem mIn_i {i : Int} {n : Nat} {p : Prop} (h0 : 0 ≤ i) (h1 : i < (n : Int)) (hp : p) : mIn i n p := by simp [mIn, h0, h1, hp]
theorem mIn_e {i : Int} {n : Nat} {p : Prop} (h : mIn i n p) : (0 ≤ i ∧ i < (n : Int)) ∧ p := by
  unfold mIn at h
  by_cases h0 : 0 ≤ i <;> by_cases h1 : i < (n : Int) <;> simp_all
theorem mBo_i {v : Int} {p : Prop} (h : v = 0 ∨ v = 1) (hp : p) : mBo v p := by rcases h with h | h <;> simp [mBo, h, hp]
theorem mBo_e {v : Int} {p : Prop} (h : mBo v p) : (v = 0 ∨ v = 1) ∧ p := by
  unfold mBo at h
  by_cases h0 : v = 0 <;> by_cases h1 : v = 1 <;> simp_all
theorem mB_e {b : Bool} {p : Prop} (h : mB b p) : b = true ∧ p := by cases b <;> simp_all [mB]
def swP (K : Nat → Prop) (x : Int) : Nat → List Nat → Prop
  | _, [] => True
  | j, t :: ts => (x = (j : Int) → K t) ∧ swP K x (j + 1) ts
/-- the receiver (on top of st) is an object of that tag -/
def rcvOK (sh : mSh) (st : List mVal) (ts : List Nat) : Bool := match st with
  | .inr (.inr (.inl k)) :: _ => (match sh.1[k]? with
    | some (t', _) => ts == [t']
    | none => false)
  | _ => false
/-- the literals -/
def mstrs : List (List Nat) := [[114, 111, 119], [116, 104, 114, 101, 97, 100], [98, 101, 115, 105, 100, 101], [109, 105, 114, 114, 111, 114], [97, 98, 111, 118, 101], [99, 114, 111, 115, 115]]
def mrun (cal : mCal) (lb : List (Nat × List Nat)) (lim : Nat × Nat) (scr : Nat × (Nat → Int)) (ret : Option mVal → mHp → Prop) (K : Nat → mLV → List mVal → mHp → Prop) : List mRow → Nat → mLV → List mVal → mHp → Prop
  | [], pc, lv, st, h => K pc (lpick lb pc lv) st h
  | (ins, len, a, b, z, ts) :: rows, pc, lv, st, h =>
    match ins with
    | .iconst n => mrun cal lb lim scr ret K rows (pc + len) lv (vi n :: st) h
    | .bipush n => mrun cal lb lim scr ret K rows (pc + len) lv (vi n :: st) h
    | .sipush n => mrun cal lb lim scr ret K rows (pc + len) lv (vi n :: st) h
    | .ldc _ => bif b == 0 then mrun cal lb lim scr ret K rows (pc + len) lv (vi z :: st) h else mrun cal lb lim scr ret K rows (pc + len) lv (vs (a + 1) :: st) h
    | .ldc2_w _ => mrun cal lb lim scr ret K rows (pc + len) lv (vl z :: st) h
    | .lconst n => mrun cal lb lim scr ret K rows (pc + len) lv (vl (n.val : Nat) :: st) h
    | .iload_n i => lgetI lv i.val fun v => mrun cal lb lim scr ret K rows (pc + len) lv (vi v :: st) h
    | .iload i => lgetI lv i fun v => mrun cal lb lim scr ret K rows (pc + len) lv (vi v :: st) h
    | .aload_n i => lgetA lv i.val fun v => mrun cal lb lim scr ret K rows (pc + len) lv (.inr (.inr v) :: st) h
    | .aload i => lgetA lv i fun v => mrun cal lb lim scr ret K rows (pc + len) lv (.inr (.inr v) :: st) h
    | .lload_n i => lgetL lv i.val fun v => mrun cal lb lim scr ret K rows (pc + len) lv (vl v :: st) h
    | .lload i => lgetL lv i fun v => mrun cal lb lim scr ret K rows (pc + len) lv (vl v :: st) h
    | .istore_n i => mI st fun v r => mrun cal lb lim scr ret K rows (pc + len) (lset i.val (vi v) lv) r h
    | .istore i => mI st fun v r => mrun cal lb lim scr ret K rows (pc + len) (lset i (vi v) lv) r h
    | .astore_n i => mR st fun v r => mrun cal lb lim scr ret K rows (pc + len) (lset i.val (vr v) lv) r h
    | .astore i => mR st fun v r => mrun cal lb lim scr ret K rows (pc + len) (lset i (vr v) lv) r h
    | .lstore_n i => mL st fun v r => mrun cal lb lim scr ret K rows (pc + len) (lset2 i.val (vl v) lv) r h
    | .lstore i => mL st fun v r => mrun cal lb lim scr ret K rows (pc + len) (lset2 i (vl v) lv) r h
    | .iinc i n => lgetI lv i fun v => mrun cal lb lim scr ret K rows (pc + len) (lset i (vi (w32 (v + n))) lv) st h
    | .iadd => mI st fun y r => mI r fun x r => mrun cal lb lim scr ret K rows (pc + len) lv (vi (w32 (x + y)) :: r) h
    | .isub => mI st fun y r => mI r fun x r => mrun cal lb lim scr ret K rows (pc + len) lv (vi (w32 (x - y)) :: r) h
    | .imul => mI st fun y r => mI r fun x r => mrun cal lb lim scr ret K rows (pc + len) lv (vi (w32 (x * y)) :: r) h
    | .idiv => mI st fun y r => mI r fun x r => mB (!(decide (y = 0))) (mrun cal lb lim scr ret K rows (pc + len) lv (vi (jdiv x y) :: r) h)
    | .irem => mI st fun y r => mI r fun x r => mB (!(decide (y = 0))) (mrun cal lb lim scr ret K rows (pc + len) lv (vi (jrem x y) :: r) h)
    | .iand => mI st fun y r => mI r fun x r => mrun cal lb lim scr ret K rows (pc + len) lv (vi (jand x y) :: r) h
    | .ior => mI st fun y r => mI r fun x r => mrun cal lb lim scr ret K rows (pc + len) lv (vi (jor x y) :: r) h
    | .ishl => mI st fun y r => mI r fun x r => mrun cal lb lim scr ret K rows (pc + len) lv (vi (jshl x y) :: r) h
    | .ishr => mI st fun y r => mI r fun x r => mrun cal lb lim scr ret K rows (pc + len) lv (vi (jshr x y) :: r) h
    | .iushr => mI st fun y r => mI r fun x r => mrun cal lb lim scr ret K rows (pc + len) lv (vi (jushr x y) :: r) h
    | .ineg => mI st fun x r => mrun cal lb lim scr ret K rows (pc + len) lv (vi (w32 (-x)) :: r) h
    | .i2l => mI st fun x r => mrun cal lb lim scr ret K rows (pc + len) lv (vl x :: r) h
    | .i2b => mI st fun x r => mrun cal lb lim scr ret K rows (pc + len) lv (vi (w8 x) :: r) h
    | .i2s => mI st fun x r => mrun cal lb lim scr ret K rows (pc + len) lv (vi (w16 x) :: r) h
    | .ladd => mL st fun y r => mL r fun x r => mrun cal lb lim scr ret K rows (pc + len) lv (vl (w64 (x + y)) :: r) h
    | .lmul => mL st fun y r => mL r fun x r => mrun cal lb lim scr ret K rows (pc + len) lv (vl (w64 (x * y)) :: r) h
    | .ldiv => mL st fun y r => mL r fun x r => y ≠ 0 ∧ mrun cal lb lim scr ret K rows (pc + len) lv (vl (jldiv x y) :: r) h
    | .lrem => mL st fun y r => mL r fun x r => y ≠ 0 ∧ mrun cal lb lim scr ret K rows (pc + len) lv (vl (jlrem x y) :: r) h
    | .lcmp => mL st fun y r => mL r fun x r => mrun cal lb lim scr ret K rows (pc + len) lv (vi (jlcmp x y) :: r) h
    | .dup => mA st fun x r => mB (mcat x == 1) (mrun cal lb lim scr ret K rows (pc + len) lv (x :: x :: r) h)
    | .dup2 => mA st fun y r => mA r fun x r => mB (mcat x == 1 && mcat y == 1) (mrun cal lb lim scr ret K rows (pc + len) lv (y :: x :: y :: x :: r) h)
    | .pop => mA st fun x r => mB (mcat x == 1) (mrun cal lb lim scr ret K rows (pc + len) lv r h)
    | .goto _ => K a (lpick lb a lv) st h
    | .ifCond c _ => mI st fun x r => (mcmp c x 0 → K a (lpick lb a lv) r h) ∧ (¬ mcmp c x 0 → mrun cal lb lim scr ret K rows (pc + len) lv r h)
    | .if_icmp c _ => mI st fun y r => mI r fun x r => (mcmp c x y → K a (lpick lb a lv) r h) ∧ (¬ mcmp c x y → mrun cal lb lim scr ret K rows (pc + len) lv r h)
    | .tableswitch .. => mI st fun x r => swP (fun t => K t (lpick lb t lv) r h) x 0 ts ∧ ((x < 0 ∨ (ts.length : Int) ≤ x) → K a (lpick lb a lv) r h)
    | .getfield _ => mR st fun k r => mTag h.1 k (a + 3) fun _ => bif z == 1 then mRef h.1 k b fun t => mrun cal lb lim scr ret K rows (pc + len) lv (vr t :: r) h else mrun cal lb lim scr ret K rows (pc + len) lv (vi (h.2 k (b : Nat)) :: r) h
    | .putfield _ => bif z == 1 then (mR st fun v r => mR r fun k r => mTag h.1 k (a + 3) fun _ => mB (v.blt h.1.1.length) (mrun cal lb lim scr ret K rows (pc + len) lv r ((h.1.1, ((k, b), v) :: h.1.2), h.2)))
      else (mI st fun v r => mR r fun k r => mTag h.1 k (a + 3) fun _ => bif z == 2 then mBo v (mrun cal lb lim scr ret K rows (pc + len) lv r (h.1, mupd h.2 k (b : Nat) v)) else mrun cal lb lim scr ret K rows (pc + len) lv r (h.1, mupd h.2 k (b : Nat) v))
    | .iaload => mI st fun i r => match r with
      | .inr (.inr (.inl k)) :: r => mTag h.1 k 0 fun n => mIn i n (mrun cal lb lim scr ret K rows (pc + len) lv (vi (h.2 k i) :: r) h)
      | .inr (.inr (.inr 0)) :: r => mIn i (scr.1 - 1) (mrun cal lb lim scr ret K rows (pc + len) lv (vi (scr.2 i.toNat) :: r) h)
      | _ => False
    | .baload => mI st fun i r => mR r fun k r => mTag h.1 k 1 fun n => mIn i n (mrun cal lb lim scr ret K rows (pc + len) lv (vi (h.2 k i) :: r) h)
    | .iastore => mI st fun v r => mI r fun i r => mR r fun k r => mTag h.1 k 0 fun n => mIn i n (mrun cal lb lim scr ret K rows (pc + len) lv r (h.1, mupd h.2 k i v))
    | .bastore => mI st fun v r => mI r fun i r => mR r fun k r => mTag h.1 k 1 fun n => mIn i n (mBo v (mrun cal lb lim scr ret K rows (pc + len) lv r (h.1, mupd h.2 k i v)))
    | .aaload => mI st fun i r => mR r fun k r => mTag h.1 k 2 fun n => mIn i n (∃ t, h.1.2.lookup (k, i.toNat) = some t ∧ mrun cal lb lim scr ret K rows (pc + len) lv (vr t :: r) h)
    | .aastore => mR st fun v r => mI r fun i r => mR r fun k r => mTag h.1 k 2 fun n => mTag h.1 v 6 fun _ => mIn i n (mrun cal lb lim scr ret K rows (pc + len) lv r ((h.1.1, ((k, i.toNat), v) :: h.1.2), h.2))
    | .arraylength => match st with
      | .inr (.inr (.inl k)) :: r => mTag h.1 k 0 fun n => mrun cal lb lim scr ret K rows (pc + len) lv (vi (n : Nat) :: r) h
      | .inr (.inr (.inr 0)) :: r => mB (Nat.blt 0 scr.1) (mrun cal lb lim scr ret K rows (pc + len) lv (vi (scr.1 - 1 : Nat) :: r) h)
      | _ => False
    | .new _ => (h.1.1.length + 1 ≤ lim.1 ∧ mtot h.1.1 + b ≤ lim.2) ∧ mrun cal lb lim scr ret K rows (pc + len) lv (vr h.1.1.length :: st) ((h.1.1 ++ [(a + 3, b)], h.1.2), mzero h.2 h.1.1.length)
    | .newarray _ => mI st fun n r => (0 ≤ n ∧ n ≤ 1000 ∧ h.1.1.length + 1 ≤ lim.1 ∧ mtot h.1.1 + n.toNat ≤ lim.2) ∧ mrun cal lb lim scr ret K rows (pc + len) lv (vr h.1.1.length :: r) ((h.1.1 ++ [(a, n.toNat)], h.1.2), mzero h.2 h.1.1.length)
    | .anewarray _ => mI st fun n r => (0 ≤ n ∧ n ≤ 1000 ∧ h.1.1.length + 1 ≤ lim.1 ∧ mtot h.1.1 + n.toNat ≤ lim.2) ∧ mrun cal lb lim scr ret K rows (pc + len) lv (vr h.1.1.length :: r) ((h.1.1 ++ [(2, n.toNat)], h.1.2), mzero h.2 h.1.1.length)
    | .invokespecial _ => bif a == 9000 then (mR st fun _ r => mB (Nat.ble (r.map mcat).sum 8) (mrun cal lb lim scr ret K rows (pc + len) lv r h))
      else mB (Nat.ble b st.length && Nat.ble ((st.drop b).map mcat).sum 8 && rcvOK h.1 (st.drop (b - 1)) ts) (∃ h', cal a (st.take b).reverse h (none, h') ∧ (h'.1.1.length ≤ lim.1 ∧ mtot h'.1.1 ≤ lim.2 ∧ h.1.1.length ≤ h'.1.1.length ∧ mtot h.1.1 ≤ mtot h'.1.1) ∧ mrun cal lb lim scr ret K rows (pc + len) lv (st.drop b) h')
    | .invokevirtual _ => mB (Nat.ble b st.length && Nat.ble ((st.drop b).map mcat).sum 8) (match z with
      | 0 => mB (rcvOK h.1 (st.drop (b - 1)) ts) (∃ m', cal a (st.take b).reverse h (none, (h.1, m')) ∧ mrun cal lb lim scr ret K rows (pc + len) lv (st.drop b) (h.1, m'))
      | 1 => mB (rcvOK h.1 (st.drop (b - 1)) ts) (∃ v m', cal a (st.take b).reverse h (some (vi v), (h.1, m')) ∧ mrun cal lb lim scr ret K rows (pc + len) lv (vi v :: st.drop b) (h.1, m'))
      | 2 => mB (rcvOK h.1 (st.drop (b - 1)) ts) (∃ v m', cal a (st.take b).reverse h (some (vl v), (h.1, m')) ∧ mrun cal lb lim scr ret K rows (pc + len) lv (vl v :: st.drop b) (h.1, m'))
      | 5 => (match st with
        | .inr (.inr (.inr (i + 1))) :: r => mrun cal lb lim scr ret K rows (pc + len) lv (vi ((mstrs.getD i []).length : Nat) :: r) h
        | _ => False)
      | 6 => (match st with
        | .inl j :: .inr (.inr (.inr (i + 1))) :: r => mIn j (mstrs.getD i []).length (mrun cal lb lim scr ret K rows (pc + len) lv (vi ((mstrs.getD i []).getD j.toNat 0 : Nat) :: r) h)
        | _ => False)
      | _ => False)
    | .invokestatic _ => mB (Nat.ble b st.length && Nat.ble ((st.drop b).map mcat).sum 8) (match z with
      | 0 => ∃ m', cal a (st.take b).reverse h (none, (h.1, m')) ∧ mrun cal lb lim scr ret K rows (pc + len) lv (st.drop b) (h.1, m')
      | 1 => ∃ v m', cal a (st.take b).reverse h (some (vi v), (h.1, m')) ∧ mrun cal lb lim scr ret K rows (pc + len) lv (vi v :: st.drop b) (h.1, m')
      | 2 => ∃ v m', cal a (st.take b).reverse h (some (vl v), (h.1, m')) ∧ mrun cal lb lim scr ret K rows (pc + len) lv (vl v :: st.drop b) (h.1, m')
      | 3 => mI st fun n r => mI r fun dp r => mR r fun d r => mI r fun sp r => mR r fun s r => mTag h.1 s 0 fun ns => mTag h.1 d 0 fun nd => (0 ≤ n ∧ 0 ≤ sp ∧ 0 ≤ dp ∧ sp + n ≤ (ns : Int) ∧ dp + n ≤ (nd : Int)) ∧ mrun cal lb lim scr ret K rows (pc + len) lv r (h.1, mcpy h.2 s sp d dp n)
      | 4 => mI st fun y r => mI r fun x r => mrun cal lb lim scr ret K rows (pc + len) lv (vi (if x ≤ y then x else y) :: r) h
      | 5 => mI st fun y r => mI r fun x r => mrun cal lb lim scr ret K rows (pc + len) lv (vi (if x ≤ y then y else x) :: r) h
      | 6 => mL st fun y r => mL r fun x r => mrun cal lb lim scr ret K rows (pc + len) lv (vl (if x ≤ y then y else x) :: r) h
      | _ => False)
    | .ireturn => mI st fun v r => mB (r.isEmpty) (bif z == 1 then mBo v (ret (some (vi v)) h) else ret (some (vi v)) h)
    | .lreturn => mL st fun v r => mB (r.isEmpty) (ret (some (vl v)) h)
    | .return_ => mB (st.isEmpty) (ret none h)
    | _ => False
/-- a method: its blocks (a label, the rows from there on), the locals that live at each label -/
abbrev mMeth : Type := List (Nat × List mRow) × List (Nat × List Nat)
def mClo (M : mMeth) (cal : mCal) (lim : Nat × Nat) (scr : Nat × (Nat → Int)) (ret : Option mVal → mHp → Prop) (K : Nat → mLV → List mVal → mHp → Prop) : Prop :=
  ∀ (i pc : Nat) (rows : List mRow), M.1[i]? = some (pc, rows) → ∀ lv st h, mrun cal M.2 lim scr ret K rows pc lv st h → K pc lv st h
def margs : Nat → List mVal → mLV
  | _, [] => []
  | i, v :: l => (i, v) :: margs (i + mcat v) l
def mret (r : Option mVal × mHp) : Option mVal → mHp → Prop := fun v h => v = r.1 ∧ h = r.2
/-- method y of the program P, called with a depth of d calls left, comes to its end with r -/
def mR2 (P : Nat → mMeth) : Nat → Nat → List mVal → mHp → Option mVal × mHp → Prop
  | 0, _, _, _, _ => False
  | d + 1, y, args, h, r => ∀ K, mClo (P y) (mR2 P d) (r.2.1.1.length, mtot r.2.1.1) (0, fun _ => 0) (mret r) K → K 0 (margs 0 args) [] h

/-- jumps to the labels of inl are followed, n deep -/
def mJ (M : mMeth) (cal : mCal) (lim : Nat × Nat) (scr : Nat × (Nat → Int)) (ret : Option mVal → mHp → Prop) (K : Nat → mLV → List mVal → mHp → Prop) (inl : List Nat) : Nat → Nat → mLV → List mVal → mHp → Prop
  | 0, t, lv, st, h => K t lv st h
  | n + 1, t, lv, st, h => bif inl.contains t then (match M.1.lookup t with
    | some rows => mrun cal M.2 lim scr ret (mJ M cal lim scr ret K inl n) rows t lv st h
    | none => K t lv st h) else K t lv st h
end
section
section
variable {cal : mCal} {lb : List (Nat × List Nat)} {lim : Nat × Nat} {scr : Nat × (Nat → Int)} {ret : Option mVal → mHp → Prop} {K K' : Nat → mLV → List mVal → mHp → Prop}
theorem mI_mo {st : List mVal} {k k' : Int → List mVal → Prop} (h : ∀ x r, k x r → k' x r) : mI st k → mI st k' := by
  unfold mI; split <;> first | exact h _ _ | exact id
theorem mL_mo {st : List mVal} {k k' : Int → List mVal → Prop} (h : ∀ x r, k x r → k' x r) : mL st k → mL st k' := by
  unfold mL; split <;> first | exact h _ _ | exact id
theorem mR_mo {st : List mVal} {k k' : Nat → List mVal → Prop} (h : ∀ x r, k x r → k' x r) : mR st k → mR st k' := by
  unfold mR; split <;> first | exact h _ _ | exact id
theorem mA_mo {st : List mVal} {k k' : mVal → List mVal → Prop} (h : ∀ x r, k x r → k' x r) : mA st k → mA st k' := by
  unfold mA; split <;> first | exact h _ _ | exact id
theorem lget_mo {lv : mLV} {i : Nat} {k k' : mVal → Prop} (h : ∀ x, k x → k' x) : lget lv i k → lget lv i k' := by
  unfold lget; split <;> first | exact h _ | exact id
theorem lgetI_mo {lv : mLV} {i : Nat} {k k' : Int → Prop} (h : ∀ x, k x → k' x) : lgetI lv i k → lgetI lv i k' := by
  unfold lgetI; split <;> first | exact h _ | exact id
theorem lgetL_mo {lv : mLV} {i : Nat} {k k' : Int → Prop} (h : ∀ x, k x → k' x) : lgetL lv i k → lgetL lv i k' := by
  unfold lgetL; split <;> first | exact h _ | exact id
theorem lgetA_mo {lv : mLV} {i : Nat} {k k' : Nat ⊕ Nat → Prop} (h : ∀ x, k x → k' x) : lgetA lv i k → lgetA lv i k' := by
  unfold lgetA; split <;> first | exact h _ | exact id
theorem mB_mo {b : Bool} {p p' : Prop} (h : p → p') : mB b p → mB b p' := by cases b <;> first | exact h | exact id
theorem mIn_mo {i : Int} {n : Nat} {p p' : Prop} (h : p → p') : mIn i n p → mIn i n p' := fun q => mIn_i (mIn_e q).1.1 (mIn_e q).1.2 (h (mIn_e q).2)
theorem mBo_mo {v : Int} {p p' : Prop} (h : p → p') : mBo v p → mBo v p' := fun q => mBo_i (mBo_e q).1 (h (mBo_e q).2)
theorem mTag_mo {sh : mSh} {k t : Nat} {c c' : Nat → Prop} (h : ∀ n, c n → c' n) : mTag sh k t c → mTag sh k t c' := by
  unfold mTag; split
  · rename_i t' n _
    cases (t' == t) <;> first | exact h _ | exact id
  · exact id
theorem mRef_mo {sh : mSh} {k j : Nat} {c c' : Nat → Prop} (h : ∀ n, c n → c' n) : mRef sh k j c → mRef sh k j c' := by
  unfold mRef; split <;> first | exact h _ | exact id
theorem and_mo {a b b' : Prop} (h : b → b') : a ∧ b → a ∧ b' := fun q => ⟨q.1, h q.2⟩
theorem and2_mo {a b a' b' : Prop} (h0 : a → a') (h : b → b') : a ∧ b → a' ∧ b' := fun q => ⟨h0 q.1, h q.2⟩
theorem imp_mo {a b b' : Prop} (h : b → b') : (a → b) → (a → b') := fun q x => h (q x)
theorem ex_mo {α : Type} {p p' : α → Prop} (h : ∀ x, p x → p' x) : (∃ x, p x) → ∃ x, p' x := fun ⟨x, q⟩ => ⟨x, h x q⟩
theorem bif_mo {b : Bool} {p p' q q' : Prop} (h : p → p') (h2 : q → q') : (bif b then p else q) → (bif b then p' else q') := by cases b <;> first | exact h | exact h2
theorem swP_mo {k k' : Nat → Prop} (h : ∀ t, k t → k' t) {x : Int} : ∀ (ts : List Nat) (j : Nat), swP k x j ts → swP k' x j ts
  | [], _ => id
  | t :: ts, j => and2_mo (imp_mo (h t)) (swP_mo h ts (j + 1))
set_option maxHeartbeats 4000000 in
theorem mrun_mo (hk : ∀ t lv st h, K t lv st h → K' t lv st h) : ∀ (rows : List mRow) (pc : Nat) (lv : mLV) (st : List mVal) (h : mHp), mrun cal lb lim scr ret K rows pc lv st h → mrun cal lb lim scr ret K' rows pc lv st h := by
  intro rows
  induction rows with
  | nil => intro pc lv st h; exact hk _ _ _ _
  | cons row rows ih =>
    intro pc lv st h
    obtain ⟨ins, len, a, b, z, ts⟩ := row
    cases ins <;> first
      | exact id
      | (simp only [mrun]
         repeat' first
          | exact ih _ _ _ _
          | exact hk _ _ _ _
          | exact id
          | refine mI_mo (fun _ _ => ?_)
          | refine mL_mo (fun _ _ => ?_)
          | refine mR_mo (fun _ _ => ?_)
          | refine mA_mo (fun _ _ => ?_)
          | refine lget_mo (fun _ => ?_)
          | refine lgetI_mo (fun _ => ?_)
          | refine lgetL_mo (fun _ => ?_)
          | refine lgetA_mo (fun _ => ?_)
          | refine mTag_mo (fun _ => ?_)
          | refine mRef_mo (fun _ => ?_)
          | refine mB_mo ?_
          | refine mIn_mo ?_
          | refine mBo_mo ?_
          | refine bif_mo ?_ ?_
          | refine ex_mo (fun _ => ?_)
          | refine and2_mo (swP_mo (fun _ => hk _ _ _ _) _ _) ?_
          | refine and2_mo (imp_mo (hk _ _ _ _)) ?_
          | refine and_mo ?_
          | refine imp_mo ?_
          | split)
end
theorem mJ_K {M : mMeth} {cal : mCal} {lim : Nat × Nat} {scr : Nat × (Nat → Int)} {ret : Option mVal → mHp → Prop} {K : Nat → mLV → List mVal → mHp → Prop} (hK : mClo M cal lim scr ret K) (inl : List Nat) : ∀ (n t : Nat) (lv : mLV) (st : List mVal) (h : mHp), mJ M cal lim scr ret K inl n t lv st h → K t lv st h
  | 0, _, _, _, _ => id
  | n + 1, t, lv, st, h => by
    unfold mJ
    cases inl.contains t with
    | false => exact id
    | true =>
      show (match M.1.lookup t with
        | some rows => mrun cal M.2 lim scr ret (mJ M cal lim scr ret K inl n) rows t lv st h
        | none => K t lv st h) → _
      split
      · rename_i rows hr
        intro q
        have hm : (t, rows) ∈ M.1 := by
          have key : ∀ l : List (Nat × List mRow), l.lookup t = some rows → (t, rows) ∈ l := by
            intro l
            induction l with
            | nil => intro h; simp at h
            | cons q l ih =>
              obtain ⟨a, b⟩ := q
              intro h
              by_cases ha : t = a
              · subst ha
                simp at h
                subst h
                exact List.mem_cons_self
              · have : (t == a) = false := by simpa using ha
                rw [List.lookup_cons, this] at h
                exact List.mem_cons_of_mem _ (ih h)
          exact key _ hr
        obtain ⟨i, hi⟩ := List.getElem?_of_mem hm
        exact hK i t rows hi lv st h (mrun_mo (mJ_K hK inl n) rows t lv st h q)
      · exact id
/-- what holds behind a block, its inner jumps followed, holds at its label -/
theorem mQ {M : mMeth} {cal : mCal} {lim : Nat × Nat} {scr : Nat × (Nat → Int)} {ret : Option mVal → mHp → Prop} {K : Nat → mLV → List mVal → mHp → Prop} (hK : mClo M cal lim scr ret K) (inl : List Nat) (n i pc : Nat) (rows : List mRow) (hi : M.1[i]? = some (pc, rows)) (lv : mLV) (st : List mVal) (h : mHp) (q : mrun cal M.2 lim scr ret (mJ M cal lim scr ret K inl n) rows pc lv st h) : K pc lv st h := hK i pc rows hi lv st h (mrun_mo (mJ_K hK inl n) rows pc lv st h q)
end
section
def b_C_init_0 : List mRow := [(.aload_n 0, 1, 0, 0, 0, []), (.invokespecial 3, 3, 9000, 1, 0, []), (.aload_n 0, 1, 0, 0, 0, []), (.bipush 36, 2, 0, 0, 0, []), (.newarray .int, 2, 0, 0, 0, []), (.putfield 9, 3, 0, 0, 1, []), (.aload_n 0, 1, 0, 0, 0, []), (.iconst 4, 1, 0, 0, 0, []), (.newarray .int, 2, 0, 0, 0, []), (.putfield 15, 3, 0, 1, 1, []), (.aload_n 0, 1, 0, 0, 0, []), (.bipush 20, 2, 0, 0, 0, []), (.newarray .int, 2, 0, 0, 0, []), (.putfield 18, 3, 0, 2, 1, []), (.aload_n 0, 1, 0, 0, 0, []), (.bipush 8, 2, 0, 0, 0, []), (.newarray .int, 2, 0, 0, 0, []), (.putfield 21, 3, 0, 3, 1, []), (.aload_n 0, 1, 0, 0, 0, []), (.bipush 8, 2, 0, 0, 0, []), (.newarray .int, 2, 0, 0, 0, []), (.putfield 24, 3, 0, 4, 1, []), (.aload_n 0, 1, 0, 0, 0, []), (.bipush 25, 2, 0, 0, 0, []), (.newarray .int, 2, 0, 0, 0, []), (.putfield 27, 3, 0, 9, 1, []), (.aload_n 0, 1, 0, 0, 0, []), (.bipush 25, 2, 0, 0, 0, []), (.newarray .int, 2, 0, 0, 0, []), (.putfield 30, 3, 0, 10, 1, []), (.aload_n 0, 1, 0, 0, 0, []), (.invokevirtual 33, 3, 1, 1, 0, [3]), (.return_, 1, 0, 0, 0, [])]
def m_C_init : mMeth := ([(0, b_C_init_0)], [(0, [0])])
def b_C_clear_0 : List mRow := [(.aload_n 0, 1, 0, 0, 0, []), (.getfield 9, 3, 0, 0, 1, []), (.iconst 0, 1, 0, 0, 0, []), (.invokestatic 36, 3, 190, 2, 0, []), (.aload_n 0, 1, 0, 0, 0, []), (.getfield 27, 3, 0, 9, 1, []), (.iconst 0, 1, 0, 0, 0, []), (.invokestatic 36, 3, 190, 2, 0, []), (.aload_n 0, 1, 0, 0, 0, []), (.getfield 30, 3, 0, 10, 1, []), (.iconst 0, 1, 0, 0, 0, []), (.invokestatic 36, 3, 190, 2, 0, []), (.aload_n 0, 1, 0, 0, 0, []), (.getfield 27, 3, 0, 9, 1, []), (.iconst 0, 1, 0, 0, 0, []), (.bipush 30, 2, 0, 0, 0, []), (.iastore, 1, 0, 0, 0, []), (.aload_n 0, 1, 0, 0, 0, []), (.getfield 30, 3, 0, 10, 1, []), (.iconst 0, 1, 0, 0, 0, []), (.bipush 30, 2, 0, 0, 0, []), (.iastore, 1, 0, 0, 0, []), (.aload_n 0, 1, 0, 0, 0, []), (.getfield 15, 3, 0, 1, 1, []), (.bipush 20, 2, 0, 0, 0, []), (.invokestatic 36, 3, 190, 2, 0, []), (.aload_n 0, 1, 0, 0, 0, []), (.iconst 0, 1, 0, 0, 0, []), (.putfield 42, 3, 0, 5, 0, []), (.aload_n 0, 1, 0, 0, 0, []), (.iconst 0, 1, 0, 0, 0, []), (.putfield 46, 3, 0, 6, 0, []), (.return_, 1, 0, 0, 0, [])]
def m_C_clear : mMeth := ([(0, b_C_clear_0)], [(0, [0])])
def b_C_copyFrom_0 : List mRow := [(.aload_n 1, 1, 0, 0, 0, []), (.getfield 9, 3, 0, 0, 1, []), (.iconst 0, 1, 0, 0, 0, []), (.aload_n 0, 1, 0, 0, 0, []), (.getfield 9, 3, 0, 0, 1, []), (.iconst 0, 1, 0, 0, 0, []), (.bipush 36, 2, 0, 0, 0, []), (.invokestatic 49, 3, 0, 5, 3, []), (.aload_n 1, 1, 0, 0, 0, []), (.getfield 27, 3, 0, 9, 1, []), (.iconst 0, 1, 0, 0, 0, []), (.aload_n 0, 1, 0, 0, 0, []), (.getfield 27, 3, 0, 9, 1, []), (.iconst 0, 1, 0, 0, 0, []), (.bipush 25, 2, 0, 0, 0, []), (.invokestatic 49, 3, 0, 5, 3, []), (.aload_n 1, 1, 0, 0, 0, []), (.getfield 30, 3, 0, 10, 1, []), (.iconst 0, 1, 0, 0, 0, []), (.aload_n 0, 1, 0, 0, 0, []), (.getfield 30, 3, 0, 10, 1, []), (.iconst 0, 1, 0, 0, 0, []), (.bipush 25, 2, 0, 0, 0, []), (.invokestatic 49, 3, 0, 5, 3, []), (.aload_n 1, 1, 0, 0, 0, []), (.getfield 15, 3, 0, 1, 1, []), (.iconst 0, 1, 0, 0, 0, []), (.aload_n 0, 1, 0, 0, 0, []), (.getfield 15, 3, 0, 1, 1, []), (.iconst 0, 1, 0, 0, 0, []), (.iconst 4, 1, 0, 0, 0, []), (.invokestatic 49, 3, 0, 5, 3, []), (.aload_n 1, 1, 0, 0, 0, []), (.getfield 18, 3, 0, 2, 1, []), (.iconst 0, 1, 0, 0, 0, []), (.aload_n 0, 1, 0, 0, 0, []), (.getfield 18, 3, 0, 2, 1, []), (.iconst 0, 1, 0, 0, 0, []), (.bipush 20, 2, 0, 0, 0, []), (.invokestatic 49, 3, 0, 5, 3, []), (.aload_n 1, 1, 0, 0, 0, []), (.getfield 21, 3, 0, 3, 1, []), (.iconst 0, 1, 0, 0, 0, []), (.aload_n 0, 1, 0, 0, 0, []), (.getfield 21, 3, 0, 3, 1, []), (.iconst 0, 1, 0, 0, 0, []), (.bipush 8, 2, 0, 0, 0, []), (.invokestatic 49, 3, 0, 5, 3, []), (.aload_n 1, 1, 0, 0, 0, []), (.getfield 24, 3, 0, 4, 1, []), (.iconst 0, 1, 0, 0, 0, []), (.aload_n 0, 1, 0, 0, 0, []), (.getfield 24, 3, 0, 4, 1, []), (.iconst 0, 1, 0, 0, 0, []), (.bipush 8, 2, 0, 0, 0, []), (.invokestatic 49, 3, 0, 5, 3, []), (.aload_n 0, 1, 0, 0, 0, []), (.aload_n 1, 1, 0, 0, 0, []), (.getfield 42, 3, 0, 5, 0, []), (.putfield 42, 3, 0, 5, 0, []), (.aload_n 0, 1, 0, 0, 0, []), (.aload_n 1, 1, 0, 0, 0, []), (.getfield 46, 3, 0, 6, 0, []), (.putfield 46, 3, 0, 6, 0, []), (.return_, 1, 0, 0, 0, [])]
def m_C_copyFrom : mMeth := ([(0, b_C_copyFrom_0)], [(0, [0, 1])])
def b_C_put_0 : List mRow := [(.aload_n 0, 1, 0, 0, 0, []), (.getfield 9, 3, 0, 0, 1, []), (.iload_n 1, 1, 0, 0, 0, []), (.iaload, 1, 0, 0, 0, []), (.iload_n 2, 1, 0, 0, 0, []), (.if_icmp .eq 22, 3, 29, 0, 0, []), (.aload_n 0, 1, 0, 0, 0, []), (.iload_n 1, 1, 0, 0, 0, []), (.iconst (-1), 1, 0, 0, 0, []), (.invokevirtual 55, 3, 4, 3, 0, [3]), (.aload_n 0, 1, 0, 0, 0, []), (.getfield 9, 3, 0, 0, 1, []), (.iload_n 1, 1, 0, 0, 0, []), (.iload_n 2, 1, 0, 0, 0, []), (.iastore, 1, 0, 0, 0, []), (.aload_n 0, 1, 0, 0, 0, []), (.iload_n 1, 1, 0, 0, 0, []), (.iconst 1, 1, 0, 0, 0, []), (.invokevirtual 55, 3, 4, 3, 0, [3])]
def b_C_put_29 : List mRow := [(.return_, 1, 0, 0, 0, [])]
def m_C_put : mMeth := ([(0, b_C_put_0), (29, b_C_put_29)], [(0, [0, 1, 2]), (29, [])])
def b_C_tallyAround_0 : List mRow := [(.aload_n 0, 1, 0, 0, 0, []), (.getfield 9, 3, 0, 0, 1, []), (.iload_n 1, 1, 0, 0, 0, []), (.iaload, 1, 0, 0, 0, []), (.istore_n 3, 1, 0, 0, 0, []), (.iload_n 1, 1, 0, 0, 0, []), (.bipush 6, 2, 0, 0, 0, []), (.idiv, 1, 0, 0, 0, []), (.istore 4, 2, 0, 0, 0, []), (.iload_n 1, 1, 0, 0, 0, []), (.bipush 6, 2, 0, 0, 0, []), (.irem, 1, 0, 0, 0, []), (.istore 5, 2, 0, 0, 0, []), (.iload 4, 2, 0, 0, 0, []), (.ifCond .le 25, 3, 46, 0, 0, []), (.aload_n 0, 1, 0, 0, 0, []), (.getfield 27, 3, 0, 9, 1, []), (.aload_n 0, 1, 0, 0, 0, []), (.getfield 9, 3, 0, 0, 1, []), (.iload_n 1, 1, 0, 0, 0, []), (.bipush 6, 2, 0, 0, 0, []), (.isub, 1, 0, 0, 0, []), (.iaload, 1, 0, 0, 0, []), (.iconst 5, 1, 0, 0, 0, []), (.imul, 1, 0, 0, 0, []), (.iload_n 3, 1, 0, 0, 0, []), (.iadd, 1, 0, 0, 0, []), (.dup2, 1, 0, 0, 0, []), (.iaload, 1, 0, 0, 0, []), (.iload_n 2, 1, 0, 0, 0, []), (.iadd, 1, 0, 0, 0, []), (.iastore, 1, 0, 0, 0, [])]
def b_C_tallyAround_46 : List mRow := [(.iload 4, 2, 0, 0, 0, []), (.iconst 5, 1, 0, 0, 0, []), (.if_icmp .ge 25, 3, 74, 0, 0, []), (.aload_n 0, 1, 0, 0, 0, []), (.getfield 27, 3, 0, 9, 1, []), (.iload_n 3, 1, 0, 0, 0, []), (.iconst 5, 1, 0, 0, 0, []), (.imul, 1, 0, 0, 0, []), (.aload_n 0, 1, 0, 0, 0, []), (.getfield 9, 3, 0, 0, 1, []), (.iload_n 1, 1, 0, 0, 0, []), (.bipush 6, 2, 0, 0, 0, []), (.iadd, 1, 0, 0, 0, []), (.iaload, 1, 0, 0, 0, []), (.iadd, 1, 0, 0, 0, []), (.dup2, 1, 0, 0, 0, []), (.iaload, 1, 0, 0, 0, []), (.iload_n 2, 1, 0, 0, 0, []), (.iadd, 1, 0, 0, 0, []), (.iastore, 1, 0, 0, 0, [])]
def b_C_tallyAround_74 : List mRow := [(.iload 5, 2, 0, 0, 0, []), (.ifCond .le 24, 3, 100, 0, 0, []), (.aload_n 0, 1, 0, 0, 0, []), (.getfield 30, 3, 0, 10, 1, []), (.aload_n 0, 1, 0, 0, 0, []), (.getfield 9, 3, 0, 0, 1, []), (.iload_n 1, 1, 0, 0, 0, []), (.iconst 1, 1, 0, 0, 0, []), (.isub, 1, 0, 0, 0, []), (.iaload, 1, 0, 0, 0, []), (.iconst 5, 1, 0, 0, 0, []), (.imul, 1, 0, 0, 0, []), (.iload_n 3, 1, 0, 0, 0, []), (.iadd, 1, 0, 0, 0, []), (.dup2, 1, 0, 0, 0, []), (.iaload, 1, 0, 0, 0, []), (.iload_n 2, 1, 0, 0, 0, []), (.iadd, 1, 0, 0, 0, []), (.iastore, 1, 0, 0, 0, [])]
def b_C_tallyAround_100 : List mRow := [(.iload 5, 2, 0, 0, 0, []), (.iconst 5, 1, 0, 0, 0, []), (.if_icmp .ge 24, 3, 127, 0, 0, []), (.aload_n 0, 1, 0, 0, 0, []), (.getfield 30, 3, 0, 10, 1, []), (.iload_n 3, 1, 0, 0, 0, []), (.iconst 5, 1, 0, 0, 0, []), (.imul, 1, 0, 0, 0, []), (.aload_n 0, 1, 0, 0, 0, []), (.getfield 9, 3, 0, 0, 1, []), (.iload_n 1, 1, 0, 0, 0, []), (.iconst 1, 1, 0, 0, 0, []), (.iadd, 1, 0, 0, 0, []), (.iaload, 1, 0, 0, 0, []), (.iadd, 1, 0, 0, 0, []), (.dup2, 1, 0, 0, 0, []), (.iaload, 1, 0, 0, 0, []), (.iload_n 2, 1, 0, 0, 0, []), (.iadd, 1, 0, 0, 0, []), (.iastore, 1, 0, 0, 0, [])]
def b_C_tallyAround_127 : List mRow := [(.return_, 1, 0, 0, 0, [])]
def m_C_tallyAround : mMeth := ([(0, b_C_tallyAround_0), (46, b_C_tallyAround_46), (74, b_C_tallyAround_74), (100, b_C_tallyAround_100), (127, b_C_tallyAround_127)], [(0, [0, 1, 2]), (46, [0, 1, 2, 3, 4, 5]), (74, [0, 1, 2, 3, 5]), (100, [0, 1, 2, 3, 5]), (127, [])])
def b_C_canTake_0 : List mRow := [(.aload_n 0, 1, 0, 0, 0, []), (.getfield 9, 3, 0, 0, 1, []), (.iload_n 1, 1, 0, 0, 0, []), (.iaload, 1, 0, 0, 0, []), (.ifCond .ne 16, 3, 22, 0, 0, []), (.aload_n 0, 1, 0, 0, 0, []), (.getfield 15, 3, 0, 1, 1, []), (.iload_n 2, 1, 0, 0, 0, []), (.iaload, 1, 0, 0, 0, []), (.ifCond .le 7, 3, 22, 0, 0, []), (.iconst 1, 1, 0, 0, 0, []), (.goto 4, 3, 23, 0, 0, [])]
def b_C_canTake_22 : List mRow := [(.iconst 0, 1, 0, 0, 0, [])]
def b_C_canTake_23 : List mRow := [(.ireturn, 1, 0, 0, 1, [])]
def m_C_canTake : mMeth := ([(0, b_C_canTake_0), (22, b_C_canTake_22), (23, b_C_canTake_23)], [(0, [0, 1, 2]), (22, []), (23, [])])
def b_C_take_0 : List mRow := [(.aload_n 0, 1, 0, 0, 0, []), (.iload_n 1, 1, 0, 0, 0, []), (.iload_n 2, 1, 0, 0, 0, []), (.invokevirtual 59, 3, 3, 3, 0, [3]), (.aload_n 0, 1, 0, 0, 0, []), (.getfield 15, 3, 0, 1, 1, []), (.iload_n 2, 1, 0, 0, 0, []), (.dup2, 1, 0, 0, 0, []), (.iaload, 1, 0, 0, 0, []), (.iconst 1, 1, 0, 0, 0, []), (.isub, 1, 0, 0, 0, []), (.iastore, 1, 0, 0, 0, []), (.return_, 1, 0, 0, 0, [])]
def m_C_take : mMeth := ([(0, b_C_take_0)], [(0, [0, 1, 2])])
def b_C_takeBack_0 : List mRow := [(.aload_n 0, 1, 0, 0, 0, []), (.getfield 15, 3, 0, 1, 1, []), (.aload_n 0, 1, 0, 0, 0, []), (.getfield 9, 3, 0, 0, 1, []), (.iload_n 1, 1, 0, 0, 0, []), (.iaload, 1, 0, 0, 0, []), (.dup2, 1, 0, 0, 0, []), (.iaload, 1, 0, 0, 0, []), (.iconst 1, 1, 0, 0, 0, []), (.iadd, 1, 0, 0, 0, []), (.iastore, 1, 0, 0, 0, []), (.aload_n 0, 1, 0, 0, 0, []), (.iload_n 1, 1, 0, 0, 0, []), (.iconst 0, 1, 0, 0, 0, []), (.invokevirtual 59, 3, 3, 3, 0, [3]), (.return_, 1, 0, 0, 0, [])]
def m_C_takeBack : mMeth := ([(0, b_C_takeBack_0)], [(0, [0, 1])])
def b_C_takePlanned_0 : List mRow := [(.aload_n 0, 1, 0, 0, 0, []), (.aload_n 0, 1, 0, 0, 0, []), (.getfield 21, 3, 0, 3, 1, []), (.iload_n 1, 1, 0, 0, 0, []), (.iaload, 1, 0, 0, 0, []), (.aload_n 0, 1, 0, 0, 0, []), (.getfield 24, 3, 0, 4, 1, []), (.iload_n 1, 1, 0, 0, 0, []), (.iaload, 1, 0, 0, 0, []), (.invokevirtual 62, 3, 5, 3, 1, [3]), (.ifCond .eq 32, 3, 48, 0, 0, []), (.aload_n 0, 1, 0, 0, 0, []), (.aload_n 0, 1, 0, 0, 0, []), (.getfield 21, 3, 0, 3, 1, []), (.iload_n 1, 1, 0, 0, 0, []), (.iaload, 1, 0, 0, 0, []), (.aload_n 0, 1, 0, 0, 0, []), (.getfield 24, 3, 0, 4, 1, []), (.iload_n 1, 1, 0, 0, 0, []), (.iaload, 1, 0, 0, 0, []), (.invokevirtual 66, 3, 6, 3, 0, [3]), (.aload_n 0, 1, 0, 0, 0, []), (.dup, 1, 0, 0, 0, []), (.getfield 69, 3, 0, 7, 0, []), (.iconst 1, 1, 0, 0, 0, []), (.iadd, 1, 0, 0, 0, []), (.putfield 69, 3, 0, 7, 0, []), (.goto 17, 3, 62, 0, 0, [])]
def b_C_takePlanned_48 : List mRow := [(.aload_n 0, 1, 0, 0, 0, []), (.getfield 72, 3, 0, 8, 0, []), (.bipush (-4), 2, 0, 0, 0, []), (.if_icmp .ne 8, 3, 62, 0, 0, []), (.aload_n 0, 1, 0, 0, 0, []), (.iload_n 1, 1, 0, 0, 0, []), (.putfield 72, 3, 0, 8, 0, [])]
def b_C_takePlanned_62 : List mRow := [(.return_, 1, 0, 0, 0, [])]
def m_C_takePlanned : mMeth := ([(0, b_C_takePlanned_0), (48, b_C_takePlanned_48), (62, b_C_takePlanned_62)], [(0, [0, 1]), (48, [0, 1]), (62, [])])
def b_C_addLaw_0 : List mRow := [(.aload_n 0, 1, 0, 0, 0, []), (.getfield 42, 3, 0, 5, 0, []), (.iconst 4, 1, 0, 0, 0, []), (.imul, 1, 0, 0, 0, []), (.istore 5, 2, 0, 0, 0, []), (.aload_n 0, 1, 0, 0, 0, []), (.getfield 18, 3, 0, 2, 1, []), (.iload 5, 2, 0, 0, 0, []), (.iload_n 1, 1, 0, 0, 0, []), (.iastore, 1, 0, 0, 0, []), (.aload_n 0, 1, 0, 0, 0, []), (.getfield 18, 3, 0, 2, 1, []), (.iload 5, 2, 0, 0, 0, []), (.iconst 1, 1, 0, 0, 0, []), (.iadd, 1, 0, 0, 0, []), (.iload_n 2, 1, 0, 0, 0, []), (.iastore, 1, 0, 0, 0, []), (.aload_n 0, 1, 0, 0, 0, []), (.getfield 18, 3, 0, 2, 1, []), (.iload 5, 2, 0, 0, 0, []), (.iconst 2, 1, 0, 0, 0, []), (.iadd, 1, 0, 0, 0, []), (.iload_n 3, 1, 0, 0, 0, []), (.iastore, 1, 0, 0, 0, []), (.aload_n 0, 1, 0, 0, 0, []), (.getfield 18, 3, 0, 2, 1, []), (.iload 5, 2, 0, 0, 0, []), (.iconst 3, 1, 0, 0, 0, []), (.iadd, 1, 0, 0, 0, []), (.iload 4, 2, 0, 0, 0, []), (.iastore, 1, 0, 0, 0, []), (.aload_n 0, 1, 0, 0, 0, []), (.dup, 1, 0, 0, 0, []), (.getfield 42, 3, 0, 5, 0, []), (.iconst 1, 1, 0, 0, 0, []), (.iadd, 1, 0, 0, 0, []), (.putfield 42, 3, 0, 5, 0, []), (.return_, 1, 0, 0, 0, [])]
def m_C_addLaw : mMeth := ([(0, b_C_addLaw_0)], [(0, [0, 1, 2, 3, 4])])
def b_C_reads_0 : List mRow := [(.aload_n 0, 1, 0, 0, 0, []), (.getfield 18, 3, 0, 2, 1, []), (.iload_n 1, 1, 0, 0, 0, []), (.iconst 4, 1, 0, 0, 0, []), (.imul, 1, 0, 0, 0, []), (.iconst 1, 1, 0, 0, 0, []), (.iadd, 1, 0, 0, 0, []), (.iaload, 1, 0, 0, 0, []), (.istore_n 2, 1, 0, 0, 0, []), (.aload_n 0, 1, 0, 0, 0, []), (.getfield 18, 3, 0, 2, 1, []), (.iload_n 1, 1, 0, 0, 0, []), (.iconst 4, 1, 0, 0, 0, []), (.imul, 1, 0, 0, 0, []), (.iconst 2, 1, 0, 0, 0, []), (.iadd, 1, 0, 0, 0, []), (.iaload, 1, 0, 0, 0, []), (.istore_n 3, 1, 0, 0, 0, []), (.aload_n 0, 1, 0, 0, 0, []), (.getfield 18, 3, 0, 2, 1, []), (.iload_n 1, 1, 0, 0, 0, []), (.iconst 4, 1, 0, 0, 0, []), (.imul, 1, 0, 0, 0, []), (.iaload, 1, 0, 0, 0, []), (.aload_n 0, 1, 0, 0, 0, []), (.getfield 27, 3, 0, 9, 1, []), (.iload_n 2, 1, 0, 0, 0, []), (.iconst 5, 1, 0, 0, 0, []), (.imul, 1, 0, 0, 0, []), (.iload_n 3, 1, 0, 0, 0, []), (.iadd, 1, 0, 0, 0, []), (.iaload, 1, 0, 0, 0, []), (.aload_n 0, 1, 0, 0, 0, []), (.getfield 27, 3, 0, 9, 1, []), (.iload_n 3, 1, 0, 0, 0, []), (.iconst 5, 1, 0, 0, 0, []), (.imul, 1, 0, 0, 0, []), (.iload_n 2, 1, 0, 0, 0, []), (.iadd, 1, 0, 0, 0, []), (.iaload, 1, 0, 0, 0, []), (.aload_n 0, 1, 0, 0, 0, []), (.getfield 30, 3, 0, 10, 1, []), (.iload_n 2, 1, 0, 0, 0, []), (.iconst 5, 1, 0, 0, 0, []), (.imul, 1, 0, 0, 0, []), (.iload_n 3, 1, 0, 0, 0, []), (.iadd, 1, 0, 0, 0, []), (.iaload, 1, 0, 0, 0, []), (.invokestatic 75, 3, 12, 4, 1, []), (.ireturn, 1, 0, 0, 0, [])]
def m_C_reads : mMeth := ([(0, b_C_reads_0)], [(0, [0, 1])])
def b_C_readsByBack_0 : List mRow := [(.aload_n 0, 1, 0, 0, 0, []), (.getfield 18, 3, 0, 2, 1, []), (.iload_n 1, 1, 0, 0, 0, []), (.iconst 4, 1, 0, 0, 0, []), (.imul, 1, 0, 0, 0, []), (.iconst 1, 1, 0, 0, 0, []), (.iadd, 1, 0, 0, 0, []), (.iaload, 1, 0, 0, 0, []), (.istore_n 2, 1, 0, 0, 0, []), (.aload_n 0, 1, 0, 0, 0, []), (.getfield 18, 3, 0, 2, 1, []), (.iload_n 1, 1, 0, 0, 0, []), (.iconst 4, 1, 0, 0, 0, []), (.imul, 1, 0, 0, 0, []), (.iconst 2, 1, 0, 0, 0, []), (.iadd, 1, 0, 0, 0, []), (.iaload, 1, 0, 0, 0, []), (.istore_n 3, 1, 0, 0, 0, []), (.aload_n 0, 1, 0, 0, 0, []), (.getfield 18, 3, 0, 2, 1, []), (.iload_n 1, 1, 0, 0, 0, []), (.iconst 4, 1, 0, 0, 0, []), (.imul, 1, 0, 0, 0, []), (.iaload, 1, 0, 0, 0, []), (.aload_n 0, 1, 0, 0, 0, []), (.getfield 27, 3, 0, 9, 1, []), (.iload_n 3, 1, 0, 0, 0, []), (.iconst 5, 1, 0, 0, 0, []), (.imul, 1, 0, 0, 0, []), (.iload_n 2, 1, 0, 0, 0, []), (.iadd, 1, 0, 0, 0, []), (.iaload, 1, 0, 0, 0, []), (.aload_n 0, 1, 0, 0, 0, []), (.getfield 27, 3, 0, 9, 1, []), (.iload_n 2, 1, 0, 0, 0, []), (.iconst 5, 1, 0, 0, 0, []), (.imul, 1, 0, 0, 0, []), (.iload_n 3, 1, 0, 0, 0, []), (.iadd, 1, 0, 0, 0, []), (.iaload, 1, 0, 0, 0, []), (.aload_n 0, 1, 0, 0, 0, []), (.getfield 30, 3, 0, 10, 1, []), (.iload_n 2, 1, 0, 0, 0, []), (.iconst 5, 1, 0, 0, 0, []), (.imul, 1, 0, 0, 0, []), (.iload_n 3, 1, 0, 0, 0, []), (.iadd, 1, 0, 0, 0, []), (.iaload, 1, 0, 0, 0, []), (.invokestatic 75, 3, 12, 4, 1, []), (.ireturn, 1, 0, 0, 0, [])]
def m_C_readsByBack : mMeth := ([(0, b_C_readsByBack_0)], [(0, [0, 1])])
def b_C_readsAs_0 : List mRow := [(.iload_n 0, 1, 0, 0, 0, []), (.tableswitch 33 0 2 #[27, 29, 31], 27, 34, 0, 0, [28, 30, 32])]
def b_C_readsAs_28 : List mRow := [(.iload_n 1, 1, 0, 0, 0, []), (.ireturn, 1, 0, 0, 0, [])]
def b_C_readsAs_30 : List mRow := [(.iload_n 2, 1, 0, 0, 0, []), (.ireturn, 1, 0, 0, 0, [])]
def b_C_readsAs_32 : List mRow := [(.iload_n 3, 1, 0, 0, 0, []), (.ireturn, 1, 0, 0, 0, [])]
def b_C_readsAs_34 : List mRow := [(.iload_n 1, 1, 0, 0, 0, []), (.iload_n 3, 1, 0, 0, 0, []), (.iadd, 1, 0, 0, 0, []), (.ireturn, 1, 0, 0, 0, [])]
def m_C_readsAs : mMeth := ([(0, b_C_readsAs_0), (28, b_C_readsAs_28), (30, b_C_readsAs_30), (32, b_C_readsAs_32), (34, b_C_readsAs_34)], [(0, [0, 1, 2, 3]), (28, [1]), (30, [2]), (32, [3]), (34, [1, 3])])
def b_C_worth_0 : List mRow := [(.iconst 0, 1, 0, 0, 0, []), (.istore_n 1, 1, 0, 0, 0, []), (.iconst 0, 1, 0, 0, 0, []), (.istore_n 2, 1, 0, 0, 0, [])]
def b_C_worth_4 : List mRow := [(.iload_n 2, 1, 0, 0, 0, []), (.aload_n 0, 1, 0, 0, 0, []), (.getfield 42, 3, 0, 5, 0, []), (.if_icmp .ge 28, 3, 37, 0, 0, []), (.iload_n 1, 1, 0, 0, 0, []), (.aload_n 0, 1, 0, 0, 0, []), (.getfield 18, 3, 0, 2, 1, []), (.iload_n 2, 1, 0, 0, 0, []), (.iconst 4, 1, 0, 0, 0, []), (.imul, 1, 0, 0, 0, []), (.iconst 3, 1, 0, 0, 0, []), (.iadd, 1, 0, 0, 0, []), (.iaload, 1, 0, 0, 0, []), (.aload_n 0, 1, 0, 0, 0, []), (.iload_n 2, 1, 0, 0, 0, []), (.invokevirtual 79, 3, 10, 2, 1, [3]), (.imul, 1, 0, 0, 0, []), (.iadd, 1, 0, 0, 0, []), (.istore_n 1, 1, 0, 0, 0, []), (.iinc 2 1, 3, 0, 0, 0, []), (.goto (-30), 3, 4, 0, 0, [])]
def b_C_worth_37 : List mRow := [(.iload_n 1, 1, 0, 0, 0, []), (.ireturn, 1, 0, 0, 0, [])]
def m_C_worth : mMeth := ([(0, b_C_worth_0), (4, b_C_worth_4), (37, b_C_worth_37)], [(0, [0]), (4, [0, 1, 2]), (37, [1])])
def b_C_heldBits_0 : List mRow := [(.iconst 0, 1, 0, 0, 0, []), (.istore_n 1, 1, 0, 0, 0, []), (.iconst 0, 1, 0, 0, 0, []), (.istore_n 2, 1, 0, 0, 0, [])]
def b_C_heldBits_4 : List mRow := [(.iload_n 2, 1, 0, 0, 0, []), (.aload_n 0, 1, 0, 0, 0, []), (.getfield 42, 3, 0, 5, 0, []), (.if_icmp .ge 23, 3, 32, 0, 0, []), (.aload_n 0, 1, 0, 0, 0, []), (.iload_n 2, 1, 0, 0, 0, []), (.invokevirtual 79, 3, 10, 2, 1, [3]), (.ifCond .le 9, 3, 26, 0, 0, []), (.iload_n 1, 1, 0, 0, 0, []), (.iconst 1, 1, 0, 0, 0, []), (.iload_n 2, 1, 0, 0, 0, []), (.ishl, 1, 0, 0, 0, []), (.ior, 1, 0, 0, 0, []), (.istore_n 1, 1, 0, 0, 0, [])]
def b_C_heldBits_26 : List mRow := [(.iinc 2 1, 3, 0, 0, 0, []), (.goto (-25), 3, 4, 0, 0, [])]
def b_C_heldBits_32 : List mRow := [(.iload_n 1, 1, 0, 0, 0, []), (.ireturn, 1, 0, 0, 0, [])]
def m_C_heldBits : mMeth := ([(0, b_C_heldBits_0), (4, b_C_heldBits_4), (26, b_C_heldBits_26), (32, b_C_heldBits_32)], [(0, [0]), (4, [0, 1, 2]), (26, [0, 1, 2]), (32, [1])])
def b_C_cellsOf_0 : List mRow := [(.iconst 0, 1, 0, 0, 0, []), (.istore_n 2, 1, 0, 0, 0, []), (.iconst 0, 1, 0, 0, 0, []), (.istore_n 3, 1, 0, 0, 0, [])]
def b_C_cellsOf_4 : List mRow := [(.iload_n 3, 1, 0, 0, 0, []), (.bipush 36, 2, 0, 0, 0, []), (.if_icmp .ge 22, 3, 29, 0, 0, []), (.aload_n 0, 1, 0, 0, 0, []), (.getfield 9, 3, 0, 0, 1, []), (.iload_n 3, 1, 0, 0, 0, []), (.iaload, 1, 0, 0, 0, []), (.iload_n 1, 1, 0, 0, 0, []), (.if_icmp .ne 6, 3, 23, 0, 0, []), (.iinc 2 1, 3, 0, 0, 0, [])]
def b_C_cellsOf_23 : List mRow := [(.iinc 3 1, 3, 0, 0, 0, []), (.goto (-22), 3, 4, 0, 0, [])]
def b_C_cellsOf_29 : List mRow := [(.iload_n 2, 1, 0, 0, 0, []), (.ireturn, 1, 0, 0, 0, [])]
def m_C_cellsOf : mMeth := ([(0, b_C_cellsOf_0), (4, b_C_cellsOf_4), (23, b_C_cellsOf_23), (29, b_C_cellsOf_29)], [(0, [0, 1]), (4, [0, 1, 2, 3]), (23, [0, 1, 2, 3]), (29, [2])])
def b_C_canRun_0 : List mRow := [(.aload_n 0, 1, 0, 0, 0, []), (.getfield 9, 3, 0, 0, 1, []), (.iload_n 1, 1, 0, 0, 0, []), (.iaload, 1, 0, 0, 0, []), (.iconst 1, 1, 0, 0, 0, []), (.if_icmp .ne 27, 3, 34, 0, 0, []), (.iload_n 1, 1, 0, 0, 0, []), (.bipush 6, 2, 0, 0, 0, []), (.idiv, 1, 0, 0, 0, []), (.iconst 5, 1, 0, 0, 0, []), (.if_icmp .ge 19, 3, 34, 0, 0, []), (.aload_n 0, 1, 0, 0, 0, []), (.getfield 9, 3, 0, 0, 1, []), (.iload_n 1, 1, 0, 0, 0, []), (.bipush 6, 2, 0, 0, 0, []), (.iadd, 1, 0, 0, 0, []), (.iaload, 1, 0, 0, 0, []), (.ifCond .ne 7, 3, 34, 0, 0, []), (.iconst 1, 1, 0, 0, 0, []), (.goto 4, 3, 35, 0, 0, [])]
def b_C_canRun_34 : List mRow := [(.iconst 0, 1, 0, 0, 0, [])]
def b_C_canRun_35 : List mRow := [(.ireturn, 1, 0, 0, 1, [])]
def m_C_canRun : mMeth := ([(0, b_C_canRun_0), (34, b_C_canRun_34), (35, b_C_canRun_35)], [(0, [0, 1]), (34, []), (35, [])])
def b_C_runningCells_0 : List mRow := [(.aload_n 0, 1, 0, 0, 0, []), (.getfield 27, 3, 0, 9, 1, []), (.iconst 5, 1, 0, 0, 0, []), (.iaload, 1, 0, 0, 0, []), (.ireturn, 1, 0, 0, 0, [])]
def m_C_runningCells : mMeth := ([(0, b_C_runningCells_0)], [(0, [0])])
def b_C_exchange_0 : List mRow := [(.iconst 0, 1, 0, 0, 0, []), (.istore_n 3, 1, 0, 0, 0, [])]
def b_C_exchange_2 : List mRow := [(.iload_n 3, 1, 0, 0, 0, []), (.bipush 36, 2, 0, 0, 0, []), (.if_icmp .ge 44, 3, 49, 0, 0, []), (.aload_n 0, 1, 0, 0, 0, []), (.getfield 9, 3, 0, 0, 1, []), (.iload_n 3, 1, 0, 0, 0, []), (.iaload, 1, 0, 0, 0, []), (.iload_n 1, 1, 0, 0, 0, []), (.if_icmp .ne 12, 3, 27, 0, 0, []), (.aload_n 0, 1, 0, 0, 0, []), (.iload_n 3, 1, 0, 0, 0, []), (.iload_n 2, 1, 0, 0, 0, []), (.invokevirtual 59, 3, 3, 3, 0, [3]), (.goto 19, 3, 43, 0, 0, [])]
def b_C_exchange_27 : List mRow := [(.aload_n 0, 1, 0, 0, 0, []), (.getfield 9, 3, 0, 0, 1, []), (.iload_n 3, 1, 0, 0, 0, []), (.iaload, 1, 0, 0, 0, []), (.iload_n 2, 1, 0, 0, 0, []), (.if_icmp .ne 9, 3, 43, 0, 0, []), (.aload_n 0, 1, 0, 0, 0, []), (.iload_n 3, 1, 0, 0, 0, []), (.iload_n 1, 1, 0, 0, 0, []), (.invokevirtual 59, 3, 3, 3, 0, [3])]
def b_C_exchange_43 : List mRow := [(.iinc 3 1, 3, 0, 0, 0, []), (.goto (-44), 3, 2, 0, 0, [])]
def b_C_exchange_49 : List mRow := [(.return_, 1, 0, 0, 0, [])]
def m_C_exchange : mMeth := ([(0, b_C_exchange_0), (2, b_C_exchange_2), (27, b_C_exchange_27), (43, b_C_exchange_43), (49, b_C_exchange_49)], [(0, [0, 1, 2]), (2, [0, 1, 2, 3]), (27, [0, 1, 2, 3]), (43, [0, 1, 2, 3]), (49, [])])
def b_C_turnRow_0 : List mRow := [(.iconst 0, 1, 0, 0, 0, []), (.istore_n 2, 1, 0, 0, 0, [])]
def b_C_turnRow_2 : List mRow := [(.iload_n 2, 1, 0, 0, 0, []), (.iconst 3, 1, 0, 0, 0, []), (.if_icmp .ge 54, 3, 58, 0, 0, []), (.iload_n 2, 1, 0, 0, 0, []), (.bipush 6, 2, 0, 0, 0, []), (.imul, 1, 0, 0, 0, []), (.iload_n 1, 1, 0, 0, 0, []), (.iadd, 1, 0, 0, 0, []), (.istore_n 3, 1, 0, 0, 0, []), (.iconst 5, 1, 0, 0, 0, []), (.iload_n 2, 1, 0, 0, 0, []), (.isub, 1, 0, 0, 0, []), (.bipush 6, 2, 0, 0, 0, []), (.imul, 1, 0, 0, 0, []), (.iload_n 1, 1, 0, 0, 0, []), (.iadd, 1, 0, 0, 0, []), (.istore 4, 2, 0, 0, 0, []), (.aload_n 0, 1, 0, 0, 0, []), (.getfield 9, 3, 0, 0, 1, []), (.iload_n 3, 1, 0, 0, 0, []), (.iaload, 1, 0, 0, 0, []), (.istore 5, 2, 0, 0, 0, []), (.aload_n 0, 1, 0, 0, 0, []), (.iload_n 3, 1, 0, 0, 0, []), (.aload_n 0, 1, 0, 0, 0, []), (.getfield 9, 3, 0, 0, 1, []), (.iload 4, 2, 0, 0, 0, []), (.iaload, 1, 0, 0, 0, []), (.invokevirtual 59, 3, 3, 3, 0, [3]), (.aload_n 0, 1, 0, 0, 0, []), (.iload 4, 2, 0, 0, 0, []), (.iload 5, 2, 0, 0, 0, []), (.invokevirtual 59, 3, 3, 3, 0, [3]), (.iinc 2 1, 3, 0, 0, 0, []), (.goto (-53), 3, 2, 0, 0, [])]
def b_C_turnRow_58 : List mRow := [(.return_, 1, 0, 0, 0, [])]
def m_C_turnRow : mMeth := ([(0, b_C_turnRow_0), (2, b_C_turnRow_2), (58, b_C_turnRow_58)], [(0, [0, 1]), (2, [0, 1, 2]), (58, [])])
def b_O_init_0 : List mRow := [(.aload_n 0, 1, 0, 0, 0, []), (.invokespecial 3, 3, 9000, 1, 0, []), (.return_, 1, 0, 0, 0, [])]
def m_O_init : mMeth := ([(0, b_O_init_0)], [(0, [0])])
def b_O_begin_0 : List mRow := [(.aload_n 0, 1, 0, 0, 0, []), (.bipush (-4), 2, 0, 0, 0, []), (.putfield 9, 3, 1, 0, 0, []), (.aload_n 0, 1, 0, 0, 0, []), (.iload_n 1, 1, 0, 0, 0, []), (.putfield 15, 3, 1, 1, 0, []), (.return_, 1, 0, 0, 0, [])]
def m_O_begin : mMeth := ([(0, b_O_begin_0)], [(0, [0, 1])])
def b_O_offer_0 : List mRow := [(.iload_n 2, 1, 0, 0, 0, []), (.aload_n 0, 1, 0, 0, 0, []), (.getfield 15, 3, 1, 1, 0, []), (.if_icmp .le 13, 3, 18, 0, 0, []), (.aload_n 0, 1, 0, 0, 0, []), (.iload_n 1, 1, 0, 0, 0, []), (.putfield 9, 3, 1, 0, 0, []), (.aload_n 0, 1, 0, 0, 0, []), (.iload_n 2, 1, 0, 0, 0, []), (.putfield 15, 3, 1, 1, 0, [])]
def b_O_offer_18 : List mRow := [(.return_, 1, 0, 0, 0, [])]
def m_O_offer : mMeth := ([(0, b_O_offer_0), (18, b_O_offer_18)], [(0, [0, 1, 2]), (18, [])])
def b_O_told_0 : List mRow := [(.aload_n 0, 1, 0, 0, 0, []), (.getfield 9, 3, 1, 0, 0, []), (.bipush (-4), 2, 0, 0, 0, []), (.if_icmp .eq 7, 3, 13, 0, 0, []), (.iload_n 1, 1, 0, 0, 0, []), (.ifCond .ne 10, 3, 20, 0, 0, [])]
def b_O_told_13 : List mRow := [(.aload_n 0, 1, 0, 0, 0, []), (.getfield 9, 3, 1, 0, 0, []), (.goto 7, 3, 24, 0, 0, [])]
def b_O_told_20 : List mRow := [(.aload_n 0, 1, 0, 0, 0, []), (.getfield 15, 3, 1, 1, 0, [])]
def b_O_told_24 : List mRow := [(.ireturn, 1, 0, 0, 0, [])]
def m_O_told : mMeth := ([(0, b_O_told_0), (13, b_O_told_13), (20, b_O_told_20), (24, b_O_told_24)], [(0, [0, 1]), (13, [0]), (20, [0]), (24, [])])
def b_I_init_0 : List mRow := [(.aload_n 0, 1, 0, 0, 0, []), (.invokespecial 1, 3, 9000, 1, 0, []), (.aload_n 0, 1, 0, 0, 0, []), (.new 7, 3, 0, 11, 0, []), (.dup, 1, 0, 0, 0, []), (.invokespecial 9, 3, 0, 1, 0, [3]), (.putfield 10, 3, 2, 0, 1, []), (.return_, 1, 0, 0, 0, [])]
def m_I_init : mMeth := ([(0, b_I_init_0)], [(0, [0])])
def b_S_init_0 : List mRow := [(.aload_n 0, 1, 0, 0, 0, []), (.invokespecial 3, 3, 9000, 1, 0, []), (.aload_n 0, 1, 0, 0, 0, []), (.bipush 40, 2, 0, 0, 0, []), (.newarray .int, 2, 0, 0, 0, []), (.putfield 9, 3, 3, 0, 1, []), (.aload_n 0, 1, 0, 0, 0, []), (.iconst (-1), 1, 0, 0, 0, []), (.putfield 15, 3, 3, 2, 0, []), (.return_, 1, 0, 0, 0, [])]
def m_S_init : mMeth := ([(0, b_S_init_0)], [(0, [0])])
def b_S_renew_0 : List mRow := [(.aload_n 0, 1, 0, 0, 0, []), (.getfield 9, 3, 3, 0, 1, []), (.iconst 0, 1, 0, 0, 0, []), (.invokestatic 19, 3, 190, 2, 0, []), (.aload_n 0, 1, 0, 0, 0, []), (.iload_n 1, 1, 0, 0, 0, []), (.putfield 25, 3, 3, 1, 0, []), (.aload_n 0, 1, 0, 0, 0, []), (.iload_n 2, 1, 0, 0, 0, []), (.putfield 15, 3, 3, 2, 0, []), (.return_, 1, 0, 0, 0, [])]
def m_S_renew : mMeth := ([(0, b_S_renew_0)], [(0, [0, 1, 2])])
def b_S_set_0 : List mRow := [(.aload_n 0, 1, 0, 0, 0, []), (.getfield 25, 3, 3, 1, 0, []), (.ifCond .ne 14, 3, 18, 0, 0, []), (.aload_n 0, 1, 0, 0, 0, []), (.getfield 9, 3, 3, 0, 1, []), (.iload_n 1, 1, 0, 0, 0, []), (.iload_n 2, 1, 0, 0, 0, []), (.i2b, 1, 0, 0, 0, []), (.iastore, 1, 0, 0, 0, []), (.goto 29, 3, 44, 0, 0, [])]
def b_S_set_18 : List mRow := [(.aload_n 0, 1, 0, 0, 0, []), (.getfield 25, 3, 3, 1, 0, []), (.iconst 1, 1, 0, 0, 0, []), (.if_icmp .ne 14, 3, 37, 0, 0, []), (.aload_n 0, 1, 0, 0, 0, []), (.getfield 9, 3, 3, 0, 1, []), (.iload_n 1, 1, 0, 0, 0, []), (.iload_n 2, 1, 0, 0, 0, []), (.i2s, 1, 0, 0, 0, []), (.iastore, 1, 0, 0, 0, []), (.goto 10, 3, 44, 0, 0, [])]
def b_S_set_37 : List mRow := [(.aload_n 0, 1, 0, 0, 0, []), (.getfield 9, 3, 3, 0, 1, []), (.iload_n 1, 1, 0, 0, 0, []), (.iload_n 2, 1, 0, 0, 0, []), (.iastore, 1, 0, 0, 0, [])]
def b_S_set_44 : List mRow := [(.return_, 1, 0, 0, 0, [])]
def m_S_set : mMeth := ([(0, b_S_set_0), (18, b_S_set_18), (37, b_S_set_37), (44, b_S_set_44)], [(0, [0, 1, 2]), (18, [0, 1, 2]), (37, [0, 1, 2]), (44, [])])
def b_S_faultAsOf_0 : List mRow := [(.aload_n 0, 1, 0, 0, 0, []), (.getfield 15, 3, 3, 2, 0, []), (.ifCond .lt 15, 3, 19, 0, 0, []), (.aload_n 0, 1, 0, 0, 0, []), (.getfield 25, 3, 3, 1, 0, []), (.iload_n 1, 1, 0, 0, 0, []), (.if_icmp .eq 7, 3, 19, 0, 0, []), (.iconst 3, 1, 0, 0, 0, []), (.goto 9, 3, 25, 0, 0, [])]
def b_S_faultAsOf_19 : List mRow := [(.aload_n 0, 1, 0, 0, 0, []), (.iload_n 2, 1, 0, 0, 0, []), (.iload_n 3, 1, 0, 0, 0, []), (.invokevirtual 28, 3, 29, 3, 1, [6])]
def b_S_faultAsOf_25 : List mRow := [(.ireturn, 1, 0, 0, 0, [])]
def m_S_faultAsOf : mMeth := ([(0, b_S_faultAsOf_0), (19, b_S_faultAsOf_19), (25, b_S_faultAsOf_25)], [(0, [0, 1, 2, 3]), (19, [0, 2, 3]), (25, [])])
def b_S_faultAt_0 : List mRow := [(.aload_n 0, 1, 0, 0, 0, []), (.getfield 15, 3, 3, 2, 0, []), (.ifCond .ge 5, 3, 9, 0, 0, []), (.iconst 1, 1, 0, 0, 0, []), (.ireturn, 1, 0, 0, 0, [])]
def b_S_faultAt_9 : List mRow := [(.iload_n 1, 1, 0, 0, 0, []), (.ifCond .lt 13, 3, 23, 0, 0, []), (.iload_n 1, 1, 0, 0, 0, []), (.aload_n 0, 1, 0, 0, 0, []), (.getfield 15, 3, 3, 2, 0, []), (.iload_n 2, 1, 0, 0, 0, []), (.isub, 1, 0, 0, 0, []), (.if_icmp .le 7, 3, 27, 0, 0, [])]
def b_S_faultAt_23 : List mRow := [(.iconst 2, 1, 0, 0, 0, []), (.goto 4, 3, 28, 0, 0, [])]
def b_S_faultAt_27 : List mRow := [(.iconst 0, 1, 0, 0, 0, [])]
def b_S_faultAt_28 : List mRow := [(.ireturn, 1, 0, 0, 0, [])]
def m_S_faultAt : mMeth := ([(0, b_S_faultAt_0), (9, b_S_faultAt_9), (23, b_S_faultAt_23), (27, b_S_faultAt_27), (28, b_S_faultAt_28)], [(0, [0, 1, 2]), (9, [0, 1, 2]), (23, []), (27, []), (28, [])])
def b_T_init_0 : List mRow := [(.aload_n 0, 1, 0, 0, 0, []), (.invokespecial 3, 3, 9000, 1, 0, []), (.aload_n 0, 1, 0, 0, 0, []), (.sipush 160, 3, 0, 0, 0, []), (.newarray .int, 2, 0, 0, 0, []), (.putfield 9, 3, 4, 0, 1, []), (.return_, 1, 0, 0, 0, [])]
def m_T_init : mMeth := ([(0, b_T_init_0)], [(0, [0])])
def b_T_tell_0 : List mRow := [(.aload_n 1, 1, 0, 0, 0, []), (.invokevirtual 15, 3, 1, 1, 0, [3]), (.aload_n 0, 1, 0, 0, 0, []), (.iconst 0, 1, 0, 0, 0, []), (.putfield 20, 3, 4, 2, 0, []), (.aload_n 0, 1, 0, 0, 0, []), (.iconst 0, 1, 0, 0, 0, []), (.putfield 24, 3, 4, 3, 0, []), (.aload_n 0, 1, 0, 0, 0, []), (.iconst 0, 1, 0, 0, 0, []), (.putfield 27, 3, 4, 4, 0, []), (.aload_n 0, 1, 0, 0, 0, []), (.iconst 0, 1, 0, 0, 0, []), (.putfield 30, 3, 4, 8, 0, []), (.aload_n 0, 1, 0, 0, 0, []), (.iconst 0, 1, 0, 0, 0, []), (.putfield 33, 3, 4, 9, 0, []), (.iconst 0, 1, 0, 0, 0, []), (.istore_n 2, 1, 0, 0, 0, []), (.iconst 0, 1, 0, 0, 0, []), (.istore_n 3, 1, 0, 0, 0, [])]
def b_T_tell_33 : List mRow := [(.iload_n 3, 1, 0, 0, 0, []), (.sipush 160, 3, 0, 0, 0, []), (.if_icmp .gt 38, 3, 75, 0, 0, []), (.aload_n 0, 1, 0, 0, 0, []), (.invokevirtual 36, 3, 33, 1, 0, [7]), (.aload_n 0, 1, 0, 0, 0, []), (.getfield 20, 3, 4, 2, 0, []), (.ifCond .ne 27, 3, 75, 0, 0, []), (.aload_n 0, 1, 0, 0, 0, []), (.getfield 39, 3, 4, 5, 0, []), (.ifCond .ne 6, 3, 61, 0, 0, []), (.goto 17, 3, 75, 0, 0, [])]
def b_T_tell_61 : List mRow := [(.aload_n 0, 1, 0, 0, 0, []), (.aload_n 1, 1, 0, 0, 0, []), (.invokevirtual 42, 3, 36, 2, 0, [7]), (.iinc 2 1, 3, 0, 0, 0, []), (.iinc 3 1, 3, 0, 0, 0, []), (.goto (-39), 3, 33, 0, 0, [])]
def b_T_tell_75 : List mRow := [(.iload_n 2, 1, 0, 0, 0, []), (.ireturn, 1, 0, 0, 0, [])]
def m_T_tell : mMeth := ([(0, b_T_tell_0), (33, b_T_tell_33), (61, b_T_tell_61), (75, b_T_tell_75)], [(0, [0, 1]), (33, [0, 1, 2, 3]), (61, [0, 1, 2, 3]), (75, [2])])
def b_T_fail_0 : List mRow := [(.aload_n 0, 1, 0, 0, 0, []), (.getfield 20, 3, 4, 2, 0, []), (.ifCond .ne 16, 3, 20, 0, 0, []), (.aload_n 0, 1, 0, 0, 0, []), (.iload_n 1, 1, 0, 0, 0, []), (.putfield 20, 3, 4, 2, 0, []), (.aload_n 0, 1, 0, 0, 0, []), (.aload_n 0, 1, 0, 0, 0, []), (.getfield 46, 3, 4, 6, 0, []), (.putfield 24, 3, 4, 3, 0, [])]
def b_T_fail_20 : List mRow := [(.return_, 1, 0, 0, 0, [])]
def m_T_fail : mMeth := ([(0, b_T_fail_0), (20, b_T_fail_20)], [(0, [0, 1]), (20, [])])
def b_T_readToken_0 : List mRow := [(.aload_n 0, 1, 0, 0, 0, []), (.getfield 20, 3, 4, 2, 0, []), (.ifCond .eq 4, 3, 8, 0, 0, []), (.return_, 1, 0, 0, 0, [])]
def b_T_readToken_8 : List mRow := [(.aload_n 0, 1, 0, 0, 0, []), (.getfield 27, 3, 4, 4, 0, []), (.aload_n 0, 1, 0, 0, 0, []), (.getfield 49, 3, 4, 1, 0, []), (.if_icmp .ge 30, 3, 46, 0, 0, []), (.aload_n 0, 1, 0, 0, 0, []), (.getfield 9, 3, 4, 0, 1, []), (.aload_n 0, 1, 0, 0, 0, []), (.getfield 27, 3, 4, 4, 0, []), (.iaload, 1, 0, 0, 0, []), (.bipush 32, 2, 0, 0, 0, []), (.if_icmp .ne 16, 3, 46, 0, 0, []), (.aload_n 0, 1, 0, 0, 0, []), (.dup, 1, 0, 0, 0, []), (.getfield 27, 3, 4, 4, 0, []), (.iconst 1, 1, 0, 0, 0, []), (.iadd, 1, 0, 0, 0, []), (.putfield 27, 3, 4, 4, 0, []), (.goto (-35), 3, 8, 0, 0, [])]
def b_T_readToken_46 : List mRow := [(.aload_n 0, 1, 0, 0, 0, []), (.aload_n 0, 1, 0, 0, 0, []), (.getfield 27, 3, 4, 4, 0, []), (.putfield 46, 3, 4, 6, 0, []), (.aload_n 0, 1, 0, 0, 0, []), (.getfield 27, 3, 4, 4, 0, []), (.aload_n 0, 1, 0, 0, 0, []), (.getfield 49, 3, 4, 1, 0, []), (.if_icmp .lt 11, 3, 73, 0, 0, []), (.aload_n 0, 1, 0, 0, 0, []), (.iconst 0, 1, 0, 0, 0, []), (.putfield 39, 3, 4, 5, 0, []), (.goto 208, 3, 278, 0, 0, [])]
def b_T_readToken_73 : List mRow := [(.aload_n 0, 1, 0, 0, 0, []), (.getfield 9, 3, 4, 0, 1, []), (.aload_n 0, 1, 0, 0, 0, []), (.getfield 27, 3, 4, 4, 0, []), (.iaload, 1, 0, 0, 0, []), (.invokestatic 52, 3, 34, 1, 1, []), (.ifCond .eq 47, 3, 132, 0, 0, []), (.aload_n 0, 1, 0, 0, 0, []), (.iconst 1, 1, 0, 0, 0, []), (.putfield 39, 3, 4, 5, 0, [])]
def b_T_readToken_93 : List mRow := [(.aload_n 0, 1, 0, 0, 0, []), (.getfield 27, 3, 4, 4, 0, []), (.aload_n 0, 1, 0, 0, 0, []), (.getfield 49, 3, 4, 1, 0, []), (.if_icmp .ge 177, 3, 278, 0, 0, []), (.aload_n 0, 1, 0, 0, 0, []), (.getfield 9, 3, 4, 0, 1, []), (.aload_n 0, 1, 0, 0, 0, []), (.getfield 27, 3, 4, 4, 0, []), (.iaload, 1, 0, 0, 0, []), (.invokestatic 52, 3, 34, 1, 1, []), (.ifCond .eq 162, 3, 278, 0, 0, []), (.aload_n 0, 1, 0, 0, 0, []), (.dup, 1, 0, 0, 0, []), (.getfield 27, 3, 4, 4, 0, []), (.iconst 1, 1, 0, 0, 0, []), (.iadd, 1, 0, 0, 0, []), (.putfield 27, 3, 4, 4, 0, []), (.goto (-36), 3, 93, 0, 0, [])]
def b_T_readToken_132 : List mRow := [(.aload_n 0, 1, 0, 0, 0, []), (.getfield 9, 3, 4, 0, 1, []), (.aload_n 0, 1, 0, 0, 0, []), (.getfield 27, 3, 4, 4, 0, []), (.iaload, 1, 0, 0, 0, []), (.invokestatic 56, 3, 35, 1, 1, []), (.ifCond .eq 97, 3, 241, 0, 0, []), (.aload_n 0, 1, 0, 0, 0, []), (.iconst 2, 1, 0, 0, 0, []), (.putfield 39, 3, 4, 5, 0, []), (.aload_n 0, 1, 0, 0, 0, []), (.iconst 0, 1, 0, 0, 0, []), (.putfield 59, 3, 4, 7, 0, [])]
def b_T_readToken_157 : List mRow := [(.aload_n 0, 1, 0, 0, 0, []), (.getfield 27, 3, 4, 4, 0, []), (.aload_n 0, 1, 0, 0, 0, []), (.getfield 49, 3, 4, 1, 0, []), (.if_icmp .ge 55, 3, 220, 0, 0, []), (.aload_n 0, 1, 0, 0, 0, []), (.getfield 9, 3, 4, 0, 1, []), (.aload_n 0, 1, 0, 0, 0, []), (.getfield 27, 3, 4, 4, 0, []), (.iaload, 1, 0, 0, 0, []), (.invokestatic 56, 3, 35, 1, 1, []), (.ifCond .eq 40, 3, 220, 0, 0, []), (.aload_n 0, 1, 0, 0, 0, []), (.bipush 10, 2, 0, 0, 0, []), (.aload_n 0, 1, 0, 0, 0, []), (.getfield 59, 3, 4, 7, 0, []), (.imul, 1, 0, 0, 0, []), (.aload_n 0, 1, 0, 0, 0, []), (.getfield 9, 3, 4, 0, 1, []), (.aload_n 0, 1, 0, 0, 0, []), (.getfield 27, 3, 4, 4, 0, []), (.iaload, 1, 0, 0, 0, []), (.iadd, 1, 0, 0, 0, []), (.bipush 48, 2, 0, 0, 0, []), (.isub, 1, 0, 0, 0, []), (.putfield 59, 3, 4, 7, 0, []), (.aload_n 0, 1, 0, 0, 0, []), (.dup, 1, 0, 0, 0, []), (.getfield 27, 3, 4, 4, 0, []), (.iconst 1, 1, 0, 0, 0, []), (.iadd, 1, 0, 0, 0, []), (.putfield 27, 3, 4, 4, 0, []), (.goto (-60), 3, 157, 0, 0, [])]
def b_T_readToken_220 : List mRow := [(.aload_n 0, 1, 0, 0, 0, []), (.getfield 27, 3, 4, 4, 0, []), (.aload_n 0, 1, 0, 0, 0, []), (.getfield 46, 3, 4, 6, 0, []), (.isub, 1, 0, 0, 0, []), (.iconst 2, 1, 0, 0, 0, []), (.if_icmp .le 48, 3, 278, 0, 0, []), (.aload_n 0, 1, 0, 0, 0, []), (.iconst 1, 1, 0, 0, 0, []), (.invokevirtual 62, 3, 32, 2, 0, [7]), (.goto 40, 3, 278, 0, 0, [])]
def b_T_readToken_241 : List mRow := [(.aload_n 0, 1, 0, 0, 0, []), (.getfield 9, 3, 4, 0, 1, []), (.aload_n 0, 1, 0, 0, 0, []), (.getfield 27, 3, 4, 4, 0, []), (.iaload, 1, 0, 0, 0, []), (.bipush 59, 2, 0, 0, 0, []), (.if_icmp .ne 21, 3, 273, 0, 0, []), (.aload_n 0, 1, 0, 0, 0, []), (.iconst 3, 1, 0, 0, 0, []), (.putfield 39, 3, 4, 5, 0, []), (.aload_n 0, 1, 0, 0, 0, []), (.dup, 1, 0, 0, 0, []), (.getfield 27, 3, 4, 4, 0, []), (.iconst 1, 1, 0, 0, 0, []), (.iadd, 1, 0, 0, 0, []), (.putfield 27, 3, 4, 4, 0, []), (.goto 8, 3, 278, 0, 0, [])]
def b_T_readToken_273 : List mRow := [(.aload_n 0, 1, 0, 0, 0, []), (.iconst 1, 1, 0, 0, 0, []), (.invokevirtual 62, 3, 32, 2, 0, [7])]
def b_T_readToken_278 : List mRow := [(.return_, 1, 0, 0, 0, [])]
def m_T_readToken : mMeth := ([(0, b_T_readToken_0), (8, b_T_readToken_8), (46, b_T_readToken_46), (73, b_T_readToken_73), (93, b_T_readToken_93), (132, b_T_readToken_132), (157, b_T_readToken_157), (220, b_T_readToken_220), (241, b_T_readToken_241), (273, b_T_readToken_273), (278, b_T_readToken_278)], [(0, [0]), (8, [0]), (46, [0]), (73, [0]), (93, [0]), (132, [0]), (157, [0]), (220, [0]), (241, [0]), (273, [0]), (278, [])])
def b_T_isLetter_0 : List mRow := [(.iload_n 0, 1, 0, 0, 0, []), (.bipush 97, 2, 0, 0, 0, []), (.if_icmp .lt 13, 3, 16, 0, 0, []), (.iload_n 0, 1, 0, 0, 0, []), (.bipush 122, 2, 0, 0, 0, []), (.if_icmp .gt 7, 3, 16, 0, 0, []), (.iconst 1, 1, 0, 0, 0, []), (.goto 4, 3, 17, 0, 0, [])]
def b_T_isLetter_16 : List mRow := [(.iconst 0, 1, 0, 0, 0, [])]
def b_T_isLetter_17 : List mRow := [(.ireturn, 1, 0, 0, 1, [])]
def m_T_isLetter : mMeth := ([(0, b_T_isLetter_0), (16, b_T_isLetter_16), (17, b_T_isLetter_17)], [(0, [0]), (16, []), (17, [])])
def b_T_isFigure_0 : List mRow := [(.iload_n 0, 1, 0, 0, 0, []), (.bipush 48, 2, 0, 0, 0, []), (.if_icmp .lt 13, 3, 16, 0, 0, []), (.iload_n 0, 1, 0, 0, 0, []), (.bipush 57, 2, 0, 0, 0, []), (.if_icmp .gt 7, 3, 16, 0, 0, []), (.iconst 1, 1, 0, 0, 0, []), (.goto 4, 3, 17, 0, 0, [])]
def b_T_isFigure_16 : List mRow := [(.iconst 0, 1, 0, 0, 0, [])]
def b_T_isFigure_17 : List mRow := [(.ireturn, 1, 0, 0, 1, [])]
def m_T_isFigure : mMeth := ([(0, b_T_isFigure_0), (16, b_T_isFigure_16), (17, b_T_isFigure_17)], [(0, [0]), (16, []), (17, [])])
def b_T_readLine_0 : List mRow := [(.aload_n 0, 1, 0, 0, 0, []), (.getfield 39, 3, 4, 5, 0, []), (.iconst 1, 1, 0, 0, 0, []), (.if_icmp .eq 11, 3, 16, 0, 0, []), (.aload_n 0, 1, 0, 0, 0, []), (.iconst 2, 1, 0, 0, 0, []), (.invokevirtual 62, 3, 32, 2, 0, [7]), (.goto 114, 3, 127, 0, 0, [])]
def b_T_readLine_16 : List mRow := [(.aload_n 0, 1, 0, 0, 0, []), (.ldc 66, 2, 0, 1, 0, []), (.invokevirtual 68, 3, 37, 2, 1, [7]), (.ifCond .eq 11, 3, 33, 0, 0, []), (.aload_n 0, 1, 0, 0, 0, []), (.aload_n 1, 1, 0, 0, 0, []), (.invokevirtual 72, 3, 38, 2, 0, [7]), (.goto 97, 3, 127, 0, 0, [])]
def b_T_readLine_33 : List mRow := [(.aload_n 0, 1, 0, 0, 0, []), (.ldc 75, 2, 1, 1, 0, []), (.invokevirtual 68, 3, 37, 2, 1, [7]), (.ifCond .eq 11, 3, 50, 0, 0, []), (.aload_n 0, 1, 0, 0, 0, []), (.aload_n 1, 1, 0, 0, 0, []), (.invokevirtual 77, 3, 40, 2, 0, [7]), (.goto 80, 3, 127, 0, 0, [])]
def b_T_readLine_50 : List mRow := [(.aload_n 0, 1, 0, 0, 0, []), (.ldc 80, 2, 2, 1, 0, []), (.invokevirtual 68, 3, 37, 2, 1, [7]), (.ifCond .eq 12, 3, 68, 0, 0, []), (.aload_n 0, 1, 0, 0, 0, []), (.aload_n 1, 1, 0, 0, 0, []), (.iconst 0, 1, 0, 0, 0, []), (.invokevirtual 82, 3, 41, 3, 0, [7]), (.goto 62, 3, 127, 0, 0, [])]
def b_T_readLine_68 : List mRow := [(.aload_n 0, 1, 0, 0, 0, []), (.ldc 86, 2, 3, 1, 0, []), (.invokevirtual 68, 3, 37, 2, 1, [7]), (.ifCond .eq 12, 3, 86, 0, 0, []), (.aload_n 0, 1, 0, 0, 0, []), (.aload_n 1, 1, 0, 0, 0, []), (.iconst 1, 1, 0, 0, 0, []), (.invokevirtual 82, 3, 41, 3, 0, [7]), (.goto 44, 3, 127, 0, 0, [])]
def b_T_readLine_86 : List mRow := [(.aload_n 0, 1, 0, 0, 0, []), (.ldc 88, 2, 4, 1, 0, []), (.invokevirtual 68, 3, 37, 2, 1, [7]), (.ifCond .eq 12, 3, 104, 0, 0, []), (.aload_n 0, 1, 0, 0, 0, []), (.aload_n 1, 1, 0, 0, 0, []), (.iconst 2, 1, 0, 0, 0, []), (.invokevirtual 82, 3, 41, 3, 0, [7]), (.goto 26, 3, 127, 0, 0, [])]
def b_T_readLine_104 : List mRow := [(.aload_n 0, 1, 0, 0, 0, []), (.ldc 90, 2, 5, 1, 0, []), (.invokevirtual 68, 3, 37, 2, 1, [7]), (.ifCond .eq 12, 3, 122, 0, 0, []), (.aload_n 0, 1, 0, 0, 0, []), (.aload_n 1, 1, 0, 0, 0, []), (.iconst 3, 1, 0, 0, 0, []), (.invokevirtual 82, 3, 41, 3, 0, [7]), (.goto 8, 3, 127, 0, 0, [])]
def b_T_readLine_122 : List mRow := [(.aload_n 0, 1, 0, 0, 0, []), (.iconst 2, 1, 0, 0, 0, []), (.invokevirtual 62, 3, 32, 2, 0, [7])]
def b_T_readLine_127 : List mRow := [(.return_, 1, 0, 0, 0, [])]
def m_T_readLine : mMeth := ([(0, b_T_readLine_0), (16, b_T_readLine_16), (33, b_T_readLine_33), (50, b_T_readLine_50), (68, b_T_readLine_68), (86, b_T_readLine_86), (104, b_T_readLine_104), (122, b_T_readLine_122), (127, b_T_readLine_127)], [(0, [0, 1]), (16, [0, 1]), (33, [0, 1]), (50, [0, 1]), (68, [0, 1]), (86, [0, 1]), (104, [0, 1]), (122, [0]), (127, [])])
def b_T_isName_0 : List mRow := [(.aload_n 0, 1, 0, 0, 0, []), (.getfield 27, 3, 4, 4, 0, []), (.aload_n 0, 1, 0, 0, 0, []), (.getfield 46, 3, 4, 6, 0, []), (.isub, 1, 0, 0, 0, []), (.aload_n 1, 1, 0, 0, 0, []), (.invokevirtual 92, 3, 0, 1, 5, []), (.if_icmp .eq 5, 3, 18, 0, 0, []), (.iconst 0, 1, 0, 0, 0, []), (.ireturn, 1, 0, 0, 1, [])]
def b_T_isName_18 : List mRow := [(.iconst 0, 1, 0, 0, 0, []), (.istore_n 2, 1, 0, 0, 0, [])]
def b_T_isName_20 : List mRow := [(.iload_n 2, 1, 0, 0, 0, []), (.aload_n 1, 1, 0, 0, 0, []), (.invokevirtual 92, 3, 0, 1, 5, []), (.if_icmp .ge 30, 3, 55, 0, 0, []), (.aload_n 0, 1, 0, 0, 0, []), (.getfield 9, 3, 4, 0, 1, []), (.aload_n 0, 1, 0, 0, 0, []), (.getfield 46, 3, 4, 6, 0, []), (.iload_n 2, 1, 0, 0, 0, []), (.iadd, 1, 0, 0, 0, []), (.iaload, 1, 0, 0, 0, []), (.aload_n 1, 1, 0, 0, 0, []), (.iload_n 2, 1, 0, 0, 0, []), (.invokevirtual 97, 3, 0, 2, 6, []), (.if_icmp .eq 5, 3, 49, 0, 0, []), (.iconst 0, 1, 0, 0, 0, []), (.ireturn, 1, 0, 0, 1, [])]
def b_T_isName_49 : List mRow := [(.iinc 2 1, 3, 0, 0, 0, []), (.goto (-32), 3, 20, 0, 0, [])]
def b_T_isName_55 : List mRow := [(.iconst 1, 1, 0, 0, 0, []), (.ireturn, 1, 0, 0, 1, [])]
def m_T_isName : mMeth := ([(0, b_T_isName_0), (18, b_T_isName_18), (20, b_T_isName_20), (49, b_T_isName_49), (55, b_T_isName_55)], [(0, [0, 1]), (18, [0, 1]), (20, [0, 1, 2]), (49, [0, 1, 2]), (55, [])])
def b_T_readRow_0 : List mRow := [(.aload_n 0, 1, 0, 0, 0, []), (.iconst 0, 1, 0, 0, 0, []), (.iconst 5, 1, 0, 0, 0, []), (.invokevirtual 101, 3, 42, 3, 1, [7]), (.istore_n 2, 1, 0, 0, 0, []), (.aload_n 0, 1, 0, 0, 0, []), (.getfield 30, 3, 4, 8, 0, []), (.iload_n 2, 1, 0, 0, 0, []), (.ishr, 1, 0, 0, 0, []), (.iconst 1, 1, 0, 0, 0, []), (.iand, 1, 0, 0, 0, []), (.iconst 1, 1, 0, 0, 0, []), (.if_icmp .ne 8, 3, 24, 0, 0, []), (.aload_n 0, 1, 0, 0, 0, []), (.iconst 4, 1, 0, 0, 0, []), (.invokevirtual 62, 3, 32, 2, 0, [7])]
def b_T_readRow_24 : List mRow := [(.aload_n 0, 1, 0, 0, 0, []), (.dup, 1, 0, 0, 0, []), (.getfield 30, 3, 4, 8, 0, []), (.iconst 1, 1, 0, 0, 0, []), (.iload_n 2, 1, 0, 0, 0, []), (.ishl, 1, 0, 0, 0, []), (.ior, 1, 0, 0, 0, []), (.putfield 30, 3, 4, 8, 0, []), (.iconst 0, 1, 0, 0, 0, []), (.istore_n 3, 1, 0, 0, 0, [])]
def b_T_readRow_38 : List mRow := [(.iload_n 3, 1, 0, 0, 0, []), (.bipush 6, 2, 0, 0, 0, []), (.if_icmp .gt 43, 3, 84, 0, 0, []), (.aload_n 0, 1, 0, 0, 0, []), (.getfield 20, 3, 4, 2, 0, []), (.ifCond .ne 36, 3, 84, 0, 0, []), (.aload_n 0, 1, 0, 0, 0, []), (.invokevirtual 36, 3, 33, 1, 0, [7]), (.aload_n 0, 1, 0, 0, 0, []), (.getfield 20, 3, 4, 2, 0, []), (.ifCond .ne 12, 3, 71, 0, 0, []), (.aload_n 0, 1, 0, 0, 0, []), (.getfield 39, 3, 4, 5, 0, []), (.iconst 3, 1, 0, 0, 0, []), (.if_icmp .ne 4, 3, 71, 0, 0, []), (.return_, 1, 0, 0, 0, [])]
def b_T_readRow_71 : List mRow := [(.aload_n 0, 1, 0, 0, 0, []), (.aload_n 1, 1, 0, 0, 0, []), (.iload_n 3, 1, 0, 0, 0, []), (.iload_n 2, 1, 0, 0, 0, []), (.invokevirtual 105, 3, 39, 4, 0, [7]), (.iinc 3 1, 3, 0, 0, 0, []), (.goto (-43), 3, 38, 0, 0, [])]
def b_T_readRow_84 : List mRow := [(.return_, 1, 0, 0, 0, [])]
def m_T_readRow : mMeth := ([(0, b_T_readRow_0), (24, b_T_readRow_24), (38, b_T_readRow_38), (71, b_T_readRow_71), (84, b_T_readRow_84)], [(0, [0, 1]), (24, [0, 1, 2]), (38, [0, 1, 2, 3]), (71, [0, 1, 2, 3]), (84, [])])
def b_T_takeCell_0 : List mRow := [(.aload_n 0, 1, 0, 0, 0, []), (.getfield 20, 3, 4, 2, 0, []), (.ifCond .eq 4, 3, 8, 0, 0, []), (.return_, 1, 0, 0, 0, [])]
def b_T_takeCell_8 : List mRow := [(.aload_n 0, 1, 0, 0, 0, []), (.getfield 39, 3, 4, 5, 0, []), (.iconst 2, 1, 0, 0, 0, []), (.if_icmp .eq 11, 3, 24, 0, 0, []), (.aload_n 0, 1, 0, 0, 0, []), (.iconst 2, 1, 0, 0, 0, []), (.invokevirtual 62, 3, 32, 2, 0, [7]), (.goto 47, 3, 68, 0, 0, [])]
def b_T_takeCell_24 : List mRow := [(.iload_n 2, 1, 0, 0, 0, []), (.bipush 6, 2, 0, 0, 0, []), (.if_icmp .lt 11, 3, 38, 0, 0, []), (.aload_n 0, 1, 0, 0, 0, []), (.iconst 5, 1, 0, 0, 0, []), (.invokevirtual 62, 3, 32, 2, 0, [7]), (.goto 33, 3, 68, 0, 0, [])]
def b_T_takeCell_38 : List mRow := [(.aload_n 0, 1, 0, 0, 0, []), (.getfield 59, 3, 4, 7, 0, []), (.iconst 4, 1, 0, 0, 0, []), (.if_icmp .le 11, 3, 54, 0, 0, []), (.aload_n 0, 1, 0, 0, 0, []), (.iconst 3, 1, 0, 0, 0, []), (.invokevirtual 62, 3, 32, 2, 0, [7]), (.goto 17, 3, 68, 0, 0, [])]
def b_T_takeCell_54 : List mRow := [(.aload_n 1, 1, 0, 0, 0, []), (.iload_n 2, 1, 0, 0, 0, []), (.bipush 6, 2, 0, 0, 0, []), (.imul, 1, 0, 0, 0, []), (.iload_n 3, 1, 0, 0, 0, []), (.iadd, 1, 0, 0, 0, []), (.aload_n 0, 1, 0, 0, 0, []), (.getfield 59, 3, 4, 7, 0, []), (.invokevirtual 109, 3, 3, 3, 0, [3])]
def b_T_takeCell_68 : List mRow := [(.return_, 1, 0, 0, 0, [])]
def m_T_takeCell : mMeth := ([(0, b_T_takeCell_0), (8, b_T_takeCell_8), (24, b_T_takeCell_24), (38, b_T_takeCell_38), (54, b_T_takeCell_54), (68, b_T_takeCell_68)], [(0, [0, 1, 2, 3]), (8, [0, 1, 2, 3]), (24, [0, 1, 2, 3]), (38, [0, 1, 2, 3]), (54, [0, 1, 2, 3]), (68, [])])
def b_T_readThread_0 : List mRow := [(.aload_n 0, 1, 0, 0, 0, []), (.iconst 1, 1, 0, 0, 0, []), (.iconst 3, 1, 0, 0, 0, []), (.invokevirtual 101, 3, 42, 3, 1, [7]), (.istore_n 2, 1, 0, 0, 0, []), (.aload_n 0, 1, 0, 0, 0, []), (.getfield 33, 3, 4, 9, 0, []), (.iload_n 2, 1, 0, 0, 0, []), (.ishr, 1, 0, 0, 0, []), (.iconst 1, 1, 0, 0, 0, []), (.iand, 1, 0, 0, 0, []), (.iconst 1, 1, 0, 0, 0, []), (.if_icmp .ne 8, 3, 24, 0, 0, []), (.aload_n 0, 1, 0, 0, 0, []), (.iconst 4, 1, 0, 0, 0, []), (.invokevirtual 62, 3, 32, 2, 0, [7])]
def b_T_readThread_24 : List mRow := [(.aload_n 0, 1, 0, 0, 0, []), (.dup, 1, 0, 0, 0, []), (.getfield 33, 3, 4, 9, 0, []), (.iconst 1, 1, 0, 0, 0, []), (.iload_n 2, 1, 0, 0, 0, []), (.ishl, 1, 0, 0, 0, []), (.ior, 1, 0, 0, 0, []), (.putfield 33, 3, 4, 9, 0, []), (.aload_n 1, 1, 0, 0, 0, []), (.getfield 113, 3, 0, 1, 1, []), (.iload_n 2, 1, 0, 0, 0, []), (.aload_n 0, 1, 0, 0, 0, []), (.iconst 0, 1, 0, 0, 0, []), (.bipush 99, 2, 0, 0, 0, []), (.invokevirtual 101, 3, 42, 3, 1, [7]), (.iastore, 1, 0, 0, 0, []), (.aload_n 0, 1, 0, 0, 0, []), (.invokevirtual 116, 3, 43, 1, 0, [7]), (.return_, 1, 0, 0, 0, [])]
def m_T_readThread : mMeth := ([(0, b_T_readThread_0), (24, b_T_readThread_24)], [(0, [0, 1]), (24, [0, 1, 2])])
def b_T_readLaw_0 : List mRow := [(.aload_n 1, 1, 0, 0, 0, []), (.getfield 119, 3, 0, 5, 0, []), (.iconst 5, 1, 0, 0, 0, []), (.if_icmp .lt 9, 3, 14, 0, 0, []), (.aload_n 0, 1, 0, 0, 0, []), (.iconst 5, 1, 0, 0, 0, []), (.invokevirtual 62, 3, 32, 2, 0, [7]), (.return_, 1, 0, 0, 0, [])]
def b_T_readLaw_14 : List mRow := [(.aload_n 0, 1, 0, 0, 0, []), (.iconst 1, 1, 0, 0, 0, []), (.iconst 3, 1, 0, 0, 0, []), (.invokevirtual 101, 3, 42, 3, 1, [7]), (.istore_n 3, 1, 0, 0, 0, []), (.aload_n 0, 1, 0, 0, 0, []), (.iconst 1, 1, 0, 0, 0, []), (.iconst 3, 1, 0, 0, 0, []), (.invokevirtual 101, 3, 42, 3, 1, [7]), (.istore 4, 2, 0, 0, 0, []), (.aload_n 0, 1, 0, 0, 0, []), (.iconst 1, 1, 0, 0, 0, []), (.bipush 9, 2, 0, 0, 0, []), (.invokevirtual 101, 3, 42, 3, 1, [7]), (.istore 5, 2, 0, 0, 0, []), (.aload_n 0, 1, 0, 0, 0, []), (.invokevirtual 116, 3, 43, 1, 0, [7]), (.aload_n 0, 1, 0, 0, 0, []), (.getfield 20, 3, 4, 2, 0, []), (.ifCond .ne 13, 3, 59, 0, 0, []), (.aload_n 1, 1, 0, 0, 0, []), (.iload_n 2, 1, 0, 0, 0, []), (.iload_n 3, 1, 0, 0, 0, []), (.iload 4, 2, 0, 0, 0, []), (.iload 5, 2, 0, 0, 0, []), (.invokevirtual 122, 3, 9, 5, 0, [3])]
def b_T_readLaw_59 : List mRow := [(.return_, 1, 0, 0, 0, [])]
def m_T_readLaw : mMeth := ([(0, b_T_readLaw_0), (14, b_T_readLaw_14), (59, b_T_readLaw_59)], [(0, [0, 1, 2]), (14, [0, 1, 2]), (59, [])])
def b_T_takeNumber_0 : List mRow := [(.aload_n 0, 1, 0, 0, 0, []), (.invokevirtual 36, 3, 33, 1, 0, [7]), (.aload_n 0, 1, 0, 0, 0, []), (.getfield 20, 3, 4, 2, 0, []), (.ifCond .ne 40, 3, 48, 0, 0, []), (.aload_n 0, 1, 0, 0, 0, []), (.getfield 39, 3, 4, 5, 0, []), (.iconst 2, 1, 0, 0, 0, []), (.if_icmp .eq 11, 3, 27, 0, 0, []), (.aload_n 0, 1, 0, 0, 0, []), (.iconst 2, 1, 0, 0, 0, []), (.invokevirtual 62, 3, 32, 2, 0, [7]), (.goto 24, 3, 48, 0, 0, [])]
def b_T_takeNumber_27 : List mRow := [(.aload_n 0, 1, 0, 0, 0, []), (.getfield 59, 3, 4, 7, 0, []), (.iload_n 1, 1, 0, 0, 0, []), (.if_icmp .lt 11, 3, 43, 0, 0, []), (.aload_n 0, 1, 0, 0, 0, []), (.getfield 59, 3, 4, 7, 0, []), (.iload_n 2, 1, 0, 0, 0, []), (.if_icmp .le 8, 3, 48, 0, 0, [])]
def b_T_takeNumber_43 : List mRow := [(.aload_n 0, 1, 0, 0, 0, []), (.iconst 3, 1, 0, 0, 0, []), (.invokevirtual 62, 3, 32, 2, 0, [7])]
def b_T_takeNumber_48 : List mRow := [(.aload_n 0, 1, 0, 0, 0, []), (.getfield 20, 3, 4, 2, 0, []), (.ifCond .ne 10, 3, 62, 0, 0, []), (.aload_n 0, 1, 0, 0, 0, []), (.getfield 59, 3, 4, 7, 0, []), (.goto 4, 3, 63, 0, 0, [])]
def b_T_takeNumber_62 : List mRow := [(.iload_n 1, 1, 0, 0, 0, [])]
def b_T_takeNumber_63 : List mRow := [(.ireturn, 1, 0, 0, 0, [])]
def m_T_takeNumber : mMeth := ([(0, b_T_takeNumber_0), (27, b_T_takeNumber_27), (43, b_T_takeNumber_43), (48, b_T_takeNumber_48), (62, b_T_takeNumber_62), (63, b_T_takeNumber_63)], [(0, [0, 1, 2]), (27, [0, 1, 2]), (43, [0, 1]), (48, [0, 1]), (62, [1]), (63, [])])
def b_T_takeStop_0 : List mRow := [(.aload_n 0, 1, 0, 0, 0, []), (.invokevirtual 36, 3, 33, 1, 0, [7]), (.aload_n 0, 1, 0, 0, 0, []), (.getfield 20, 3, 4, 2, 0, []), (.ifCond .ne 16, 3, 24, 0, 0, []), (.aload_n 0, 1, 0, 0, 0, []), (.getfield 39, 3, 4, 5, 0, []), (.iconst 3, 1, 0, 0, 0, []), (.if_icmp .eq 8, 3, 24, 0, 0, []), (.aload_n 0, 1, 0, 0, 0, []), (.iconst 2, 1, 0, 0, 0, []), (.invokevirtual 62, 3, 32, 2, 0, [7])]
def b_T_takeStop_24 : List mRow := [(.return_, 1, 0, 0, 0, [])]
def m_T_takeStop : mMeth := ([(0, b_T_takeStop_0), (24, b_T_takeStop_24)], [(0, [0]), (24, [])])
def b_L_init_0 : List mRow := [(.aload_n 0, 1, 0, 0, 0, []), (.invokespecial 3, 3, 9000, 1, 0, []), (.aload_n 0, 1, 0, 0, 0, []), (.new 9, 3, 0, 11, 0, []), (.dup, 1, 0, 0, 0, []), (.invokespecial 11, 3, 0, 1, 0, [3]), (.putfield 12, 3, 5, 0, 1, []), (.aload_n 0, 1, 0, 0, 0, []), (.new 9, 3, 0, 11, 0, []), (.dup, 1, 0, 0, 0, []), (.invokespecial 11, 3, 0, 1, 0, [3]), (.putfield 16, 3, 5, 1, 1, []), (.aload_n 0, 1, 0, 0, 0, []), (.new 19, 3, 2, 2, 0, []), (.dup, 1, 0, 0, 0, []), (.invokespecial 21, 3, 24, 1, 0, [5]), (.putfield 22, 3, 5, 2, 1, []), (.aload_n 0, 1, 0, 0, 0, []), (.new 19, 3, 2, 2, 0, []), (.dup, 1, 0, 0, 0, []), (.invokespecial 21, 3, 24, 1, 0, [5]), (.putfield 26, 3, 5, 3, 1, []), (.aload_n 0, 1, 0, 0, 0, []), (.new 29, 3, 4, 10, 0, []), (.dup, 1, 0, 0, 0, []), (.invokespecial 31, 3, 30, 1, 0, [7]), (.putfield 32, 3, 5, 4, 1, []), (.aload_n 0, 1, 0, 0, 0, []), (.new 36, 3, 1, 2, 0, []), (.dup, 1, 0, 0, 0, []), (.invokespecial 38, 3, 20, 1, 0, [4]), (.putfield 39, 3, 5, 5, 1, []), (.aload_n 0, 1, 0, 0, 0, []), (.iconst 4, 1, 0, 0, 0, []), (.anewarray 43, 3, 2, 0, 0, []), (.putfield 45, 3, 5, 6, 1, []), (.aload_n 0, 1, 0, 0, 0, []), (.iconst 2, 1, 0, 0, 0, []), (.newarray .int, 2, 0, 0, 0, []), (.putfield 49, 3, 5, 7, 1, []), (.aload_n 0, 1, 0, 0, 0, []), (.bipush 6, 2, 0, 0, 0, []), (.newarray .int, 2, 0, 0, 0, []), (.putfield 53, 3, 5, 8, 1, []), (.aload_n 0, 1, 0, 0, 0, []), (.bipush 6, 2, 0, 0, 0, []), (.newarray .int, 2, 0, 0, 0, []), (.putfield 56, 3, 5, 9, 1, []), (.aload_n 0, 1, 0, 0, 0, []), (.iconst 4, 1, 0, 0, 0, []), (.newarray .int, 2, 0, 0, 0, []), (.putfield 59, 3, 5, 10, 1, []), (.aload_n 0, 1, 0, 0, 0, []), (.sipush 305, 3, 0, 0, 0, []), (.newarray .int, 2, 0, 0, 0, []), (.putfield 62, 3, 5, 11, 1, []), (.aload_n 0, 1, 0, 0, 0, []), (.bipush 8, 2, 0, 0, 0, []), (.newarray .int, 2, 0, 0, 0, []), (.putfield 65, 3, 5, 12, 1, []), (.iconst 0, 1, 0, 0, 0, []), (.istore_n 1, 1, 0, 0, 0, [])]
def b_L_init_127 : List mRow := [(.iload_n 1, 1, 0, 0, 0, []), (.iconst 4, 1, 0, 0, 0, []), (.if_icmp .ge 22, 3, 151, 0, 0, []), (.aload_n 0, 1, 0, 0, 0, []), (.getfield 45, 3, 5, 6, 1, []), (.iload_n 1, 1, 0, 0, 0, []), (.new 43, 3, 3, 3, 0, []), (.dup, 1, 0, 0, 0, []), (.invokespecial 68, 3, 25, 1, 0, [6]), (.aastore, 1, 0, 0, 0, []), (.iinc 1 1, 3, 0, 0, 0, []), (.goto (-21), 3, 127, 0, 0, [])]
def b_L_init_151 : List mRow := [(.return_, 1, 0, 0, 0, [])]
def m_L_init : mMeth := ([(0, b_L_init_0), (127, b_L_init_127), (151, b_L_init_151)], [(0, [0]), (127, [0, 1]), (151, [])])
def b_L_feed_0 : List mRow := [(.iload_n 1, 1, 0, 0, 0, []), (.ifCond .lt 9, 3, 10, 0, 0, []), (.iload_n 1, 1, 0, 0, 0, []), (.bipush 127, 2, 0, 0, 0, []), (.if_icmp .le 5, 3, 12, 0, 0, [])]
def b_L_feed_10 : List mRow := [(.iconst (-1), 1, 0, 0, 0, []), (.ireturn, 1, 0, 0, 0, [])]
def b_L_feed_12 : List mRow := [(.aload_n 0, 1, 0, 0, 0, []), (.getfield 32, 3, 5, 4, 1, []), (.getfield 69, 3, 4, 1, 0, []), (.sipush 160, 3, 0, 0, 0, []), (.if_icmp .lt 6, 3, 28, 0, 0, []), (.bipush (-3), 2, 0, 0, 0, []), (.ireturn, 1, 0, 0, 0, [])]
def b_L_feed_28 : List mRow := [(.aload_n 0, 1, 0, 0, 0, []), (.getfield 32, 3, 5, 4, 1, []), (.getfield 73, 3, 4, 0, 1, []), (.aload_n 0, 1, 0, 0, 0, []), (.getfield 32, 3, 5, 4, 1, []), (.getfield 69, 3, 4, 1, 0, []), (.iload_n 1, 1, 0, 0, 0, []), (.iastore, 1, 0, 0, 0, []), (.aload_n 0, 1, 0, 0, 0, []), (.getfield 32, 3, 5, 4, 1, []), (.dup, 1, 0, 0, 0, []), (.getfield 69, 3, 4, 1, 0, []), (.iconst 1, 1, 0, 0, 0, []), (.iadd, 1, 0, 0, 0, []), (.putfield 69, 3, 4, 1, 0, []), (.aload_n 0, 1, 0, 0, 0, []), (.getfield 32, 3, 5, 4, 1, []), (.getfield 69, 3, 4, 1, 0, []), (.ireturn, 1, 0, 0, 0, [])]
def m_L_feed : mMeth := ([(0, b_L_feed_0), (10, b_L_feed_10), (12, b_L_feed_12), (28, b_L_feed_28)], [(0, [0, 1]), (10, []), (12, [0, 1]), (28, [0, 1])])
def b_L_end_0 : List mRow := [(.iload_n 1, 1, 0, 0, 0, []), (.ifCond .lt 14, 3, 15, 0, 0, []), (.iload_n 1, 1, 0, 0, 0, []), (.aload_n 0, 1, 0, 0, 0, []), (.getfield 32, 3, 5, 4, 1, []), (.getfield 69, 3, 4, 1, 0, []), (.if_icmp .le 5, 3, 17, 0, 0, [])]
def b_L_end_15 : List mRow := [(.iconst (-1), 1, 0, 0, 0, []), (.ireturn, 1, 0, 0, 0, [])]
def b_L_end_17 : List mRow := [(.aload_n 0, 1, 0, 0, 0, []), (.getfield 32, 3, 5, 4, 1, []), (.getfield 69, 3, 4, 1, 0, []), (.istore_n 2, 1, 0, 0, 0, []), (.aload_n 0, 1, 0, 0, 0, []), (.getfield 32, 3, 5, 4, 1, []), (.iload_n 1, 1, 0, 0, 0, []), (.putfield 69, 3, 4, 1, 0, []), (.iload_n 2, 1, 0, 0, 0, []), (.ireturn, 1, 0, 0, 0, [])]
def m_L_end : mMeth := ([(0, b_L_end_0), (15, b_L_end_15), (17, b_L_end_17)], [(0, [0, 1]), (15, []), (17, [0, 1])])
def b_L_text_0 : List mRow := [(.aload_n 0, 1, 0, 0, 0, []), (.getfield 32, 3, 5, 4, 1, []), (.aload_n 0, 1, 0, 0, 0, []), (.getfield 16, 3, 5, 1, 1, []), (.invokevirtual 76, 3, 31, 2, 1, [7]), (.istore_n 1, 1, 0, 0, 0, []), (.aload_n 0, 1, 0, 0, 0, []), (.getfield 32, 3, 5, 4, 1, []), (.iconst 0, 1, 0, 0, 0, []), (.putfield 69, 3, 4, 1, 0, []), (.aload_n 0, 1, 0, 0, 0, []), (.getfield 32, 3, 5, 4, 1, []), (.getfield 80, 3, 4, 2, 0, []), (.ifCond .eq 14, 3, 41, 0, 0, []), (.bipush (-10), 2, 0, 0, 0, []), (.aload_n 0, 1, 0, 0, 0, []), (.getfield 32, 3, 5, 4, 1, []), (.getfield 83, 3, 4, 3, 0, []), (.isub, 1, 0, 0, 0, []), (.ireturn, 1, 0, 0, 0, [])]
def b_L_text_41 : List mRow := [(.aload_n 0, 1, 0, 0, 0, []), (.getfield 12, 3, 5, 0, 1, []), (.aload_n 0, 1, 0, 0, 0, []), (.getfield 16, 3, 5, 1, 1, []), (.invokevirtual 86, 3, 2, 2, 0, [3]), (.aload_n 0, 1, 0, 0, 0, []), (.iconst 0, 1, 0, 0, 0, []), (.putfield 90, 3, 5, 13, 0, []), (.aload_n 0, 1, 0, 0, 0, []), (.getfield 22, 3, 5, 2, 1, []), (.iconst 0, 1, 0, 0, 0, []), (.putfield 93, 3, 2, 1, 2, []), (.aload_n 0, 1, 0, 0, 0, []), (.getfield 26, 3, 5, 3, 1, []), (.iconst 0, 1, 0, 0, 0, []), (.putfield 93, 3, 2, 1, 2, []), (.iload_n 1, 1, 0, 0, 0, []), (.ireturn, 1, 0, 0, 0, [])]
def m_L_text : mMeth := ([(0, b_L_text_0), (41, b_L_text_41)], [(0, [0]), (41, [0, 1])])
def b_L_fault_0 : List mRow := [(.aload_n 0, 1, 0, 0, 0, []), (.getfield 32, 3, 5, 4, 1, []), (.getfield 80, 3, 4, 2, 0, []), (.ireturn, 1, 0, 0, 0, [])]
def m_L_fault : mMeth := ([(0, b_L_fault_0)], [(0, [0])])
def b_L_rule_0 : List mRow := [(.iload_n 1, 1, 0, 0, 0, []), (.tableswitch 101 0 5 #[39, 47, 68, 77, 85, 93], 39, 102, 0, 0, [40, 48, 69, 78, 86, 94])]
def b_L_rule_40 : List mRow := [(.aload_n 0, 1, 0, 0, 0, []), (.getfield 12, 3, 5, 0, 1, []), (.getfield 97, 3, 0, 5, 0, []), (.ireturn, 1, 0, 0, 0, [])]
def b_L_rule_48 : List mRow := [(.bipush 36, 2, 0, 0, 0, []), (.aload_n 0, 1, 0, 0, 0, []), (.getfield 12, 3, 5, 0, 1, []), (.iconst 0, 1, 0, 0, 0, []), (.invokevirtual 100, 3, 15, 2, 1, [3]), (.isub, 1, 0, 0, 0, []), (.aload_n 0, 1, 0, 0, 0, []), (.getfield 12, 3, 5, 0, 1, []), (.iconst 4, 1, 0, 0, 0, []), (.invokevirtual 100, 3, 15, 2, 1, [3]), (.isub, 1, 0, 0, 0, []), (.ireturn, 1, 0, 0, 0, [])]
def b_L_rule_69 : List mRow := [(.aload_n 0, 1, 0, 0, 0, []), (.getfield 12, 3, 5, 0, 1, []), (.iconst 4, 1, 0, 0, 0, []), (.invokevirtual 100, 3, 15, 2, 1, [3]), (.ireturn, 1, 0, 0, 0, [])]
def b_L_rule_78 : List mRow := [(.aload_n 0, 1, 0, 0, 0, []), (.getfield 12, 3, 5, 0, 1, []), (.getfield 104, 3, 0, 6, 0, []), (.ireturn, 1, 0, 0, 0, [])]
def b_L_rule_86 : List mRow := [(.aload_n 0, 1, 0, 0, 0, []), (.getfield 12, 3, 5, 0, 1, []), (.invokevirtual 107, 3, 14, 1, 1, [3]), (.ireturn, 1, 0, 0, 0, [])]
def b_L_rule_94 : List mRow := [(.aload_n 0, 1, 0, 0, 0, []), (.getfield 12, 3, 5, 0, 1, []), (.invokevirtual 111, 3, 13, 1, 1, [3]), (.ireturn, 1, 0, 0, 0, [])]
def b_L_rule_102 : List mRow := [(.iconst (-1), 1, 0, 0, 0, []), (.ireturn, 1, 0, 0, 0, [])]
def m_L_rule : mMeth := ([(0, b_L_rule_0), (40, b_L_rule_40), (48, b_L_rule_48), (69, b_L_rule_69), (78, b_L_rule_78), (86, b_L_rule_86), (94, b_L_rule_94), (102, b_L_rule_102)], [(0, [0, 1]), (40, [0]), (48, [0]), (69, [0]), (78, [0]), (86, [0]), (94, [0]), (102, [])])
def b_L_cell_0 : List mRow := [(.iload_n 1, 1, 0, 0, 0, []), (.iload_n 2, 1, 0, 0, 0, []), (.invokestatic 114, 3, 87, 2, 1, []), (.ifCond .eq 19, 3, 24, 0, 0, []), (.aload_n 0, 1, 0, 0, 0, []), (.getfield 12, 3, 5, 0, 1, []), (.getfield 118, 3, 0, 0, 1, []), (.iload_n 1, 1, 0, 0, 0, []), (.iload_n 2, 1, 0, 0, 0, []), (.invokestatic 121, 3, 94, 2, 1, []), (.iaload, 1, 0, 0, 0, []), (.goto 4, 3, 25, 0, 0, [])]
def b_L_cell_24 : List mRow := [(.iconst (-1), 1, 0, 0, 0, [])]
def b_L_cell_25 : List mRow := [(.ireturn, 1, 0, 0, 0, [])]
def m_L_cell : mMeth := ([(0, b_L_cell_0), (24, b_L_cell_24), (25, b_L_cell_25)], [(0, [0, 1, 2]), (24, []), (25, [])])
def b_L_thread_0 : List mRow := [(.iload_n 1, 1, 0, 0, 0, []), (.invokestatic 125, 3, 88, 1, 1, []), (.ifCond .eq 15, 3, 19, 0, 0, []), (.aload_n 0, 1, 0, 0, 0, []), (.getfield 12, 3, 5, 0, 1, []), (.getfield 129, 3, 0, 1, 1, []), (.iload_n 1, 1, 0, 0, 0, []), (.iaload, 1, 0, 0, 0, []), (.goto 4, 3, 20, 0, 0, [])]
def b_L_thread_19 : List mRow := [(.iconst (-1), 1, 0, 0, 0, [])]
def b_L_thread_20 : List mRow := [(.ireturn, 1, 0, 0, 0, [])]
def m_L_thread : mMeth := ([(0, b_L_thread_0), (19, b_L_thread_19), (20, b_L_thread_20)], [(0, [0, 1]), (19, []), (20, [])])
def b_L_law_0 : List mRow := [(.aload_n 0, 1, 0, 0, 0, []), (.iload_n 1, 1, 0, 0, 0, []), (.invokevirtual 132, 3, 92, 2, 1, [8]), (.ifCond .eq 12, 3, 17, 0, 0, []), (.iload_n 2, 1, 0, 0, 0, []), (.ifCond .lt 8, 3, 17, 0, 0, []), (.iload_n 2, 1, 0, 0, 0, []), (.iconst 5, 1, 0, 0, 0, []), (.if_icmp .le 5, 3, 19, 0, 0, [])]
def b_L_law_17 : List mRow := [(.iconst (-1), 1, 0, 0, 0, []), (.ireturn, 1, 0, 0, 0, [])]
def b_L_law_19 : List mRow := [(.iload_n 2, 1, 0, 0, 0, []), (.iconst 4, 1, 0, 0, 0, []), (.if_icmp .ge 17, 3, 38, 0, 0, []), (.aload_n 0, 1, 0, 0, 0, []), (.getfield 12, 3, 5, 0, 1, []), (.getfield 135, 3, 0, 2, 1, []), (.iload_n 1, 1, 0, 0, 0, []), (.iconst 4, 1, 0, 0, 0, []), (.imul, 1, 0, 0, 0, []), (.iload_n 2, 1, 0, 0, 0, []), (.iadd, 1, 0, 0, 0, []), (.iaload, 1, 0, 0, 0, []), (.ireturn, 1, 0, 0, 0, [])]
def b_L_law_38 : List mRow := [(.iload_n 2, 1, 0, 0, 0, []), (.iconst 4, 1, 0, 0, 0, []), (.if_icmp .ne 14, 3, 54, 0, 0, []), (.aload_n 0, 1, 0, 0, 0, []), (.getfield 12, 3, 5, 0, 1, []), (.iload_n 1, 1, 0, 0, 0, []), (.invokevirtual 138, 3, 10, 2, 1, [3]), (.goto 11, 3, 62, 0, 0, [])]
def b_L_law_54 : List mRow := [(.aload_n 0, 1, 0, 0, 0, []), (.getfield 12, 3, 5, 0, 1, []), (.iload_n 1, 1, 0, 0, 0, []), (.invokevirtual 141, 3, 11, 2, 1, [3])]
def b_L_law_62 : List mRow := [(.ireturn, 1, 0, 0, 0, [])]
def m_L_law : mMeth := ([(0, b_L_law_0), (17, b_L_law_17), (19, b_L_law_19), (38, b_L_law_38), (54, b_L_law_54), (62, b_L_law_62)], [(0, [0, 1, 2]), (17, []), (19, [0, 1, 2]), (38, [0, 1, 2]), (54, [0, 1]), (62, [])])
def b_L_stitch_0 : List mRow := [(.iload_n 1, 1, 0, 0, 0, []), (.ifCond .lt 14, 3, 15, 0, 0, []), (.iload_n 1, 1, 0, 0, 0, []), (.aload_n 0, 1, 0, 0, 0, []), (.getfield 12, 3, 5, 0, 1, []), (.getfield 104, 3, 0, 6, 0, []), (.if_icmp .lt 5, 3, 17, 0, 0, [])]
def b_L_stitch_15 : List mRow := [(.iconst (-1), 1, 0, 0, 0, []), (.ireturn, 1, 0, 0, 0, [])]
def b_L_stitch_17 : List mRow := [(.iload_n 2, 1, 0, 0, 0, []), (.tableswitch 62 0 2 #[26, 39, 52], 26, 80, 0, 0, [44, 57, 70])]
def b_L_stitch_44 : List mRow := [(.aload_n 0, 1, 0, 0, 0, []), (.getfield 12, 3, 5, 0, 1, []), (.getfield 144, 3, 0, 3, 1, []), (.iload_n 1, 1, 0, 0, 0, []), (.iaload, 1, 0, 0, 0, []), (.bipush 6, 2, 0, 0, 0, []), (.idiv, 1, 0, 0, 0, []), (.ireturn, 1, 0, 0, 0, [])]
def b_L_stitch_57 : List mRow := [(.aload_n 0, 1, 0, 0, 0, []), (.getfield 12, 3, 5, 0, 1, []), (.getfield 144, 3, 0, 3, 1, []), (.iload_n 1, 1, 0, 0, 0, []), (.iaload, 1, 0, 0, 0, []), (.bipush 6, 2, 0, 0, 0, []), (.irem, 1, 0, 0, 0, []), (.ireturn, 1, 0, 0, 0, [])]
def b_L_stitch_70 : List mRow := [(.aload_n 0, 1, 0, 0, 0, []), (.getfield 12, 3, 5, 0, 1, []), (.getfield 147, 3, 0, 4, 1, []), (.iload_n 1, 1, 0, 0, 0, []), (.iaload, 1, 0, 0, 0, []), (.ireturn, 1, 0, 0, 0, [])]
def b_L_stitch_80 : List mRow := [(.iconst (-1), 1, 0, 0, 0, []), (.ireturn, 1, 0, 0, 0, [])]
def m_L_stitch : mMeth := ([(0, b_L_stitch_0), (15, b_L_stitch_15), (17, b_L_stitch_17), (44, b_L_stitch_44), (57, b_L_stitch_57), (70, b_L_stitch_70), (80, b_L_stitch_80)], [(0, [0, 1, 2]), (15, []), (17, [0, 1, 2]), (44, [0, 1]), (57, [0, 1]), (70, [0, 1]), (80, [])])
def b_L_amend_0 : List mRow := [(.aload_n 0, 1, 0, 0, 0, []), (.iload_n 1, 1, 0, 0, 0, []), (.invokevirtual 132, 3, 92, 2, 1, [8]), (.ifCond .eq 11, 3, 16, 0, 0, []), (.iload_n 2, 1, 0, 0, 0, []), (.iload_n 3, 1, 0, 0, 0, []), (.invokestatic 150, 3, 93, 2, 1, []), (.ifCond .ne 5, 3, 18, 0, 0, [])]
def b_L_amend_16 : List mRow := [(.iconst (-1), 1, 0, 0, 0, []), (.ireturn, 1, 0, 0, 0, [])]
def b_L_amend_18 : List mRow := [(.aload_n 0, 1, 0, 0, 0, []), (.getfield 12, 3, 5, 0, 1, []), (.getfield 135, 3, 0, 2, 1, []), (.iload_n 1, 1, 0, 0, 0, []), (.iconst 4, 1, 0, 0, 0, []), (.imul, 1, 0, 0, 0, []), (.iload_n 2, 1, 0, 0, 0, []), (.iadd, 1, 0, 0, 0, []), (.iaload, 1, 0, 0, 0, []), (.istore 4, 2, 0, 0, 0, []), (.aload_n 0, 1, 0, 0, 0, []), (.getfield 12, 3, 5, 0, 1, []), (.getfield 135, 3, 0, 2, 1, []), (.iload_n 1, 1, 0, 0, 0, []), (.iconst 4, 1, 0, 0, 0, []), (.imul, 1, 0, 0, 0, []), (.iload_n 2, 1, 0, 0, 0, []), (.iadd, 1, 0, 0, 0, []), (.iload_n 3, 1, 0, 0, 0, []), (.iastore, 1, 0, 0, 0, []), (.iload 4, 2, 0, 0, 0, []), (.ireturn, 1, 0, 0, 0, [])]
def m_L_amend : mMeth := ([(0, b_L_amend_0), (16, b_L_amend_16), (18, b_L_amend_18)], [(0, [0, 1, 2, 3]), (16, []), (18, [0, 1, 2, 3])])
def b_L_spool_0 : List mRow := [(.iload_n 1, 1, 0, 0, 0, []), (.invokestatic 125, 3, 88, 1, 1, []), (.ifCond .eq 13, 3, 17, 0, 0, []), (.iload_n 2, 1, 0, 0, 0, []), (.ifCond .lt 9, 3, 17, 0, 0, []), (.iload_n 2, 1, 0, 0, 0, []), (.bipush 99, 2, 0, 0, 0, []), (.if_icmp .le 5, 3, 19, 0, 0, [])]
def b_L_spool_17 : List mRow := [(.iconst (-1), 1, 0, 0, 0, []), (.ireturn, 1, 0, 0, 0, [])]
def b_L_spool_19 : List mRow := [(.aload_n 0, 1, 0, 0, 0, []), (.getfield 12, 3, 5, 0, 1, []), (.getfield 129, 3, 0, 1, 1, []), (.iload_n 1, 1, 0, 0, 0, []), (.iaload, 1, 0, 0, 0, []), (.istore_n 3, 1, 0, 0, 0, []), (.aload_n 0, 1, 0, 0, 0, []), (.getfield 12, 3, 5, 0, 1, []), (.getfield 129, 3, 0, 1, 1, []), (.iload_n 1, 1, 0, 0, 0, []), (.iload_n 2, 1, 0, 0, 0, []), (.iastore, 1, 0, 0, 0, []), (.iload_n 3, 1, 0, 0, 0, []), (.ireturn, 1, 0, 0, 0, [])]
def m_L_spool : mMeth := ([(0, b_L_spool_0), (17, b_L_spool_17), (19, b_L_spool_19)], [(0, [0, 1, 2]), (17, []), (19, [0, 1, 2])])
def b_L_plan_0 : List mRow := [(.iload_n 1, 1, 0, 0, 0, []), (.iload_n 2, 1, 0, 0, 0, []), (.invokestatic 114, 3, 87, 2, 1, []), (.ifCond .eq 10, 3, 15, 0, 0, []), (.iload_n 3, 1, 0, 0, 0, []), (.invokestatic 125, 3, 88, 1, 1, []), (.ifCond .ne 5, 3, 17, 0, 0, [])]
def b_L_plan_15 : List mRow := [(.iconst (-1), 1, 0, 0, 0, []), (.ireturn, 1, 0, 0, 0, [])]
def b_L_plan_17 : List mRow := [(.aload_n 0, 1, 0, 0, 0, []), (.getfield 12, 3, 5, 0, 1, []), (.getfield 104, 3, 0, 6, 0, []), (.bipush 8, 2, 0, 0, 0, []), (.if_icmp .lt 6, 3, 32, 0, 0, []), (.bipush (-3), 2, 0, 0, 0, []), (.ireturn, 1, 0, 0, 0, [])]
def b_L_plan_32 : List mRow := [(.aload_n 0, 1, 0, 0, 0, []), (.getfield 12, 3, 5, 0, 1, []), (.getfield 144, 3, 0, 3, 1, []), (.aload_n 0, 1, 0, 0, 0, []), (.getfield 12, 3, 5, 0, 1, []), (.getfield 104, 3, 0, 6, 0, []), (.iload_n 1, 1, 0, 0, 0, []), (.iload_n 2, 1, 0, 0, 0, []), (.invokestatic 121, 3, 94, 2, 1, []), (.iastore, 1, 0, 0, 0, []), (.aload_n 0, 1, 0, 0, 0, []), (.getfield 12, 3, 5, 0, 1, []), (.getfield 147, 3, 0, 4, 1, []), (.aload_n 0, 1, 0, 0, 0, []), (.getfield 12, 3, 5, 0, 1, []), (.getfield 104, 3, 0, 6, 0, []), (.iload_n 3, 1, 0, 0, 0, []), (.iastore, 1, 0, 0, 0, []), (.aload_n 0, 1, 0, 0, 0, []), (.getfield 12, 3, 5, 0, 1, []), (.dup, 1, 0, 0, 0, []), (.getfield 104, 3, 0, 6, 0, []), (.iconst 1, 1, 0, 0, 0, []), (.iadd, 1, 0, 0, 0, []), (.putfield 104, 3, 0, 6, 0, []), (.aload_n 0, 1, 0, 0, 0, []), (.getfield 12, 3, 5, 0, 1, []), (.getfield 104, 3, 0, 6, 0, []), (.ireturn, 1, 0, 0, 0, [])]
def m_L_plan : mMeth := ([(0, b_L_plan_0), (15, b_L_plan_15), (17, b_L_plan_17), (32, b_L_plan_32)], [(0, [0, 1, 2, 3]), (15, []), (17, [0, 1, 2, 3]), (32, [0, 1, 2, 3])])
def b_L_cut_0 : List mRow := [(.iload_n 1, 1, 0, 0, 0, []), (.ifCond .lt 14, 3, 15, 0, 0, []), (.iload_n 1, 1, 0, 0, 0, []), (.aload_n 0, 1, 0, 0, 0, []), (.getfield 12, 3, 5, 0, 1, []), (.getfield 104, 3, 0, 6, 0, []), (.if_icmp .le 5, 3, 17, 0, 0, [])]
def b_L_cut_15 : List mRow := [(.iconst (-1), 1, 0, 0, 0, []), (.ireturn, 1, 0, 0, 0, [])]
def b_L_cut_17 : List mRow := [(.aload_n 0, 1, 0, 0, 0, []), (.getfield 12, 3, 5, 0, 1, []), (.getfield 104, 3, 0, 6, 0, []), (.istore_n 2, 1, 0, 0, 0, []), (.aload_n 0, 1, 0, 0, 0, []), (.getfield 12, 3, 5, 0, 1, []), (.iload_n 1, 1, 0, 0, 0, []), (.putfield 104, 3, 0, 6, 0, []), (.iload_n 2, 1, 0, 0, 0, []), (.ireturn, 1, 0, 0, 0, [])]
def m_L_cut : mMeth := ([(0, b_L_cut_0), (15, b_L_cut_15), (17, b_L_cut_17)], [(0, [0, 1]), (15, []), (17, [0, 1])])
def b_L_enact_0 : List mRow := [(.iconst 0, 1, 0, 0, 0, []), (.iload_n 1, 1, 0, 0, 0, []), (.invokestatic 150, 3, 93, 2, 1, []), (.ifCond .eq 28, 3, 33, 0, 0, []), (.iconst 1, 1, 0, 0, 0, []), (.iload_n 2, 1, 0, 0, 0, []), (.invokestatic 150, 3, 93, 2, 1, []), (.ifCond .eq 20, 3, 33, 0, 0, []), (.iconst 2, 1, 0, 0, 0, []), (.iload_n 3, 1, 0, 0, 0, []), (.invokestatic 150, 3, 93, 2, 1, []), (.ifCond .eq 12, 3, 33, 0, 0, []), (.iconst 3, 1, 0, 0, 0, []), (.iload 4, 2, 0, 0, 0, []), (.invokestatic 150, 3, 93, 2, 1, []), (.ifCond .ne 5, 3, 35, 0, 0, [])]
def b_L_enact_33 : List mRow := [(.iconst (-1), 1, 0, 0, 0, []), (.ireturn, 1, 0, 0, 0, [])]
def b_L_enact_35 : List mRow := [(.aload_n 0, 1, 0, 0, 0, []), (.getfield 12, 3, 5, 0, 1, []), (.getfield 97, 3, 0, 5, 0, []), (.iconst 5, 1, 0, 0, 0, []), (.if_icmp .lt 6, 3, 49, 0, 0, []), (.bipush (-3), 2, 0, 0, 0, []), (.ireturn, 1, 0, 0, 0, [])]
def b_L_enact_49 : List mRow := [(.aload_n 0, 1, 0, 0, 0, []), (.getfield 12, 3, 5, 0, 1, []), (.iload_n 1, 1, 0, 0, 0, []), (.iload_n 2, 1, 0, 0, 0, []), (.iload_n 3, 1, 0, 0, 0, []), (.iload 4, 2, 0, 0, 0, []), (.invokevirtual 153, 3, 9, 5, 0, [3]), (.aload_n 0, 1, 0, 0, 0, []), (.getfield 12, 3, 5, 0, 1, []), (.getfield 97, 3, 0, 5, 0, []), (.ireturn, 1, 0, 0, 0, [])]
def m_L_enact : mMeth := ([(0, b_L_enact_0), (33, b_L_enact_33), (35, b_L_enact_35), (49, b_L_enact_49)], [(0, [0, 1, 2, 3, 4]), (33, []), (35, [0, 1, 2, 3, 4]), (49, [0, 1, 2, 3, 4])])
def b_L_work_0 : List mRow := [(.iload_n 1, 1, 0, 0, 0, []), (.iload_n 2, 1, 0, 0, 0, []), (.invokestatic 114, 3, 87, 2, 1, []), (.ifCond .eq 10, 3, 15, 0, 0, []), (.iload_n 3, 1, 0, 0, 0, []), (.invokestatic 125, 3, 88, 1, 1, []), (.ifCond .ne 5, 3, 17, 0, 0, [])]
def b_L_work_15 : List mRow := [(.iconst (-1), 1, 0, 0, 0, []), (.ireturn, 1, 0, 0, 0, [])]
def b_L_work_17 : List mRow := [(.iload_n 1, 1, 0, 0, 0, []), (.iload_n 2, 1, 0, 0, 0, []), (.invokestatic 121, 3, 94, 2, 1, []), (.istore 4, 2, 0, 0, 0, []), (.aload_n 0, 1, 0, 0, 0, []), (.getfield 12, 3, 5, 0, 1, []), (.iload 4, 2, 0, 0, 0, []), (.iload_n 3, 1, 0, 0, 0, []), (.invokevirtual 157, 3, 5, 3, 1, [3]), (.ifCond .ne 6, 3, 40, 0, 0, []), (.bipush (-2), 2, 0, 0, 0, []), (.ireturn, 1, 0, 0, 0, [])]
def b_L_work_40 : List mRow := [(.aload_n 0, 1, 0, 0, 0, []), (.getfield 12, 3, 5, 0, 1, []), (.iload 4, 2, 0, 0, 0, []), (.iload_n 3, 1, 0, 0, 0, []), (.invokevirtual 160, 3, 6, 3, 0, [3]), (.aload_n 0, 1, 0, 0, 0, []), (.getfield 12, 3, 5, 0, 1, []), (.invokevirtual 111, 3, 13, 1, 1, [3]), (.ireturn, 1, 0, 0, 0, [])]
def m_L_work : mMeth := ([(0, b_L_work_0), (15, b_L_work_15), (17, b_L_work_17), (40, b_L_work_40)], [(0, [0, 1, 2, 3]), (15, []), (17, [0, 1, 2, 3]), (40, [0, 3, 4])])
def b_L_unpick_0 : List mRow := [(.iload_n 1, 1, 0, 0, 0, []), (.iload_n 2, 1, 0, 0, 0, []), (.invokestatic 114, 3, 87, 2, 1, []), (.ifCond .ne 5, 3, 10, 0, 0, []), (.iconst (-1), 1, 0, 0, 0, []), (.ireturn, 1, 0, 0, 0, [])]
def b_L_unpick_10 : List mRow := [(.iload_n 1, 1, 0, 0, 0, []), (.iload_n 2, 1, 0, 0, 0, []), (.invokestatic 121, 3, 94, 2, 1, []), (.istore_n 3, 1, 0, 0, 0, []), (.aload_n 0, 1, 0, 0, 0, []), (.getfield 12, 3, 5, 0, 1, []), (.getfield 118, 3, 0, 0, 1, []), (.iload_n 3, 1, 0, 0, 0, []), (.iaload, 1, 0, 0, 0, []), (.istore 4, 2, 0, 0, 0, []), (.iload 4, 2, 0, 0, 0, []), (.invokestatic 125, 3, 88, 1, 1, []), (.ifCond .ne 6, 3, 38, 0, 0, []), (.bipush (-2), 2, 0, 0, 0, []), (.ireturn, 1, 0, 0, 0, [])]
def b_L_unpick_38 : List mRow := [(.aload_n 0, 1, 0, 0, 0, []), (.getfield 12, 3, 5, 0, 1, []), (.iload_n 3, 1, 0, 0, 0, []), (.iconst 0, 1, 0, 0, 0, []), (.invokevirtual 164, 3, 3, 3, 0, [3]), (.iload 4, 2, 0, 0, 0, []), (.ireturn, 1, 0, 0, 0, [])]
def m_L_unpick : mMeth := ([(0, b_L_unpick_0), (10, b_L_unpick_10), (38, b_L_unpick_38)], [(0, [0, 1, 2]), (10, [0, 1, 2]), (38, [0, 3, 4])])
def b_L_moth_0 : List mRow := [(.iload_n 1, 1, 0, 0, 0, []), (.iload_n 2, 1, 0, 0, 0, []), (.invokestatic 114, 3, 87, 2, 1, []), (.ifCond .ne 5, 3, 10, 0, 0, []), (.iconst (-1), 1, 0, 0, 0, []), (.ireturn, 1, 0, 0, 0, [])]
def b_L_moth_10 : List mRow := [(.iload_n 1, 1, 0, 0, 0, []), (.iload_n 2, 1, 0, 0, 0, []), (.invokestatic 121, 3, 94, 2, 1, []), (.istore_n 3, 1, 0, 0, 0, []), (.aload_n 0, 1, 0, 0, 0, []), (.getfield 12, 3, 5, 0, 1, []), (.getfield 118, 3, 0, 0, 1, []), (.iload_n 3, 1, 0, 0, 0, []), (.iaload, 1, 0, 0, 0, []), (.istore 4, 2, 0, 0, 0, []), (.iload 4, 2, 0, 0, 0, []), (.iconst 4, 1, 0, 0, 0, []), (.if_icmp .ne 6, 3, 36, 0, 0, []), (.bipush (-2), 2, 0, 0, 0, []), (.ireturn, 1, 0, 0, 0, [])]
def b_L_moth_36 : List mRow := [(.aload_n 0, 1, 0, 0, 0, []), (.getfield 12, 3, 5, 0, 1, []), (.iload_n 3, 1, 0, 0, 0, []), (.iconst 4, 1, 0, 0, 0, []), (.invokevirtual 164, 3, 3, 3, 0, [3]), (.iload 4, 2, 0, 0, 0, []), (.ireturn, 1, 0, 0, 0, [])]
def m_L_moth : mMeth := ([(0, b_L_moth_0), (10, b_L_moth_10), (36, b_L_moth_36)], [(0, [0, 1, 2]), (10, [0, 1, 2]), (36, [0, 3, 4])])
def b_L_mend_0 : List mRow := [(.iload_n 1, 1, 0, 0, 0, []), (.iload_n 2, 1, 0, 0, 0, []), (.invokestatic 114, 3, 87, 2, 1, []), (.ifCond .ne 5, 3, 10, 0, 0, []), (.iconst (-1), 1, 0, 0, 0, []), (.ireturn, 1, 0, 0, 0, [])]
def b_L_mend_10 : List mRow := [(.iload_n 1, 1, 0, 0, 0, []), (.iload_n 2, 1, 0, 0, 0, []), (.invokestatic 121, 3, 94, 2, 1, []), (.istore_n 3, 1, 0, 0, 0, []), (.aload_n 0, 1, 0, 0, 0, []), (.getfield 12, 3, 5, 0, 1, []), (.getfield 118, 3, 0, 0, 1, []), (.iload_n 3, 1, 0, 0, 0, []), (.iaload, 1, 0, 0, 0, []), (.iconst 4, 1, 0, 0, 0, []), (.if_icmp .eq 6, 3, 32, 0, 0, []), (.bipush (-2), 2, 0, 0, 0, []), (.ireturn, 1, 0, 0, 0, [])]
def b_L_mend_32 : List mRow := [(.aload_n 0, 1, 0, 0, 0, []), (.getfield 12, 3, 5, 0, 1, []), (.iload_n 3, 1, 0, 0, 0, []), (.iconst 0, 1, 0, 0, 0, []), (.invokevirtual 164, 3, 3, 3, 0, [3]), (.aload_n 0, 1, 0, 0, 0, []), (.getfield 12, 3, 5, 0, 1, []), (.iconst 4, 1, 0, 0, 0, []), (.invokevirtual 100, 3, 15, 2, 1, [3]), (.ireturn, 1, 0, 0, 0, [])]
def m_L_mend : mMeth := ([(0, b_L_mend_0), (10, b_L_mend_10), (32, b_L_mend_32)], [(0, [0, 1, 2]), (10, [0, 1, 2]), (32, [0, 3])])
def b_L_runs_0 : List mRow := [(.iload_n 1, 1, 0, 0, 0, []), (.ifCond .lt 8, 3, 9, 0, 0, []), (.iload_n 1, 1, 0, 0, 0, []), (.iconst 3, 1, 0, 0, 0, []), (.if_icmp .le 5, 3, 11, 0, 0, [])]
def b_L_runs_9 : List mRow := [(.iconst (-1), 1, 0, 0, 0, []), (.ireturn, 1, 0, 0, 0, [])]
def b_L_runs_11 : List mRow := [(.aload_n 0, 1, 0, 0, 0, []), (.bipush (-4), 2, 0, 0, 0, []), (.invokevirtual 167, 3, 96, 2, 0, [8]), (.iload_n 1, 1, 0, 0, 0, []), (.tableswitch 50 0 2 #[26, 34, 42], 26, 68, 0, 0, [44, 52, 60])]
def b_L_runs_44 : List mRow := [(.aload_n 0, 1, 0, 0, 0, []), (.getfield 16, 3, 5, 1, 1, []), (.invokevirtual 111, 3, 13, 1, 1, [3]), (.ireturn, 1, 0, 0, 0, [])]
def b_L_runs_52 : List mRow := [(.aload_n 0, 1, 0, 0, 0, []), (.getfield 16, 3, 5, 1, 1, []), (.invokevirtual 107, 3, 14, 1, 1, [3]), (.ireturn, 1, 0, 0, 0, [])]
def b_L_runs_60 : List mRow := [(.aload_n 0, 1, 0, 0, 0, []), (.getfield 16, 3, 5, 1, 1, []), (.getfield 171, 3, 0, 7, 0, []), (.ireturn, 1, 0, 0, 0, [])]
def b_L_runs_68 : List mRow := [(.aload_n 0, 1, 0, 0, 0, []), (.getfield 16, 3, 5, 1, 1, []), (.getfield 174, 3, 0, 8, 0, []), (.ireturn, 1, 0, 0, 0, [])]
def m_L_runs : mMeth := ([(0, b_L_runs_0), (9, b_L_runs_9), (11, b_L_runs_11), (44, b_L_runs_44), (52, b_L_runs_52), (60, b_L_runs_60), (68, b_L_runs_68)], [(0, [0, 1]), (9, []), (11, [0, 1]), (44, [0]), (52, [0]), (60, [0]), (68, [0])])
def b_L_ahead_0 : List mRow := [(.iload_n 1, 1, 0, 0, 0, []), (.iload_n 2, 1, 0, 0, 0, []), (.invokestatic 114, 3, 87, 2, 1, []), (.ifCond .ne 5, 3, 10, 0, 0, []), (.iconst (-1), 1, 0, 0, 0, []), (.ireturn, 1, 0, 0, 0, [])]
def b_L_ahead_10 : List mRow := [(.aload_n 0, 1, 0, 0, 0, []), (.bipush (-4), 2, 0, 0, 0, []), (.invokevirtual 167, 3, 96, 2, 0, [8]), (.aload_n 0, 1, 0, 0, 0, []), (.getfield 16, 3, 5, 1, 1, []), (.getfield 118, 3, 0, 0, 1, []), (.iload_n 1, 1, 0, 0, 0, []), (.iload_n 2, 1, 0, 0, 0, []), (.invokestatic 121, 3, 94, 2, 1, []), (.iaload, 1, 0, 0, 0, []), (.ireturn, 1, 0, 0, 0, [])]
def m_L_ahead : mMeth := ([(0, b_L_ahead_0), (10, b_L_ahead_10)], [(0, [0, 1, 2]), (10, [0, 1, 2])])
def b_L_best_0 : List mRow := [(.iload_n 1, 1, 0, 0, 0, []), (.invokestatic 177, 3, 89, 1, 1, []), (.ifCond .ne 5, 3, 9, 0, 0, []), (.iconst (-1), 1, 0, 0, 0, []), (.ireturn, 1, 0, 0, 0, [])]
def b_L_best_9 : List mRow := [(.aload_n 0, 1, 0, 0, 0, []), (.getfield 16, 3, 5, 1, 1, []), (.aload_n 0, 1, 0, 0, 0, []), (.getfield 12, 3, 5, 0, 1, []), (.invokevirtual 86, 3, 2, 2, 0, [3]), (.aload_n 0, 1, 0, 0, 0, []), (.getfield 39, 3, 5, 5, 1, []), (.aload_n 0, 1, 0, 0, 0, []), (.getfield 16, 3, 5, 1, 1, []), (.invokevirtual 111, 3, 13, 1, 1, [3]), (.invokevirtual 180, 3, 21, 2, 0, [4]), (.iconst 0, 1, 0, 0, 0, []), (.istore_n 2, 1, 0, 0, 0, [])]
def b_L_best_36 : List mRow := [(.iload_n 2, 1, 0, 0, 0, []), (.bipush 36, 2, 0, 0, 0, []), (.if_icmp .ge 71, 3, 110, 0, 0, []), (.iconst 1, 1, 0, 0, 0, []), (.istore_n 3, 1, 0, 0, 0, [])]
def b_L_best_44 : List mRow := [(.iload_n 3, 1, 0, 0, 0, []), (.iconst 3, 1, 0, 0, 0, []), (.if_icmp .gt 58, 3, 104, 0, 0, []), (.aload_n 0, 1, 0, 0, 0, []), (.getfield 16, 3, 5, 1, 1, []), (.iload_n 2, 1, 0, 0, 0, []), (.iload_n 3, 1, 0, 0, 0, []), (.invokevirtual 157, 3, 5, 3, 1, [3]), (.ifCond .eq 40, 3, 98, 0, 0, []), (.aload_n 0, 1, 0, 0, 0, []), (.getfield 16, 3, 5, 1, 1, []), (.iload_n 2, 1, 0, 0, 0, []), (.iload_n 3, 1, 0, 0, 0, []), (.invokevirtual 164, 3, 3, 3, 0, [3]), (.aload_n 0, 1, 0, 0, 0, []), (.getfield 39, 3, 5, 5, 1, []), (.iload_n 2, 1, 0, 0, 0, []), (.iload_n 3, 1, 0, 0, 0, []), (.invokestatic 183, 3, 95, 2, 1, []), (.aload_n 0, 1, 0, 0, 0, []), (.getfield 16, 3, 5, 1, 1, []), (.invokevirtual 111, 3, 13, 1, 1, [3]), (.invokevirtual 186, 3, 22, 3, 0, [4]), (.aload_n 0, 1, 0, 0, 0, []), (.getfield 16, 3, 5, 1, 1, []), (.iload_n 2, 1, 0, 0, 0, []), (.iconst 0, 1, 0, 0, 0, []), (.invokevirtual 164, 3, 3, 3, 0, [3])]
def b_L_best_98 : List mRow := [(.iinc 3 1, 3, 0, 0, 0, []), (.goto (-57), 3, 44, 0, 0, [])]
def b_L_best_104 : List mRow := [(.iinc 2 1, 3, 0, 0, 0, []), (.goto (-71), 3, 36, 0, 0, [])]
def b_L_best_110 : List mRow := [(.aload_n 0, 1, 0, 0, 0, []), (.getfield 39, 3, 5, 5, 1, []), (.iload_n 1, 1, 0, 0, 0, []), (.invokevirtual 189, 3, 23, 2, 1, [4]), (.ireturn, 1, 0, 0, 0, [])]
def m_L_best : mMeth := ([(0, b_L_best_0), (9, b_L_best_9), (36, b_L_best_36), (44, b_L_best_44), (98, b_L_best_98), (104, b_L_best_104), (110, b_L_best_110)], [(0, [0, 1]), (9, [0, 1]), (36, [0, 1, 2]), (44, [0, 1, 2, 3]), (98, [0, 1, 2, 3]), (104, [0, 1, 2]), (110, [0, 1])])
def b_L_need_0 : List mRow := [(.aload_n 0, 1, 0, 0, 0, []), (.iload_n 1, 1, 0, 0, 0, []), (.invokevirtual 132, 3, 92, 2, 1, [8]), (.ifCond .eq 19, 3, 24, 0, 0, []), (.iload_n 2, 1, 0, 0, 0, []), (.ifCond .eq 17, 3, 26, 0, 0, []), (.iload_n 2, 1, 0, 0, 0, []), (.bipush 10, 2, 0, 0, 0, []), (.if_icmp .eq 11, 3, 26, 0, 0, []), (.iload_n 2, 1, 0, 0, 0, []), (.bipush 11, 2, 0, 0, 0, []), (.if_icmp .eq 5, 3, 26, 0, 0, [])]
def b_L_need_24 : List mRow := [(.iconst (-1), 1, 0, 0, 0, []), (.ireturn, 1, 0, 0, 0, [])]
def b_L_need_26 : List mRow := [(.aload_n 0, 1, 0, 0, 0, []), (.iload_n 1, 1, 0, 0, 0, []), (.invokevirtual 192, 3, 97, 2, 1, [8]), (.istore_n 3, 1, 0, 0, 0, []), (.iload_n 3, 1, 0, 0, 0, []), (.bipush (-4), 2, 0, 0, 0, []), (.if_icmp .eq 7, 3, 42, 0, 0, []), (.iload_n 2, 1, 0, 0, 0, []), (.ifCond .ne 5, 3, 44, 0, 0, [])]
def b_L_need_42 : List mRow := [(.iload_n 3, 1, 0, 0, 0, []), (.ireturn, 1, 0, 0, 0, [])]
def b_L_need_44 : List mRow := [(.iload_n 2, 1, 0, 0, 0, []), (.bipush 10, 2, 0, 0, 0, []), (.isub, 1, 0, 0, 0, []), (.istore 4, 2, 0, 0, 0, []), (.iload 4, 2, 0, 0, 0, []), (.iload_n 3, 1, 0, 0, 0, []), (.if_icmp .ge 13, 3, 66, 0, 0, []), (.aload_n 0, 1, 0, 0, 0, []), (.getfield 49, 3, 5, 7, 1, []), (.iload 4, 2, 0, 0, 0, []), (.iaload, 1, 0, 0, 0, []), (.goto 5, 3, 68, 0, 0, [])]
def b_L_need_66 : List mRow := [(.bipush (-4), 2, 0, 0, 0, [])]
def b_L_need_68 : List mRow := [(.ireturn, 1, 0, 0, 0, [])]
def m_L_need : mMeth := ([(0, b_L_need_0), (24, b_L_need_24), (26, b_L_need_26), (42, b_L_need_42), (44, b_L_need_44), (66, b_L_need_66), (68, b_L_need_68)], [(0, [0, 1, 2]), (24, []), (26, [0, 1, 2]), (42, [3]), (44, [0, 2, 3]), (66, []), (68, [])])
def b_L_loose_0 : List mRow := [(.aload_n 0, 1, 0, 0, 0, []), (.iload_n 1, 1, 0, 0, 0, []), (.invokevirtual 132, 3, 92, 2, 1, [8]), (.ifCond .eq 10, 3, 15, 0, 0, []), (.iload_n 2, 1, 0, 0, 0, []), (.invokestatic 177, 3, 89, 1, 1, []), (.ifCond .ne 5, 3, 17, 0, 0, [])]
def b_L_loose_15 : List mRow := [(.iconst (-1), 1, 0, 0, 0, []), (.ireturn, 1, 0, 0, 0, [])]
def b_L_loose_17 : List mRow := [(.aload_n 0, 1, 0, 0, 0, []), (.getfield 16, 3, 5, 1, 1, []), (.aload_n 0, 1, 0, 0, 0, []), (.getfield 12, 3, 5, 0, 1, []), (.invokevirtual 86, 3, 2, 2, 0, [3]), (.aload_n 0, 1, 0, 0, 0, []), (.getfield 39, 3, 5, 5, 1, []), (.aload_n 0, 1, 0, 0, 0, []), (.getfield 16, 3, 5, 1, 1, []), (.iload_n 1, 1, 0, 0, 0, []), (.invokevirtual 138, 3, 10, 2, 1, [3]), (.ineg, 1, 0, 0, 0, []), (.invokevirtual 180, 3, 21, 2, 0, [4]), (.iconst 0, 1, 0, 0, 0, []), (.istore_n 3, 1, 0, 0, 0, [])]
def b_L_loose_46 : List mRow := [(.iload_n 3, 1, 0, 0, 0, []), (.bipush 36, 2, 0, 0, 0, []), (.if_icmp .ge 75, 3, 124, 0, 0, []), (.aload_n 0, 1, 0, 0, 0, []), (.getfield 16, 3, 5, 1, 1, []), (.getfield 118, 3, 0, 0, 1, []), (.iload_n 3, 1, 0, 0, 0, []), (.iaload, 1, 0, 0, 0, []), (.istore 4, 2, 0, 0, 0, []), (.iload 4, 2, 0, 0, 0, []), (.invokestatic 125, 3, 88, 1, 1, []), (.ifCond .eq 50, 3, 118, 0, 0, []), (.aload_n 0, 1, 0, 0, 0, []), (.getfield 16, 3, 5, 1, 1, []), (.iload_n 3, 1, 0, 0, 0, []), (.iconst 0, 1, 0, 0, 0, []), (.invokevirtual 164, 3, 3, 3, 0, [3]), (.aload_n 0, 1, 0, 0, 0, []), (.getfield 39, 3, 5, 5, 1, []), (.bipush 10, 2, 0, 0, 0, []), (.iload_n 3, 1, 0, 0, 0, []), (.bipush 6, 2, 0, 0, 0, []), (.idiv, 1, 0, 0, 0, []), (.imul, 1, 0, 0, 0, []), (.iload_n 3, 1, 0, 0, 0, []), (.bipush 6, 2, 0, 0, 0, []), (.irem, 1, 0, 0, 0, []), (.iadd, 1, 0, 0, 0, []), (.aload_n 0, 1, 0, 0, 0, []), (.getfield 16, 3, 5, 1, 1, []), (.iload_n 1, 1, 0, 0, 0, []), (.invokevirtual 138, 3, 10, 2, 1, [3]), (.ineg, 1, 0, 0, 0, []), (.invokevirtual 186, 3, 22, 3, 0, [4]), (.aload_n 0, 1, 0, 0, 0, []), (.getfield 16, 3, 5, 1, 1, []), (.iload_n 3, 1, 0, 0, 0, []), (.iload 4, 2, 0, 0, 0, []), (.invokevirtual 164, 3, 3, 3, 0, [3])]
def b_L_loose_118 : List mRow := [(.iinc 3 1, 3, 0, 0, 0, []), (.goto (-75), 3, 46, 0, 0, [])]
def b_L_loose_124 : List mRow := [(.aload_n 0, 1, 0, 0, 0, []), (.getfield 39, 3, 5, 5, 1, []), (.getfield 195, 3, 1, 0, 0, []), (.bipush (-4), 2, 0, 0, 0, []), (.if_icmp .eq 7, 3, 140, 0, 0, []), (.iload_n 2, 1, 0, 0, 0, []), (.ifCond .ne 11, 3, 148, 0, 0, [])]
def b_L_loose_140 : List mRow := [(.aload_n 0, 1, 0, 0, 0, []), (.getfield 39, 3, 5, 5, 1, []), (.getfield 195, 3, 1, 0, 0, []), (.ireturn, 1, 0, 0, 0, [])]
def b_L_loose_148 : List mRow := [(.aload_n 0, 1, 0, 0, 0, []), (.getfield 39, 3, 5, 5, 1, []), (.getfield 198, 3, 1, 1, 0, []), (.ineg, 1, 0, 0, 0, []), (.ireturn, 1, 0, 0, 0, [])]
def m_L_loose : mMeth := ([(0, b_L_loose_0), (15, b_L_loose_15), (17, b_L_loose_17), (46, b_L_loose_46), (118, b_L_loose_118), (124, b_L_loose_124), (140, b_L_loose_140), (148, b_L_loose_148)], [(0, [0, 1, 2]), (15, []), (17, [0, 1, 2]), (46, [0, 1, 2, 3]), (118, [0, 1, 2, 3]), (124, [0, 2]), (140, [0]), (148, [0])])
def b_L_dye_0 : List mRow := [(.iload_n 1, 1, 0, 0, 0, []), (.invokestatic 177, 3, 89, 1, 1, []), (.ifCond .ne 5, 3, 9, 0, 0, []), (.iconst (-1), 1, 0, 0, 0, []), (.ireturn, 1, 0, 0, 0, [])]
def b_L_dye_9 : List mRow := [(.aload_n 0, 1, 0, 0, 0, []), (.getfield 16, 3, 5, 1, 1, []), (.aload_n 0, 1, 0, 0, 0, []), (.getfield 12, 3, 5, 0, 1, []), (.invokevirtual 86, 3, 2, 2, 0, [3]), (.aload_n 0, 1, 0, 0, 0, []), (.getfield 39, 3, 5, 5, 1, []), (.aload_n 0, 1, 0, 0, 0, []), (.getfield 16, 3, 5, 1, 1, []), (.invokevirtual 111, 3, 13, 1, 1, [3]), (.invokevirtual 180, 3, 21, 2, 0, [4]), (.iconst 1, 1, 0, 0, 0, []), (.istore_n 2, 1, 0, 0, 0, [])]
def b_L_dye_36 : List mRow := [(.iload_n 2, 1, 0, 0, 0, []), (.iconst 3, 1, 0, 0, 0, []), (.if_icmp .ge 62, 3, 100, 0, 0, []), (.iload_n 2, 1, 0, 0, 0, []), (.iconst 1, 1, 0, 0, 0, []), (.iadd, 1, 0, 0, 0, []), (.istore_n 3, 1, 0, 0, 0, [])]
def b_L_dye_45 : List mRow := [(.iload_n 3, 1, 0, 0, 0, []), (.iconst 3, 1, 0, 0, 0, []), (.if_icmp .gt 47, 3, 94, 0, 0, []), (.aload_n 0, 1, 0, 0, 0, []), (.getfield 16, 3, 5, 1, 1, []), (.iload_n 2, 1, 0, 0, 0, []), (.iload_n 3, 1, 0, 0, 0, []), (.invokevirtual 201, 3, 18, 3, 0, [3]), (.aload_n 0, 1, 0, 0, 0, []), (.getfield 39, 3, 5, 5, 1, []), (.bipush 10, 2, 0, 0, 0, []), (.iload_n 2, 1, 0, 0, 0, []), (.imul, 1, 0, 0, 0, []), (.iload_n 3, 1, 0, 0, 0, []), (.iadd, 1, 0, 0, 0, []), (.aload_n 0, 1, 0, 0, 0, []), (.getfield 16, 3, 5, 1, 1, []), (.invokevirtual 111, 3, 13, 1, 1, [3]), (.invokevirtual 186, 3, 22, 3, 0, [4]), (.aload_n 0, 1, 0, 0, 0, []), (.getfield 16, 3, 5, 1, 1, []), (.iload_n 2, 1, 0, 0, 0, []), (.iload_n 3, 1, 0, 0, 0, []), (.invokevirtual 201, 3, 18, 3, 0, [3]), (.iinc 3 1, 3, 0, 0, 0, []), (.goto (-46), 3, 45, 0, 0, [])]
def b_L_dye_94 : List mRow := [(.iinc 2 1, 3, 0, 0, 0, []), (.goto (-61), 3, 36, 0, 0, [])]
def b_L_dye_100 : List mRow := [(.aload_n 0, 1, 0, 0, 0, []), (.getfield 39, 3, 5, 5, 1, []), (.iload_n 1, 1, 0, 0, 0, []), (.invokevirtual 189, 3, 23, 2, 1, [4]), (.ireturn, 1, 0, 0, 0, [])]
def m_L_dye : mMeth := ([(0, b_L_dye_0), (9, b_L_dye_9), (36, b_L_dye_36), (45, b_L_dye_45), (94, b_L_dye_94), (100, b_L_dye_100)], [(0, [0, 1]), (9, [0, 1]), (36, [0, 1, 2]), (45, [0, 1, 2, 3]), (94, [0, 1, 2]), (100, [0, 1])])
def b_L_turn_0 : List mRow := [(.iload_n 1, 1, 0, 0, 0, []), (.invokestatic 177, 3, 89, 1, 1, []), (.ifCond .ne 5, 3, 9, 0, 0, []), (.iconst (-1), 1, 0, 0, 0, []), (.ireturn, 1, 0, 0, 0, [])]
def b_L_turn_9 : List mRow := [(.aload_n 0, 1, 0, 0, 0, []), (.getfield 16, 3, 5, 1, 1, []), (.aload_n 0, 1, 0, 0, 0, []), (.getfield 12, 3, 5, 0, 1, []), (.invokevirtual 86, 3, 2, 2, 0, [3]), (.aload_n 0, 1, 0, 0, 0, []), (.getfield 39, 3, 5, 5, 1, []), (.aload_n 0, 1, 0, 0, 0, []), (.getfield 16, 3, 5, 1, 1, []), (.invokevirtual 111, 3, 13, 1, 1, [3]), (.invokevirtual 180, 3, 21, 2, 0, [4]), (.iconst 0, 1, 0, 0, 0, []), (.istore_n 2, 1, 0, 0, 0, [])]
def b_L_turn_36 : List mRow := [(.iload_n 2, 1, 0, 0, 0, []), (.bipush 6, 2, 0, 0, 0, []), (.if_icmp .ge 40, 3, 79, 0, 0, []), (.aload_n 0, 1, 0, 0, 0, []), (.getfield 16, 3, 5, 1, 1, []), (.iload_n 2, 1, 0, 0, 0, []), (.invokevirtual 204, 3, 19, 2, 0, [3]), (.aload_n 0, 1, 0, 0, 0, []), (.getfield 39, 3, 5, 5, 1, []), (.iload_n 2, 1, 0, 0, 0, []), (.aload_n 0, 1, 0, 0, 0, []), (.getfield 16, 3, 5, 1, 1, []), (.invokevirtual 111, 3, 13, 1, 1, [3]), (.invokevirtual 186, 3, 22, 3, 0, [4]), (.aload_n 0, 1, 0, 0, 0, []), (.getfield 16, 3, 5, 1, 1, []), (.iload_n 2, 1, 0, 0, 0, []), (.invokevirtual 204, 3, 19, 2, 0, [3]), (.iinc 2 1, 3, 0, 0, 0, []), (.goto (-40), 3, 36, 0, 0, [])]
def b_L_turn_79 : List mRow := [(.aload_n 0, 1, 0, 0, 0, []), (.getfield 39, 3, 5, 5, 1, []), (.iload_n 1, 1, 0, 0, 0, []), (.invokevirtual 189, 3, 23, 2, 1, [4]), (.ireturn, 1, 0, 0, 0, [])]
def m_L_turn : mMeth := ([(0, b_L_turn_0), (9, b_L_turn_9), (36, b_L_turn_36), (79, b_L_turn_79)], [(0, [0, 1]), (9, [0, 1]), (36, [0, 1, 2]), (79, [0, 1])])
def b_L_leave_0 : List mRow := [(.iload_n 1, 1, 0, 0, 0, []), (.invokestatic 177, 3, 89, 1, 1, []), (.ifCond .ne 5, 3, 9, 0, 0, []), (.iconst (-1), 1, 0, 0, 0, []), (.ireturn, 1, 0, 0, 0, [])]
def b_L_leave_9 : List mRow := [(.aload_n 0, 1, 0, 0, 0, []), (.bipush (-4), 2, 0, 0, 0, []), (.invokevirtual 167, 3, 96, 2, 0, [8]), (.aload_n 0, 1, 0, 0, 0, []), (.getfield 39, 3, 5, 5, 1, []), (.aload_n 0, 1, 0, 0, 0, []), (.getfield 16, 3, 5, 1, 1, []), (.invokevirtual 111, 3, 13, 1, 1, [3]), (.invokevirtual 180, 3, 21, 2, 0, [4]), (.iconst 0, 1, 0, 0, 0, []), (.istore_n 2, 1, 0, 0, 0, [])]
def b_L_leave_31 : List mRow := [(.iload_n 2, 1, 0, 0, 0, []), (.aload_n 0, 1, 0, 0, 0, []), (.getfield 12, 3, 5, 0, 1, []), (.getfield 104, 3, 0, 6, 0, []), (.if_icmp .ge 29, 3, 68, 0, 0, []), (.aload_n 0, 1, 0, 0, 0, []), (.iload_n 2, 1, 0, 0, 0, []), (.invokevirtual 167, 3, 96, 2, 0, [8]), (.aload_n 0, 1, 0, 0, 0, []), (.getfield 39, 3, 5, 5, 1, []), (.iload_n 2, 1, 0, 0, 0, []), (.aload_n 0, 1, 0, 0, 0, []), (.getfield 16, 3, 5, 1, 1, []), (.invokevirtual 111, 3, 13, 1, 1, [3]), (.invokevirtual 186, 3, 22, 3, 0, [4]), (.iinc 2 1, 3, 0, 0, 0, []), (.goto (-34), 3, 31, 0, 0, [])]
def b_L_leave_68 : List mRow := [(.aload_n 0, 1, 0, 0, 0, []), (.getfield 39, 3, 5, 5, 1, []), (.iload_n 1, 1, 0, 0, 0, []), (.invokevirtual 189, 3, 23, 2, 1, [4]), (.ireturn, 1, 0, 0, 0, [])]
def m_L_leave : mMeth := ([(0, b_L_leave_0), (9, b_L_leave_9), (31, b_L_leave_31), (68, b_L_leave_68)], [(0, [0, 1]), (9, [0, 1]), (31, [0, 1, 2]), (68, [0, 1])])
def b_L_luck_0 : List mRow := [(.iload_n 1, 1, 0, 0, 0, []), (.ifCond .lt 24, 3, 25, 0, 0, []), (.iload_n 1, 1, 0, 0, 0, []), (.bipush 10, 2, 0, 0, 0, []), (.if_icmp .gt 18, 3, 25, 0, 0, []), (.aload_n 0, 1, 0, 0, 0, []), (.iload_n 2, 1, 0, 0, 0, []), (.invokevirtual 132, 3, 92, 2, 1, [8]), (.ifCond .eq 10, 3, 25, 0, 0, []), (.iload_n 3, 1, 0, 0, 0, []), (.invokestatic 177, 3, 89, 1, 1, []), (.ifCond .ne 7, 3, 29, 0, 0, [])]
def b_L_luck_25 : List mRow := [(.ldc2_w 207, 3, 0, 0, (-1), []), (.lreturn, 1, 0, 0, 0, [])]
def b_L_luck_29 : List mRow := [(.aload_n 0, 1, 0, 0, 0, []), (.invokevirtual 209, 3, 104, 1, 1, [8]), (.ifCond .ne 7, 3, 40, 0, 0, []), (.ldc2_w 213, 3, 0, 0, (-2), []), (.lreturn, 1, 0, 0, 0, [])]
def b_L_luck_40 : List mRow := [(.lconst 0, 1, 0, 0, 0, []), (.lstore 4, 2, 0, 0, 0, []), (.iconst 1, 1, 0, 0, 0, []), (.aload_n 0, 1, 0, 0, 0, []), (.getfield 215, 3, 5, 15, 0, []), (.ishl, 1, 0, 0, 0, []), (.istore 6, 2, 0, 0, 0, []), (.iconst 0, 1, 0, 0, 0, []), (.istore 7, 2, 0, 0, 0, [])]
def b_L_luck_54 : List mRow := [(.iload 7, 2, 0, 0, 0, []), (.iload 6, 2, 0, 0, 0, []), (.if_icmp .ge 38, 3, 96, 0, 0, []), (.aload_n 0, 1, 0, 0, 0, []), (.iload 7, 2, 0, 0, 0, []), (.invokevirtual 218, 3, 105, 2, 0, [8]), (.aload_n 0, 1, 0, 0, 0, []), (.getfield 16, 3, 5, 1, 1, []), (.iload_n 2, 1, 0, 0, 0, []), (.invokevirtual 138, 3, 10, 2, 1, [3]), (.ifCond .le 15, 3, 90, 0, 0, []), (.lload 4, 2, 0, 0, 0, []), (.aload_n 0, 1, 0, 0, 0, []), (.iload 7, 2, 0, 0, 0, []), (.iload_n 1, 1, 0, 0, 0, []), (.invokevirtual 221, 3, 106, 3, 2, [8]), (.ladd, 1, 0, 0, 0, []), (.lstore 4, 2, 0, 0, 0, [])]
def b_L_luck_90 : List mRow := [(.iinc 7 1, 3, 0, 0, 0, []), (.goto (-39), 3, 54, 0, 0, [])]
def b_L_luck_96 : List mRow := [(.aload_n 0, 1, 0, 0, 0, []), (.lload 4, 2, 0, 0, 0, []), (.iload_n 3, 1, 0, 0, 0, []), (.invokevirtual 225, 3, 107, 3, 2, [8]), (.lreturn, 1, 0, 0, 0, [])]
def m_L_luck : mMeth := ([(0, b_L_luck_0), (25, b_L_luck_25), (29, b_L_luck_29), (40, b_L_luck_40), (54, b_L_luck_54), (90, b_L_luck_90), (96, b_L_luck_96)], [(0, [0, 1, 2, 3]), (25, []), (29, [0, 1, 2, 3]), (40, [0, 1, 2, 3]), (54, [0, 1, 2, 3, 4, 6, 7]), (90, [0, 1, 2, 3, 4, 6, 7]), (96, [0, 3, 4])])
def b_L_mean_0 : List mRow := [(.iload_n 1, 1, 0, 0, 0, []), (.ifCond .lt 16, 3, 17, 0, 0, []), (.iload_n 1, 1, 0, 0, 0, []), (.bipush 10, 2, 0, 0, 0, []), (.if_icmp .gt 10, 3, 17, 0, 0, []), (.iload_n 2, 1, 0, 0, 0, []), (.invokestatic 177, 3, 89, 1, 1, []), (.ifCond .ne 7, 3, 21, 0, 0, [])]
def b_L_mean_17 : List mRow := [(.ldc2_w 207, 3, 0, 0, (-1), []), (.lreturn, 1, 0, 0, 0, [])]
def b_L_mean_21 : List mRow := [(.aload_n 0, 1, 0, 0, 0, []), (.invokevirtual 209, 3, 104, 1, 1, [8]), (.ifCond .ne 7, 3, 32, 0, 0, []), (.ldc2_w 213, 3, 0, 0, (-2), []), (.lreturn, 1, 0, 0, 0, [])]
def b_L_mean_32 : List mRow := [(.lconst 0, 1, 0, 0, 0, []), (.lstore_n 3, 1, 0, 0, 0, []), (.iconst 1, 1, 0, 0, 0, []), (.aload_n 0, 1, 0, 0, 0, []), (.getfield 215, 3, 5, 15, 0, []), (.ishl, 1, 0, 0, 0, []), (.istore 5, 2, 0, 0, 0, []), (.iconst 0, 1, 0, 0, 0, []), (.istore 6, 2, 0, 0, 0, [])]
def b_L_mean_45 : List mRow := [(.iload 6, 2, 0, 0, 0, []), (.iload 5, 2, 0, 0, 0, []), (.if_icmp .ge 34, 3, 83, 0, 0, []), (.aload_n 0, 1, 0, 0, 0, []), (.iload 6, 2, 0, 0, 0, []), (.invokevirtual 218, 3, 105, 2, 0, [8]), (.lload_n 3, 1, 0, 0, 0, []), (.aload_n 0, 1, 0, 0, 0, []), (.iload 6, 2, 0, 0, 0, []), (.iload_n 1, 1, 0, 0, 0, []), (.invokevirtual 221, 3, 106, 3, 2, [8]), (.aload_n 0, 1, 0, 0, 0, []), (.getfield 16, 3, 5, 1, 1, []), (.invokevirtual 111, 3, 13, 1, 1, [3]), (.i2l, 1, 0, 0, 0, []), (.lmul, 1, 0, 0, 0, []), (.ladd, 1, 0, 0, 0, []), (.lstore_n 3, 1, 0, 0, 0, []), (.iinc 6 1, 3, 0, 0, 0, []), (.goto (-35), 3, 45, 0, 0, [])]
def b_L_mean_83 : List mRow := [(.aload_n 0, 1, 0, 0, 0, []), (.lload_n 3, 1, 0, 0, 0, []), (.iload_n 2, 1, 0, 0, 0, []), (.invokevirtual 225, 3, 107, 3, 2, [8]), (.lreturn, 1, 0, 0, 0, [])]
def m_L_mean : mMeth := ([(0, b_L_mean_0), (17, b_L_mean_17), (21, b_L_mean_21), (32, b_L_mean_32), (45, b_L_mean_45), (83, b_L_mean_83)], [(0, [0, 1, 2]), (17, []), (21, [0, 1, 2]), (32, [0, 1, 2]), (45, [0, 1, 2, 3, 5, 6]), (83, [0, 2, 3])])
def b_L_see_0 : List mRow := [(.aload_n 0, 1, 0, 0, 0, []), (.iload_n 1, 1, 0, 0, 0, []), (.invokevirtual 132, 3, 92, 2, 1, [8]), (.ifCond .eq 13, 3, 18, 0, 0, []), (.iload_n 2, 1, 0, 0, 0, []), (.ifCond .lt 9, 3, 18, 0, 0, []), (.iload_n 2, 1, 0, 0, 0, []), (.bipush 60, 2, 0, 0, 0, []), (.if_icmp .le 5, 3, 20, 0, 0, [])]
def b_L_see_18 : List mRow := [(.iconst (-1), 1, 0, 0, 0, []), (.ireturn, 1, 0, 0, 0, [])]
def b_L_see_20 : List mRow := [(.aload_n 0, 1, 0, 0, 0, []), (.getfield 90, 3, 5, 13, 0, []), (.bipush 6, 2, 0, 0, 0, []), (.if_icmp .lt 6, 3, 32, 0, 0, []), (.bipush (-3), 2, 0, 0, 0, []), (.ireturn, 1, 0, 0, 0, [])]
def b_L_see_32 : List mRow := [(.aload_n 0, 1, 0, 0, 0, []), (.getfield 53, 3, 5, 8, 1, []), (.aload_n 0, 1, 0, 0, 0, []), (.getfield 90, 3, 5, 13, 0, []), (.iload_n 1, 1, 0, 0, 0, []), (.iastore, 1, 0, 0, 0, []), (.aload_n 0, 1, 0, 0, 0, []), (.getfield 56, 3, 5, 9, 1, []), (.aload_n 0, 1, 0, 0, 0, []), (.getfield 90, 3, 5, 13, 0, []), (.iload_n 2, 1, 0, 0, 0, []), (.iastore, 1, 0, 0, 0, []), (.aload_n 0, 1, 0, 0, 0, []), (.dup, 1, 0, 0, 0, []), (.getfield 90, 3, 5, 13, 0, []), (.iconst 1, 1, 0, 0, 0, []), (.iadd, 1, 0, 0, 0, []), (.putfield 90, 3, 5, 13, 0, []), (.aload_n 0, 1, 0, 0, 0, []), (.getfield 90, 3, 5, 13, 0, []), (.ireturn, 1, 0, 0, 0, [])]
def m_L_see : mMeth := ([(0, b_L_see_0), (18, b_L_see_18), (20, b_L_see_20), (32, b_L_see_32)], [(0, [0, 1, 2]), (18, []), (20, [0, 1, 2]), (32, [0, 1, 2])])
def b_L_forget_0 : List mRow := [(.iload_n 1, 1, 0, 0, 0, []), (.ifCond .lt 11, 3, 12, 0, 0, []), (.iload_n 1, 1, 0, 0, 0, []), (.aload_n 0, 1, 0, 0, 0, []), (.getfield 90, 3, 5, 13, 0, []), (.if_icmp .le 5, 3, 14, 0, 0, [])]
def b_L_forget_12 : List mRow := [(.iconst (-1), 1, 0, 0, 0, []), (.ireturn, 1, 0, 0, 0, [])]
def b_L_forget_14 : List mRow := [(.aload_n 0, 1, 0, 0, 0, []), (.getfield 90, 3, 5, 13, 0, []), (.istore_n 2, 1, 0, 0, 0, []), (.aload_n 0, 1, 0, 0, 0, []), (.iload_n 1, 1, 0, 0, 0, []), (.putfield 90, 3, 5, 13, 0, []), (.iload_n 2, 1, 0, 0, 0, []), (.ireturn, 1, 0, 0, 0, [])]
def m_L_forget : mMeth := ([(0, b_L_forget_0), (12, b_L_forget_12), (14, b_L_forget_14)], [(0, [0, 1]), (12, []), (14, [0, 1])])
def b_L_fills_0 : List mRow := [(.aload_n 0, 1, 0, 0, 0, []), (.invokevirtual 229, 3, 109, 1, 1, [8]), (.ifCond .ne 6, 3, 10, 0, 0, []), (.bipush (-2), 2, 0, 0, 0, []), (.ireturn, 1, 0, 0, 0, [])]
def b_L_fills_10 : List mRow := [(.iconst 0, 1, 0, 0, 0, []), (.istore_n 1, 1, 0, 0, 0, []), (.aload_n 0, 1, 0, 0, 0, []), (.invokevirtual 232, 3, 110, 1, 1, [8]), (.istore_n 2, 1, 0, 0, 0, []), (.iconst 0, 1, 0, 0, 0, []), (.istore_n 3, 1, 0, 0, 0, [])]
def b_L_fills_19 : List mRow := [(.iload_n 3, 1, 0, 0, 0, []), (.iload_n 2, 1, 0, 0, 0, []), (.if_icmp .ge 20, 3, 41, 0, 0, []), (.aload_n 0, 1, 0, 0, 0, []), (.iload_n 3, 1, 0, 0, 0, []), (.invokevirtual 235, 3, 111, 2, 1, [8]), (.ifCond .eq 6, 3, 35, 0, 0, []), (.iinc 1 1, 3, 0, 0, 0, [])]
def b_L_fills_35 : List mRow := [(.iinc 3 1, 3, 0, 0, 0, []), (.goto (-19), 3, 19, 0, 0, [])]
def b_L_fills_41 : List mRow := [(.iload_n 1, 1, 0, 0, 0, []), (.ireturn, 1, 0, 0, 0, [])]
def m_L_fills : mMeth := ([(0, b_L_fills_0), (10, b_L_fills_10), (19, b_L_fills_19), (35, b_L_fills_35), (41, b_L_fills_41)], [(0, [0]), (10, [0]), (19, [0, 1, 2, 3]), (35, [0, 1, 2, 3]), (41, [1])])
def b_L_shades_0 : List mRow := [(.iload_n 1, 1, 0, 0, 0, []), (.iload_n 2, 1, 0, 0, 0, []), (.invokestatic 114, 3, 87, 2, 1, []), (.ifCond .ne 5, 3, 10, 0, 0, []), (.iconst (-1), 1, 0, 0, 0, []), (.ireturn, 1, 0, 0, 0, [])]
def b_L_shades_10 : List mRow := [(.iload_n 1, 1, 0, 0, 0, []), (.iload_n 2, 1, 0, 0, 0, []), (.invokestatic 121, 3, 94, 2, 1, []), (.istore_n 3, 1, 0, 0, 0, []), (.aload_n 0, 1, 0, 0, 0, []), (.getfield 12, 3, 5, 0, 1, []), (.getfield 118, 3, 0, 0, 1, []), (.iload_n 3, 1, 0, 0, 0, []), (.iaload, 1, 0, 0, 0, []), (.iconst 4, 1, 0, 0, 0, []), (.if_icmp .ne 10, 3, 36, 0, 0, []), (.aload_n 0, 1, 0, 0, 0, []), (.invokevirtual 229, 3, 109, 1, 1, [8]), (.ifCond .ne 6, 3, 39, 0, 0, [])]
def b_L_shades_36 : List mRow := [(.bipush (-2), 2, 0, 0, 0, []), (.ireturn, 1, 0, 0, 0, [])]
def b_L_shades_39 : List mRow := [(.iconst 0, 1, 0, 0, 0, []), (.istore 4, 2, 0, 0, 0, []), (.aload_n 0, 1, 0, 0, 0, []), (.invokevirtual 232, 3, 110, 1, 1, [8]), (.istore 5, 2, 0, 0, 0, []), (.iconst 0, 1, 0, 0, 0, []), (.istore 6, 2, 0, 0, 0, [])]
def b_L_shades_51 : List mRow := [(.iload 6, 2, 0, 0, 0, []), (.iload 5, 2, 0, 0, 0, []), (.if_icmp .ge 34, 3, 89, 0, 0, []), (.aload_n 0, 1, 0, 0, 0, []), (.iload 6, 2, 0, 0, 0, []), (.invokevirtual 235, 3, 111, 2, 1, [8]), (.ifCond .eq 19, 3, 83, 0, 0, []), (.iload 4, 2, 0, 0, 0, []), (.iconst 1, 1, 0, 0, 0, []), (.aload_n 0, 1, 0, 0, 0, []), (.getfield 16, 3, 5, 1, 1, []), (.getfield 118, 3, 0, 0, 1, []), (.iload_n 3, 1, 0, 0, 0, []), (.iaload, 1, 0, 0, 0, []), (.ishl, 1, 0, 0, 0, []), (.ior, 1, 0, 0, 0, []), (.istore 4, 2, 0, 0, 0, [])]
def b_L_shades_83 : List mRow := [(.iinc 6 1, 3, 0, 0, 0, []), (.goto (-35), 3, 51, 0, 0, [])]
def b_L_shades_89 : List mRow := [(.iload 4, 2, 0, 0, 0, []), (.ireturn, 1, 0, 0, 0, [])]
def m_L_shades : mMeth := ([(0, b_L_shades_0), (10, b_L_shades_10), (36, b_L_shades_36), (39, b_L_shades_39), (51, b_L_shades_51), (83, b_L_shades_83), (89, b_L_shades_89)], [(0, [0, 1, 2]), (10, [0, 1, 2]), (36, []), (39, [0, 3]), (51, [0, 3, 4, 5, 6]), (83, [0, 3, 4, 5, 6]), (89, [4])])
def b_L_span_0 : List mRow := [(.iload_n 1, 1, 0, 0, 0, []), (.invokestatic 177, 3, 89, 1, 1, []), (.ifCond .ne 5, 3, 9, 0, 0, []), (.iconst (-1), 1, 0, 0, 0, []), (.ireturn, 1, 0, 0, 0, [])]
def b_L_span_9 : List mRow := [(.aload_n 0, 1, 0, 0, 0, []), (.invokevirtual 229, 3, 109, 1, 1, [8]), (.ifCond .ne 6, 3, 19, 0, 0, []), (.bipush (-2), 2, 0, 0, 0, []), (.ireturn, 1, 0, 0, 0, [])]
def b_L_span_19 : List mRow := [(.bipush (-4), 2, 0, 0, 0, []), (.istore_n 2, 1, 0, 0, 0, []), (.aload_n 0, 1, 0, 0, 0, []), (.invokevirtual 232, 3, 110, 1, 1, [8]), (.istore_n 3, 1, 0, 0, 0, []), (.iconst 0, 1, 0, 0, 0, []), (.istore 4, 2, 0, 0, 0, [])]
def b_L_span_30 : List mRow := [(.iload 4, 2, 0, 0, 0, []), (.iload_n 3, 1, 0, 0, 0, []), (.if_icmp .ge 56, 3, 89, 0, 0, []), (.aload_n 0, 1, 0, 0, 0, []), (.iload 4, 2, 0, 0, 0, []), (.invokevirtual 235, 3, 111, 2, 1, [8]), (.ifCond .eq 41, 3, 83, 0, 0, []), (.aload_n 0, 1, 0, 0, 0, []), (.getfield 16, 3, 5, 1, 1, []), (.invokevirtual 111, 3, 13, 1, 1, [3]), (.istore 5, 2, 0, 0, 0, []), (.iload_n 2, 1, 0, 0, 0, []), (.bipush (-4), 2, 0, 0, 0, []), (.if_icmp .ne 6, 3, 63, 0, 0, []), (.iload 5, 2, 0, 0, 0, []), (.istore_n 2, 1, 0, 0, 0, [])]
def b_L_span_63 : List mRow := [(.iload_n 1, 1, 0, 0, 0, []), (.ifCond .ne 12, 3, 76, 0, 0, []), (.iload_n 2, 1, 0, 0, 0, []), (.iload 5, 2, 0, 0, 0, []), (.invokestatic 238, 3, 0, 2, 4, []), (.goto 9, 3, 82, 0, 0, [])]
def b_L_span_76 : List mRow := [(.iload_n 2, 1, 0, 0, 0, []), (.iload 5, 2, 0, 0, 0, []), (.invokestatic 243, 3, 0, 2, 5, [])]
def b_L_span_82 : List mRow := [(.istore_n 2, 1, 0, 0, 0, [])]
def b_L_span_83 : List mRow := [(.iinc 4 1, 3, 0, 0, 0, []), (.goto (-56), 3, 30, 0, 0, [])]
def b_L_span_89 : List mRow := [(.iload_n 2, 1, 0, 0, 0, []), (.ireturn, 1, 0, 0, 0, [])]
def m_L_span : mMeth := ([(0, b_L_span_0), (9, b_L_span_9), (19, b_L_span_19), (30, b_L_span_30), (63, b_L_span_63), (76, b_L_span_76), (82, b_L_span_82), (83, b_L_span_83), (89, b_L_span_89)], [(0, [0, 1]), (9, [0, 1]), (19, [0, 1]), (30, [0, 1, 2, 3, 4]), (63, [0, 1, 2, 3, 4, 5]), (76, [0, 1, 2, 3, 4, 5]), (82, [0, 1, 3, 4]), (83, [0, 1, 2, 3, 4]), (89, [2])])
def b_L_ask_0 : List mRow := [(.iload_n 1, 1, 0, 0, 0, []), (.invokestatic 177, 3, 89, 1, 1, []), (.ifCond .ne 5, 3, 9, 0, 0, []), (.iconst (-1), 1, 0, 0, 0, []), (.ireturn, 1, 0, 0, 0, [])]
def b_L_ask_9 : List mRow := [(.aload_n 0, 1, 0, 0, 0, []), (.invokevirtual 229, 3, 109, 1, 1, [8]), (.ifCond .ne 6, 3, 19, 0, 0, []), (.bipush (-2), 2, 0, 0, 0, []), (.ireturn, 1, 0, 0, 0, [])]
def b_L_ask_19 : List mRow := [(.aload_n 0, 1, 0, 0, 0, []), (.invokevirtual 246, 3, 112, 1, 1, [8]), (.istore_n 2, 1, 0, 0, 0, []), (.aload_n 0, 1, 0, 0, 0, []), (.getfield 39, 3, 5, 5, 1, []), (.iload_n 2, 1, 0, 0, 0, []), (.ineg, 1, 0, 0, 0, []), (.invokevirtual 180, 3, 21, 2, 0, [4]), (.iconst 0, 1, 0, 0, 0, []), (.istore_n 3, 1, 0, 0, 0, [])]
def b_L_ask_35 : List mRow := [(.iload_n 3, 1, 0, 0, 0, []), (.aload_n 0, 1, 0, 0, 0, []), (.getfield 12, 3, 5, 0, 1, []), (.getfield 97, 3, 0, 5, 0, []), (.if_icmp .ge 23, 3, 66, 0, 0, []), (.aload_n 0, 1, 0, 0, 0, []), (.getfield 39, 3, 5, 5, 1, []), (.iload_n 3, 1, 0, 0, 0, []), (.aload_n 0, 1, 0, 0, 0, []), (.iload_n 3, 1, 0, 0, 0, []), (.invokevirtual 249, 3, 113, 2, 1, [8]), (.ineg, 1, 0, 0, 0, []), (.invokevirtual 186, 3, 22, 3, 0, [4]), (.iinc 3 1, 3, 0, 0, 0, []), (.goto (-28), 3, 35, 0, 0, [])]
def b_L_ask_66 : List mRow := [(.aload_n 0, 1, 0, 0, 0, []), (.getfield 39, 3, 5, 5, 1, []), (.getfield 195, 3, 1, 0, 0, []), (.bipush (-4), 2, 0, 0, 0, []), (.if_icmp .eq 7, 3, 82, 0, 0, []), (.iload_n 1, 1, 0, 0, 0, []), (.ifCond .ne 11, 3, 90, 0, 0, [])]
def b_L_ask_82 : List mRow := [(.aload_n 0, 1, 0, 0, 0, []), (.getfield 39, 3, 5, 5, 1, []), (.getfield 195, 3, 1, 0, 0, []), (.ireturn, 1, 0, 0, 0, [])]
def b_L_ask_90 : List mRow := [(.aload_n 0, 1, 0, 0, 0, []), (.getfield 39, 3, 5, 5, 1, []), (.getfield 198, 3, 1, 1, 0, []), (.ineg, 1, 0, 0, 0, []), (.ireturn, 1, 0, 0, 0, [])]
def m_L_ask : mMeth := ([(0, b_L_ask_0), (9, b_L_ask_9), (19, b_L_ask_19), (35, b_L_ask_35), (66, b_L_ask_66), (82, b_L_ask_82), (90, b_L_ask_90)], [(0, [0, 1]), (9, [0, 1]), (19, [0, 1]), (35, [0, 1, 3]), (66, [0, 1]), (82, [0]), (90, [0])])
def b_L_drift_0 : List mRow := [(.iload_n 2, 1, 0, 0, 0, []), (.iconst 1, 1, 0, 0, 0, []), (.if_icmp .lt 16, 3, 18, 0, 0, []), (.iload_n 2, 1, 0, 0, 0, []), (.bipush 60, 2, 0, 0, 0, []), (.if_icmp .gt 10, 3, 18, 0, 0, []), (.iload_n 3, 1, 0, 0, 0, []), (.invokestatic 177, 3, 89, 1, 1, []), (.ifCond .ne 5, 3, 20, 0, 0, [])]
def b_L_drift_18 : List mRow := [(.iconst (-1), 1, 0, 0, 0, []), (.ireturn, 1, 0, 0, 0, [])]
def b_L_drift_20 : List mRow := [(.aload_n 0, 1, 0, 0, 0, []), (.getfield 16, 3, 5, 1, 1, []), (.aload_n 0, 1, 0, 0, 0, []), (.getfield 12, 3, 5, 0, 1, []), (.invokevirtual 86, 3, 2, 2, 0, [3]), (.iload_n 1, 1, 0, 0, 0, []), (.istore 4, 2, 0, 0, 0, []), (.iconst 0, 1, 0, 0, 0, []), (.istore 5, 2, 0, 0, 0, [])]
def b_L_drift_37 : List mRow := [(.iload 5, 2, 0, 0, 0, []), (.iload_n 2, 1, 0, 0, 0, []), (.if_icmp .ge 33, 3, 73, 0, 0, []), (.iload 4, 2, 0, 0, 0, []), (.ldc 252, 2, 0, 0, 1103515245, []), (.imul, 1, 0, 0, 0, []), (.sipush 12345, 3, 0, 0, 0, []), (.iadd, 1, 0, 0, 0, []), (.istore 4, 2, 0, 0, 0, []), (.aload_n 0, 1, 0, 0, 0, []), (.iload 4, 2, 0, 0, 0, []), (.bipush 16, 2, 0, 0, 0, []), (.iushr, 1, 0, 0, 0, []), (.sipush 32767, 3, 0, 0, 0, []), (.iand, 1, 0, 0, 0, []), (.invokevirtual 253, 3, 103, 2, 0, [8]), (.iinc 5 1, 3, 0, 0, 0, []), (.goto (-33), 3, 37, 0, 0, [])]
def b_L_drift_73 : List mRow := [(.iload_n 3, 1, 0, 0, 0, []), (.ifCond .ne 13, 3, 87, 0, 0, []), (.aload_n 0, 1, 0, 0, 0, []), (.getfield 16, 3, 5, 1, 1, []), (.invokevirtual 111, 3, 13, 1, 1, [3]), (.goto 11, 3, 95, 0, 0, [])]
def b_L_drift_87 : List mRow := [(.aload_n 0, 1, 0, 0, 0, []), (.getfield 16, 3, 5, 1, 1, []), (.iconst 4, 1, 0, 0, 0, []), (.invokevirtual 100, 3, 15, 2, 1, [3])]
def b_L_drift_95 : List mRow := [(.ireturn, 1, 0, 0, 0, [])]
def m_L_drift : mMeth := ([(0, b_L_drift_0), (18, b_L_drift_18), (20, b_L_drift_20), (37, b_L_drift_37), (73, b_L_drift_73), (87, b_L_drift_87), (95, b_L_drift_95)], [(0, [0, 1, 2, 3]), (18, []), (20, [0, 1, 2, 3]), (37, [0, 2, 3, 4, 5]), (73, [0, 3]), (87, [0]), (95, [])])
def b_L_keep_0 : List mRow := [(.iload_n 1, 1, 0, 0, 0, []), (.ifCond .eq 10, 3, 11, 0, 0, []), (.iload_n 1, 1, 0, 0, 0, []), (.iconst 1, 1, 0, 0, 0, []), (.if_icmp .eq 5, 3, 11, 0, 0, []), (.iconst (-1), 1, 0, 0, 0, []), (.ireturn, 1, 0, 0, 0, [])]
def b_L_keep_11 : List mRow := [(.iload_n 1, 1, 0, 0, 0, []), (.ifCond .ne 10, 3, 22, 0, 0, []), (.aload_n 0, 1, 0, 0, 0, []), (.getfield 22, 3, 5, 2, 1, []), (.goto 7, 3, 26, 0, 0, [])]
def b_L_keep_22 : List mRow := [(.aload_n 0, 1, 0, 0, 0, []), (.getfield 26, 3, 5, 3, 1, [])]
def b_L_keep_26 : List mRow := [(.astore_n 2, 1, 0, 0, 0, []), (.aload_n 2, 1, 0, 0, 0, []), (.getfield 93, 3, 2, 1, 2, []), (.ifCond .eq 7, 3, 38, 0, 0, []), (.iconst 1, 1, 0, 0, 0, []), (.goto 4, 3, 39, 0, 0, [])]
def b_L_keep_38 : List mRow := [(.iconst 0, 1, 0, 0, 0, [])]
def b_L_keep_39 : List mRow := [(.istore_n 3, 1, 0, 0, 0, []), (.aload_n 2, 1, 0, 0, 0, []), (.getfield 256, 3, 2, 0, 1, []), (.aload_n 0, 1, 0, 0, 0, []), (.getfield 12, 3, 5, 0, 1, []), (.invokevirtual 86, 3, 2, 2, 0, [3]), (.aload_n 2, 1, 0, 0, 0, []), (.iconst 1, 1, 0, 0, 0, []), (.putfield 93, 3, 2, 1, 2, []), (.iload_n 3, 1, 0, 0, 0, []), (.ireturn, 1, 0, 0, 0, [])]
def m_L_keep : mMeth := ([(0, b_L_keep_0), (11, b_L_keep_11), (22, b_L_keep_22), (26, b_L_keep_26), (38, b_L_keep_38), (39, b_L_keep_39)], [(0, [0, 1]), (11, [0, 1]), (22, [0]), (26, [0]), (38, [0, 2]), (39, [0, 2])])
def b_L_back_0 : List mRow := [(.iload_n 1, 1, 0, 0, 0, []), (.ifCond .eq 10, 3, 11, 0, 0, []), (.iload_n 1, 1, 0, 0, 0, []), (.iconst 1, 1, 0, 0, 0, []), (.if_icmp .eq 5, 3, 11, 0, 0, []), (.iconst (-1), 1, 0, 0, 0, []), (.ireturn, 1, 0, 0, 0, [])]
def b_L_back_11 : List mRow := [(.iload_n 1, 1, 0, 0, 0, []), (.ifCond .ne 10, 3, 22, 0, 0, []), (.aload_n 0, 1, 0, 0, 0, []), (.getfield 22, 3, 5, 2, 1, []), (.goto 7, 3, 26, 0, 0, [])]
def b_L_back_22 : List mRow := [(.aload_n 0, 1, 0, 0, 0, []), (.getfield 26, 3, 5, 3, 1, [])]
def b_L_back_26 : List mRow := [(.astore_n 2, 1, 0, 0, 0, []), (.aload_n 2, 1, 0, 0, 0, []), (.getfield 93, 3, 2, 1, 2, []), (.ifCond .ne 6, 3, 37, 0, 0, []), (.bipush (-2), 2, 0, 0, 0, []), (.ireturn, 1, 0, 0, 0, [])]
def b_L_back_37 : List mRow := [(.aload_n 0, 1, 0, 0, 0, []), (.getfield 12, 3, 5, 0, 1, []), (.aload_n 2, 1, 0, 0, 0, []), (.getfield 256, 3, 2, 0, 1, []), (.invokevirtual 86, 3, 2, 2, 0, [3]), (.aload_n 0, 1, 0, 0, 0, []), (.getfield 12, 3, 5, 0, 1, []), (.invokevirtual 111, 3, 13, 1, 1, [3]), (.ireturn, 1, 0, 0, 0, [])]
def m_L_back : mMeth := ([(0, b_L_back_0), (11, b_L_back_11), (22, b_L_back_22), (26, b_L_back_26), (37, b_L_back_37)], [(0, [0, 1]), (11, [0, 1]), (22, [0]), (26, [0]), (37, [0, 2])])
def b_L_sheet_0 : List mRow := [(.iload_n 1, 1, 0, 0, 0, []), (.invokestatic 259, 3, 90, 1, 1, []), (.ifCond .eq 16, 3, 20, 0, 0, []), (.iload_n 2, 1, 0, 0, 0, []), (.invokestatic 262, 3, 91, 1, 1, []), (.ifCond .eq 9, 3, 20, 0, 0, []), (.iload_n 3, 1, 0, 0, 0, []), (.bipush 40, 2, 0, 0, 0, []), (.if_icmp .le 5, 3, 22, 0, 0, [])]
def b_L_sheet_20 : List mRow := [(.iconst (-1), 1, 0, 0, 0, []), (.ireturn, 1, 0, 0, 0, [])]
def b_L_sheet_22 : List mRow := [(.iload_n 3, 1, 0, 0, 0, []), (.ifCond .ge 6, 3, 29, 0, 0, []), (.bipush (-14), 2, 0, 0, 0, []), (.ireturn, 1, 0, 0, 0, [])]
def b_L_sheet_29 : List mRow := [(.aload_n 0, 1, 0, 0, 0, []), (.getfield 45, 3, 5, 6, 1, []), (.iload_n 1, 1, 0, 0, 0, []), (.aaload, 1, 0, 0, 0, [])]
def b_L_sheet_35 : List mRow := [(.iload_n 2, 1, 0, 0, 0, []), (.iload_n 3, 1, 0, 0, 0, []), (.invokevirtual 265, 3, 26, 3, 0, [6]), (.iconst 1, 1, 0, 0, 0, []), (.ireturn, 1, 0, 0, 0, [])]
def m_L_sheet : mMeth := ([(0, b_L_sheet_0), (20, b_L_sheet_20), (22, b_L_sheet_22), (29, b_L_sheet_29), (35, b_L_sheet_35)], [(0, [0, 1, 2, 3]), (20, []), (22, [0, 1, 2, 3]), (29, [0, 1, 2, 3]), (35, [2, 3])])
def b_L_lay_0 : List mRow := [(.iload_n 1, 1, 0, 0, 0, []), (.invokestatic 259, 3, 90, 1, 1, []), (.ifCond .ne 5, 3, 9, 0, 0, []), (.iconst (-1), 1, 0, 0, 0, []), (.ireturn, 1, 0, 0, 0, [])]
def b_L_lay_9 : List mRow := [(.aload_n 0, 1, 0, 0, 0, []), (.getfield 45, 3, 5, 6, 1, []), (.iload_n 1, 1, 0, 0, 0, []), (.aaload, 1, 0, 0, 0, [])]
def b_L_lay_15 : List mRow := [(.astore 4, 2, 0, 0, 0, []), (.aload 4, 2, 0, 0, 0, []), (.iload_n 2, 1, 0, 0, 0, []), (.iconst 1, 1, 0, 0, 0, []), (.invokevirtual 268, 3, 29, 3, 1, [6]), (.istore 5, 2, 0, 0, 0, []), (.iload 5, 2, 0, 0, 0, []), (.ifCond .eq 9, 3, 37, 0, 0, []), (.bipush (-10), 2, 0, 0, 0, []), (.iload 5, 2, 0, 0, 0, []), (.isub, 1, 0, 0, 0, []), (.ireturn, 1, 0, 0, 0, [])]
def b_L_lay_37 : List mRow := [(.aload 4, 2, 0, 0, 0, []), (.iload_n 2, 1, 0, 0, 0, []), (.iload_n 3, 1, 0, 0, 0, []), (.invokevirtual 271, 3, 27, 3, 0, [6]), (.iconst 1, 1, 0, 0, 0, []), (.ireturn, 1, 0, 0, 0, [])]
def m_L_lay : mMeth := ([(0, b_L_lay_0), (9, b_L_lay_9), (15, b_L_lay_15), (37, b_L_lay_37)], [(0, [0, 1, 2, 3]), (9, [0, 1, 2, 3]), (15, [2, 3]), (37, [2, 3, 4])])
def b_L_read_0 : List mRow := [(.iload_n 1, 1, 0, 0, 0, []), (.invokestatic 259, 3, 90, 1, 1, []), (.ifCond .eq 22, 3, 26, 0, 0, []), (.iload_n 2, 1, 0, 0, 0, []), (.invokestatic 262, 3, 91, 1, 1, []), (.ifCond .eq 15, 3, 26, 0, 0, []), (.iload 4, 2, 0, 0, 0, []), (.ifCond .lt 10, 3, 26, 0, 0, []), (.iload 4, 2, 0, 0, 0, []), (.bipush 13, 2, 0, 0, 0, []), (.if_icmp .le 5, 3, 28, 0, 0, [])]
def b_L_read_26 : List mRow := [(.iconst (-1), 1, 0, 0, 0, []), (.ireturn, 1, 0, 0, 0, [])]
def b_L_read_28 : List mRow := [(.aload_n 0, 1, 0, 0, 0, []), (.getfield 45, 3, 5, 6, 1, []), (.iload_n 1, 1, 0, 0, 0, []), (.aaload, 1, 0, 0, 0, [])]
def b_L_read_34 : List mRow := [(.astore 5, 2, 0, 0, 0, []), (.aload_n 0, 1, 0, 0, 0, []), (.getfield 16, 3, 5, 1, 1, []), (.aload_n 0, 1, 0, 0, 0, []), (.getfield 12, 3, 5, 0, 1, []), (.invokevirtual 86, 3, 2, 2, 0, [3]), (.iconst 0, 1, 0, 0, 0, []), (.istore 6, 2, 0, 0, 0, []), (.iconst 0, 1, 0, 0, 0, []), (.istore 7, 2, 0, 0, 0, []), (.iconst 0, 1, 0, 0, 0, []), (.istore 8, 2, 0, 0, 0, [])]
def b_L_read_56 : List mRow := [(.iload 8, 2, 0, 0, 0, []), (.iload 4, 2, 0, 0, 0, []), (.if_icmp .ge 58, 3, 118, 0, 0, []), (.iload 7, 2, 0, 0, 0, []), (.ifCond .ne 53, 3, 118, 0, 0, []), (.iload_n 3, 1, 0, 0, 0, []), (.iconst 3, 1, 0, 0, 0, []), (.iload 8, 2, 0, 0, 0, []), (.imul, 1, 0, 0, 0, []), (.iadd, 1, 0, 0, 0, []), (.istore 9, 2, 0, 0, 0, []), (.aload 5, 2, 0, 0, 0, []), (.iload_n 2, 1, 0, 0, 0, []), (.iload 9, 2, 0, 0, 0, []), (.iconst 3, 1, 0, 0, 0, []), (.invokevirtual 274, 3, 28, 4, 1, [6]), (.istore 7, 2, 0, 0, 0, []), (.iload 7, 2, 0, 0, 0, []), (.ifCond .ne 23, 3, 112, 0, 0, []), (.aload_n 0, 1, 0, 0, 0, []), (.aload 5, 2, 0, 0, 0, []), (.iload 9, 2, 0, 0, 0, []), (.invokevirtual 278, 3, 102, 3, 1, [8]), (.ifCond .ne 9, 3, 109, 0, 0, []), (.bipush (-20), 2, 0, 0, 0, []), (.iload 8, 2, 0, 0, 0, []), (.isub, 1, 0, 0, 0, []), (.ireturn, 1, 0, 0, 0, [])]
def b_L_read_109 : List mRow := [(.iinc 6 1, 3, 0, 0, 0, [])]
def b_L_read_112 : List mRow := [(.iinc 8 1, 3, 0, 0, 0, []), (.goto (-59), 3, 56, 0, 0, [])]
def b_L_read_118 : List mRow := [(.aload_n 0, 1, 0, 0, 0, []), (.getfield 12, 3, 5, 0, 1, []), (.aload_n 0, 1, 0, 0, 0, []), (.getfield 16, 3, 5, 1, 1, []), (.invokevirtual 86, 3, 2, 2, 0, [3]), (.aload_n 0, 1, 0, 0, 0, []), (.iload 7, 2, 0, 0, 0, []), (.putfield 282, 3, 5, 16, 0, []), (.iload 6, 2, 0, 0, 0, []), (.ireturn, 1, 0, 0, 0, [])]
def m_L_read : mMeth := ([(0, b_L_read_0), (26, b_L_read_26), (28, b_L_read_28), (34, b_L_read_34), (56, b_L_read_56), (109, b_L_read_109), (112, b_L_read_112), (118, b_L_read_118)], [(0, [0, 1, 2, 3, 4]), (26, []), (28, [0, 1, 2, 3, 4]), (34, [0, 2, 3, 4]), (56, [0, 2, 3, 4, 5, 6, 7, 8]), (109, [0, 2, 3, 4, 5, 6, 7, 8]), (112, [0, 2, 3, 4, 5, 6, 7, 8]), (118, [0, 6, 7])])
def b_L_torn_0 : List mRow := [(.aload_n 0, 1, 0, 0, 0, []), (.getfield 282, 3, 5, 16, 0, []), (.ireturn, 1, 0, 0, 0, [])]
def m_L_torn : mMeth := ([(0, b_L_torn_0)], [(0, [0])])
def b_L_count_0 : List mRow := [(.iload_n 1, 1, 0, 0, 0, []), (.tableswitch 149 0 5 #[39, 44, 76, 84, 111, 141], 39, 150, 0, 0, [40, 45, 77, 85, 112, 142])]
def b_L_count_40 : List mRow := [(.aload_n 0, 1, 0, 0, 0, []), (.getfield 90, 3, 5, 13, 0, []), (.ireturn, 1, 0, 0, 0, [])]
def b_L_count_45 : List mRow := [(.aload_n 0, 1, 0, 0, 0, []), (.getfield 22, 3, 5, 2, 1, []), (.getfield 93, 3, 2, 1, 2, []), (.ifCond .eq 7, 3, 59, 0, 0, []), (.iconst 1, 1, 0, 0, 0, []), (.goto 4, 3, 60, 0, 0, [])]
def b_L_count_59 : List mRow := [(.iconst 0, 1, 0, 0, 0, [])]
def b_L_count_60 : List mRow := [(.aload_n 0, 1, 0, 0, 0, []), (.getfield 26, 3, 5, 3, 1, []), (.getfield 93, 3, 2, 1, 2, []), (.ifCond .eq 7, 3, 74, 0, 0, []), (.iconst 1, 1, 0, 0, 0, []), (.goto 4, 3, 75, 0, 0, [])]
def b_L_count_74 : List mRow := [(.iconst 0, 1, 0, 0, 0, [])]
def b_L_count_75 : List mRow := [(.iadd, 1, 0, 0, 0, []), (.ireturn, 1, 0, 0, 0, [])]
def b_L_count_77 : List mRow := [(.aload_n 0, 1, 0, 0, 0, []), (.getfield 32, 3, 5, 4, 1, []), (.getfield 69, 3, 4, 1, 0, []), (.ireturn, 1, 0, 0, 0, [])]
def b_L_count_85 : List mRow := [(.aload_n 0, 1, 0, 0, 0, []), (.getfield 45, 3, 5, 6, 1, []), (.iconst 0, 1, 0, 0, 0, []), (.aaload, 1, 0, 0, 0, [])]
def b_L_count_91 : List mRow := [(.getfield 285, 3, 3, 2, 0, []), (.ifCond .ge 8, 3, 102, 0, 0, []), (.bipush (-4), 2, 0, 0, 0, []), (.goto 12, 3, 111, 0, 0, [])]
def b_L_count_102 : List mRow := [(.aload_n 0, 1, 0, 0, 0, []), (.getfield 45, 3, 5, 6, 1, []), (.iconst 0, 1, 0, 0, 0, []), (.aaload, 1, 0, 0, 0, [])]
def b_L_count_108 : List mRow := [(.getfield 285, 3, 3, 2, 0, [])]
def b_L_count_111 : List mRow := [(.ireturn, 1, 0, 0, 0, [])]
def b_L_count_112 : List mRow := [(.aload_n 0, 1, 0, 0, 0, []), (.getfield 12, 3, 5, 0, 1, []), (.getfield 129, 3, 0, 1, 1, []), (.iconst 1, 1, 0, 0, 0, []), (.iaload, 1, 0, 0, 0, []), (.aload_n 0, 1, 0, 0, 0, []), (.getfield 12, 3, 5, 0, 1, []), (.getfield 129, 3, 0, 1, 1, []), (.iconst 2, 1, 0, 0, 0, []), (.iaload, 1, 0, 0, 0, []), (.iadd, 1, 0, 0, 0, []), (.aload_n 0, 1, 0, 0, 0, []), (.getfield 12, 3, 5, 0, 1, []), (.getfield 129, 3, 0, 1, 1, []), (.iconst 3, 1, 0, 0, 0, []), (.iaload, 1, 0, 0, 0, []), (.iadd, 1, 0, 0, 0, []), (.ireturn, 1, 0, 0, 0, [])]
def b_L_count_142 : List mRow := [(.aload_n 0, 1, 0, 0, 0, []), (.getfield 12, 3, 5, 0, 1, []), (.invokevirtual 286, 3, 17, 1, 1, [3]), (.ireturn, 1, 0, 0, 0, [])]
def b_L_count_150 : List mRow := [(.iconst (-1), 1, 0, 0, 0, []), (.ireturn, 1, 0, 0, 0, [])]
def m_L_count : mMeth := ([(0, b_L_count_0), (40, b_L_count_40), (45, b_L_count_45), (59, b_L_count_59), (60, b_L_count_60), (74, b_L_count_74), (75, b_L_count_75), (77, b_L_count_77), (85, b_L_count_85), (91, b_L_count_91), (102, b_L_count_102), (108, b_L_count_108), (111, b_L_count_111), (112, b_L_count_112), (142, b_L_count_142), (150, b_L_count_150)], [(0, [0, 1]), (40, [0]), (45, [0]), (59, [0]), (60, [0]), (74, []), (75, []), (77, [0]), (85, [0]), (91, [0]), (102, [0]), (108, []), (111, []), (112, [0]), (142, [0]), (150, [])])
def b_L_isCell_0 : List mRow := [(.iload_n 0, 1, 0, 0, 0, []), (.ifCond .lt 23, 3, 24, 0, 0, []), (.iload_n 0, 1, 0, 0, 0, []), (.bipush 6, 2, 0, 0, 0, []), (.if_icmp .ge 17, 3, 24, 0, 0, []), (.iload_n 1, 1, 0, 0, 0, []), (.ifCond .lt 13, 3, 24, 0, 0, []), (.iload_n 1, 1, 0, 0, 0, []), (.bipush 6, 2, 0, 0, 0, []), (.if_icmp .ge 7, 3, 24, 0, 0, []), (.iconst 1, 1, 0, 0, 0, []), (.goto 4, 3, 25, 0, 0, [])]
def b_L_isCell_24 : List mRow := [(.iconst 0, 1, 0, 0, 0, [])]
def b_L_isCell_25 : List mRow := [(.ireturn, 1, 0, 0, 1, [])]
def m_L_isCell : mMeth := ([(0, b_L_isCell_0), (24, b_L_isCell_24), (25, b_L_isCell_25)], [(0, [0, 1]), (24, []), (25, [])])
def b_L_isColour_0 : List mRow := [(.iload_n 0, 1, 0, 0, 0, []), (.iconst 1, 1, 0, 0, 0, []), (.if_icmp .lt 12, 3, 14, 0, 0, []), (.iload_n 0, 1, 0, 0, 0, []), (.iconst 3, 1, 0, 0, 0, []), (.if_icmp .gt 7, 3, 14, 0, 0, []), (.iconst 1, 1, 0, 0, 0, []), (.goto 4, 3, 15, 0, 0, [])]
def b_L_isColour_14 : List mRow := [(.iconst 0, 1, 0, 0, 0, [])]
def b_L_isColour_15 : List mRow := [(.ireturn, 1, 0, 0, 1, [])]
def m_L_isColour : mMeth := ([(0, b_L_isColour_0), (14, b_L_isColour_14), (15, b_L_isColour_15)], [(0, [0]), (14, []), (15, [])])
def b_L_isPart_0 : List mRow := [(.iload_n 0, 1, 0, 0, 0, []), (.ifCond .eq 8, 3, 9, 0, 0, []), (.iload_n 0, 1, 0, 0, 0, []), (.iconst 1, 1, 0, 0, 0, []), (.if_icmp .ne 7, 3, 13, 0, 0, [])]
def b_L_isPart_9 : List mRow := [(.iconst 1, 1, 0, 0, 0, []), (.goto 4, 3, 14, 0, 0, [])]
def b_L_isPart_13 : List mRow := [(.iconst 0, 1, 0, 0, 0, [])]
def b_L_isPart_14 : List mRow := [(.ireturn, 1, 0, 0, 1, [])]
def m_L_isPart : mMeth := ([(0, b_L_isPart_0), (9, b_L_isPart_9), (13, b_L_isPart_13), (14, b_L_isPart_14)], [(0, [0]), (9, []), (13, []), (14, [])])
def b_L_isSheet_0 : List mRow := [(.iload_n 0, 1, 0, 0, 0, []), (.ifCond .lt 12, 3, 13, 0, 0, []), (.iload_n 0, 1, 0, 0, 0, []), (.iconst 4, 1, 0, 0, 0, []), (.if_icmp .ge 7, 3, 13, 0, 0, []), (.iconst 1, 1, 0, 0, 0, []), (.goto 4, 3, 14, 0, 0, [])]
def b_L_isSheet_13 : List mRow := [(.iconst 0, 1, 0, 0, 0, [])]
def b_L_isSheet_14 : List mRow := [(.ireturn, 1, 0, 0, 1, [])]
def m_L_isSheet : mMeth := ([(0, b_L_isSheet_0), (13, b_L_isSheet_13), (14, b_L_isSheet_14)], [(0, [0]), (13, []), (14, [])])
def b_L_isLane_0 : List mRow := [(.iload_n 0, 1, 0, 0, 0, []), (.ifCond .lt 12, 3, 13, 0, 0, []), (.iload_n 0, 1, 0, 0, 0, []), (.iconst 2, 1, 0, 0, 0, []), (.if_icmp .gt 7, 3, 13, 0, 0, []), (.iconst 1, 1, 0, 0, 0, []), (.goto 4, 3, 14, 0, 0, [])]
def b_L_isLane_13 : List mRow := [(.iconst 0, 1, 0, 0, 0, [])]
def b_L_isLane_14 : List mRow := [(.ireturn, 1, 0, 0, 1, [])]
def m_L_isLane : mMeth := ([(0, b_L_isLane_0), (13, b_L_isLane_13), (14, b_L_isLane_14)], [(0, [0]), (13, []), (14, [])])
def b_L_isLaw_0 : List mRow := [(.iload_n 1, 1, 0, 0, 0, []), (.ifCond .lt 18, 3, 19, 0, 0, []), (.iload_n 1, 1, 0, 0, 0, []), (.aload_n 0, 1, 0, 0, 0, []), (.getfield 12, 3, 5, 0, 1, []), (.getfield 97, 3, 0, 5, 0, []), (.if_icmp .ge 7, 3, 19, 0, 0, []), (.iconst 1, 1, 0, 0, 0, []), (.goto 4, 3, 20, 0, 0, [])]
def b_L_isLaw_19 : List mRow := [(.iconst 0, 1, 0, 0, 0, [])]
def b_L_isLaw_20 : List mRow := [(.ireturn, 1, 0, 0, 1, [])]
def m_L_isLaw : mMeth := ([(0, b_L_isLaw_0), (19, b_L_isLaw_19), (20, b_L_isLaw_20)], [(0, [0, 1]), (19, []), (20, [])])
def b_L_isLawPart_0 : List mRow := [(.iload_n 0, 1, 0, 0, 0, []), (.tableswitch 68 0 3 #[31, 46, 46, 51], 31, 69, 0, 0, [32, 47, 47, 52])]
def b_L_isLawPart_32 : List mRow := [(.iload_n 1, 1, 0, 0, 0, []), (.ifCond .lt 12, 3, 45, 0, 0, []), (.iload_n 1, 1, 0, 0, 0, []), (.iconst 3, 1, 0, 0, 0, []), (.if_icmp .gt 7, 3, 45, 0, 0, []), (.iconst 1, 1, 0, 0, 0, []), (.goto 4, 3, 46, 0, 0, [])]
def b_L_isLawPart_45 : List mRow := [(.iconst 0, 1, 0, 0, 0, [])]
def b_L_isLawPart_46 : List mRow := [(.ireturn, 1, 0, 0, 1, [])]
def b_L_isLawPart_47 : List mRow := [(.iload_n 1, 1, 0, 0, 0, []), (.invokestatic 125, 3, 88, 1, 1, []), (.ireturn, 1, 0, 0, 1, [])]
def b_L_isLawPart_52 : List mRow := [(.iload_n 1, 1, 0, 0, 0, []), (.iconst 1, 1, 0, 0, 0, []), (.if_icmp .lt 13, 3, 67, 0, 0, []), (.iload_n 1, 1, 0, 0, 0, []), (.bipush 9, 2, 0, 0, 0, []), (.if_icmp .gt 7, 3, 67, 0, 0, []), (.iconst 1, 1, 0, 0, 0, []), (.goto 4, 3, 68, 0, 0, [])]
def b_L_isLawPart_67 : List mRow := [(.iconst 0, 1, 0, 0, 0, [])]
def b_L_isLawPart_68 : List mRow := [(.ireturn, 1, 0, 0, 1, [])]
def b_L_isLawPart_69 : List mRow := [(.iconst 0, 1, 0, 0, 0, []), (.ireturn, 1, 0, 0, 1, [])]
def m_L_isLawPart : mMeth := ([(0, b_L_isLawPart_0), (32, b_L_isLawPart_32), (45, b_L_isLawPart_45), (46, b_L_isLawPart_46), (47, b_L_isLawPart_47), (52, b_L_isLawPart_52), (67, b_L_isLawPart_67), (68, b_L_isLawPart_68), (69, b_L_isLawPart_69)], [(0, [0, 1]), (32, [1]), (45, []), (46, []), (47, [1]), (52, [1]), (67, []), (68, []), (69, [])])
def b_L_place_0 : List mRow := [(.iload_n 0, 1, 0, 0, 0, []), (.bipush 6, 2, 0, 0, 0, []), (.imul, 1, 0, 0, 0, []), (.iload_n 1, 1, 0, 0, 0, []), (.iadd, 1, 0, 0, 0, []), (.ireturn, 1, 0, 0, 0, [])]
def m_L_place : mMeth := ([(0, b_L_place_0)], [(0, [0, 1])])
def b_L_stitchCode_0 : List mRow := [(.bipush 100, 2, 0, 0, 0, []), (.iload_n 0, 1, 0, 0, 0, []), (.bipush 6, 2, 0, 0, 0, []), (.idiv, 1, 0, 0, 0, []), (.imul, 1, 0, 0, 0, []), (.bipush 10, 2, 0, 0, 0, []), (.iload_n 0, 1, 0, 0, 0, []), (.bipush 6, 2, 0, 0, 0, []), (.irem, 1, 0, 0, 0, []), (.imul, 1, 0, 0, 0, []), (.iadd, 1, 0, 0, 0, []), (.iload_n 1, 1, 0, 0, 0, []), (.iadd, 1, 0, 0, 0, []), (.ireturn, 1, 0, 0, 0, [])]
def m_L_stitchCode : mMeth := ([(0, b_L_stitchCode_0)], [(0, [0, 1])])
def b_L_followPlan_0 : List mRow := [(.aload_n 0, 1, 0, 0, 0, []), (.getfield 16, 3, 5, 1, 1, []), (.aload_n 0, 1, 0, 0, 0, []), (.getfield 12, 3, 5, 0, 1, []), (.invokevirtual 86, 3, 2, 2, 0, [3]), (.aload_n 0, 1, 0, 0, 0, []), (.getfield 16, 3, 5, 1, 1, []), (.iconst 0, 1, 0, 0, 0, []), (.putfield 171, 3, 0, 7, 0, []), (.aload_n 0, 1, 0, 0, 0, []), (.getfield 16, 3, 5, 1, 1, []), (.bipush (-4), 2, 0, 0, 0, []), (.putfield 174, 3, 0, 8, 0, []), (.iconst 0, 1, 0, 0, 0, []), (.istore_n 2, 1, 0, 0, 0, [])]
def b_L_followPlan_30 : List mRow := [(.iload_n 2, 1, 0, 0, 0, []), (.aload_n 0, 1, 0, 0, 0, []), (.getfield 16, 3, 5, 1, 1, []), (.getfield 104, 3, 0, 6, 0, []), (.if_icmp .ge 22, 3, 60, 0, 0, []), (.iload_n 2, 1, 0, 0, 0, []), (.iload_n 1, 1, 0, 0, 0, []), (.if_icmp .eq 11, 3, 54, 0, 0, []), (.aload_n 0, 1, 0, 0, 0, []), (.getfield 16, 3, 5, 1, 1, []), (.iload_n 2, 1, 0, 0, 0, []), (.invokevirtual 289, 3, 8, 2, 0, [3])]
def b_L_followPlan_54 : List mRow := [(.iinc 2 1, 3, 0, 0, 0, []), (.goto (-27), 3, 30, 0, 0, [])]
def b_L_followPlan_60 : List mRow := [(.return_, 1, 0, 0, 0, [])]
def m_L_followPlan : mMeth := ([(0, b_L_followPlan_0), (30, b_L_followPlan_30), (54, b_L_followPlan_54), (60, b_L_followPlan_60)], [(0, [0, 1]), (30, [0, 1, 2]), (54, [0, 1, 2]), (60, [])])
def b_L_fewestToHold_0 : List mRow := [(.aload_n 0, 1, 0, 0, 0, []), (.getfield 12, 3, 5, 0, 1, []), (.iload_n 1, 1, 0, 0, 0, []), (.invokevirtual 138, 3, 10, 2, 1, [3]), (.ifCond .le 5, 3, 13, 0, 0, []), (.iconst 0, 1, 0, 0, 0, []), (.ireturn, 1, 0, 0, 0, [])]
def b_L_fewestToHold_13 : List mRow := [(.aload_n 0, 1, 0, 0, 0, []), (.getfield 16, 3, 5, 1, 1, []), (.aload_n 0, 1, 0, 0, 0, []), (.getfield 12, 3, 5, 0, 1, []), (.invokevirtual 86, 3, 2, 2, 0, [3]), (.aload_n 0, 1, 0, 0, 0, []), (.iload_n 1, 1, 0, 0, 0, []), (.invokevirtual 292, 3, 98, 2, 1, [8]), (.ifCond .eq 5, 3, 34, 0, 0, []), (.iconst 1, 1, 0, 0, 0, []), (.ireturn, 1, 0, 0, 0, [])]
def b_L_fewestToHold_34 : List mRow := [(.aload_n 0, 1, 0, 0, 0, []), (.iload_n 1, 1, 0, 0, 0, []), (.invokevirtual 295, 3, 99, 2, 1, [8]), (.ifCond .eq 7, 3, 46, 0, 0, []), (.iconst 2, 1, 0, 0, 0, []), (.goto 5, 3, 48, 0, 0, [])]
def b_L_fewestToHold_46 : List mRow := [(.bipush (-4), 2, 0, 0, 0, [])]
def b_L_fewestToHold_48 : List mRow := [(.ireturn, 1, 0, 0, 0, [])]
def m_L_fewestToHold : mMeth := ([(0, b_L_fewestToHold_0), (13, b_L_fewestToHold_13), (34, b_L_fewestToHold_34), (46, b_L_fewestToHold_46), (48, b_L_fewestToHold_48)], [(0, [0, 1]), (13, [0, 1]), (34, [0, 1]), (46, []), (48, [])])
def b_L_holdsByOne_0 : List mRow := [(.iconst 0, 1, 0, 0, 0, []), (.istore_n 2, 1, 0, 0, 0, [])]
def b_L_holdsByOne_2 : List mRow := [(.iload_n 2, 1, 0, 0, 0, []), (.bipush 36, 2, 0, 0, 0, []), (.if_icmp .ge 24, 3, 29, 0, 0, []), (.aload_n 0, 1, 0, 0, 0, []), (.iload_n 1, 1, 0, 0, 0, []), (.iload_n 2, 1, 0, 0, 0, []), (.invokestatic 298, 3, 101, 1, 1, []), (.iconst 0, 1, 0, 0, 0, []), (.invokevirtual 301, 3, 100, 4, 1, [8]), (.ifCond .eq 5, 3, 23, 0, 0, []), (.iconst 1, 1, 0, 0, 0, []), (.ireturn, 1, 0, 0, 1, [])]
def b_L_holdsByOne_23 : List mRow := [(.iinc 2 1, 3, 0, 0, 0, []), (.goto (-24), 3, 2, 0, 0, [])]
def b_L_holdsByOne_29 : List mRow := [(.iconst 0, 1, 0, 0, 0, []), (.ireturn, 1, 0, 0, 1, [])]
def m_L_holdsByOne : mMeth := ([(0, b_L_holdsByOne_0), (2, b_L_holdsByOne_2), (23, b_L_holdsByOne_23), (29, b_L_holdsByOne_29)], [(0, [0, 1]), (2, [0, 1, 2]), (23, [0, 1, 2]), (29, [])])
def b_L_holdsByTwo_0 : List mRow := [(.iconst 0, 1, 0, 0, 0, []), (.istore_n 2, 1, 0, 0, 0, [])]
def b_L_holdsByTwo_2 : List mRow := [(.iload_n 2, 1, 0, 0, 0, []), (.bipush 36, 2, 0, 0, 0, []), (.if_icmp .ge 127, 3, 132, 0, 0, []), (.iload_n 2, 1, 0, 0, 0, []), (.invokestatic 298, 3, 101, 1, 1, []), (.istore_n 3, 1, 0, 0, 0, []), (.iconst 1, 1, 0, 0, 0, []), (.istore 4, 2, 0, 0, 0, [])]
def b_L_holdsByTwo_16 : List mRow := [(.iload 4, 2, 0, 0, 0, []), (.iconst 3, 1, 0, 0, 0, []), (.if_icmp .gt 107, 3, 126, 0, 0, []), (.aload_n 0, 1, 0, 0, 0, []), (.getfield 16, 3, 5, 1, 1, []), (.iload_n 3, 1, 0, 0, 0, []), (.iload 4, 2, 0, 0, 0, []), (.invokevirtual 157, 3, 5, 3, 1, [3]), (.ifCond .eq 88, 3, 120, 0, 0, []), (.aload_n 0, 1, 0, 0, 0, []), (.getfield 16, 3, 5, 1, 1, []), (.iload_n 3, 1, 0, 0, 0, []), (.iload 4, 2, 0, 0, 0, []), (.invokevirtual 160, 3, 6, 3, 0, [3]), (.aload_n 0, 1, 0, 0, 0, []), (.getfield 49, 3, 5, 7, 1, []), (.iconst 0, 1, 0, 0, 0, []), (.iload_n 3, 1, 0, 0, 0, []), (.iload 4, 2, 0, 0, 0, []), (.invokestatic 183, 3, 95, 2, 1, []), (.iastore, 1, 0, 0, 0, []), (.iload_n 3, 1, 0, 0, 0, []), (.bipush 6, 2, 0, 0, 0, []), (.idiv, 1, 0, 0, 0, []), (.iconst 5, 1, 0, 0, 0, []), (.if_icmp .ge 20, 3, 82, 0, 0, []), (.aload_n 0, 1, 0, 0, 0, []), (.iload_n 1, 1, 0, 0, 0, []), (.iload_n 3, 1, 0, 0, 0, []), (.bipush 6, 2, 0, 0, 0, []), (.iadd, 1, 0, 0, 0, []), (.iconst 1, 1, 0, 0, 0, []), (.invokevirtual 301, 3, 100, 4, 1, [8]), (.ifCond .eq 7, 3, 82, 0, 0, []), (.iconst 1, 1, 0, 0, 0, []), (.goto 4, 3, 83, 0, 0, [])]
def b_L_holdsByTwo_82 : List mRow := [(.iconst 0, 1, 0, 0, 0, [])]
def b_L_holdsByTwo_83 : List mRow := [(.istore 5, 2, 0, 0, 0, []), (.iload 5, 2, 0, 0, 0, []), (.ifCond .ne 23, 3, 110, 0, 0, []), (.iload_n 3, 1, 0, 0, 0, []), (.bipush 6, 2, 0, 0, 0, []), (.irem, 1, 0, 0, 0, []), (.iconst 5, 1, 0, 0, 0, []), (.if_icmp .ge 17, 3, 112, 0, 0, []), (.aload_n 0, 1, 0, 0, 0, []), (.iload_n 1, 1, 0, 0, 0, []), (.iload_n 3, 1, 0, 0, 0, []), (.iconst 1, 1, 0, 0, 0, []), (.iadd, 1, 0, 0, 0, []), (.iconst 1, 1, 0, 0, 0, []), (.invokevirtual 301, 3, 100, 4, 1, [8]), (.ifCond .eq 5, 3, 112, 0, 0, [])]
def b_L_holdsByTwo_110 : List mRow := [(.iconst 1, 1, 0, 0, 0, []), (.ireturn, 1, 0, 0, 1, [])]
def b_L_holdsByTwo_112 : List mRow := [(.aload_n 0, 1, 0, 0, 0, []), (.getfield 16, 3, 5, 1, 1, []), (.iload_n 3, 1, 0, 0, 0, []), (.invokevirtual 305, 3, 7, 2, 0, [3])]
def b_L_holdsByTwo_120 : List mRow := [(.iinc 4 1, 3, 0, 0, 0, []), (.goto (-107), 3, 16, 0, 0, [])]
def b_L_holdsByTwo_126 : List mRow := [(.iinc 2 1, 3, 0, 0, 0, []), (.goto (-127), 3, 2, 0, 0, [])]
def b_L_holdsByTwo_132 : List mRow := [(.iconst 0, 1, 0, 0, 0, []), (.ireturn, 1, 0, 0, 1, [])]
def m_L_holdsByTwo : mMeth := ([(0, b_L_holdsByTwo_0), (2, b_L_holdsByTwo_2), (16, b_L_holdsByTwo_16), (82, b_L_holdsByTwo_82), (83, b_L_holdsByTwo_83), (110, b_L_holdsByTwo_110), (112, b_L_holdsByTwo_112), (120, b_L_holdsByTwo_120), (126, b_L_holdsByTwo_126), (132, b_L_holdsByTwo_132)], [(0, [0, 1]), (2, [0, 1, 2]), (16, [0, 1, 2, 3, 4]), (82, [0, 1, 2, 3, 4]), (83, [0, 1, 2, 3, 4]), (110, []), (112, [0, 1, 2, 3, 4]), (120, [0, 1, 2, 3, 4]), (126, [0, 1, 2]), (132, [])])
def b_L_holdsByStitchAt_0 : List mRow := [(.iconst 1, 1, 0, 0, 0, []), (.istore 4, 2, 0, 0, 0, [])]
def b_L_holdsByStitchAt_3 : List mRow := [(.iload 4, 2, 0, 0, 0, []), (.iconst 3, 1, 0, 0, 0, []), (.if_icmp .gt 78, 3, 84, 0, 0, []), (.aload_n 0, 1, 0, 0, 0, []), (.getfield 16, 3, 5, 1, 1, []), (.iload_n 2, 1, 0, 0, 0, []), (.iload 4, 2, 0, 0, 0, []), (.invokevirtual 157, 3, 5, 3, 1, [3]), (.ifCond .eq 59, 3, 78, 0, 0, []), (.aload_n 0, 1, 0, 0, 0, []), (.getfield 16, 3, 5, 1, 1, []), (.iload_n 2, 1, 0, 0, 0, []), (.iload 4, 2, 0, 0, 0, []), (.invokevirtual 164, 3, 3, 3, 0, [3]), (.aload_n 0, 1, 0, 0, 0, []), (.getfield 16, 3, 5, 1, 1, []), (.iload_n 1, 1, 0, 0, 0, []), (.invokevirtual 138, 3, 10, 2, 1, [3]), (.ifCond .le 7, 3, 47, 0, 0, []), (.iconst 1, 1, 0, 0, 0, []), (.goto 4, 3, 48, 0, 0, [])]
def b_L_holdsByStitchAt_47 : List mRow := [(.iconst 0, 1, 0, 0, 0, [])]
def b_L_holdsByStitchAt_48 : List mRow := [(.istore 5, 2, 0, 0, 0, []), (.aload_n 0, 1, 0, 0, 0, []), (.getfield 16, 3, 5, 1, 1, []), (.iload_n 2, 1, 0, 0, 0, []), (.iconst 0, 1, 0, 0, 0, []), (.invokevirtual 164, 3, 3, 3, 0, [3]), (.iload 5, 2, 0, 0, 0, []), (.ifCond .eq 17, 3, 78, 0, 0, []), (.aload_n 0, 1, 0, 0, 0, []), (.getfield 49, 3, 5, 7, 1, []), (.iload_n 3, 1, 0, 0, 0, []), (.iload_n 2, 1, 0, 0, 0, []), (.iload 4, 2, 0, 0, 0, []), (.invokestatic 183, 3, 95, 2, 1, []), (.iastore, 1, 0, 0, 0, []), (.iconst 1, 1, 0, 0, 0, []), (.ireturn, 1, 0, 0, 1, [])]
def b_L_holdsByStitchAt_78 : List mRow := [(.iinc 4 1, 3, 0, 0, 0, []), (.goto (-78), 3, 3, 0, 0, [])]
def b_L_holdsByStitchAt_84 : List mRow := [(.iconst 0, 1, 0, 0, 0, []), (.ireturn, 1, 0, 0, 1, [])]
def m_L_holdsByStitchAt : mMeth := ([(0, b_L_holdsByStitchAt_0), (3, b_L_holdsByStitchAt_3), (47, b_L_holdsByStitchAt_47), (48, b_L_holdsByStitchAt_48), (78, b_L_holdsByStitchAt_78), (84, b_L_holdsByStitchAt_84)], [(0, [0, 1, 2, 3]), (3, [0, 1, 2, 3, 4]), (47, [0, 1, 2, 3, 4]), (48, [0, 1, 2, 3, 4]), (78, [0, 1, 2, 3, 4]), (84, [])])
def b_L_placeByRows_0 : List mRow := [(.iload_n 0, 1, 0, 0, 0, []), (.bipush 6, 2, 0, 0, 0, []), (.irem, 1, 0, 0, 0, []), (.iload_n 0, 1, 0, 0, 0, []), (.bipush 6, 2, 0, 0, 0, []), (.idiv, 1, 0, 0, 0, []), (.invokestatic 121, 3, 94, 2, 1, []), (.ireturn, 1, 0, 0, 0, [])]
def m_L_placeByRows : mMeth := ([(0, b_L_placeByRows_0)], [(0, [0])])
def b_L_workFrom_0 : List mRow := [(.aload_n 1, 1, 0, 0, 0, []), (.getfield 308, 3, 3, 0, 1, []), (.iload_n 2, 1, 0, 0, 0, []), (.iaload, 1, 0, 0, 0, []), (.istore_n 3, 1, 0, 0, 0, []), (.aload_n 1, 1, 0, 0, 0, []), (.getfield 308, 3, 3, 0, 1, []), (.iload_n 2, 1, 0, 0, 0, []), (.iconst 1, 1, 0, 0, 0, []), (.iadd, 1, 0, 0, 0, []), (.iaload, 1, 0, 0, 0, []), (.istore 4, 2, 0, 0, 0, []), (.aload_n 1, 1, 0, 0, 0, []), (.getfield 308, 3, 3, 0, 1, []), (.iload_n 2, 1, 0, 0, 0, []), (.iconst 2, 1, 0, 0, 0, []), (.iadd, 1, 0, 0, 0, []), (.iaload, 1, 0, 0, 0, []), (.istore 5, 2, 0, 0, 0, []), (.iload_n 3, 1, 0, 0, 0, []), (.iload 4, 2, 0, 0, 0, []), (.invokestatic 114, 3, 87, 2, 1, []), (.ifCond .eq 29, 3, 62, 0, 0, []), (.iload 5, 2, 0, 0, 0, []), (.invokestatic 125, 3, 88, 1, 1, []), (.ifCond .eq 21, 3, 62, 0, 0, []), (.aload_n 0, 1, 0, 0, 0, []), (.getfield 16, 3, 5, 1, 1, []), (.iload_n 3, 1, 0, 0, 0, []), (.iload 4, 2, 0, 0, 0, []), (.invokestatic 121, 3, 94, 2, 1, []), (.iload 5, 2, 0, 0, 0, []), (.invokevirtual 157, 3, 5, 3, 1, [3]), (.ifCond .ne 5, 3, 64, 0, 0, [])]
def b_L_workFrom_62 : List mRow := [(.iconst 0, 1, 0, 0, 0, []), (.ireturn, 1, 0, 0, 1, [])]
def b_L_workFrom_64 : List mRow := [(.aload_n 0, 1, 0, 0, 0, []), (.getfield 16, 3, 5, 1, 1, []), (.iload_n 3, 1, 0, 0, 0, []), (.iload 4, 2, 0, 0, 0, []), (.invokestatic 121, 3, 94, 2, 1, []), (.iload 5, 2, 0, 0, 0, []), (.invokevirtual 160, 3, 6, 3, 0, [3]), (.iconst 1, 1, 0, 0, 0, []), (.ireturn, 1, 0, 0, 1, [])]
def m_L_workFrom : mMeth := ([(0, b_L_workFrom_0), (62, b_L_workFrom_62), (64, b_L_workFrom_64)], [(0, [0, 1, 2]), (62, []), (64, [0, 3, 4, 5])])
def b_L_driftOnce_0 : List mRow := [(.iload_n 1, 1, 0, 0, 0, []), (.bipush 36, 2, 0, 0, 0, []), (.irem, 1, 0, 0, 0, []), (.istore_n 2, 1, 0, 0, 0, []), (.aload_n 0, 1, 0, 0, 0, []), (.getfield 16, 3, 5, 1, 1, []), (.getfield 118, 3, 0, 0, 1, []), (.iload_n 2, 1, 0, 0, 0, []), (.iaload, 1, 0, 0, 0, []), (.istore_n 3, 1, 0, 0, 0, []), (.iload_n 3, 1, 0, 0, 0, []), (.iconst 4, 1, 0, 0, 0, []), (.if_icmp .ne 15, 3, 32, 0, 0, []), (.aload_n 0, 1, 0, 0, 0, []), (.getfield 16, 3, 5, 1, 1, []), (.iload_n 2, 1, 0, 0, 0, []), (.iconst 0, 1, 0, 0, 0, []), (.invokevirtual 164, 3, 3, 3, 0, [3]), (.goto 52, 3, 81, 0, 0, [])]
def b_L_driftOnce_32 : List mRow := [(.iload_n 3, 1, 0, 0, 0, []), (.ifCond .eq 15, 3, 48, 0, 0, []), (.aload_n 0, 1, 0, 0, 0, []), (.getfield 16, 3, 5, 1, 1, []), (.iload_n 2, 1, 0, 0, 0, []), (.iconst 4, 1, 0, 0, 0, []), (.invokevirtual 164, 3, 3, 3, 0, [3]), (.goto 36, 3, 81, 0, 0, [])]
def b_L_driftOnce_48 : List mRow := [(.iconst 1, 1, 0, 0, 0, []), (.iload_n 1, 1, 0, 0, 0, []), (.bipush 64, 2, 0, 0, 0, []), (.idiv, 1, 0, 0, 0, []), (.iconst 3, 1, 0, 0, 0, []), (.irem, 1, 0, 0, 0, []), (.iadd, 1, 0, 0, 0, []), (.istore 4, 2, 0, 0, 0, []), (.aload_n 0, 1, 0, 0, 0, []), (.getfield 16, 3, 5, 1, 1, []), (.iload_n 2, 1, 0, 0, 0, []), (.iload 4, 2, 0, 0, 0, []), (.invokevirtual 157, 3, 5, 3, 1, [3]), (.ifCond .eq 13, 3, 81, 0, 0, []), (.aload_n 0, 1, 0, 0, 0, []), (.getfield 16, 3, 5, 1, 1, []), (.iload_n 2, 1, 0, 0, 0, []), (.iload 4, 2, 0, 0, 0, []), (.invokevirtual 160, 3, 6, 3, 0, [3])]
def b_L_driftOnce_81 : List mRow := [(.return_, 1, 0, 0, 0, [])]
def m_L_driftOnce : mMeth := ([(0, b_L_driftOnce_0), (32, b_L_driftOnce_32), (48, b_L_driftOnce_48), (81, b_L_driftOnce_81)], [(0, [0, 1]), (32, [0, 1, 2, 3]), (48, [0, 1, 2]), (81, [])])
def b_L_gatherRunners_0 : List mRow := [(.aload_n 0, 1, 0, 0, 0, []), (.getfield 12, 3, 5, 0, 1, []), (.invokevirtual 286, 3, 17, 1, 1, [3]), (.bipush 8, 2, 0, 0, 0, []), (.if_icmp .le 5, 3, 14, 0, 0, []), (.iconst 0, 1, 0, 0, 0, []), (.ireturn, 1, 0, 0, 1, [])]
def b_L_gatherRunners_14 : List mRow := [(.aload_n 0, 1, 0, 0, 0, []), (.getfield 16, 3, 5, 1, 1, []), (.aload_n 0, 1, 0, 0, 0, []), (.getfield 12, 3, 5, 0, 1, []), (.invokevirtual 86, 3, 2, 2, 0, [3]), (.aload_n 0, 1, 0, 0, 0, []), (.iconst 0, 1, 0, 0, 0, []), (.putfield 215, 3, 5, 15, 0, []), (.iconst 0, 1, 0, 0, 0, []), (.istore_n 1, 1, 0, 0, 0, [])]
def b_L_gatherRunners_32 : List mRow := [(.iload_n 1, 1, 0, 0, 0, []), (.bipush 36, 2, 0, 0, 0, []), (.if_icmp .ge 49, 3, 84, 0, 0, []), (.aload_n 0, 1, 0, 0, 0, []), (.getfield 12, 3, 5, 0, 1, []), (.iload_n 1, 1, 0, 0, 0, []), (.invokevirtual 311, 3, 16, 2, 1, [3]), (.ifCond .eq 32, 3, 78, 0, 0, []), (.aload_n 0, 1, 0, 0, 0, []), (.getfield 215, 3, 5, 15, 0, []), (.bipush 8, 2, 0, 0, 0, []), (.if_icmp .ge 23, 3, 78, 0, 0, []), (.aload_n 0, 1, 0, 0, 0, []), (.getfield 65, 3, 5, 12, 1, []), (.aload_n 0, 1, 0, 0, 0, []), (.getfield 215, 3, 5, 15, 0, []), (.iload_n 1, 1, 0, 0, 0, []), (.iastore, 1, 0, 0, 0, []), (.aload_n 0, 1, 0, 0, 0, []), (.dup, 1, 0, 0, 0, []), (.getfield 215, 3, 5, 15, 0, []), (.iconst 1, 1, 0, 0, 0, []), (.iadd, 1, 0, 0, 0, []), (.putfield 215, 3, 5, 15, 0, [])]
def b_L_gatherRunners_78 : List mRow := [(.iinc 1 1, 3, 0, 0, 0, []), (.goto (-49), 3, 32, 0, 0, [])]
def b_L_gatherRunners_84 : List mRow := [(.iconst 1, 1, 0, 0, 0, []), (.ireturn, 1, 0, 0, 1, [])]
def m_L_gatherRunners : mMeth := ([(0, b_L_gatherRunners_0), (14, b_L_gatherRunners_14), (32, b_L_gatherRunners_32), (78, b_L_gatherRunners_78), (84, b_L_gatherRunners_84)], [(0, [0]), (14, [0]), (32, [0, 1]), (78, [0, 1]), (84, [])])
def b_L_letRun_0 : List mRow := [(.iconst 0, 1, 0, 0, 0, []), (.istore_n 2, 1, 0, 0, 0, [])]
def b_L_letRun_2 : List mRow := [(.iload_n 2, 1, 0, 0, 0, []), (.aload_n 0, 1, 0, 0, 0, []), (.getfield 215, 3, 5, 15, 0, []), (.if_icmp .ge 39, 3, 46, 0, 0, []), (.aload_n 0, 1, 0, 0, 0, []), (.getfield 16, 3, 5, 1, 1, []), (.aload_n 0, 1, 0, 0, 0, []), (.getfield 65, 3, 5, 12, 1, []), (.iload_n 2, 1, 0, 0, 0, []), (.iaload, 1, 0, 0, 0, []), (.bipush 6, 2, 0, 0, 0, []), (.iadd, 1, 0, 0, 0, []), (.iload_n 1, 1, 0, 0, 0, []), (.iload_n 2, 1, 0, 0, 0, []), (.ishr, 1, 0, 0, 0, []), (.iconst 1, 1, 0, 0, 0, []), (.iand, 1, 0, 0, 0, []), (.iconst 1, 1, 0, 0, 0, []), (.if_icmp .ne 7, 3, 36, 0, 0, []), (.iconst 1, 1, 0, 0, 0, []), (.goto 4, 3, 37, 0, 0, [])]
def b_L_letRun_36 : List mRow := [(.iconst 0, 1, 0, 0, 0, [])]
def b_L_letRun_37 : List mRow := [(.invokevirtual 164, 3, 3, 3, 0, [3]), (.iinc 2 1, 3, 0, 0, 0, []), (.goto (-41), 3, 2, 0, 0, [])]
def b_L_letRun_46 : List mRow := [(.return_, 1, 0, 0, 0, [])]
def m_L_letRun : mMeth := ([(0, b_L_letRun_0), (2, b_L_letRun_2), (36, b_L_letRun_36), (37, b_L_letRun_37), (46, b_L_letRun_46)], [(0, [0, 1]), (2, [0, 1, 2]), (36, [0, 1, 2]), (37, [0, 1, 2]), (46, [])])
def b_L_weight_0 : List mRow := [(.lconst 1, 1, 0, 0, 0, []), (.lstore_n 3, 1, 0, 0, 0, []), (.iconst 0, 1, 0, 0, 0, []), (.istore 5, 2, 0, 0, 0, [])]
def b_L_weight_5 : List mRow := [(.iload 5, 2, 0, 0, 0, []), (.aload_n 0, 1, 0, 0, 0, []), (.getfield 215, 3, 5, 15, 0, []), (.if_icmp .ge 32, 3, 43, 0, 0, []), (.lload_n 3, 1, 0, 0, 0, []), (.iload_n 1, 1, 0, 0, 0, []), (.iload 5, 2, 0, 0, 0, []), (.ishr, 1, 0, 0, 0, []), (.iconst 1, 1, 0, 0, 0, []), (.iand, 1, 0, 0, 0, []), (.iconst 1, 1, 0, 0, 0, []), (.if_icmp .ne 8, 3, 30, 0, 0, []), (.iload_n 2, 1, 0, 0, 0, []), (.i2l, 1, 0, 0, 0, []), (.goto 8, 3, 35, 0, 0, [])]
def b_L_weight_30 : List mRow := [(.bipush 10, 2, 0, 0, 0, []), (.iload_n 2, 1, 0, 0, 0, []), (.isub, 1, 0, 0, 0, []), (.i2l, 1, 0, 0, 0, [])]
def b_L_weight_35 : List mRow := [(.lmul, 1, 0, 0, 0, []), (.lstore_n 3, 1, 0, 0, 0, []), (.iinc 5 1, 3, 0, 0, 0, []), (.goto (-35), 3, 5, 0, 0, [])]
def b_L_weight_43 : List mRow := [(.lload_n 3, 1, 0, 0, 0, []), (.lreturn, 1, 0, 0, 0, [])]
def m_L_weight : mMeth := ([(0, b_L_weight_0), (5, b_L_weight_5), (30, b_L_weight_30), (35, b_L_weight_35), (43, b_L_weight_43)], [(0, [0, 1, 2]), (5, [0, 1, 2, 3, 5]), (30, [0, 1, 2, 5]), (35, [0, 1, 2, 5]), (43, [3])])
def b_L_fractionPart_0 : List mRow := [(.lconst 1, 1, 0, 0, 0, []), (.lstore 4, 2, 0, 0, 0, []), (.iconst 0, 1, 0, 0, 0, []), (.istore 6, 2, 0, 0, 0, [])]
def b_L_fractionPart_6 : List mRow := [(.iload 6, 2, 0, 0, 0, []), (.aload_n 0, 1, 0, 0, 0, []), (.getfield 215, 3, 5, 15, 0, []), (.if_icmp .ge 17, 3, 29, 0, 0, []), (.lload 4, 2, 0, 0, 0, []), (.ldc2_w 314, 3, 0, 0, 10, []), (.lmul, 1, 0, 0, 0, []), (.lstore 4, 2, 0, 0, 0, []), (.iinc 6 1, 3, 0, 0, 0, []), (.goto (-20), 3, 6, 0, 0, [])]
def b_L_fractionPart_29 : List mRow := [(.lload_n 1, 1, 0, 0, 0, []), (.lload 4, 2, 0, 0, 0, []), (.invokestatic 316, 3, 108, 2, 2, []), (.lstore 6, 2, 0, 0, 0, []), (.iload_n 3, 1, 0, 0, 0, []), (.ifCond .ne 7, 3, 45, 0, 0, []), (.lload_n 1, 1, 0, 0, 0, []), (.goto 5, 3, 47, 0, 0, [])]
def b_L_fractionPart_45 : List mRow := [(.lload 4, 2, 0, 0, 0, [])]
def b_L_fractionPart_47 : List mRow := [(.lload 6, 2, 0, 0, 0, []), (.ldiv, 1, 0, 0, 0, []), (.lreturn, 1, 0, 0, 0, [])]
def m_L_fractionPart : mMeth := ([(0, b_L_fractionPart_0), (6, b_L_fractionPart_6), (29, b_L_fractionPart_29), (45, b_L_fractionPart_45), (47, b_L_fractionPart_47)], [(0, [0, 1, 3]), (6, [0, 1, 3, 4, 6]), (29, [1, 3, 4]), (45, [4, 6]), (47, [6])])
def b_L_greatestDivisor_0 : List mRow := [(.lload_n 2, 1, 0, 0, 0, []), (.lstore 4, 2, 0, 0, 0, []), (.lload_n 0, 1, 0, 0, 0, []), (.lstore 6, 2, 0, 0, 0, []), (.iconst 0, 1, 0, 0, 0, []), (.istore 8, 2, 0, 0, 0, [])]
def b_L_greatestDivisor_9 : List mRow := [(.iload 8, 2, 0, 0, 0, []), (.sipush 200, 3, 0, 0, 0, []), (.if_icmp .ge 31, 3, 45, 0, 0, []), (.lload 6, 2, 0, 0, 0, []), (.lconst 0, 1, 0, 0, 0, []), (.lcmp, 1, 0, 0, 0, []), (.ifCond .le 24, 3, 45, 0, 0, []), (.lload 4, 2, 0, 0, 0, []), (.lload 6, 2, 0, 0, 0, []), (.lrem, 1, 0, 0, 0, []), (.lstore 9, 2, 0, 0, 0, []), (.lload 6, 2, 0, 0, 0, []), (.lstore 4, 2, 0, 0, 0, []), (.lload 9, 2, 0, 0, 0, []), (.lstore 6, 2, 0, 0, 0, []), (.iinc 8 1, 3, 0, 0, 0, []), (.goto (-33), 3, 9, 0, 0, [])]
def b_L_greatestDivisor_45 : List mRow := [(.lload 4, 2, 0, 0, 0, []), (.lconst 1, 1, 0, 0, 0, []), (.invokestatic 320, 3, 0, 2, 6, []), (.lreturn, 1, 0, 0, 0, [])]
def m_L_greatestDivisor : mMeth := ([(0, b_L_greatestDivisor_0), (9, b_L_greatestDivisor_9), (45, b_L_greatestDivisor_45)], [(0, [0, 2]), (9, [4, 6, 8]), (45, [4])])
def b_L_gatherHoles_0 : List mRow := [(.aload_n 0, 1, 0, 0, 0, []), (.getfield 12, 3, 5, 0, 1, []), (.iconst 4, 1, 0, 0, 0, []), (.invokevirtual 100, 3, 15, 2, 1, [3]), (.iconst 4, 1, 0, 0, 0, []), (.if_icmp .le 5, 3, 14, 0, 0, []), (.iconst 0, 1, 0, 0, 0, []), (.ireturn, 1, 0, 0, 1, [])]
def b_L_gatherHoles_14 : List mRow := [(.aload_n 0, 1, 0, 0, 0, []), (.getfield 16, 3, 5, 1, 1, []), (.aload_n 0, 1, 0, 0, 0, []), (.getfield 12, 3, 5, 0, 1, []), (.invokevirtual 86, 3, 2, 2, 0, [3]), (.aload_n 0, 1, 0, 0, 0, []), (.iconst 0, 1, 0, 0, 0, []), (.putfield 322, 3, 5, 14, 0, []), (.iconst 0, 1, 0, 0, 0, []), (.istore_n 1, 1, 0, 0, 0, [])]
def b_L_gatherHoles_32 : List mRow := [(.iload_n 1, 1, 0, 0, 0, []), (.bipush 36, 2, 0, 0, 0, []), (.if_icmp .ge 50, 3, 85, 0, 0, []), (.aload_n 0, 1, 0, 0, 0, []), (.getfield 12, 3, 5, 0, 1, []), (.getfield 118, 3, 0, 0, 1, []), (.iload_n 1, 1, 0, 0, 0, []), (.iaload, 1, 0, 0, 0, []), (.iconst 4, 1, 0, 0, 0, []), (.if_icmp .ne 31, 3, 79, 0, 0, []), (.aload_n 0, 1, 0, 0, 0, []), (.getfield 322, 3, 5, 14, 0, []), (.iconst 4, 1, 0, 0, 0, []), (.if_icmp .ge 23, 3, 79, 0, 0, []), (.aload_n 0, 1, 0, 0, 0, []), (.getfield 59, 3, 5, 10, 1, []), (.aload_n 0, 1, 0, 0, 0, []), (.getfield 322, 3, 5, 14, 0, []), (.iload_n 1, 1, 0, 0, 0, []), (.iastore, 1, 0, 0, 0, []), (.aload_n 0, 1, 0, 0, 0, []), (.dup, 1, 0, 0, 0, []), (.getfield 322, 3, 5, 14, 0, []), (.iconst 1, 1, 0, 0, 0, []), (.iadd, 1, 0, 0, 0, []), (.putfield 322, 3, 5, 14, 0, [])]
def b_L_gatherHoles_79 : List mRow := [(.iinc 1 1, 3, 0, 0, 0, []), (.goto (-50), 3, 32, 0, 0, [])]
def b_L_gatherHoles_85 : List mRow := [(.iconst 1, 1, 0, 0, 0, []), (.ireturn, 1, 0, 0, 1, [])]
def m_L_gatherHoles : mMeth := ([(0, b_L_gatherHoles_0), (14, b_L_gatherHoles_14), (32, b_L_gatherHoles_32), (79, b_L_gatherHoles_79), (85, b_L_gatherHoles_85)], [(0, [0]), (14, [0]), (32, [0, 1]), (79, [0, 1]), (85, [])])
def b_L_fillCount_0 : List mRow := [(.iconst 1, 1, 0, 0, 0, []), (.iconst 2, 1, 0, 0, 0, []), (.aload_n 0, 1, 0, 0, 0, []), (.getfield 322, 3, 5, 14, 0, []), (.imul, 1, 0, 0, 0, []), (.ishl, 1, 0, 0, 0, []), (.ireturn, 1, 0, 0, 0, [])]
def m_L_fillCount : mMeth := ([(0, b_L_fillCount_0)], [(0, [0])])
def b_L_fits_0 : List mRow := [(.iconst 0, 1, 0, 0, 0, []), (.istore_n 2, 1, 0, 0, 0, [])]
def b_L_fits_2 : List mRow := [(.iload_n 2, 1, 0, 0, 0, []), (.aload_n 0, 1, 0, 0, 0, []), (.getfield 322, 3, 5, 14, 0, []), (.if_icmp .ge 29, 3, 36, 0, 0, []), (.aload_n 0, 1, 0, 0, 0, []), (.getfield 16, 3, 5, 1, 1, []), (.aload_n 0, 1, 0, 0, 0, []), (.getfield 59, 3, 5, 10, 1, []), (.iload_n 2, 1, 0, 0, 0, []), (.iaload, 1, 0, 0, 0, []), (.iload_n 1, 1, 0, 0, 0, []), (.iconst 2, 1, 0, 0, 0, []), (.iload_n 2, 1, 0, 0, 0, []), (.imul, 1, 0, 0, 0, []), (.ishr, 1, 0, 0, 0, []), (.iconst 3, 1, 0, 0, 0, []), (.iand, 1, 0, 0, 0, []), (.invokevirtual 164, 3, 3, 3, 0, [3]), (.iinc 2 1, 3, 0, 0, 0, []), (.goto (-31), 3, 2, 0, 0, [])]
def b_L_fits_36 : List mRow := [(.iconst 0, 1, 0, 0, 0, []), (.istore_n 2, 1, 0, 0, 0, [])]
def b_L_fits_38 : List mRow := [(.iload_n 2, 1, 0, 0, 0, []), (.aload_n 0, 1, 0, 0, 0, []), (.getfield 90, 3, 5, 13, 0, []), (.if_icmp .ge 49, 3, 92, 0, 0, []), (.aload_n 0, 1, 0, 0, 0, []), (.getfield 53, 3, 5, 8, 1, []), (.iload_n 2, 1, 0, 0, 0, []), (.iaload, 1, 0, 0, 0, []), (.aload_n 0, 1, 0, 0, 0, []), (.getfield 16, 3, 5, 1, 1, []), (.getfield 97, 3, 0, 5, 0, []), (.if_icmp .ge 25, 3, 84, 0, 0, []), (.aload_n 0, 1, 0, 0, 0, []), (.getfield 16, 3, 5, 1, 1, []), (.aload_n 0, 1, 0, 0, 0, []), (.getfield 53, 3, 5, 8, 1, []), (.iload_n 2, 1, 0, 0, 0, []), (.iaload, 1, 0, 0, 0, []), (.invokevirtual 138, 3, 10, 2, 1, [3]), (.aload_n 0, 1, 0, 0, 0, []), (.getfield 56, 3, 5, 9, 1, []), (.iload_n 2, 1, 0, 0, 0, []), (.iaload, 1, 0, 0, 0, []), (.if_icmp .eq 5, 3, 86, 0, 0, [])]
def b_L_fits_84 : List mRow := [(.iconst 0, 1, 0, 0, 0, []), (.ireturn, 1, 0, 0, 1, [])]
def b_L_fits_86 : List mRow := [(.iinc 2 1, 3, 0, 0, 0, []), (.goto (-51), 3, 38, 0, 0, [])]
def b_L_fits_92 : List mRow := [(.iconst 1, 1, 0, 0, 0, []), (.ireturn, 1, 0, 0, 1, [])]
def m_L_fits : mMeth := ([(0, b_L_fits_0), (2, b_L_fits_2), (36, b_L_fits_36), (38, b_L_fits_38), (84, b_L_fits_84), (86, b_L_fits_86), (92, b_L_fits_92)], [(0, [0, 1]), (2, [0, 1, 2]), (36, [0]), (38, [0, 2]), (84, []), (86, [0, 2]), (92, [])])
def b_L_groupByReads_0 : List mRow := [(.aload_n 0, 1, 0, 0, 0, []), (.getfield 62, 3, 5, 11, 1, []), (.iconst 0, 1, 0, 0, 0, []), (.invokestatic 325, 3, 190, 2, 0, []), (.iconst 0, 1, 0, 0, 0, []), (.istore_n 1, 1, 0, 0, 0, []), (.aload_n 0, 1, 0, 0, 0, []), (.invokevirtual 232, 3, 110, 1, 1, [8]), (.istore_n 2, 1, 0, 0, 0, []), (.iconst 0, 1, 0, 0, 0, []), (.istore_n 3, 1, 0, 0, 0, [])]
def b_L_groupByReads_17 : List mRow := [(.iload_n 3, 1, 0, 0, 0, []), (.iload_n 2, 1, 0, 0, 0, []), (.if_icmp .ge 65, 3, 84, 0, 0, []), (.aload_n 0, 1, 0, 0, 0, []), (.iload_n 3, 1, 0, 0, 0, []), (.invokevirtual 235, 3, 111, 2, 1, [8]), (.ifCond .eq 51, 3, 78, 0, 0, []), (.iinc 1 1, 3, 0, 0, 0, []), (.iconst 0, 1, 0, 0, 0, []), (.istore 4, 2, 0, 0, 0, [])]
def b_L_groupByReads_36 : List mRow := [(.iload 4, 2, 0, 0, 0, []), (.aload_n 0, 1, 0, 0, 0, []), (.getfield 16, 3, 5, 1, 1, []), (.getfield 97, 3, 0, 5, 0, []), (.if_icmp .ge 33, 3, 78, 0, 0, []), (.aload_n 0, 1, 0, 0, 0, []), (.getfield 62, 3, 5, 11, 1, []), (.iload 4, 2, 0, 0, 0, []), (.bipush 61, 2, 0, 0, 0, []), (.imul, 1, 0, 0, 0, []), (.aload_n 0, 1, 0, 0, 0, []), (.getfield 16, 3, 5, 1, 1, []), (.iload 4, 2, 0, 0, 0, []), (.invokevirtual 138, 3, 10, 2, 1, [3]), (.iadd, 1, 0, 0, 0, []), (.dup2, 1, 0, 0, 0, []), (.iaload, 1, 0, 0, 0, []), (.iconst 1, 1, 0, 0, 0, []), (.iadd, 1, 0, 0, 0, []), (.iastore, 1, 0, 0, 0, []), (.iinc 4 1, 3, 0, 0, 0, []), (.goto (-39), 3, 36, 0, 0, [])]
def b_L_groupByReads_78 : List mRow := [(.iinc 3 1, 3, 0, 0, 0, []), (.goto (-64), 3, 17, 0, 0, [])]
def b_L_groupByReads_84 : List mRow := [(.iload_n 1, 1, 0, 0, 0, []), (.ireturn, 1, 0, 0, 0, [])]
def m_L_groupByReads : mMeth := ([(0, b_L_groupByReads_0), (17, b_L_groupByReads_17), (36, b_L_groupByReads_36), (78, b_L_groupByReads_78), (84, b_L_groupByReads_84)], [(0, [0]), (17, [0, 1, 2, 3]), (36, [0, 1, 2, 3, 4]), (78, [0, 1, 2, 3]), (84, [1])])
def b_L_largestGroup_0 : List mRow := [(.iconst 0, 1, 0, 0, 0, []), (.istore_n 2, 1, 0, 0, 0, []), (.iconst 0, 1, 0, 0, 0, []), (.istore_n 3, 1, 0, 0, 0, [])]
def b_L_largestGroup_4 : List mRow := [(.iload_n 3, 1, 0, 0, 0, []), (.bipush 60, 2, 0, 0, 0, []), (.if_icmp .gt 25, 3, 32, 0, 0, []), (.iload_n 2, 1, 0, 0, 0, []), (.aload_n 0, 1, 0, 0, 0, []), (.getfield 62, 3, 5, 11, 1, []), (.iload_n 1, 1, 0, 0, 0, []), (.bipush 61, 2, 0, 0, 0, []), (.imul, 1, 0, 0, 0, []), (.iload_n 3, 1, 0, 0, 0, []), (.iadd, 1, 0, 0, 0, []), (.iaload, 1, 0, 0, 0, []), (.invokestatic 243, 3, 0, 2, 5, []), (.istore_n 2, 1, 0, 0, 0, []), (.iinc 3 1, 3, 0, 0, 0, []), (.goto (-25), 3, 4, 0, 0, [])]
def b_L_largestGroup_32 : List mRow := [(.iload_n 2, 1, 0, 0, 0, []), (.ireturn, 1, 0, 0, 0, [])]
def m_L_largestGroup : mMeth := ([(0, b_L_largestGroup_0), (4, b_L_largestGroup_4), (32, b_L_largestGroup_32)], [(0, [0, 1]), (4, [0, 1, 2, 3]), (32, [2])])
def b_M_init_0 : List mRow := [(.aload_n 0, 1, 0, 0, 0, []), (.invokespecial 1, 3, 9000, 1, 0, []), (.aload_n 0, 1, 0, 0, 0, []), (.sipush 510, 3, 0, 0, 0, []), (.newarray .int, 2, 0, 0, 0, []), (.putfield 7, 3, 6, 0, 1, []), (.aload_n 0, 1, 0, 0, 0, []), (.bipush 85, 2, 0, 0, 0, []), (.newarray .int, 2, 0, 0, 0, []), (.putfield 13, 3, 6, 1, 1, []), (.aload_n 0, 1, 0, 0, 0, []), (.sipush 160, 3, 0, 0, 0, []), (.newarray .int, 2, 0, 0, 0, []), (.putfield 16, 3, 6, 4, 1, []), (.aload_n 0, 1, 0, 0, 0, []), (.bipush 7, 2, 0, 0, 0, []), (.newarray .int, 2, 0, 0, 0, []), (.dup, 1, 0, 0, 0, []), (.iconst 0, 1, 0, 0, 0, []), (.iconst 0, 1, 0, 0, 0, []), (.iastore, 1, 0, 0, 0, []), (.dup, 1, 0, 0, 0, []), (.iconst 1, 1, 0, 0, 0, []), (.bipush 6, 2, 0, 0, 0, []), (.iastore, 1, 0, 0, 0, []), (.dup, 1, 0, 0, 0, []), (.iconst 2, 1, 0, 0, 0, []), (.bipush 12, 2, 0, 0, 0, []), (.iastore, 1, 0, 0, 0, []), (.dup, 1, 0, 0, 0, []), (.iconst 3, 1, 0, 0, 0, []), (.bipush 17, 2, 0, 0, 0, []), (.iastore, 1, 0, 0, 0, []), (.dup, 1, 0, 0, 0, []), (.iconst 4, 1, 0, 0, 0, []), (.bipush 22, 2, 0, 0, 0, []), (.iastore, 1, 0, 0, 0, []), (.dup, 1, 0, 0, 0, []), (.iconst 5, 1, 0, 0, 0, []), (.bipush 25, 2, 0, 0, 0, []), (.iastore, 1, 0, 0, 0, []), (.dup, 1, 0, 0, 0, []), (.bipush 6, 2, 0, 0, 0, []), (.bipush 31, 2, 0, 0, 0, []), (.iastore, 1, 0, 0, 0, []), (.putfield 19, 3, 6, 13, 1, []), (.aload_n 0, 1, 0, 0, 0, []), (.bipush 31, 2, 0, 0, 0, []), (.newarray .int, 2, 0, 0, 0, []), (.dup, 1, 0, 0, 0, []), (.iconst 0, 1, 0, 0, 0, []), (.bipush 98, 2, 0, 0, 0, []), (.iastore, 1, 0, 0, 0, []), (.dup, 1, 0, 0, 0, []), (.iconst 1, 1, 0, 0, 0, []), (.bipush 101, 2, 0, 0, 0, []), (.iastore, 1, 0, 0, 0, []), (.dup, 1, 0, 0, 0, []), (.iconst 2, 1, 0, 0, 0, []), (.bipush 115, 2, 0, 0, 0, []), (.iastore, 1, 0, 0, 0, []), (.dup, 1, 0, 0, 0, []), (.iconst 3, 1, 0, 0, 0, []), (.bipush 105, 2, 0, 0, 0, []), (.iastore, 1, 0, 0, 0, []), (.dup, 1, 0, 0, 0, []), (.iconst 4, 1, 0, 0, 0, []), (.bipush 100, 2, 0, 0, 0, []), (.iastore, 1, 0, 0, 0, []), (.dup, 1, 0, 0, 0, []), (.iconst 5, 1, 0, 0, 0, []), (.bipush 101, 2, 0, 0, 0, []), (.iastore, 1, 0, 0, 0, []), (.dup, 1, 0, 0, 0, []), (.bipush 6, 2, 0, 0, 0, []), (.bipush 109, 2, 0, 0, 0, []), (.iastore, 1, 0, 0, 0, []), (.dup, 1, 0, 0, 0, []), (.bipush 7, 2, 0, 0, 0, []), (.bipush 105, 2, 0, 0, 0, []), (.iastore, 1, 0, 0, 0, []), (.dup, 1, 0, 0, 0, []), (.bipush 8, 2, 0, 0, 0, []), (.bipush 114, 2, 0, 0, 0, []), (.iastore, 1, 0, 0, 0, []), (.dup, 1, 0, 0, 0, []), (.bipush 9, 2, 0, 0, 0, []), (.bipush 114, 2, 0, 0, 0, []), (.iastore, 1, 0, 0, 0, []), (.dup, 1, 0, 0, 0, []), (.bipush 10, 2, 0, 0, 0, []), (.bipush 111, 2, 0, 0, 0, []), (.iastore, 1, 0, 0, 0, []), (.dup, 1, 0, 0, 0, []), (.bipush 11, 2, 0, 0, 0, []), (.bipush 114, 2, 0, 0, 0, []), (.iastore, 1, 0, 0, 0, []), (.dup, 1, 0, 0, 0, []), (.bipush 12, 2, 0, 0, 0, []), (.bipush 97, 2, 0, 0, 0, []), (.iastore, 1, 0, 0, 0, []), (.dup, 1, 0, 0, 0, []), (.bipush 13, 2, 0, 0, 0, []), (.bipush 98, 2, 0, 0, 0, []), (.iastore, 1, 0, 0, 0, []), (.dup, 1, 0, 0, 0, []), (.bipush 14, 2, 0, 0, 0, []), (.bipush 111, 2, 0, 0, 0, []), (.iastore, 1, 0, 0, 0, []), (.dup, 1, 0, 0, 0, []), (.bipush 15, 2, 0, 0, 0, []), (.bipush 118, 2, 0, 0, 0, []), (.iastore, 1, 0, 0, 0, []), (.dup, 1, 0, 0, 0, []), (.bipush 16, 2, 0, 0, 0, []), (.bipush 101, 2, 0, 0, 0, []), (.iastore, 1, 0, 0, 0, []), (.dup, 1, 0, 0, 0, []), (.bipush 17, 2, 0, 0, 0, []), (.bipush 99, 2, 0, 0, 0, []), (.iastore, 1, 0, 0, 0, []), (.dup, 1, 0, 0, 0, []), (.bipush 18, 2, 0, 0, 0, []), (.bipush 114, 2, 0, 0, 0, []), (.iastore, 1, 0, 0, 0, []), (.dup, 1, 0, 0, 0, []), (.bipush 19, 2, 0, 0, 0, []), (.bipush 111, 2, 0, 0, 0, []), (.iastore, 1, 0, 0, 0, []), (.dup, 1, 0, 0, 0, []), (.bipush 20, 2, 0, 0, 0, []), (.bipush 115, 2, 0, 0, 0, []), (.iastore, 1, 0, 0, 0, []), (.dup, 1, 0, 0, 0, []), (.bipush 21, 2, 0, 0, 0, []), (.bipush 115, 2, 0, 0, 0, []), (.iastore, 1, 0, 0, 0, []), (.dup, 1, 0, 0, 0, []), (.bipush 22, 2, 0, 0, 0, []), (.bipush 114, 2, 0, 0, 0, []), (.iastore, 1, 0, 0, 0, []), (.dup, 1, 0, 0, 0, []), (.bipush 23, 2, 0, 0, 0, []), (.bipush 111, 2, 0, 0, 0, []), (.iastore, 1, 0, 0, 0, []), (.dup, 1, 0, 0, 0, []), (.bipush 24, 2, 0, 0, 0, []), (.bipush 119, 2, 0, 0, 0, []), (.iastore, 1, 0, 0, 0, []), (.dup, 1, 0, 0, 0, []), (.bipush 25, 2, 0, 0, 0, []), (.bipush 116, 2, 0, 0, 0, []), (.iastore, 1, 0, 0, 0, []), (.dup, 1, 0, 0, 0, []), (.bipush 26, 2, 0, 0, 0, []), (.bipush 104, 2, 0, 0, 0, []), (.iastore, 1, 0, 0, 0, []), (.dup, 1, 0, 0, 0, []), (.bipush 27, 2, 0, 0, 0, []), (.bipush 114, 2, 0, 0, 0, []), (.iastore, 1, 0, 0, 0, []), (.dup, 1, 0, 0, 0, []), (.bipush 28, 2, 0, 0, 0, []), (.bipush 101, 2, 0, 0, 0, []), (.iastore, 1, 0, 0, 0, []), (.dup, 1, 0, 0, 0, []), (.bipush 29, 2, 0, 0, 0, []), (.bipush 97, 2, 0, 0, 0, []), (.iastore, 1, 0, 0, 0, []), (.dup, 1, 0, 0, 0, []), (.bipush 30, 2, 0, 0, 0, []), (.bipush 100, 2, 0, 0, 0, []), (.iastore, 1, 0, 0, 0, []), (.putfield 22, 3, 6, 14, 1, []), (.aload_n 0, 1, 0, 0, 0, []), (.bipush 36, 2, 0, 0, 0, []), (.newarray .int, 2, 0, 0, 0, []), (.putfield 25, 3, 6, 20, 1, []), (.aload_n 0, 1, 0, 0, 0, []), (.bipush 12, 2, 0, 0, 0, []), (.newarray .int, 2, 0, 0, 0, []), (.putfield 28, 3, 6, 21, 1, []), (.aload_n 0, 1, 0, 0, 0, []), (.bipush 36, 2, 0, 0, 0, []), (.newarray .int, 2, 0, 0, 0, []), (.putfield 31, 3, 6, 23, 1, []), (.aload_n 0, 1, 0, 0, 0, []), (.bipush 61, 2, 0, 0, 0, []), (.newarray .int, 2, 0, 0, 0, []), (.putfield 34, 3, 6, 25, 1, []), (.aload_n 0, 1, 0, 0, 0, []), (.iconst 2, 1, 0, 0, 0, []), (.newarray .boolean, 2, 1, 0, 0, []), (.putfield 37, 3, 6, 26, 1, []), (.aload_n 0, 1, 0, 0, 0, []), (.iconst 4, 1, 0, 0, 0, []), (.newarray .int, 2, 0, 0, 0, []), (.dup, 1, 0, 0, 0, []), (.iconst 0, 1, 0, 0, 0, []), (.bipush (-4), 2, 0, 0, 0, []), (.iastore, 1, 0, 0, 0, []), (.dup, 1, 0, 0, 0, []), (.iconst 1, 1, 0, 0, 0, []), (.bipush (-4), 2, 0, 0, 0, []), (.iastore, 1, 0, 0, 0, []), (.dup, 1, 0, 0, 0, []), (.iconst 2, 1, 0, 0, 0, []), (.bipush (-4), 2, 0, 0, 0, []), (.iastore, 1, 0, 0, 0, []), (.dup, 1, 0, 0, 0, []), (.iconst 3, 1, 0, 0, 0, []), (.bipush (-4), 2, 0, 0, 0, []), (.iastore, 1, 0, 0, 0, []), (.putfield 41, 3, 6, 27, 1, []), (.aload_n 0, 1, 0, 0, 0, []), (.iconst 4, 1, 0, 0, 0, []), (.newarray .int, 2, 0, 0, 0, []), (.putfield 44, 3, 6, 28, 1, []), (.aload_n 0, 1, 0, 0, 0, []), (.sipush 160, 3, 0, 0, 0, []), (.newarray .int, 2, 0, 0, 0, []), (.putfield 47, 3, 6, 29, 1, []), (.return_, 1, 0, 0, 0, [])]
def m_M_init : mMeth := ([(0, b_M_init_0)], [(0, [0])])
def b_M_in_0 : List mRow := [(.lload_n 0, 1, 0, 0, 0, []), (.lload_n 2, 1, 0, 0, 0, []), (.lcmp, 1, 0, 0, 0, []), (.ifCond .lt 14, 3, 17, 0, 0, []), (.lload_n 0, 1, 0, 0, 0, []), (.lload 4, 2, 0, 0, 0, []), (.lcmp, 1, 0, 0, 0, []), (.ifCond .gt 7, 3, 17, 0, 0, []), (.iconst 1, 1, 0, 0, 0, []), (.goto 4, 3, 18, 0, 0, [])]
def b_M_in_17 : List mRow := [(.iconst 0, 1, 0, 0, 0, [])]
def b_M_in_18 : List mRow := [(.ireturn, 1, 0, 0, 1, [])]
def m_M_in : mMeth := ([(0, b_M_in_0), (17, b_M_in_17), (18, b_M_in_18)], [(0, [0, 2, 4]), (17, []), (18, [])])
def b_M_feed_0 : List mRow := [(.iload_n 1, 1, 0, 0, 0, []), (.i2l, 1, 0, 0, 0, []), (.lconst 0, 1, 0, 0, 0, []), (.ldc2_w 50, 3, 0, 0, 127, []), (.invokestatic 52, 3, 115, 3, 1, []), (.ifCond .ne 5, 3, 14, 0, 0, []), (.iconst (-1), 1, 0, 0, 0, []), (.ireturn, 1, 0, 0, 0, [])]
def b_M_feed_14 : List mRow := [(.aload_n 0, 1, 0, 0, 0, []), (.getfield 56, 3, 6, 5, 0, []), (.sipush 160, 3, 0, 0, 0, []), (.if_icmp .ne 6, 3, 27, 0, 0, []), (.bipush (-3), 2, 0, 0, 0, []), (.ireturn, 1, 0, 0, 0, [])]
def b_M_feed_27 : List mRow := [(.aload_n 0, 1, 0, 0, 0, []), (.getfield 16, 3, 6, 4, 1, []), (.aload_n 0, 1, 0, 0, 0, []), (.getfield 56, 3, 6, 5, 0, []), (.iload_n 1, 1, 0, 0, 0, []), (.iastore, 1, 0, 0, 0, []), (.aload_n 0, 1, 0, 0, 0, []), (.dup, 1, 0, 0, 0, []), (.getfield 56, 3, 6, 5, 0, []), (.iconst 1, 1, 0, 0, 0, []), (.iadd, 1, 0, 0, 0, []), (.putfield 56, 3, 6, 5, 0, []), (.aload_n 0, 1, 0, 0, 0, []), (.getfield 56, 3, 6, 5, 0, []), (.ireturn, 1, 0, 0, 0, [])]
def m_M_feed : mMeth := ([(0, b_M_feed_0), (14, b_M_feed_14), (27, b_M_feed_27)], [(0, [0, 1]), (14, [0, 1]), (27, [0, 1])])
def b_M_end_0 : List mRow := [(.iload_n 1, 1, 0, 0, 0, []), (.i2l, 1, 0, 0, 0, []), (.lconst 0, 1, 0, 0, 0, []), (.aload_n 0, 1, 0, 0, 0, []), (.getfield 56, 3, 6, 5, 0, []), (.i2l, 1, 0, 0, 0, []), (.invokestatic 52, 3, 115, 3, 1, []), (.ifCond .ne 5, 3, 16, 0, 0, []), (.iconst (-1), 1, 0, 0, 0, []), (.ireturn, 1, 0, 0, 0, [])]
def b_M_end_16 : List mRow := [(.aload_n 0, 1, 0, 0, 0, []), (.getfield 56, 3, 6, 5, 0, []), (.istore_n 2, 1, 0, 0, 0, []), (.aload_n 0, 1, 0, 0, 0, []), (.iload_n 1, 1, 0, 0, 0, []), (.putfield 56, 3, 6, 5, 0, []), (.iload_n 2, 1, 0, 0, 0, []), (.ireturn, 1, 0, 0, 0, [])]
def m_M_end : mMeth := ([(0, b_M_end_0), (16, b_M_end_16)], [(0, [0, 1]), (16, [0, 1])])
def b_M_byteAt_0 : List mRow := [(.iload_n 1, 1, 0, 0, 0, []), (.aload_n 0, 1, 0, 0, 0, []), (.getfield 56, 3, 6, 5, 0, []), (.if_icmp .ge 12, 3, 17, 0, 0, []), (.aload_n 0, 1, 0, 0, 0, []), (.getfield 16, 3, 6, 4, 1, []), (.iload_n 1, 1, 0, 0, 0, []), (.iaload, 1, 0, 0, 0, []), (.goto 5, 3, 19, 0, 0, [])]
def b_M_byteAt_17 : List mRow := [(.bipush (-4), 2, 0, 0, 0, [])]
def b_M_byteAt_19 : List mRow := [(.ireturn, 1, 0, 0, 0, [])]
def m_M_byteAt : mMeth := ([(0, b_M_byteAt_0), (17, b_M_byteAt_17), (19, b_M_byteAt_19)], [(0, [0, 1]), (17, []), (19, [])])
def b_M_fails_0 : List mRow := [(.aload_n 0, 1, 0, 0, 0, []), (.getfield 60, 3, 6, 7, 0, []), (.ifCond .ne 16, 3, 20, 0, 0, []), (.aload_n 0, 1, 0, 0, 0, []), (.iload_n 1, 1, 0, 0, 0, []), (.putfield 60, 3, 6, 7, 0, []), (.aload_n 0, 1, 0, 0, 0, []), (.aload_n 0, 1, 0, 0, 0, []), (.getfield 63, 3, 6, 10, 0, []), (.putfield 66, 3, 6, 8, 0, [])]
def b_M_fails_20 : List mRow := [(.return_, 1, 0, 0, 0, [])]
def m_M_fails : mMeth := ([(0, b_M_fails_0), (20, b_M_fails_20)], [(0, [0, 1]), (20, [])])
def b_M_nameHere_0 : List mRow := [(.iconst 0, 1, 0, 0, 0, []), (.istore_n 1, 1, 0, 0, 0, [])]
def b_M_nameHere_2 : List mRow := [(.iload_n 1, 1, 0, 0, 0, []), (.bipush 6, 2, 0, 0, 0, []), (.if_icmp .ge 113, 3, 118, 0, 0, []), (.aload_n 0, 1, 0, 0, 0, []), (.getfield 69, 3, 6, 11, 0, []), (.iconst 1, 1, 0, 0, 0, []), (.if_icmp .ne 105, 3, 118, 0, 0, []), (.aload_n 0, 1, 0, 0, 0, []), (.getfield 72, 3, 6, 9, 0, []), (.aload_n 0, 1, 0, 0, 0, []), (.getfield 63, 3, 6, 10, 0, []), (.isub, 1, 0, 0, 0, []), (.aload_n 0, 1, 0, 0, 0, []), (.getfield 19, 3, 6, 13, 1, []), (.iload_n 1, 1, 0, 0, 0, []), (.iconst 1, 1, 0, 0, 0, []), (.iadd, 1, 0, 0, 0, []), (.iaload, 1, 0, 0, 0, []), (.aload_n 0, 1, 0, 0, 0, []), (.getfield 19, 3, 6, 13, 1, []), (.iload_n 1, 1, 0, 0, 0, []), (.iaload, 1, 0, 0, 0, []), (.isub, 1, 0, 0, 0, []), (.if_icmp .ne 7, 3, 47, 0, 0, []), (.iconst 1, 1, 0, 0, 0, []), (.goto 4, 3, 48, 0, 0, [])]
def b_M_nameHere_47 : List mRow := [(.iconst 0, 1, 0, 0, 0, [])]
def b_M_nameHere_48 : List mRow := [(.istore_n 2, 1, 0, 0, 0, []), (.iconst 0, 1, 0, 0, 0, []), (.istore_n 3, 1, 0, 0, 0, [])]
def b_M_nameHere_51 : List mRow := [(.iload_n 2, 1, 0, 0, 0, []), (.ifCond .eq 54, 3, 106, 0, 0, []), (.iload_n 3, 1, 0, 0, 0, []), (.aload_n 0, 1, 0, 0, 0, []), (.getfield 72, 3, 6, 9, 0, []), (.aload_n 0, 1, 0, 0, 0, []), (.getfield 63, 3, 6, 10, 0, []), (.isub, 1, 0, 0, 0, []), (.if_icmp .ge 41, 3, 106, 0, 0, []), (.aload_n 0, 1, 0, 0, 0, []), (.aload_n 0, 1, 0, 0, 0, []), (.getfield 63, 3, 6, 10, 0, []), (.iload_n 3, 1, 0, 0, 0, []), (.iadd, 1, 0, 0, 0, []), (.invokevirtual 75, 3, 118, 2, 1, [9]), (.aload_n 0, 1, 0, 0, 0, []), (.getfield 22, 3, 6, 14, 1, []), (.aload_n 0, 1, 0, 0, 0, []), (.getfield 19, 3, 6, 13, 1, []), (.iload_n 1, 1, 0, 0, 0, []), (.iaload, 1, 0, 0, 0, []), (.iload_n 3, 1, 0, 0, 0, []), (.iadd, 1, 0, 0, 0, []), (.iaload, 1, 0, 0, 0, []), (.if_icmp .ne 7, 3, 98, 0, 0, []), (.iconst 1, 1, 0, 0, 0, []), (.goto 4, 3, 99, 0, 0, [])]
def b_M_nameHere_98 : List mRow := [(.iconst 0, 1, 0, 0, 0, [])]
def b_M_nameHere_99 : List mRow := [(.istore_n 2, 1, 0, 0, 0, []), (.iinc 3 1, 3, 0, 0, 0, []), (.goto (-52), 3, 51, 0, 0, [])]
def b_M_nameHere_106 : List mRow := [(.iload_n 2, 1, 0, 0, 0, []), (.ifCond .eq 5, 3, 112, 0, 0, []), (.iload_n 1, 1, 0, 0, 0, []), (.ireturn, 1, 0, 0, 0, [])]
def b_M_nameHere_112 : List mRow := [(.iinc 1 1, 3, 0, 0, 0, []), (.goto (-113), 3, 2, 0, 0, [])]
def b_M_nameHere_118 : List mRow := [(.bipush (-4), 2, 0, 0, 0, []), (.ireturn, 1, 0, 0, 0, [])]
def m_M_nameHere : mMeth := ([(0, b_M_nameHere_0), (2, b_M_nameHere_2), (47, b_M_nameHere_47), (48, b_M_nameHere_48), (51, b_M_nameHere_51), (98, b_M_nameHere_98), (99, b_M_nameHere_99), (106, b_M_nameHere_106), (112, b_M_nameHere_112), (118, b_M_nameHere_118)], [(0, [0]), (2, [0, 1]), (47, [0, 1]), (48, [0, 1]), (51, [0, 1, 2, 3]), (98, [0, 1, 3]), (99, [0, 1, 3]), (106, [0, 1, 2]), (112, [0, 1]), (118, [])])
def b_M_step_0 : List mRow := [(.aload_n 0, 1, 0, 0, 0, []), (.getfield 60, 3, 6, 7, 0, []), (.ifCond .le 4, 3, 8, 0, 0, []), (.return_, 1, 0, 0, 0, [])]
def b_M_step_8 : List mRow := [(.aload_n 0, 1, 0, 0, 0, []), (.aload_n 0, 1, 0, 0, 0, []), (.getfield 72, 3, 6, 9, 0, []), (.invokevirtual 75, 3, 118, 2, 1, [9]), (.bipush 32, 2, 0, 0, 0, []), (.if_icmp .ne 16, 3, 34, 0, 0, []), (.aload_n 0, 1, 0, 0, 0, []), (.dup, 1, 0, 0, 0, []), (.getfield 72, 3, 6, 9, 0, []), (.iconst 1, 1, 0, 0, 0, []), (.iadd, 1, 0, 0, 0, []), (.putfield 72, 3, 6, 9, 0, []), (.goto (-23), 3, 8, 0, 0, [])]
def b_M_step_34 : List mRow := [(.aload_n 0, 1, 0, 0, 0, []), (.aload_n 0, 1, 0, 0, 0, []), (.getfield 72, 3, 6, 9, 0, []), (.putfield 63, 3, 6, 10, 0, []), (.aload_n 0, 1, 0, 0, 0, []), (.aload_n 0, 1, 0, 0, 0, []), (.getfield 72, 3, 6, 9, 0, []), (.invokevirtual 75, 3, 118, 2, 1, [9]), (.istore_n 1, 1, 0, 0, 0, []), (.aload_n 0, 1, 0, 0, 0, []), (.iconst 0, 1, 0, 0, 0, []), (.putfield 79, 3, 6, 12, 0, []), (.iload_n 1, 1, 0, 0, 0, []), (.bipush (-4), 2, 0, 0, 0, []), (.if_icmp .ne 11, 3, 70, 0, 0, []), (.aload_n 0, 1, 0, 0, 0, []), (.iconst 0, 1, 0, 0, 0, []), (.putfield 69, 3, 6, 11, 0, []), (.goto 202, 3, 269, 0, 0, [])]
def b_M_step_70 : List mRow := [(.iload_n 1, 1, 0, 0, 0, []), (.i2l, 1, 0, 0, 0, []), (.ldc2_w 82, 3, 0, 0, 97, []), (.ldc2_w 84, 3, 0, 0, 122, []), (.invokestatic 52, 3, 115, 3, 1, []), (.ifCond .eq 45, 3, 126, 0, 0, [])]
def b_M_step_84 : List mRow := [(.aload_n 0, 1, 0, 0, 0, []), (.aload_n 0, 1, 0, 0, 0, []), (.getfield 72, 3, 6, 9, 0, []), (.invokevirtual 75, 3, 118, 2, 1, [9]), (.i2l, 1, 0, 0, 0, []), (.ldc2_w 82, 3, 0, 0, 97, []), (.ldc2_w 84, 3, 0, 0, 122, []), (.invokestatic 52, 3, 115, 3, 1, []), (.ifCond .eq 16, 3, 118, 0, 0, []), (.aload_n 0, 1, 0, 0, 0, []), (.dup, 1, 0, 0, 0, []), (.getfield 72, 3, 6, 9, 0, []), (.iconst 1, 1, 0, 0, 0, []), (.iadd, 1, 0, 0, 0, []), (.putfield 72, 3, 6, 9, 0, []), (.goto (-31), 3, 84, 0, 0, [])]
def b_M_step_118 : List mRow := [(.aload_n 0, 1, 0, 0, 0, []), (.iconst 1, 1, 0, 0, 0, []), (.putfield 69, 3, 6, 11, 0, []), (.goto 146, 3, 269, 0, 0, [])]
def b_M_step_126 : List mRow := [(.iload_n 1, 1, 0, 0, 0, []), (.i2l, 1, 0, 0, 0, []), (.ldc2_w 86, 3, 0, 0, 48, []), (.ldc2_w 88, 3, 0, 0, 57, []), (.invokestatic 52, 3, 115, 3, 1, []), (.ifCond .eq 106, 3, 243, 0, 0, [])]
def b_M_step_140 : List mRow := [(.aload_n 0, 1, 0, 0, 0, []), (.aload_n 0, 1, 0, 0, 0, []), (.getfield 72, 3, 6, 9, 0, []), (.invokevirtual 75, 3, 118, 2, 1, [9]), (.i2l, 1, 0, 0, 0, []), (.ldc2_w 86, 3, 0, 0, 48, []), (.ldc2_w 88, 3, 0, 0, 57, []), (.invokestatic 52, 3, 115, 3, 1, []), (.ifCond .eq 59, 3, 217, 0, 0, []), (.aload_n 0, 1, 0, 0, 0, []), (.aload_n 0, 1, 0, 0, 0, []), (.getfield 72, 3, 6, 9, 0, []), (.aload_n 0, 1, 0, 0, 0, []), (.getfield 63, 3, 6, 10, 0, []), (.isub, 1, 0, 0, 0, []), (.iconst 2, 1, 0, 0, 0, []), (.if_icmp .ge 25, 3, 197, 0, 0, []), (.bipush 10, 2, 0, 0, 0, []), (.aload_n 0, 1, 0, 0, 0, []), (.getfield 79, 3, 6, 12, 0, []), (.imul, 1, 0, 0, 0, []), (.aload_n 0, 1, 0, 0, 0, []), (.aload_n 0, 1, 0, 0, 0, []), (.getfield 72, 3, 6, 9, 0, []), (.invokevirtual 75, 3, 118, 2, 1, [9]), (.iadd, 1, 0, 0, 0, []), (.bipush 48, 2, 0, 0, 0, []), (.isub, 1, 0, 0, 0, []), (.goto 7, 3, 201, 0, 0, [])]
def b_M_step_197 : List mRow := [(.aload_n 0, 1, 0, 0, 0, []), (.getfield 79, 3, 6, 12, 0, [])]
def b_M_step_201 : List mRow := [(.putfield 79, 3, 6, 12, 0, []), (.aload_n 0, 1, 0, 0, 0, []), (.dup, 1, 0, 0, 0, []), (.getfield 72, 3, 6, 9, 0, []), (.iconst 1, 1, 0, 0, 0, []), (.iadd, 1, 0, 0, 0, []), (.putfield 72, 3, 6, 9, 0, []), (.goto (-74), 3, 140, 0, 0, [])]
def b_M_step_217 : List mRow := [(.aload_n 0, 1, 0, 0, 0, []), (.iconst 2, 1, 0, 0, 0, []), (.putfield 69, 3, 6, 11, 0, []), (.aload_n 0, 1, 0, 0, 0, []), (.getfield 72, 3, 6, 9, 0, []), (.aload_n 0, 1, 0, 0, 0, []), (.getfield 63, 3, 6, 10, 0, []), (.isub, 1, 0, 0, 0, []), (.iconst 2, 1, 0, 0, 0, []), (.if_icmp .le 37, 3, 269, 0, 0, []), (.aload_n 0, 1, 0, 0, 0, []), (.iconst 1, 1, 0, 0, 0, []), (.invokevirtual 90, 3, 119, 2, 0, [9]), (.goto 29, 3, 269, 0, 0, [])]
def b_M_step_243 : List mRow := [(.aload_n 0, 1, 0, 0, 0, []), (.iconst 3, 1, 0, 0, 0, []), (.putfield 69, 3, 6, 11, 0, []), (.aload_n 0, 1, 0, 0, 0, []), (.dup, 1, 0, 0, 0, []), (.getfield 72, 3, 6, 9, 0, []), (.iconst 1, 1, 0, 0, 0, []), (.iadd, 1, 0, 0, 0, []), (.putfield 72, 3, 6, 9, 0, []), (.iload_n 1, 1, 0, 0, 0, []), (.bipush 59, 2, 0, 0, 0, []), (.if_icmp .eq 8, 3, 269, 0, 0, []), (.aload_n 0, 1, 0, 0, 0, []), (.iconst 1, 1, 0, 0, 0, []), (.invokevirtual 90, 3, 119, 2, 0, [9])]
def b_M_step_269 : List mRow := [(.return_, 1, 0, 0, 0, [])]
def m_M_step : mMeth := ([(0, b_M_step_0), (8, b_M_step_8), (34, b_M_step_34), (70, b_M_step_70), (84, b_M_step_84), (118, b_M_step_118), (126, b_M_step_126), (140, b_M_step_140), (197, b_M_step_197), (201, b_M_step_201), (217, b_M_step_217), (243, b_M_step_243), (269, b_M_step_269)], [(0, [0]), (8, [0]), (34, [0]), (70, [0, 1]), (84, [0]), (118, [0]), (126, [0, 1]), (140, [0]), (197, [0]), (201, [0]), (217, [0]), (243, [0, 1]), (269, [])])
def b_M_other_0 : List mRow := [(.aload_n 0, 1, 0, 0, 0, []), (.getfield 60, 3, 6, 7, 0, []), (.ifCond .ne 16, 3, 20, 0, 0, []), (.aload_n 0, 1, 0, 0, 0, []), (.getfield 69, 3, 6, 11, 0, []), (.iconst 2, 1, 0, 0, 0, []), (.if_icmp .eq 8, 3, 20, 0, 0, []), (.aload_n 0, 1, 0, 0, 0, []), (.iconst 2, 1, 0, 0, 0, []), (.invokevirtual 90, 3, 119, 2, 0, [9])]
def b_M_other_20 : List mRow := [(.aload_n 0, 1, 0, 0, 0, []), (.getfield 60, 3, 6, 7, 0, []), (.ifCond .ne 23, 3, 47, 0, 0, []), (.aload_n 0, 1, 0, 0, 0, []), (.getfield 79, 3, 6, 12, 0, []), (.i2l, 1, 0, 0, 0, []), (.iload_n 1, 1, 0, 0, 0, []), (.i2l, 1, 0, 0, 0, []), (.iload_n 2, 1, 0, 0, 0, []), (.i2l, 1, 0, 0, 0, []), (.invokestatic 52, 3, 115, 3, 1, []), (.ifCond .ne 8, 3, 47, 0, 0, []), (.aload_n 0, 1, 0, 0, 0, []), (.iconst 3, 1, 0, 0, 0, []), (.invokevirtual 90, 3, 119, 2, 0, [9])]
def b_M_other_47 : List mRow := [(.aload_n 0, 1, 0, 0, 0, []), (.getfield 60, 3, 6, 7, 0, []), (.ifCond .ne 24, 3, 75, 0, 0, []), (.iload_n 3, 1, 0, 0, 0, []), (.ifCond .eq 20, 3, 75, 0, 0, []), (.iload_n 3, 1, 0, 0, 0, []), (.aload_n 0, 1, 0, 0, 0, []), (.getfield 79, 3, 6, 12, 0, []), (.ishr, 1, 0, 0, 0, []), (.iconst 1, 1, 0, 0, 0, []), (.iand, 1, 0, 0, 0, []), (.iconst 1, 1, 0, 0, 0, []), (.if_icmp .ne 8, 3, 75, 0, 0, []), (.aload_n 0, 1, 0, 0, 0, []), (.iconst 4, 1, 0, 0, 0, []), (.invokevirtual 90, 3, 119, 2, 0, [9])]
def b_M_other_75 : List mRow := [(.aload_n 0, 1, 0, 0, 0, []), (.getfield 60, 3, 6, 7, 0, []), (.ifCond .ne 10, 3, 89, 0, 0, []), (.aload_n 0, 1, 0, 0, 0, []), (.getfield 79, 3, 6, 12, 0, []), (.goto 4, 3, 90, 0, 0, [])]
def b_M_other_89 : List mRow := [(.iload_n 1, 1, 0, 0, 0, [])]
def b_M_other_90 : List mRow := [(.istore 4, 2, 0, 0, 0, []), (.aload_n 0, 1, 0, 0, 0, []), (.invokevirtual 94, 3, 121, 1, 0, [9]), (.iload 4, 2, 0, 0, 0, []), (.ireturn, 1, 0, 0, 0, [])]
def m_M_other : mMeth := ([(0, b_M_other_0), (20, b_M_other_20), (47, b_M_other_47), (75, b_M_other_75), (89, b_M_other_89), (90, b_M_other_90)], [(0, [0, 1, 2, 3]), (20, [0, 1, 2, 3]), (47, [0, 1, 3]), (75, [0, 1]), (89, [0, 1]), (90, [0])])
def b_M_readRow_0 : List mRow := [(.aload_n 0, 1, 0, 0, 0, []), (.iconst 0, 1, 0, 0, 0, []), (.iconst 5, 1, 0, 0, 0, []), (.aload_n 0, 1, 0, 0, 0, []), (.getfield 97, 3, 6, 2, 0, []), (.invokevirtual 100, 3, 122, 4, 1, [9]), (.istore_n 1, 1, 0, 0, 0, []), (.aload_n 0, 1, 0, 0, 0, []), (.dup, 1, 0, 0, 0, []), (.getfield 97, 3, 6, 2, 0, []), (.iconst 1, 1, 0, 0, 0, []), (.iload_n 1, 1, 0, 0, 0, []), (.ishl, 1, 0, 0, 0, []), (.ior, 1, 0, 0, 0, []), (.putfield 97, 3, 6, 2, 0, []), (.iconst 0, 1, 0, 0, 0, []), (.istore_n 2, 1, 0, 0, 0, [])]
def b_M_readRow_25 : List mRow := [(.aload_n 0, 1, 0, 0, 0, []), (.getfield 60, 3, 6, 7, 0, []), (.ifCond .ne 49, 3, 78, 0, 0, []), (.aload_n 0, 1, 0, 0, 0, []), (.getfield 69, 3, 6, 11, 0, []), (.iconst 2, 1, 0, 0, 0, []), (.if_icmp .ne 41, 3, 78, 0, 0, []), (.iload_n 2, 1, 0, 0, 0, []), (.bipush 6, 2, 0, 0, 0, []), (.if_icmp .ne 11, 3, 54, 0, 0, []), (.aload_n 0, 1, 0, 0, 0, []), (.iconst 5, 1, 0, 0, 0, []), (.invokevirtual 90, 3, 119, 2, 0, [9]), (.goto (-26), 3, 25, 0, 0, [])]
def b_M_readRow_54 : List mRow := [(.aload_n 0, 1, 0, 0, 0, []), (.getfield 13, 3, 6, 1, 1, []), (.bipush 6, 2, 0, 0, 0, []), (.iload_n 2, 1, 0, 0, 0, []), (.imul, 1, 0, 0, 0, []), (.iload_n 1, 1, 0, 0, 0, []), (.iadd, 1, 0, 0, 0, []), (.aload_n 0, 1, 0, 0, 0, []), (.iconst 0, 1, 0, 0, 0, []), (.iconst 4, 1, 0, 0, 0, []), (.iconst 0, 1, 0, 0, 0, []), (.invokevirtual 100, 3, 122, 4, 1, [9]), (.iastore, 1, 0, 0, 0, []), (.iinc 2 1, 3, 0, 0, 0, []), (.goto (-50), 3, 25, 0, 0, [])]
def b_M_readRow_78 : List mRow := [(.return_, 1, 0, 0, 0, [])]
def m_M_readRow : mMeth := ([(0, b_M_readRow_0), (25, b_M_readRow_25), (54, b_M_readRow_54), (78, b_M_readRow_78)], [(0, [0]), (25, [0, 1, 2]), (54, [0, 1, 2]), (78, [])])
def b_M_readMore_0 : List mRow := [(.iload_n 1, 1, 0, 0, 0, []), (.iconst 3, 1, 0, 0, 0, []), (.if_icmp .gt 84, 3, 86, 0, 0, []), (.aload_n 0, 1, 0, 0, 0, []), (.getfield 13, 3, 6, 1, 1, []), (.bipush 39, 2, 0, 0, 0, []), (.iaload, 1, 0, 0, 0, []), (.istore_n 2, 1, 0, 0, 0, []), (.aload_n 0, 1, 0, 0, 0, []), (.getfield 13, 3, 6, 1, 1, []), (.bipush 40, 2, 0, 0, 0, []), (.iload_n 2, 1, 0, 0, 0, []), (.iadd, 1, 0, 0, 0, []), (.iload_n 1, 1, 0, 0, 0, []), (.iastore, 1, 0, 0, 0, []), (.aload_n 0, 1, 0, 0, 0, []), (.getfield 13, 3, 6, 1, 1, []), (.bipush 45, 2, 0, 0, 0, []), (.iload_n 2, 1, 0, 0, 0, []), (.iadd, 1, 0, 0, 0, []), (.aload_n 0, 1, 0, 0, 0, []), (.iconst 1, 1, 0, 0, 0, []), (.iconst 3, 1, 0, 0, 0, []), (.iconst 0, 1, 0, 0, 0, []), (.invokevirtual 100, 3, 122, 4, 1, [9]), (.iastore, 1, 0, 0, 0, []), (.aload_n 0, 1, 0, 0, 0, []), (.getfield 13, 3, 6, 1, 1, []), (.bipush 50, 2, 0, 0, 0, []), (.iload_n 2, 1, 0, 0, 0, []), (.iadd, 1, 0, 0, 0, []), (.aload_n 0, 1, 0, 0, 0, []), (.iconst 1, 1, 0, 0, 0, []), (.iconst 3, 1, 0, 0, 0, []), (.iconst 0, 1, 0, 0, 0, []), (.invokevirtual 100, 3, 122, 4, 1, [9]), (.iastore, 1, 0, 0, 0, []), (.aload_n 0, 1, 0, 0, 0, []), (.getfield 13, 3, 6, 1, 1, []), (.bipush 55, 2, 0, 0, 0, []), (.iload_n 2, 1, 0, 0, 0, []), (.iadd, 1, 0, 0, 0, []), (.aload_n 0, 1, 0, 0, 0, []), (.iconst 1, 1, 0, 0, 0, []), (.bipush 9, 2, 0, 0, 0, []), (.iconst 0, 1, 0, 0, 0, []), (.invokevirtual 100, 3, 122, 4, 1, [9]), (.iastore, 1, 0, 0, 0, []), (.aload_n 0, 1, 0, 0, 0, []), (.getfield 13, 3, 6, 1, 1, []), (.bipush 39, 2, 0, 0, 0, []), (.dup2, 1, 0, 0, 0, []), (.iaload, 1, 0, 0, 0, []), (.iconst 1, 1, 0, 0, 0, []), (.iadd, 1, 0, 0, 0, []), (.iastore, 1, 0, 0, 0, []), (.goto 60, 3, 143, 0, 0, [])]
def b_M_readMore_86 : List mRow := [(.iload_n 1, 1, 0, 0, 0, []), (.iconst 4, 1, 0, 0, 0, []), (.if_icmp .ne 10, 3, 98, 0, 0, []), (.aload_n 0, 1, 0, 0, 0, []), (.invokevirtual 104, 3, 123, 1, 0, [9]), (.goto 48, 3, 143, 0, 0, [])]
def b_M_readMore_98 : List mRow := [(.aload_n 0, 1, 0, 0, 0, []), (.iconst 1, 1, 0, 0, 0, []), (.iconst 3, 1, 0, 0, 0, []), (.aload_n 0, 1, 0, 0, 0, []), (.getfield 107, 3, 6, 3, 0, []), (.invokevirtual 100, 3, 122, 4, 1, [9]), (.istore_n 2, 1, 0, 0, 0, []), (.aload_n 0, 1, 0, 0, 0, []), (.dup, 1, 0, 0, 0, []), (.getfield 107, 3, 6, 3, 0, []), (.iconst 1, 1, 0, 0, 0, []), (.iload_n 2, 1, 0, 0, 0, []), (.ishl, 1, 0, 0, 0, []), (.ior, 1, 0, 0, 0, []), (.putfield 107, 3, 6, 3, 0, []), (.aload_n 0, 1, 0, 0, 0, []), (.getfield 13, 3, 6, 1, 1, []), (.bipush 36, 2, 0, 0, 0, []), (.iload_n 2, 1, 0, 0, 0, []), (.iadd, 1, 0, 0, 0, []), (.iconst 1, 1, 0, 0, 0, []), (.isub, 1, 0, 0, 0, []), (.aload_n 0, 1, 0, 0, 0, []), (.iconst 0, 1, 0, 0, 0, []), (.bipush 99, 2, 0, 0, 0, []), (.iconst 0, 1, 0, 0, 0, []), (.invokevirtual 100, 3, 122, 4, 1, [9]), (.bipush 20, 2, 0, 0, 0, []), (.isub, 1, 0, 0, 0, []), (.iastore, 1, 0, 0, 0, [])]
def b_M_readMore_143 : List mRow := [(.return_, 1, 0, 0, 0, [])]
def m_M_readMore : mMeth := ([(0, b_M_readMore_0), (86, b_M_readMore_86), (98, b_M_readMore_98), (143, b_M_readMore_143)], [(0, [0, 1]), (86, [0, 1]), (98, [0]), (143, [])])
def b_M_readLine_0 : List mRow := [(.aload_n 0, 1, 0, 0, 0, []), (.invokevirtual 110, 3, 120, 1, 1, [9]), (.istore_n 1, 1, 0, 0, 0, []), (.iload_n 1, 1, 0, 0, 0, []), (.i2l, 1, 0, 0, 0, []), (.lconst 0, 1, 0, 0, 0, []), (.ldc2_w 114, 3, 0, 0, 5, []), (.invokestatic 52, 3, 115, 3, 1, []), (.ifCond .ne 9, 3, 23, 0, 0, []), (.aload_n 0, 1, 0, 0, 0, []), (.iconst 2, 1, 0, 0, 0, []), (.invokevirtual 90, 3, 119, 2, 0, [9]), (.return_, 1, 0, 0, 0, [])]
def b_M_readLine_23 : List mRow := [(.iload_n 1, 1, 0, 0, 0, []), (.iconst 3, 1, 0, 0, 0, []), (.if_icmp .gt 19, 3, 44, 0, 0, []), (.aload_n 0, 1, 0, 0, 0, []), (.getfield 13, 3, 6, 1, 1, []), (.bipush 39, 2, 0, 0, 0, []), (.iaload, 1, 0, 0, 0, []), (.iconst 5, 1, 0, 0, 0, []), (.if_icmp .ne 8, 3, 44, 0, 0, []), (.aload_n 0, 1, 0, 0, 0, []), (.iconst 5, 1, 0, 0, 0, []), (.invokevirtual 90, 3, 119, 2, 0, [9])]
def b_M_readLine_44 : List mRow := [(.aload_n 0, 1, 0, 0, 0, []), (.invokevirtual 94, 3, 121, 1, 0, [9]), (.aload_n 0, 1, 0, 0, 0, []), (.getfield 60, 3, 6, 7, 0, []), (.ifCond .le 4, 3, 56, 0, 0, []), (.return_, 1, 0, 0, 0, [])]
def b_M_readLine_56 : List mRow := [(.aload_n 0, 1, 0, 0, 0, []), (.iload_n 1, 1, 0, 0, 0, []), (.invokevirtual 116, 3, 124, 2, 0, [9]), (.aload_n 0, 1, 0, 0, 0, []), (.getfield 60, 3, 6, 7, 0, []), (.ifCond .ne 16, 3, 81, 0, 0, []), (.aload_n 0, 1, 0, 0, 0, []), (.getfield 69, 3, 6, 11, 0, []), (.iconst 3, 1, 0, 0, 0, []), (.if_icmp .eq 8, 3, 81, 0, 0, []), (.aload_n 0, 1, 0, 0, 0, []), (.iconst 2, 1, 0, 0, 0, []), (.invokevirtual 90, 3, 119, 2, 0, [9])]
def b_M_readLine_81 : List mRow := [(.aload_n 0, 1, 0, 0, 0, []), (.invokevirtual 94, 3, 121, 1, 0, [9]), (.return_, 1, 0, 0, 0, [])]
def m_M_readLine : mMeth := ([(0, b_M_readLine_0), (23, b_M_readLine_23), (44, b_M_readLine_44), (56, b_M_readLine_56), (81, b_M_readLine_81)], [(0, [0]), (23, [0, 1]), (44, [0, 1]), (56, [0, 1]), (81, [0])])
def b_M_text_0 : List mRow := [(.aload_n 0, 1, 0, 0, 0, []), (.iconst 0, 1, 0, 0, 0, []), (.putfield 60, 3, 6, 7, 0, []), (.aload_n 0, 1, 0, 0, 0, []), (.iconst 0, 1, 0, 0, 0, []), (.putfield 72, 3, 6, 9, 0, []), (.aload_n 0, 1, 0, 0, 0, []), (.iconst 0, 1, 0, 0, 0, []), (.putfield 97, 3, 6, 2, 0, []), (.aload_n 0, 1, 0, 0, 0, []), (.iconst 0, 1, 0, 0, 0, []), (.putfield 107, 3, 6, 3, 0, []), (.iconst 0, 1, 0, 0, 0, []), (.istore_n 1, 1, 0, 0, 0, []), (.iconst 0, 1, 0, 0, 0, []), (.istore_n 2, 1, 0, 0, 0, [])]
def b_M_text_24 : List mRow := [(.iload_n 2, 1, 0, 0, 0, []), (.bipush 85, 2, 0, 0, 0, []), (.if_icmp .ge 16, 3, 43, 0, 0, []), (.aload_n 0, 1, 0, 0, 0, []), (.getfield 13, 3, 6, 1, 1, []), (.iload_n 2, 1, 0, 0, 0, []), (.iconst 0, 1, 0, 0, 0, []), (.iastore, 1, 0, 0, 0, []), (.iinc 2 1, 3, 0, 0, 0, []), (.goto (-16), 3, 24, 0, 0, [])]
def b_M_text_43 : List mRow := [(.aload_n 0, 1, 0, 0, 0, []), (.invokevirtual 94, 3, 121, 1, 0, [9])]
def b_M_text_47 : List mRow := [(.aload_n 0, 1, 0, 0, 0, []), (.getfield 60, 3, 6, 7, 0, []), (.ifCond .ne 20, 3, 71, 0, 0, []), (.aload_n 0, 1, 0, 0, 0, []), (.getfield 69, 3, 6, 11, 0, []), (.ifCond .eq 13, 3, 71, 0, 0, []), (.aload_n 0, 1, 0, 0, 0, []), (.invokevirtual 119, 3, 125, 1, 0, [9]), (.iinc 1 1, 3, 0, 0, 0, []), (.goto (-21), 3, 47, 0, 0, [])]
def b_M_text_71 : List mRow := [(.aload_n 0, 1, 0, 0, 0, []), (.iconst 0, 1, 0, 0, 0, []), (.putfield 56, 3, 6, 5, 0, []), (.aload_n 0, 1, 0, 0, 0, []), (.aload_n 0, 1, 0, 0, 0, []), (.getfield 60, 3, 6, 7, 0, []), (.putfield 122, 3, 6, 6, 0, []), (.aload_n 0, 1, 0, 0, 0, []), (.getfield 60, 3, 6, 7, 0, []), (.ifCond .le 11, 3, 99, 0, 0, []), (.bipush (-10), 2, 0, 0, 0, []), (.aload_n 0, 1, 0, 0, 0, []), (.getfield 66, 3, 6, 8, 0, []), (.isub, 1, 0, 0, 0, []), (.ireturn, 1, 0, 0, 0, [])]
def b_M_text_99 : List mRow := [(.iconst 0, 1, 0, 0, 0, []), (.istore_n 2, 1, 0, 0, 0, [])]
def b_M_text_101 : List mRow := [(.iload_n 2, 1, 0, 0, 0, []), (.bipush 85, 2, 0, 0, 0, []), (.if_icmp .ge 21, 3, 125, 0, 0, []), (.aload_n 0, 1, 0, 0, 0, []), (.getfield 7, 3, 6, 0, 1, []), (.iload_n 2, 1, 0, 0, 0, []), (.aload_n 0, 1, 0, 0, 0, []), (.getfield 13, 3, 6, 1, 1, []), (.iload_n 2, 1, 0, 0, 0, []), (.iaload, 1, 0, 0, 0, []), (.iastore, 1, 0, 0, 0, []), (.iinc 2 1, 3, 0, 0, 0, []), (.goto (-21), 3, 101, 0, 0, [])]
def b_M_text_125 : List mRow := [(.aload_n 0, 1, 0, 0, 0, []), (.iconst 0, 1, 0, 0, 0, []), (.putfield 125, 3, 6, 22, 0, []), (.aload_n 0, 1, 0, 0, 0, []), (.getfield 37, 3, 6, 26, 1, []), (.iconst 0, 1, 0, 0, 0, []), (.iconst 0, 1, 0, 0, 0, []), (.bastore, 1, 0, 0, 0, []), (.aload_n 0, 1, 0, 0, 0, []), (.getfield 37, 3, 6, 26, 1, []), (.iconst 1, 1, 0, 0, 0, []), (.iconst 0, 1, 0, 0, 0, []), (.bastore, 1, 0, 0, 0, []), (.iload_n 1, 1, 0, 0, 0, []), (.ireturn, 1, 0, 0, 0, [])]
def m_M_text : mMeth := ([(0, b_M_text_0), (24, b_M_text_24), (43, b_M_text_43), (47, b_M_text_47), (71, b_M_text_71), (99, b_M_text_99), (101, b_M_text_101), (125, b_M_text_125)], [(0, [0]), (24, [0, 1, 2]), (43, [0, 1]), (47, [0, 1]), (71, [0, 1]), (99, [0, 1]), (101, [0, 1, 2]), (125, [0, 1])])
def b_M_fault_0 : List mRow := [(.aload_n 0, 1, 0, 0, 0, []), (.getfield 122, 3, 6, 6, 0, []), (.ireturn, 1, 0, 0, 0, [])]
def m_M_fault : mMeth := ([(0, b_M_fault_0)], [(0, [0])])
def b_M_isLaw_0 : List mRow := [(.iload_n 1, 1, 0, 0, 0, []), (.i2l, 1, 0, 0, 0, []), (.lconst 0, 1, 0, 0, 0, []), (.aload_n 0, 1, 0, 0, 0, []), (.getfield 7, 3, 6, 0, 1, []), (.bipush 39, 2, 0, 0, 0, []), (.iaload, 1, 0, 0, 0, []), (.iconst 1, 1, 0, 0, 0, []), (.isub, 1, 0, 0, 0, []), (.i2l, 1, 0, 0, 0, []), (.invokestatic 52, 3, 115, 3, 1, []), (.ireturn, 1, 0, 0, 1, [])]
def m_M_isLaw : mMeth := ([(0, b_M_isLaw_0)], [(0, [0, 1])])
def b_M_isCell_0 : List mRow := [(.iload_n 0, 1, 0, 0, 0, []), (.i2l, 1, 0, 0, 0, []), (.lconst 0, 1, 0, 0, 0, []), (.ldc2_w 114, 3, 0, 0, 5, []), (.invokestatic 52, 3, 115, 3, 1, []), (.ifCond .eq 19, 3, 28, 0, 0, []), (.iload_n 1, 1, 0, 0, 0, []), (.i2l, 1, 0, 0, 0, []), (.lconst 0, 1, 0, 0, 0, []), (.ldc2_w 114, 3, 0, 0, 5, []), (.invokestatic 52, 3, 115, 3, 1, []), (.ifCond .eq 7, 3, 28, 0, 0, []), (.iconst 1, 1, 0, 0, 0, []), (.goto 4, 3, 29, 0, 0, [])]
def b_M_isCell_28 : List mRow := [(.iconst 0, 1, 0, 0, 0, [])]
def b_M_isCell_29 : List mRow := [(.ireturn, 1, 0, 0, 1, [])]
def m_M_isCell : mMeth := ([(0, b_M_isCell_0), (28, b_M_isCell_28), (29, b_M_isCell_29)], [(0, [0, 1]), (28, []), (29, [])])
def b_M_isColour_0 : List mRow := [(.iload_n 0, 1, 0, 0, 0, []), (.i2l, 1, 0, 0, 0, []), (.lconst 1, 1, 0, 0, 0, []), (.ldc2_w 128, 3, 0, 0, 3, []), (.invokestatic 52, 3, 115, 3, 1, []), (.ireturn, 1, 0, 0, 1, [])]
def m_M_isColour : mMeth := ([(0, b_M_isColour_0)], [(0, [0])])
def b_M_besideOn_0 : List mRow := [(.iconst 0, 1, 0, 0, 0, []), (.istore 4, 2, 0, 0, 0, []), (.iconst 0, 1, 0, 0, 0, []), (.istore 5, 2, 0, 0, 0, [])]
def b_M_besideOn_6 : List mRow := [(.iload 5, 2, 0, 0, 0, []), (.bipush 30, 2, 0, 0, 0, []), (.if_icmp .ge 48, 3, 58, 0, 0, []), (.iload 4, 2, 0, 0, 0, []), (.aload_n 0, 1, 0, 0, 0, []), (.getfield 7, 3, 6, 0, 1, []), (.iload_n 1, 1, 0, 0, 0, []), (.iload 5, 2, 0, 0, 0, []), (.iadd, 1, 0, 0, 0, []), (.iaload, 1, 0, 0, 0, []), (.iload_n 2, 1, 0, 0, 0, []), (.if_icmp .ne 23, 3, 48, 0, 0, []), (.aload_n 0, 1, 0, 0, 0, []), (.getfield 7, 3, 6, 0, 1, []), (.iload_n 1, 1, 0, 0, 0, []), (.iload 5, 2, 0, 0, 0, []), (.iadd, 1, 0, 0, 0, []), (.bipush 6, 2, 0, 0, 0, []), (.iadd, 1, 0, 0, 0, []), (.iaload, 1, 0, 0, 0, []), (.iload_n 3, 1, 0, 0, 0, []), (.if_icmp .ne 7, 3, 48, 0, 0, []), (.iconst 1, 1, 0, 0, 0, []), (.goto 4, 3, 49, 0, 0, [])]
def b_M_besideOn_48 : List mRow := [(.iconst 0, 1, 0, 0, 0, [])]
def b_M_besideOn_49 : List mRow := [(.iadd, 1, 0, 0, 0, []), (.istore 4, 2, 0, 0, 0, []), (.iinc 5 1, 3, 0, 0, 0, []), (.goto (-49), 3, 6, 0, 0, [])]
def b_M_besideOn_58 : List mRow := [(.iload 4, 2, 0, 0, 0, []), (.ireturn, 1, 0, 0, 0, [])]
def m_M_besideOn : mMeth := ([(0, b_M_besideOn_0), (6, b_M_besideOn_6), (48, b_M_besideOn_48), (49, b_M_besideOn_49), (58, b_M_besideOn_58)], [(0, [0, 1, 2, 3]), (6, [0, 1, 2, 3, 4, 5]), (48, [0, 1, 2, 3, 5]), (49, [0, 1, 2, 3, 5]), (58, [4])])
def b_M_aboveOn_0 : List mRow := [(.iconst 0, 1, 0, 0, 0, []), (.istore 4, 2, 0, 0, 0, []), (.iconst 0, 1, 0, 0, 0, []), (.istore 5, 2, 0, 0, 0, [])]
def b_M_aboveOn_6 : List mRow := [(.iload 5, 2, 0, 0, 0, []), (.bipush 36, 2, 0, 0, 0, []), (.if_icmp .ge 56, 3, 66, 0, 0, []), (.iload 4, 2, 0, 0, 0, []), (.iload 5, 2, 0, 0, 0, []), (.bipush 6, 2, 0, 0, 0, []), (.irem, 1, 0, 0, 0, []), (.iconst 5, 1, 0, 0, 0, []), (.if_icmp .ge 35, 3, 56, 0, 0, []), (.aload_n 0, 1, 0, 0, 0, []), (.getfield 7, 3, 6, 0, 1, []), (.iload_n 1, 1, 0, 0, 0, []), (.iload 5, 2, 0, 0, 0, []), (.iadd, 1, 0, 0, 0, []), (.iaload, 1, 0, 0, 0, []), (.iload_n 2, 1, 0, 0, 0, []), (.if_icmp .ne 22, 3, 56, 0, 0, []), (.aload_n 0, 1, 0, 0, 0, []), (.getfield 7, 3, 6, 0, 1, []), (.iload_n 1, 1, 0, 0, 0, []), (.iload 5, 2, 0, 0, 0, []), (.iadd, 1, 0, 0, 0, []), (.iconst 1, 1, 0, 0, 0, []), (.iadd, 1, 0, 0, 0, []), (.iaload, 1, 0, 0, 0, []), (.iload_n 3, 1, 0, 0, 0, []), (.if_icmp .ne 7, 3, 56, 0, 0, []), (.iconst 1, 1, 0, 0, 0, []), (.goto 4, 3, 57, 0, 0, [])]
def b_M_aboveOn_56 : List mRow := [(.iconst 0, 1, 0, 0, 0, [])]
def b_M_aboveOn_57 : List mRow := [(.iadd, 1, 0, 0, 0, []), (.istore 4, 2, 0, 0, 0, []), (.iinc 5 1, 3, 0, 0, 0, []), (.goto (-57), 3, 6, 0, 0, [])]
def b_M_aboveOn_66 : List mRow := [(.iload 4, 2, 0, 0, 0, []), (.ireturn, 1, 0, 0, 0, [])]
def m_M_aboveOn : mMeth := ([(0, b_M_aboveOn_0), (6, b_M_aboveOn_6), (56, b_M_aboveOn_56), (57, b_M_aboveOn_57), (66, b_M_aboveOn_66)], [(0, [0, 1, 2, 3]), (6, [0, 1, 2, 3, 4, 5]), (56, [0, 1, 2, 3, 5]), (57, [0, 1, 2, 3, 5]), (66, [4])])
def b_M_readsOn_0 : List mRow := [(.aload_n 0, 1, 0, 0, 0, []), (.getfield 7, 3, 6, 0, 1, []), (.iload_n 1, 1, 0, 0, 0, []), (.bipush 40, 2, 0, 0, 0, []), (.iadd, 1, 0, 0, 0, []), (.iload_n 2, 1, 0, 0, 0, []), (.iadd, 1, 0, 0, 0, []), (.iaload, 1, 0, 0, 0, []), (.istore 4, 2, 0, 0, 0, []), (.aload_n 0, 1, 0, 0, 0, []), (.getfield 7, 3, 6, 0, 1, []), (.iload_n 1, 1, 0, 0, 0, []), (.bipush 45, 2, 0, 0, 0, []), (.iadd, 1, 0, 0, 0, []), (.iload_n 2, 1, 0, 0, 0, []), (.iadd, 1, 0, 0, 0, []), (.iaload, 1, 0, 0, 0, []), (.istore 5, 2, 0, 0, 0, []), (.aload_n 0, 1, 0, 0, 0, []), (.getfield 7, 3, 6, 0, 1, []), (.iload_n 1, 1, 0, 0, 0, []), (.bipush 50, 2, 0, 0, 0, []), (.iadd, 1, 0, 0, 0, []), (.iload_n 2, 1, 0, 0, 0, []), (.iadd, 1, 0, 0, 0, []), (.iaload, 1, 0, 0, 0, []), (.istore 6, 2, 0, 0, 0, []), (.iload 4, 2, 0, 0, 0, []), (.iconst 1, 1, 0, 0, 0, []), (.if_icmp .ne 7, 3, 49, 0, 0, []), (.iconst 1, 1, 0, 0, 0, []), (.goto 4, 3, 50, 0, 0, [])]
def b_M_readsOn_49 : List mRow := [(.iconst 0, 1, 0, 0, 0, [])]
def b_M_readsOn_50 : List mRow := [(.iload_n 3, 1, 0, 0, 0, []), (.if_icmp .eq 7, 3, 58, 0, 0, []), (.iconst 1, 1, 0, 0, 0, []), (.goto 4, 3, 59, 0, 0, [])]
def b_M_readsOn_58 : List mRow := [(.iconst 0, 1, 0, 0, 0, [])]
def b_M_readsOn_59 : List mRow := [(.istore 7, 2, 0, 0, 0, []), (.iload 4, 2, 0, 0, 0, []), (.iconst 2, 1, 0, 0, 0, []), (.if_icmp .ne 7, 3, 71, 0, 0, []), (.iconst 0, 1, 0, 0, 0, []), (.goto 29, 3, 97, 0, 0, [])]
def b_M_readsOn_71 : List mRow := [(.iload 7, 2, 0, 0, 0, []), (.ifCond .eq 15, 3, 88, 0, 0, []), (.aload_n 0, 1, 0, 0, 0, []), (.iload_n 1, 1, 0, 0, 0, []), (.iload 6, 2, 0, 0, 0, []), (.iload 5, 2, 0, 0, 0, []), (.invokevirtual 130, 3, 131, 4, 1, [9]), (.goto 12, 3, 97, 0, 0, [])]
def b_M_readsOn_88 : List mRow := [(.aload_n 0, 1, 0, 0, 0, []), (.iload_n 1, 1, 0, 0, 0, []), (.iload 5, 2, 0, 0, 0, []), (.iload 6, 2, 0, 0, 0, []), (.invokevirtual 130, 3, 131, 4, 1, [9])]
def b_M_readsOn_97 : List mRow := [(.istore 8, 2, 0, 0, 0, []), (.iload 8, 2, 0, 0, 0, []), (.iload 4, 2, 0, 0, 0, []), (.iconst 1, 1, 0, 0, 0, []), (.if_icmp .le 15, 3, 119, 0, 0, []), (.aload_n 0, 1, 0, 0, 0, []), (.iload_n 1, 1, 0, 0, 0, []), (.iload 5, 2, 0, 0, 0, []), (.iload 6, 2, 0, 0, 0, []), (.invokevirtual 133, 3, 132, 4, 1, [9]), (.goto 4, 3, 120, 0, 0, [])]
def b_M_readsOn_119 : List mRow := [(.iconst 0, 1, 0, 0, 0, [])]
def b_M_readsOn_120 : List mRow := [(.iadd, 1, 0, 0, 0, []), (.ireturn, 1, 0, 0, 0, [])]
def m_M_readsOn : mMeth := ([(0, b_M_readsOn_0), (49, b_M_readsOn_49), (50, b_M_readsOn_50), (58, b_M_readsOn_58), (59, b_M_readsOn_59), (71, b_M_readsOn_71), (88, b_M_readsOn_88), (97, b_M_readsOn_97), (119, b_M_readsOn_119), (120, b_M_readsOn_120)], [(0, [0, 1, 2, 3]), (49, [0, 1, 3, 4, 5, 6]), (50, [0, 1, 3, 4, 5, 6]), (58, [0, 1, 4, 5, 6]), (59, [0, 1, 4, 5, 6]), (71, [0, 1, 4, 5, 6, 7]), (88, [0, 1, 4, 5, 6]), (97, [0, 1, 4, 5, 6]), (119, []), (120, [])])
def b_M_worthOn_0 : List mRow := [(.iconst 0, 1, 0, 0, 0, []), (.istore_n 2, 1, 0, 0, 0, []), (.iconst 0, 1, 0, 0, 0, []), (.istore_n 3, 1, 0, 0, 0, [])]
def b_M_worthOn_4 : List mRow := [(.iload_n 3, 1, 0, 0, 0, []), (.aload_n 0, 1, 0, 0, 0, []), (.getfield 7, 3, 6, 0, 1, []), (.iload_n 1, 1, 0, 0, 0, []), (.bipush 39, 2, 0, 0, 0, []), (.iadd, 1, 0, 0, 0, []), (.iaload, 1, 0, 0, 0, []), (.if_icmp .ge 31, 3, 45, 0, 0, []), (.iload_n 2, 1, 0, 0, 0, []), (.aload_n 0, 1, 0, 0, 0, []), (.getfield 7, 3, 6, 0, 1, []), (.iload_n 1, 1, 0, 0, 0, []), (.bipush 55, 2, 0, 0, 0, []), (.iadd, 1, 0, 0, 0, []), (.iload_n 3, 1, 0, 0, 0, []), (.iadd, 1, 0, 0, 0, []), (.iaload, 1, 0, 0, 0, []), (.aload_n 0, 1, 0, 0, 0, []), (.iload_n 1, 1, 0, 0, 0, []), (.iload_n 3, 1, 0, 0, 0, []), (.iconst 0, 1, 0, 0, 0, []), (.invokevirtual 136, 3, 133, 4, 1, [9]), (.imul, 1, 0, 0, 0, []), (.iadd, 1, 0, 0, 0, []), (.istore_n 2, 1, 0, 0, 0, []), (.iinc 3 1, 3, 0, 0, 0, []), (.goto (-38), 3, 4, 0, 0, [])]
def b_M_worthOn_45 : List mRow := [(.iload_n 2, 1, 0, 0, 0, []), (.ireturn, 1, 0, 0, 0, [])]
def m_M_worthOn : mMeth := ([(0, b_M_worthOn_0), (4, b_M_worthOn_4), (45, b_M_worthOn_45)], [(0, [0, 1]), (4, [0, 1, 2, 3]), (45, [2])])
def b_M_heldOn_0 : List mRow := [(.iconst 0, 1, 0, 0, 0, []), (.istore_n 2, 1, 0, 0, 0, []), (.iconst 0, 1, 0, 0, 0, []), (.istore_n 3, 1, 0, 0, 0, [])]
def b_M_heldOn_4 : List mRow := [(.iload_n 3, 1, 0, 0, 0, []), (.aload_n 0, 1, 0, 0, 0, []), (.getfield 7, 3, 6, 0, 1, []), (.iload_n 1, 1, 0, 0, 0, []), (.bipush 39, 2, 0, 0, 0, []), (.iadd, 1, 0, 0, 0, []), (.iaload, 1, 0, 0, 0, []), (.if_icmp .ge 29, 3, 43, 0, 0, []), (.iload_n 2, 1, 0, 0, 0, []), (.aload_n 0, 1, 0, 0, 0, []), (.iload_n 1, 1, 0, 0, 0, []), (.iload_n 3, 1, 0, 0, 0, []), (.iconst 0, 1, 0, 0, 0, []), (.invokevirtual 136, 3, 133, 4, 1, [9]), (.ifCond .le 9, 3, 34, 0, 0, []), (.iconst 1, 1, 0, 0, 0, []), (.iload_n 3, 1, 0, 0, 0, []), (.ishl, 1, 0, 0, 0, []), (.goto 4, 3, 35, 0, 0, [])]
def b_M_heldOn_34 : List mRow := [(.iconst 0, 1, 0, 0, 0, [])]
def b_M_heldOn_35 : List mRow := [(.ior, 1, 0, 0, 0, []), (.istore_n 2, 1, 0, 0, 0, []), (.iinc 3 1, 3, 0, 0, 0, []), (.goto (-36), 3, 4, 0, 0, [])]
def b_M_heldOn_43 : List mRow := [(.iload_n 2, 1, 0, 0, 0, []), (.ireturn, 1, 0, 0, 0, [])]
def m_M_heldOn : mMeth := ([(0, b_M_heldOn_0), (4, b_M_heldOn_4), (34, b_M_heldOn_34), (35, b_M_heldOn_35), (43, b_M_heldOn_43)], [(0, [0, 1]), (4, [0, 1, 2, 3]), (34, [0, 1, 3]), (35, [0, 1, 3]), (43, [2])])
def b_M_holesOn_0 : List mRow := [(.iconst 0, 1, 0, 0, 0, []), (.istore_n 2, 1, 0, 0, 0, []), (.iconst 0, 1, 0, 0, 0, []), (.istore_n 3, 1, 0, 0, 0, [])]
def b_M_holesOn_4 : List mRow := [(.iload_n 3, 1, 0, 0, 0, []), (.bipush 36, 2, 0, 0, 0, []), (.if_icmp .ge 29, 3, 36, 0, 0, []), (.iload_n 2, 1, 0, 0, 0, []), (.aload_n 0, 1, 0, 0, 0, []), (.getfield 7, 3, 6, 0, 1, []), (.iload_n 1, 1, 0, 0, 0, []), (.iload_n 3, 1, 0, 0, 0, []), (.iadd, 1, 0, 0, 0, []), (.iaload, 1, 0, 0, 0, []), (.iconst 4, 1, 0, 0, 0, []), (.if_icmp .ne 7, 3, 27, 0, 0, []), (.iconst 1, 1, 0, 0, 0, []), (.goto 4, 3, 28, 0, 0, [])]
def b_M_holesOn_27 : List mRow := [(.iconst 0, 1, 0, 0, 0, [])]
def b_M_holesOn_28 : List mRow := [(.iadd, 1, 0, 0, 0, []), (.istore_n 2, 1, 0, 0, 0, []), (.iinc 3 1, 3, 0, 0, 0, []), (.goto (-29), 3, 4, 0, 0, [])]
def b_M_holesOn_36 : List mRow := [(.iload_n 2, 1, 0, 0, 0, []), (.ireturn, 1, 0, 0, 0, [])]
def m_M_holesOn : mMeth := ([(0, b_M_holesOn_0), (4, b_M_holesOn_4), (27, b_M_holesOn_27), (28, b_M_holesOn_28), (36, b_M_holesOn_36)], [(0, [0, 1]), (4, [0, 1, 2, 3]), (27, [0, 1, 3]), (28, [0, 1, 3]), (36, [2])])
def b_M_rule_0 : List mRow := [(.iconst 0, 1, 0, 0, 0, []), (.istore_n 2, 1, 0, 0, 0, []), (.iconst 0, 1, 0, 0, 0, []), (.istore_n 3, 1, 0, 0, 0, [])]
def b_M_rule_4 : List mRow := [(.iload_n 3, 1, 0, 0, 0, []), (.bipush 36, 2, 0, 0, 0, []), (.if_icmp .ge 29, 3, 36, 0, 0, []), (.iload_n 2, 1, 0, 0, 0, []), (.aload_n 0, 1, 0, 0, 0, []), (.getfield 7, 3, 6, 0, 1, []), (.iload_n 3, 1, 0, 0, 0, []), (.iaload, 1, 0, 0, 0, []), (.invokestatic 140, 3, 130, 1, 1, []), (.ifCond .eq 7, 3, 27, 0, 0, []), (.iconst 1, 1, 0, 0, 0, []), (.goto 4, 3, 28, 0, 0, [])]
def b_M_rule_27 : List mRow := [(.iconst 0, 1, 0, 0, 0, [])]
def b_M_rule_28 : List mRow := [(.iadd, 1, 0, 0, 0, []), (.istore_n 2, 1, 0, 0, 0, []), (.iinc 3 1, 3, 0, 0, 0, []), (.goto (-29), 3, 4, 0, 0, [])]
def b_M_rule_36 : List mRow := [(.iload_n 1, 1, 0, 0, 0, []), (.tableswitch 75 0 5 #[39, 47, 49, 55, 63, 69], 39, 112, 0, 0, [76, 84, 86, 92, 100, 106])]
def b_M_rule_76 : List mRow := [(.aload_n 0, 1, 0, 0, 0, []), (.getfield 7, 3, 6, 0, 1, []), (.bipush 39, 2, 0, 0, 0, []), (.iaload, 1, 0, 0, 0, []), (.ireturn, 1, 0, 0, 0, [])]
def b_M_rule_84 : List mRow := [(.iload_n 2, 1, 0, 0, 0, []), (.ireturn, 1, 0, 0, 0, [])]
def b_M_rule_86 : List mRow := [(.aload_n 0, 1, 0, 0, 0, []), (.iconst 0, 1, 0, 0, 0, []), (.invokevirtual 144, 3, 136, 2, 1, [9]), (.ireturn, 1, 0, 0, 0, [])]
def b_M_rule_92 : List mRow := [(.aload_n 0, 1, 0, 0, 0, []), (.getfield 7, 3, 6, 0, 1, []), (.bipush 60, 2, 0, 0, 0, []), (.iaload, 1, 0, 0, 0, []), (.ireturn, 1, 0, 0, 0, [])]
def b_M_rule_100 : List mRow := [(.aload_n 0, 1, 0, 0, 0, []), (.iconst 0, 1, 0, 0, 0, []), (.invokevirtual 147, 3, 135, 2, 1, [9]), (.ireturn, 1, 0, 0, 0, [])]
def b_M_rule_106 : List mRow := [(.aload_n 0, 1, 0, 0, 0, []), (.iconst 0, 1, 0, 0, 0, []), (.invokevirtual 150, 3, 134, 2, 1, [9]), (.ireturn, 1, 0, 0, 0, [])]
def b_M_rule_112 : List mRow := [(.iconst (-1), 1, 0, 0, 0, []), (.ireturn, 1, 0, 0, 0, [])]
def m_M_rule : mMeth := ([(0, b_M_rule_0), (4, b_M_rule_4), (27, b_M_rule_27), (28, b_M_rule_28), (36, b_M_rule_36), (76, b_M_rule_76), (84, b_M_rule_84), (86, b_M_rule_86), (92, b_M_rule_92), (100, b_M_rule_100), (106, b_M_rule_106), (112, b_M_rule_112)], [(0, [0, 1]), (4, [0, 1, 2, 3]), (27, [0, 1, 3]), (28, [0, 1, 3]), (36, [0, 1, 2]), (76, [0]), (84, [2]), (86, [0]), (92, [0]), (100, [0]), (106, [0]), (112, [])])
def b_M_cell_0 : List mRow := [(.iload_n 1, 1, 0, 0, 0, []), (.iload_n 2, 1, 0, 0, 0, []), (.invokestatic 153, 3, 129, 2, 1, []), (.ifCond .eq 17, 3, 22, 0, 0, []), (.aload_n 0, 1, 0, 0, 0, []), (.getfield 7, 3, 6, 0, 1, []), (.bipush 6, 2, 0, 0, 0, []), (.iload_n 1, 1, 0, 0, 0, []), (.imul, 1, 0, 0, 0, []), (.iload_n 2, 1, 0, 0, 0, []), (.iadd, 1, 0, 0, 0, []), (.iaload, 1, 0, 0, 0, []), (.goto 4, 3, 23, 0, 0, [])]
def b_M_cell_22 : List mRow := [(.iconst (-1), 1, 0, 0, 0, [])]
def b_M_cell_23 : List mRow := [(.ireturn, 1, 0, 0, 0, [])]
def m_M_cell : mMeth := ([(0, b_M_cell_0), (22, b_M_cell_22), (23, b_M_cell_23)], [(0, [0, 1, 2]), (22, []), (23, [])])
def b_M_thread_0 : List mRow := [(.iload_n 1, 1, 0, 0, 0, []), (.invokestatic 140, 3, 130, 1, 1, []), (.ifCond .eq 20, 3, 24, 0, 0, []), (.aload_n 0, 1, 0, 0, 0, []), (.getfield 7, 3, 6, 0, 1, []), (.bipush 36, 2, 0, 0, 0, []), (.iload_n 1, 1, 0, 0, 0, []), (.iadd, 1, 0, 0, 0, []), (.iconst 1, 1, 0, 0, 0, []), (.isub, 1, 0, 0, 0, []), (.iaload, 1, 0, 0, 0, []), (.bipush 20, 2, 0, 0, 0, []), (.iadd, 1, 0, 0, 0, []), (.goto 4, 3, 25, 0, 0, [])]
def b_M_thread_24 : List mRow := [(.iconst (-1), 1, 0, 0, 0, [])]
def b_M_thread_25 : List mRow := [(.ireturn, 1, 0, 0, 0, [])]
def m_M_thread : mMeth := ([(0, b_M_thread_0), (24, b_M_thread_24), (25, b_M_thread_25)], [(0, [0, 1]), (24, []), (25, [])])
def b_M_law_0 : List mRow := [(.aload_n 0, 1, 0, 0, 0, []), (.iload_n 1, 1, 0, 0, 0, []), (.invokevirtual 157, 3, 128, 2, 1, [9]), (.ifCond .eq 15, 3, 20, 0, 0, []), (.iload_n 2, 1, 0, 0, 0, []), (.i2l, 1, 0, 0, 0, []), (.lconst 0, 1, 0, 0, 0, []), (.ldc2_w 114, 3, 0, 0, 5, []), (.invokestatic 52, 3, 115, 3, 1, []), (.ifCond .ne 5, 3, 22, 0, 0, [])]
def b_M_law_20 : List mRow := [(.iconst (-1), 1, 0, 0, 0, []), (.ireturn, 1, 0, 0, 0, [])]
def b_M_law_22 : List mRow := [(.iload_n 2, 1, 0, 0, 0, []), (.iconst 4, 1, 0, 0, 0, []), (.if_icmp .ge 19, 3, 43, 0, 0, []), (.aload_n 0, 1, 0, 0, 0, []), (.getfield 7, 3, 6, 0, 1, []), (.bipush 40, 2, 0, 0, 0, []), (.iconst 5, 1, 0, 0, 0, []), (.iload_n 2, 1, 0, 0, 0, []), (.imul, 1, 0, 0, 0, []), (.iadd, 1, 0, 0, 0, []), (.iload_n 1, 1, 0, 0, 0, []), (.iadd, 1, 0, 0, 0, []), (.iaload, 1, 0, 0, 0, []), (.goto 19, 3, 59, 0, 0, [])]
def b_M_law_43 : List mRow := [(.aload_n 0, 1, 0, 0, 0, []), (.iconst 0, 1, 0, 0, 0, []), (.iload_n 1, 1, 0, 0, 0, []), (.iload_n 2, 1, 0, 0, 0, []), (.iconst 5, 1, 0, 0, 0, []), (.if_icmp .ne 7, 3, 55, 0, 0, []), (.iconst 1, 1, 0, 0, 0, []), (.goto 4, 3, 56, 0, 0, [])]
def b_M_law_55 : List mRow := [(.iconst 0, 1, 0, 0, 0, [])]
def b_M_law_56 : List mRow := [(.invokevirtual 136, 3, 133, 4, 1, [9])]
def b_M_law_59 : List mRow := [(.ireturn, 1, 0, 0, 0, [])]
def m_M_law : mMeth := ([(0, b_M_law_0), (20, b_M_law_20), (22, b_M_law_22), (43, b_M_law_43), (55, b_M_law_55), (56, b_M_law_56), (59, b_M_law_59)], [(0, [0, 1, 2]), (20, []), (22, [0, 1, 2]), (43, [0, 1, 2]), (55, []), (56, []), (59, [])])
def b_M_stitch_0 : List mRow := [(.iload_n 1, 1, 0, 0, 0, []), (.i2l, 1, 0, 0, 0, []), (.lconst 0, 1, 0, 0, 0, []), (.aload_n 0, 1, 0, 0, 0, []), (.getfield 7, 3, 6, 0, 1, []), (.bipush 60, 2, 0, 0, 0, []), (.iaload, 1, 0, 0, 0, []), (.iconst 1, 1, 0, 0, 0, []), (.isub, 1, 0, 0, 0, []), (.i2l, 1, 0, 0, 0, []), (.invokestatic 52, 3, 115, 3, 1, []), (.ifCond .eq 31, 3, 47, 0, 0, []), (.iload_n 2, 1, 0, 0, 0, []), (.i2l, 1, 0, 0, 0, []), (.lconst 0, 1, 0, 0, 0, []), (.ldc2_w 160, 3, 0, 0, 2, []), (.invokestatic 52, 3, 115, 3, 1, []), (.ifCond .eq 19, 3, 47, 0, 0, []), (.aload_n 0, 1, 0, 0, 0, []), (.getfield 7, 3, 6, 0, 1, []), (.bipush 61, 2, 0, 0, 0, []), (.iconst 3, 1, 0, 0, 0, []), (.iload_n 1, 1, 0, 0, 0, []), (.imul, 1, 0, 0, 0, []), (.iadd, 1, 0, 0, 0, []), (.iload_n 2, 1, 0, 0, 0, []), (.iadd, 1, 0, 0, 0, []), (.iaload, 1, 0, 0, 0, []), (.goto 4, 3, 48, 0, 0, [])]
def b_M_stitch_47 : List mRow := [(.iconst (-1), 1, 0, 0, 0, [])]
def b_M_stitch_48 : List mRow := [(.ireturn, 1, 0, 0, 0, [])]
def m_M_stitch : mMeth := ([(0, b_M_stitch_0), (47, b_M_stitch_47), (48, b_M_stitch_48)], [(0, [0, 1, 2]), (47, []), (48, [])])
def b_M_puts_0 : List mRow := [(.iload_n 1, 1, 0, 0, 0, []), (.ifCond .ne 5, 3, 6, 0, 0, []), (.iconst (-1), 1, 0, 0, 0, []), (.ireturn, 1, 0, 0, 0, [])]
def b_M_puts_6 : List mRow := [(.aload_n 0, 1, 0, 0, 0, []), (.getfield 7, 3, 6, 0, 1, []), (.iload_n 2, 1, 0, 0, 0, []), (.iaload, 1, 0, 0, 0, []), (.iload 4, 2, 0, 0, 0, []), (.iadd, 1, 0, 0, 0, []), (.istore 5, 2, 0, 0, 0, []), (.aload_n 0, 1, 0, 0, 0, []), (.getfield 7, 3, 6, 0, 1, []), (.iload_n 2, 1, 0, 0, 0, []), (.iload_n 3, 1, 0, 0, 0, []), (.iload 4, 2, 0, 0, 0, []), (.isub, 1, 0, 0, 0, []), (.iastore, 1, 0, 0, 0, []), (.iload 5, 2, 0, 0, 0, []), (.ireturn, 1, 0, 0, 0, [])]
def m_M_puts : mMeth := ([(0, b_M_puts_0), (6, b_M_puts_6)], [(0, [0, 1, 2, 3, 4]), (6, [0, 2, 3, 4])])
def b_M_amend_0 : List mRow := [(.iload_n 2, 1, 0, 0, 0, []), (.ifCond .ne 15, 3, 16, 0, 0, []), (.iload_n 3, 1, 0, 0, 0, []), (.i2l, 1, 0, 0, 0, []), (.lconst 0, 1, 0, 0, 0, []), (.ldc2_w 128, 3, 0, 0, 3, []), (.invokestatic 52, 3, 115, 3, 1, []), (.goto 24, 3, 37, 0, 0, [])]
def b_M_amend_16 : List mRow := [(.iload_n 2, 1, 0, 0, 0, []), (.iconst 3, 1, 0, 0, 0, []), (.if_icmp .ne 15, 3, 33, 0, 0, []), (.iload_n 3, 1, 0, 0, 0, []), (.i2l, 1, 0, 0, 0, []), (.lconst 1, 1, 0, 0, 0, []), (.ldc2_w 162, 3, 0, 0, 9, []), (.invokestatic 52, 3, 115, 3, 1, []), (.goto 7, 3, 37, 0, 0, [])]
def b_M_amend_33 : List mRow := [(.iload_n 3, 1, 0, 0, 0, []), (.invokestatic 140, 3, 130, 1, 1, [])]
def b_M_amend_37 : List mRow := [(.istore 4, 2, 0, 0, 0, []), (.aload_n 0, 1, 0, 0, 0, []), (.aload_n 0, 1, 0, 0, 0, []), (.iload_n 1, 1, 0, 0, 0, []), (.invokevirtual 157, 3, 128, 2, 1, [9]), (.ifCond .eq 24, 3, 69, 0, 0, []), (.iload_n 2, 1, 0, 0, 0, []), (.i2l, 1, 0, 0, 0, []), (.lconst 0, 1, 0, 0, 0, []), (.ldc2_w 128, 3, 0, 0, 3, []), (.invokestatic 52, 3, 115, 3, 1, []), (.ifCond .eq 12, 3, 69, 0, 0, []), (.iload 4, 2, 0, 0, 0, []), (.ifCond .eq 7, 3, 69, 0, 0, []), (.iconst 1, 1, 0, 0, 0, []), (.goto 4, 3, 70, 0, 0, [])]
def b_M_amend_69 : List mRow := [(.iconst 0, 1, 0, 0, 0, [])]
def b_M_amend_70 : List mRow := [(.bipush 40, 2, 0, 0, 0, []), (.iconst 5, 1, 0, 0, 0, []), (.iload_n 2, 1, 0, 0, 0, []), (.imul, 1, 0, 0, 0, []), (.iadd, 1, 0, 0, 0, []), (.iload_n 1, 1, 0, 0, 0, []), (.iadd, 1, 0, 0, 0, []), (.iload_n 3, 1, 0, 0, 0, []), (.iconst 0, 1, 0, 0, 0, []), (.invokevirtual 164, 3, 142, 5, 1, [9]), (.ireturn, 1, 0, 0, 0, [])]
def m_M_amend : mMeth := ([(0, b_M_amend_0), (16, b_M_amend_16), (33, b_M_amend_33), (37, b_M_amend_37), (69, b_M_amend_69), (70, b_M_amend_70)], [(0, [0, 1, 2, 3]), (16, [0, 1, 2, 3]), (33, [0, 1, 2, 3]), (37, [0, 1, 2, 3]), (69, [1, 2, 3]), (70, [1, 2, 3])])
def b_M_spool_0 : List mRow := [(.aload_n 0, 1, 0, 0, 0, []), (.iload_n 1, 1, 0, 0, 0, []), (.invokestatic 140, 3, 130, 1, 1, []), (.ifCond .eq 19, 3, 24, 0, 0, []), (.iload_n 2, 1, 0, 0, 0, []), (.i2l, 1, 0, 0, 0, []), (.lconst 0, 1, 0, 0, 0, []), (.ldc2_w 168, 3, 0, 0, 99, []), (.invokestatic 52, 3, 115, 3, 1, []), (.ifCond .eq 7, 3, 24, 0, 0, []), (.iconst 1, 1, 0, 0, 0, []), (.goto 4, 3, 25, 0, 0, [])]
def b_M_spool_24 : List mRow := [(.iconst 0, 1, 0, 0, 0, [])]
def b_M_spool_25 : List mRow := [(.bipush 36, 2, 0, 0, 0, []), (.iload_n 1, 1, 0, 0, 0, []), (.iadd, 1, 0, 0, 0, []), (.iconst 1, 1, 0, 0, 0, []), (.isub, 1, 0, 0, 0, []), (.iload_n 2, 1, 0, 0, 0, []), (.bipush 20, 2, 0, 0, 0, []), (.invokevirtual 164, 3, 142, 5, 1, [9]), (.ireturn, 1, 0, 0, 0, [])]
def m_M_spool : mMeth := ([(0, b_M_spool_0), (24, b_M_spool_24), (25, b_M_spool_25)], [(0, [0, 1, 2]), (24, [1, 2]), (25, [1, 2])])
def b_M_plan_0 : List mRow := [(.iload_n 1, 1, 0, 0, 0, []), (.iload_n 2, 1, 0, 0, 0, []), (.invokestatic 153, 3, 129, 2, 1, []), (.ifCond .eq 10, 3, 15, 0, 0, []), (.iload_n 3, 1, 0, 0, 0, []), (.invokestatic 140, 3, 130, 1, 1, []), (.ifCond .ne 5, 3, 17, 0, 0, [])]
def b_M_plan_15 : List mRow := [(.iconst (-1), 1, 0, 0, 0, []), (.ireturn, 1, 0, 0, 0, [])]
def b_M_plan_17 : List mRow := [(.aload_n 0, 1, 0, 0, 0, []), (.getfield 7, 3, 6, 0, 1, []), (.bipush 60, 2, 0, 0, 0, []), (.iaload, 1, 0, 0, 0, []), (.bipush 8, 2, 0, 0, 0, []), (.if_icmp .ne 6, 3, 32, 0, 0, []), (.bipush (-3), 2, 0, 0, 0, []), (.ireturn, 1, 0, 0, 0, [])]
def b_M_plan_32 : List mRow := [(.bipush 61, 2, 0, 0, 0, []), (.iconst 3, 1, 0, 0, 0, []), (.aload_n 0, 1, 0, 0, 0, []), (.getfield 7, 3, 6, 0, 1, []), (.bipush 60, 2, 0, 0, 0, []), (.iaload, 1, 0, 0, 0, []), (.imul, 1, 0, 0, 0, []), (.iadd, 1, 0, 0, 0, []), (.istore 4, 2, 0, 0, 0, []), (.aload_n 0, 1, 0, 0, 0, []), (.getfield 7, 3, 6, 0, 1, []), (.iload 4, 2, 0, 0, 0, []), (.iload_n 1, 1, 0, 0, 0, []), (.iastore, 1, 0, 0, 0, []), (.aload_n 0, 1, 0, 0, 0, []), (.getfield 7, 3, 6, 0, 1, []), (.iload 4, 2, 0, 0, 0, []), (.iconst 1, 1, 0, 0, 0, []), (.iadd, 1, 0, 0, 0, []), (.iload_n 2, 1, 0, 0, 0, []), (.iastore, 1, 0, 0, 0, []), (.aload_n 0, 1, 0, 0, 0, []), (.getfield 7, 3, 6, 0, 1, []), (.iload 4, 2, 0, 0, 0, []), (.iconst 2, 1, 0, 0, 0, []), (.iadd, 1, 0, 0, 0, []), (.iload_n 3, 1, 0, 0, 0, []), (.iastore, 1, 0, 0, 0, []), (.aload_n 0, 1, 0, 0, 0, []), (.getfield 7, 3, 6, 0, 1, []), (.bipush 60, 2, 0, 0, 0, []), (.dup2, 1, 0, 0, 0, []), (.iaload, 1, 0, 0, 0, []), (.iconst 1, 1, 0, 0, 0, []), (.iadd, 1, 0, 0, 0, []), (.iastore, 1, 0, 0, 0, []), (.aload_n 0, 1, 0, 0, 0, []), (.getfield 7, 3, 6, 0, 1, []), (.bipush 60, 2, 0, 0, 0, []), (.iaload, 1, 0, 0, 0, []), (.ireturn, 1, 0, 0, 0, [])]
def m_M_plan : mMeth := ([(0, b_M_plan_0), (15, b_M_plan_15), (17, b_M_plan_17), (32, b_M_plan_32)], [(0, [0, 1, 2, 3]), (15, []), (17, [0, 1, 2, 3]), (32, [0, 1, 2, 3])])
def b_M_cut_0 : List mRow := [(.aload_n 0, 1, 0, 0, 0, []), (.iload_n 1, 1, 0, 0, 0, []), (.i2l, 1, 0, 0, 0, []), (.lconst 0, 1, 0, 0, 0, []), (.aload_n 0, 1, 0, 0, 0, []), (.getfield 7, 3, 6, 0, 1, []), (.bipush 60, 2, 0, 0, 0, []), (.iaload, 1, 0, 0, 0, []), (.i2l, 1, 0, 0, 0, []), (.invokestatic 52, 3, 115, 3, 1, []), (.bipush 60, 2, 0, 0, 0, []), (.iload_n 1, 1, 0, 0, 0, []), (.iconst 0, 1, 0, 0, 0, []), (.invokevirtual 164, 3, 142, 5, 1, [9]), (.ireturn, 1, 0, 0, 0, [])]
def m_M_cut : mMeth := ([(0, b_M_cut_0)], [(0, [0, 1])])
def b_M_enact_0 : List mRow := [(.iload_n 1, 1, 0, 0, 0, []), (.i2l, 1, 0, 0, 0, []), (.lconst 0, 1, 0, 0, 0, []), (.ldc2_w 128, 3, 0, 0, 3, []), (.invokestatic 52, 3, 115, 3, 1, []), (.ifCond .eq 30, 3, 39, 0, 0, []), (.iload_n 2, 1, 0, 0, 0, []), (.invokestatic 140, 3, 130, 1, 1, []), (.ifCond .eq 23, 3, 39, 0, 0, []), (.iload_n 3, 1, 0, 0, 0, []), (.invokestatic 140, 3, 130, 1, 1, []), (.ifCond .eq 16, 3, 39, 0, 0, []), (.iload 4, 2, 0, 0, 0, []), (.i2l, 1, 0, 0, 0, []), (.lconst 1, 1, 0, 0, 0, []), (.ldc2_w 162, 3, 0, 0, 9, []), (.invokestatic 52, 3, 115, 3, 1, []), (.ifCond .ne 5, 3, 41, 0, 0, [])]
def b_M_enact_39 : List mRow := [(.iconst (-1), 1, 0, 0, 0, []), (.ireturn, 1, 0, 0, 0, [])]
def b_M_enact_41 : List mRow := [(.aload_n 0, 1, 0, 0, 0, []), (.getfield 7, 3, 6, 0, 1, []), (.bipush 39, 2, 0, 0, 0, []), (.iaload, 1, 0, 0, 0, []), (.istore 5, 2, 0, 0, 0, []), (.iload 5, 2, 0, 0, 0, []), (.iconst 5, 1, 0, 0, 0, []), (.if_icmp .ne 6, 3, 59, 0, 0, []), (.bipush (-3), 2, 0, 0, 0, []), (.ireturn, 1, 0, 0, 0, [])]
def b_M_enact_59 : List mRow := [(.aload_n 0, 1, 0, 0, 0, []), (.getfield 7, 3, 6, 0, 1, []), (.bipush 40, 2, 0, 0, 0, []), (.iload 5, 2, 0, 0, 0, []), (.iadd, 1, 0, 0, 0, []), (.iload_n 1, 1, 0, 0, 0, []), (.iastore, 1, 0, 0, 0, []), (.aload_n 0, 1, 0, 0, 0, []), (.getfield 7, 3, 6, 0, 1, []), (.bipush 45, 2, 0, 0, 0, []), (.iload 5, 2, 0, 0, 0, []), (.iadd, 1, 0, 0, 0, []), (.iload_n 2, 1, 0, 0, 0, []), (.iastore, 1, 0, 0, 0, []), (.aload_n 0, 1, 0, 0, 0, []), (.getfield 7, 3, 6, 0, 1, []), (.bipush 50, 2, 0, 0, 0, []), (.iload 5, 2, 0, 0, 0, []), (.iadd, 1, 0, 0, 0, []), (.iload_n 3, 1, 0, 0, 0, []), (.iastore, 1, 0, 0, 0, []), (.aload_n 0, 1, 0, 0, 0, []), (.getfield 7, 3, 6, 0, 1, []), (.bipush 55, 2, 0, 0, 0, []), (.iload 5, 2, 0, 0, 0, []), (.iadd, 1, 0, 0, 0, []), (.iload 4, 2, 0, 0, 0, []), (.iastore, 1, 0, 0, 0, []), (.aload_n 0, 1, 0, 0, 0, []), (.getfield 7, 3, 6, 0, 1, []), (.bipush 39, 2, 0, 0, 0, []), (.dup2, 1, 0, 0, 0, []), (.iaload, 1, 0, 0, 0, []), (.iconst 1, 1, 0, 0, 0, []), (.iadd, 1, 0, 0, 0, []), (.iastore, 1, 0, 0, 0, []), (.aload_n 0, 1, 0, 0, 0, []), (.getfield 7, 3, 6, 0, 1, []), (.bipush 39, 2, 0, 0, 0, []), (.iaload, 1, 0, 0, 0, []), (.ireturn, 1, 0, 0, 0, [])]
def m_M_enact : mMeth := ([(0, b_M_enact_0), (39, b_M_enact_39), (41, b_M_enact_41), (59, b_M_enact_59)], [(0, [0, 1, 2, 3, 4]), (39, []), (41, [0, 1, 2, 3, 4]), (59, [0, 1, 2, 3, 4, 5])])
def b_M_stitchesOn_0 : List mRow := [(.aload_n 0, 1, 0, 0, 0, []), (.getfield 7, 3, 6, 0, 1, []), (.iload_n 1, 1, 0, 0, 0, []), (.iload_n 2, 1, 0, 0, 0, []), (.iadd, 1, 0, 0, 0, []), (.iaload, 1, 0, 0, 0, []), (.ifCond .ne 26, 3, 34, 0, 0, []), (.aload_n 0, 1, 0, 0, 0, []), (.getfield 7, 3, 6, 0, 1, []), (.iload_n 1, 1, 0, 0, 0, []), (.bipush 36, 2, 0, 0, 0, []), (.iadd, 1, 0, 0, 0, []), (.iload_n 3, 1, 0, 0, 0, []), (.iadd, 1, 0, 0, 0, []), (.iconst 1, 1, 0, 0, 0, []), (.isub, 1, 0, 0, 0, []), (.iaload, 1, 0, 0, 0, []), (.bipush 20, 2, 0, 0, 0, []), (.iadd, 1, 0, 0, 0, []), (.ifCond .le 7, 3, 34, 0, 0, []), (.iconst 1, 1, 0, 0, 0, []), (.goto 4, 3, 35, 0, 0, [])]
def b_M_stitchesOn_34 : List mRow := [(.iconst 0, 1, 0, 0, 0, [])]
def b_M_stitchesOn_35 : List mRow := [(.istore 4, 2, 0, 0, 0, []), (.iload 4, 2, 0, 0, 0, []), (.ifCond .eq 29, 3, 68, 0, 0, []), (.aload_n 0, 1, 0, 0, 0, []), (.getfield 7, 3, 6, 0, 1, []), (.iload_n 1, 1, 0, 0, 0, []), (.iload_n 2, 1, 0, 0, 0, []), (.iadd, 1, 0, 0, 0, []), (.iload_n 3, 1, 0, 0, 0, []), (.iastore, 1, 0, 0, 0, []), (.aload_n 0, 1, 0, 0, 0, []), (.getfield 7, 3, 6, 0, 1, []), (.iload_n 1, 1, 0, 0, 0, []), (.bipush 36, 2, 0, 0, 0, []), (.iadd, 1, 0, 0, 0, []), (.iload_n 3, 1, 0, 0, 0, []), (.iadd, 1, 0, 0, 0, []), (.iconst 1, 1, 0, 0, 0, []), (.isub, 1, 0, 0, 0, []), (.dup2, 1, 0, 0, 0, []), (.iaload, 1, 0, 0, 0, []), (.iconst 1, 1, 0, 0, 0, []), (.isub, 1, 0, 0, 0, []), (.iastore, 1, 0, 0, 0, [])]
def b_M_stitchesOn_68 : List mRow := [(.iload 4, 2, 0, 0, 0, []), (.ireturn, 1, 0, 0, 1, [])]
def m_M_stitchesOn : mMeth := ([(0, b_M_stitchesOn_0), (34, b_M_stitchesOn_34), (35, b_M_stitchesOn_35), (68, b_M_stitchesOn_68)], [(0, [0, 1, 2, 3]), (34, [0, 1, 2, 3]), (35, [0, 1, 2, 3]), (68, [4])])
def b_M_works_0 : List mRow := [(.iload_n 1, 1, 0, 0, 0, []), (.iload_n 2, 1, 0, 0, 0, []), (.invokestatic 153, 3, 129, 2, 1, []), (.ifCond .eq 10, 3, 15, 0, 0, []), (.iload_n 3, 1, 0, 0, 0, []), (.invokestatic 140, 3, 130, 1, 1, []), (.ifCond .ne 5, 3, 17, 0, 0, [])]
def b_M_works_15 : List mRow := [(.iconst (-1), 1, 0, 0, 0, []), (.ireturn, 1, 0, 0, 0, [])]
def b_M_works_17 : List mRow := [(.aload_n 0, 1, 0, 0, 0, []), (.iconst 0, 1, 0, 0, 0, []), (.bipush 6, 2, 0, 0, 0, []), (.iload_n 1, 1, 0, 0, 0, []), (.imul, 1, 0, 0, 0, []), (.iload_n 2, 1, 0, 0, 0, []), (.iadd, 1, 0, 0, 0, []), (.iload_n 3, 1, 0, 0, 0, []), (.invokevirtual 170, 3, 148, 4, 1, [9]), (.ifCond .eq 11, 3, 40, 0, 0, []), (.aload_n 0, 1, 0, 0, 0, []), (.iconst 0, 1, 0, 0, 0, []), (.invokevirtual 150, 3, 134, 2, 1, [9]), (.goto 5, 3, 42, 0, 0, [])]
def b_M_works_40 : List mRow := [(.bipush (-2), 2, 0, 0, 0, [])]
def b_M_works_42 : List mRow := [(.ireturn, 1, 0, 0, 0, [])]
def m_M_works : mMeth := ([(0, b_M_works_0), (15, b_M_works_15), (17, b_M_works_17), (40, b_M_works_40), (42, b_M_works_42)], [(0, [0, 1, 2, 3]), (15, []), (17, [0, 1, 2, 3]), (40, []), (42, [])])
def b_M_work_0 : List mRow := [(.aload_n 0, 1, 0, 0, 0, []), (.iload_n 1, 1, 0, 0, 0, []), (.iload_n 2, 1, 0, 0, 0, []), (.iload_n 3, 1, 0, 0, 0, []), (.invokevirtual 174, 3, 149, 4, 1, [9]), (.ireturn, 1, 0, 0, 0, [])]
def m_M_work : mMeth := ([(0, b_M_work_0)], [(0, [0, 1, 2, 3])])
def b_M_unpick_0 : List mRow := [(.iload_n 1, 1, 0, 0, 0, []), (.iload_n 2, 1, 0, 0, 0, []), (.invokestatic 153, 3, 129, 2, 1, []), (.ifCond .ne 5, 3, 10, 0, 0, []), (.iconst (-1), 1, 0, 0, 0, []), (.ireturn, 1, 0, 0, 0, [])]
def b_M_unpick_10 : List mRow := [(.aload_n 0, 1, 0, 0, 0, []), (.getfield 7, 3, 6, 0, 1, []), (.bipush 6, 2, 0, 0, 0, []), (.iload_n 1, 1, 0, 0, 0, []), (.imul, 1, 0, 0, 0, []), (.iload_n 2, 1, 0, 0, 0, []), (.iadd, 1, 0, 0, 0, []), (.iaload, 1, 0, 0, 0, []), (.invokestatic 140, 3, 130, 1, 1, []), (.ifCond .eq 19, 3, 43, 0, 0, []), (.aload_n 0, 1, 0, 0, 0, []), (.iconst 1, 1, 0, 0, 0, []), (.bipush 6, 2, 0, 0, 0, []), (.iload_n 1, 1, 0, 0, 0, []), (.imul, 1, 0, 0, 0, []), (.iload_n 2, 1, 0, 0, 0, []), (.iadd, 1, 0, 0, 0, []), (.iconst 0, 1, 0, 0, 0, []), (.iconst 0, 1, 0, 0, 0, []), (.invokevirtual 164, 3, 142, 5, 1, [9]), (.goto 5, 3, 45, 0, 0, [])]
def b_M_unpick_43 : List mRow := [(.bipush (-2), 2, 0, 0, 0, [])]
def b_M_unpick_45 : List mRow := [(.ireturn, 1, 0, 0, 0, [])]
def m_M_unpick : mMeth := ([(0, b_M_unpick_0), (10, b_M_unpick_10), (43, b_M_unpick_43), (45, b_M_unpick_45)], [(0, [0, 1, 2]), (10, [0, 1, 2]), (43, []), (45, [])])
def b_M_moth_0 : List mRow := [(.iload_n 1, 1, 0, 0, 0, []), (.iload_n 2, 1, 0, 0, 0, []), (.invokestatic 153, 3, 129, 2, 1, []), (.ifCond .ne 5, 3, 10, 0, 0, []), (.iconst (-1), 1, 0, 0, 0, []), (.ireturn, 1, 0, 0, 0, [])]
def b_M_moth_10 : List mRow := [(.aload_n 0, 1, 0, 0, 0, []), (.getfield 7, 3, 6, 0, 1, []), (.bipush 6, 2, 0, 0, 0, []), (.iload_n 1, 1, 0, 0, 0, []), (.imul, 1, 0, 0, 0, []), (.iload_n 2, 1, 0, 0, 0, []), (.iadd, 1, 0, 0, 0, []), (.iaload, 1, 0, 0, 0, []), (.iconst 4, 1, 0, 0, 0, []), (.if_icmp .eq 19, 3, 41, 0, 0, []), (.aload_n 0, 1, 0, 0, 0, []), (.iconst 1, 1, 0, 0, 0, []), (.bipush 6, 2, 0, 0, 0, []), (.iload_n 1, 1, 0, 0, 0, []), (.imul, 1, 0, 0, 0, []), (.iload_n 2, 1, 0, 0, 0, []), (.iadd, 1, 0, 0, 0, []), (.iconst 4, 1, 0, 0, 0, []), (.iconst 0, 1, 0, 0, 0, []), (.invokevirtual 164, 3, 142, 5, 1, [9]), (.goto 5, 3, 43, 0, 0, [])]
def b_M_moth_41 : List mRow := [(.bipush (-2), 2, 0, 0, 0, [])]
def b_M_moth_43 : List mRow := [(.ireturn, 1, 0, 0, 0, [])]
def m_M_moth : mMeth := ([(0, b_M_moth_0), (10, b_M_moth_10), (41, b_M_moth_41), (43, b_M_moth_43)], [(0, [0, 1, 2]), (10, [0, 1, 2]), (41, []), (43, [])])
def b_M_mend_0 : List mRow := [(.iload_n 1, 1, 0, 0, 0, []), (.iload_n 2, 1, 0, 0, 0, []), (.invokestatic 153, 3, 129, 2, 1, []), (.ifCond .ne 5, 3, 10, 0, 0, []), (.iconst (-1), 1, 0, 0, 0, []), (.ireturn, 1, 0, 0, 0, [])]
def b_M_mend_10 : List mRow := [(.aload_n 0, 1, 0, 0, 0, []), (.getfield 7, 3, 6, 0, 1, []), (.bipush 6, 2, 0, 0, 0, []), (.iload_n 1, 1, 0, 0, 0, []), (.imul, 1, 0, 0, 0, []), (.iload_n 2, 1, 0, 0, 0, []), (.iadd, 1, 0, 0, 0, []), (.iaload, 1, 0, 0, 0, []), (.iconst 4, 1, 0, 0, 0, []), (.if_icmp .eq 6, 3, 28, 0, 0, []), (.bipush (-2), 2, 0, 0, 0, []), (.ireturn, 1, 0, 0, 0, [])]
def b_M_mend_28 : List mRow := [(.aload_n 0, 1, 0, 0, 0, []), (.getfield 7, 3, 6, 0, 1, []), (.bipush 6, 2, 0, 0, 0, []), (.iload_n 1, 1, 0, 0, 0, []), (.imul, 1, 0, 0, 0, []), (.iload_n 2, 1, 0, 0, 0, []), (.iadd, 1, 0, 0, 0, []), (.iconst 0, 1, 0, 0, 0, []), (.iastore, 1, 0, 0, 0, []), (.aload_n 0, 1, 0, 0, 0, []), (.iconst 0, 1, 0, 0, 0, []), (.invokevirtual 144, 3, 136, 2, 1, [9]), (.ireturn, 1, 0, 0, 0, [])]
def m_M_mend : mMeth := ([(0, b_M_mend_0), (10, b_M_mend_10), (28, b_M_mend_28)], [(0, [0, 1, 2]), (10, [0, 1, 2]), (28, [0, 1, 2])])
def b_M_copies_0 : List mRow := [(.iconst 0, 1, 0, 0, 0, []), (.istore_n 3, 1, 0, 0, 0, [])]
def b_M_copies_2 : List mRow := [(.iload_n 3, 1, 0, 0, 0, []), (.bipush 85, 2, 0, 0, 0, []), (.if_icmp .ge 25, 3, 30, 0, 0, []), (.aload_n 0, 1, 0, 0, 0, []), (.getfield 7, 3, 6, 0, 1, []), (.iload_n 2, 1, 0, 0, 0, []), (.iload_n 3, 1, 0, 0, 0, []), (.iadd, 1, 0, 0, 0, []), (.aload_n 0, 1, 0, 0, 0, []), (.getfield 7, 3, 6, 0, 1, []), (.iload_n 1, 1, 0, 0, 0, []), (.iload_n 3, 1, 0, 0, 0, []), (.iadd, 1, 0, 0, 0, []), (.iaload, 1, 0, 0, 0, []), (.iastore, 1, 0, 0, 0, []), (.iinc 3 1, 3, 0, 0, 0, []), (.goto (-25), 3, 2, 0, 0, [])]
def b_M_copies_30 : List mRow := [(.return_, 1, 0, 0, 0, [])]
def m_M_copies : mMeth := ([(0, b_M_copies_0), (2, b_M_copies_2), (30, b_M_copies_30)], [(0, [0, 1, 2]), (2, [0, 1, 2, 3]), (30, [])])
def b_M_planGoes_0 : List mRow := [(.aload_n 0, 1, 0, 0, 0, []), (.iconst 0, 1, 0, 0, 0, []), (.sipush 340, 3, 0, 0, 0, []), (.invokevirtual 177, 3, 154, 3, 0, [9]), (.aload_n 0, 1, 0, 0, 0, []), (.iconst 0, 1, 0, 0, 0, []), (.putfield 181, 3, 6, 15, 0, []), (.aload_n 0, 1, 0, 0, 0, []), (.bipush (-4), 2, 0, 0, 0, []), (.putfield 184, 3, 6, 16, 0, []), (.iconst 0, 1, 0, 0, 0, []), (.istore_n 2, 1, 0, 0, 0, [])]
def b_M_planGoes_21 : List mRow := [(.iload_n 2, 1, 0, 0, 0, []), (.aload_n 0, 1, 0, 0, 0, []), (.getfield 7, 3, 6, 0, 1, []), (.bipush 60, 2, 0, 0, 0, []), (.iaload, 1, 0, 0, 0, []), (.if_icmp .ge 91, 3, 120, 0, 0, []), (.bipush 61, 2, 0, 0, 0, []), (.iconst 3, 1, 0, 0, 0, []), (.iload_n 2, 1, 0, 0, 0, []), (.imul, 1, 0, 0, 0, []), (.iadd, 1, 0, 0, 0, []), (.istore_n 3, 1, 0, 0, 0, []), (.iload_n 2, 1, 0, 0, 0, []), (.iload_n 1, 1, 0, 0, 0, []), (.if_icmp .eq 73, 3, 114, 0, 0, []), (.aload_n 0, 1, 0, 0, 0, []), (.sipush 340, 3, 0, 0, 0, []), (.bipush 6, 2, 0, 0, 0, []), (.aload_n 0, 1, 0, 0, 0, []), (.getfield 7, 3, 6, 0, 1, []), (.iload_n 3, 1, 0, 0, 0, []), (.iaload, 1, 0, 0, 0, []), (.imul, 1, 0, 0, 0, []), (.aload_n 0, 1, 0, 0, 0, []), (.getfield 7, 3, 6, 0, 1, []), (.iload_n 3, 1, 0, 0, 0, []), (.iconst 1, 1, 0, 0, 0, []), (.iadd, 1, 0, 0, 0, []), (.iaload, 1, 0, 0, 0, []), (.iadd, 1, 0, 0, 0, []), (.aload_n 0, 1, 0, 0, 0, []), (.getfield 7, 3, 6, 0, 1, []), (.iload_n 3, 1, 0, 0, 0, []), (.iconst 2, 1, 0, 0, 0, []), (.iadd, 1, 0, 0, 0, []), (.iaload, 1, 0, 0, 0, []), (.invokevirtual 170, 3, 148, 4, 1, [9]), (.ifCond .eq 16, 3, 93, 0, 0, []), (.aload_n 0, 1, 0, 0, 0, []), (.dup, 1, 0, 0, 0, []), (.getfield 181, 3, 6, 15, 0, []), (.iconst 1, 1, 0, 0, 0, []), (.iadd, 1, 0, 0, 0, []), (.putfield 181, 3, 6, 15, 0, []), (.goto 24, 3, 114, 0, 0, [])]
def b_M_planGoes_93 : List mRow := [(.aload_n 0, 1, 0, 0, 0, []), (.aload_n 0, 1, 0, 0, 0, []), (.getfield 184, 3, 6, 16, 0, []), (.bipush (-4), 2, 0, 0, 0, []), (.if_icmp .ne 7, 3, 107, 0, 0, []), (.iload_n 2, 1, 0, 0, 0, []), (.goto 7, 3, 111, 0, 0, [])]
def b_M_planGoes_107 : List mRow := [(.aload_n 0, 1, 0, 0, 0, []), (.getfield 184, 3, 6, 16, 0, [])]
def b_M_planGoes_111 : List mRow := [(.putfield 184, 3, 6, 16, 0, [])]
def b_M_planGoes_114 : List mRow := [(.iinc 2 1, 3, 0, 0, 0, []), (.goto (-96), 3, 21, 0, 0, [])]
def b_M_planGoes_120 : List mRow := [(.return_, 1, 0, 0, 0, [])]
def m_M_planGoes : mMeth := ([(0, b_M_planGoes_0), (21, b_M_planGoes_21), (93, b_M_planGoes_93), (107, b_M_planGoes_107), (111, b_M_planGoes_111), (114, b_M_planGoes_114), (120, b_M_planGoes_120)], [(0, [0, 1]), (21, [0, 1, 2]), (93, [0, 1, 2]), (107, [0, 1, 2]), (111, [0, 1, 2]), (114, [0, 1, 2]), (120, [])])
def b_M_runs_0 : List mRow := [(.iload_n 1, 1, 0, 0, 0, []), (.i2l, 1, 0, 0, 0, []), (.lconst 0, 1, 0, 0, 0, []), (.ldc2_w 128, 3, 0, 0, 3, []), (.invokestatic 52, 3, 115, 3, 1, []), (.ifCond .ne 5, 3, 14, 0, 0, []), (.iconst (-1), 1, 0, 0, 0, []), (.ireturn, 1, 0, 0, 0, [])]
def b_M_runs_14 : List mRow := [(.aload_n 0, 1, 0, 0, 0, []), (.bipush (-4), 2, 0, 0, 0, []), (.invokevirtual 187, 3, 155, 2, 0, [9]), (.iload_n 1, 1, 0, 0, 0, []), (.ifCond .ne 13, 3, 34, 0, 0, []), (.aload_n 0, 1, 0, 0, 0, []), (.sipush 340, 3, 0, 0, 0, []), (.invokevirtual 150, 3, 134, 2, 1, [9]), (.goto 34, 3, 65, 0, 0, [])]
def b_M_runs_34 : List mRow := [(.iload_n 1, 1, 0, 0, 0, []), (.iconst 1, 1, 0, 0, 0, []), (.if_icmp .ne 13, 3, 49, 0, 0, []), (.aload_n 0, 1, 0, 0, 0, []), (.sipush 340, 3, 0, 0, 0, []), (.invokevirtual 147, 3, 135, 2, 1, [9]), (.goto 19, 3, 65, 0, 0, [])]
def b_M_runs_49 : List mRow := [(.iload_n 1, 1, 0, 0, 0, []), (.iconst 2, 1, 0, 0, 0, []), (.if_icmp .ne 10, 3, 61, 0, 0, []), (.aload_n 0, 1, 0, 0, 0, []), (.getfield 181, 3, 6, 15, 0, []), (.goto 7, 3, 65, 0, 0, [])]
def b_M_runs_61 : List mRow := [(.aload_n 0, 1, 0, 0, 0, []), (.getfield 184, 3, 6, 16, 0, [])]
def b_M_runs_65 : List mRow := [(.ireturn, 1, 0, 0, 0, [])]
def m_M_runs : mMeth := ([(0, b_M_runs_0), (14, b_M_runs_14), (34, b_M_runs_34), (49, b_M_runs_49), (61, b_M_runs_61), (65, b_M_runs_65)], [(0, [0, 1]), (14, [0, 1]), (34, [0, 1]), (49, [0, 1]), (61, [0]), (65, [])])
def b_M_ahead_0 : List mRow := [(.iload_n 1, 1, 0, 0, 0, []), (.iload_n 2, 1, 0, 0, 0, []), (.invokestatic 153, 3, 129, 2, 1, []), (.ifCond .ne 5, 3, 10, 0, 0, []), (.iconst (-1), 1, 0, 0, 0, []), (.ireturn, 1, 0, 0, 0, [])]
def b_M_ahead_10 : List mRow := [(.aload_n 0, 1, 0, 0, 0, []), (.bipush (-4), 2, 0, 0, 0, []), (.invokevirtual 187, 3, 155, 2, 0, [9]), (.aload_n 0, 1, 0, 0, 0, []), (.getfield 7, 3, 6, 0, 1, []), (.sipush 340, 3, 0, 0, 0, []), (.bipush 6, 2, 0, 0, 0, []), (.iload_n 1, 1, 0, 0, 0, []), (.imul, 1, 0, 0, 0, []), (.iadd, 1, 0, 0, 0, []), (.iload_n 2, 1, 0, 0, 0, []), (.iadd, 1, 0, 0, 0, []), (.iaload, 1, 0, 0, 0, []), (.ireturn, 1, 0, 0, 0, [])]
def m_M_ahead : mMeth := ([(0, b_M_ahead_0), (10, b_M_ahead_10)], [(0, [0, 1, 2]), (10, [0, 1, 2])])
def b_M_isMore_0 : List mRow := [(.iload_n 1, 1, 0, 0, 0, []), (.aload_n 0, 1, 0, 0, 0, []), (.getfield 190, 3, 6, 17, 0, []), (.if_icmp .le 7, 3, 12, 0, 0, []), (.iconst 1, 1, 0, 0, 0, []), (.goto 4, 3, 13, 0, 0, [])]
def b_M_isMore_12 : List mRow := [(.iconst 0, 1, 0, 0, 0, [])]
def b_M_isMore_13 : List mRow := [(.istore_n 2, 1, 0, 0, 0, []), (.aload_n 0, 1, 0, 0, 0, []), (.iload_n 2, 1, 0, 0, 0, []), (.ifCond .eq 7, 3, 23, 0, 0, []), (.iload_n 1, 1, 0, 0, 0, []), (.goto 7, 3, 27, 0, 0, [])]
def b_M_isMore_23 : List mRow := [(.aload_n 0, 1, 0, 0, 0, []), (.getfield 190, 3, 6, 17, 0, [])]
def b_M_isMore_27 : List mRow := [(.putfield 190, 3, 6, 17, 0, []), (.iload_n 2, 1, 0, 0, 0, []), (.ireturn, 1, 0, 0, 1, [])]
def m_M_isMore : mMeth := ([(0, b_M_isMore_0), (12, b_M_isMore_12), (13, b_M_isMore_13), (23, b_M_isMore_23), (27, b_M_isMore_27)], [(0, [0, 1]), (12, [0, 1]), (13, [0, 1]), (23, [0, 2]), (27, [2])])
def b_M_stitchesBy_0 : List mRow := [(.iload_n 2, 1, 0, 0, 0, []), (.bipush 100, 2, 0, 0, 0, []), (.idiv, 1, 0, 0, 0, []), (.istore_n 3, 1, 0, 0, 0, []), (.iload_n 2, 1, 0, 0, 0, []), (.bipush 10, 2, 0, 0, 0, []), (.idiv, 1, 0, 0, 0, []), (.bipush 10, 2, 0, 0, 0, []), (.irem, 1, 0, 0, 0, []), (.istore 4, 2, 0, 0, 0, []), (.iload_n 2, 1, 0, 0, 0, []), (.bipush 10, 2, 0, 0, 0, []), (.irem, 1, 0, 0, 0, []), (.istore 5, 2, 0, 0, 0, []), (.iload_n 3, 1, 0, 0, 0, []), (.iload 4, 2, 0, 0, 0, []), (.invokestatic 153, 3, 129, 2, 1, []), (.ifCond .eq 32, 3, 58, 0, 0, []), (.iload 5, 2, 0, 0, 0, []), (.invokestatic 140, 3, 130, 1, 1, []), (.ifCond .eq 24, 3, 58, 0, 0, []), (.aload_n 0, 1, 0, 0, 0, []), (.iload_n 1, 1, 0, 0, 0, []), (.bipush 6, 2, 0, 0, 0, []), (.iload_n 3, 1, 0, 0, 0, []), (.imul, 1, 0, 0, 0, []), (.iload 4, 2, 0, 0, 0, []), (.iadd, 1, 0, 0, 0, []), (.iload 5, 2, 0, 0, 0, []), (.invokevirtual 170, 3, 148, 4, 1, [9]), (.ifCond .eq 7, 3, 58, 0, 0, []), (.iconst 1, 1, 0, 0, 0, []), (.goto 4, 3, 59, 0, 0, [])]
def b_M_stitchesBy_58 : List mRow := [(.iconst 0, 1, 0, 0, 0, [])]
def b_M_stitchesBy_59 : List mRow := [(.ireturn, 1, 0, 0, 1, [])]
def m_M_stitchesBy : mMeth := ([(0, b_M_stitchesBy_0), (58, b_M_stitchesBy_58), (59, b_M_stitchesBy_59)], [(0, [0, 1, 2]), (58, []), (59, [])])
def b_M_best_0 : List mRow := [(.iload_n 1, 1, 0, 0, 0, []), (.i2l, 1, 0, 0, 0, []), (.lconst 0, 1, 0, 0, 0, []), (.lconst 1, 1, 0, 0, 0, []), (.invokestatic 52, 3, 115, 3, 1, []), (.ifCond .ne 5, 3, 12, 0, 0, []), (.iconst (-1), 1, 0, 0, 0, []), (.ireturn, 1, 0, 0, 0, [])]
def b_M_best_12 : List mRow := [(.aload_n 0, 1, 0, 0, 0, []), (.aload_n 0, 1, 0, 0, 0, []), (.iconst 0, 1, 0, 0, 0, []), (.invokevirtual 150, 3, 134, 2, 1, [9]), (.putfield 190, 3, 6, 17, 0, []), (.bipush (-4), 2, 0, 0, 0, []), (.istore_n 2, 1, 0, 0, 0, []), (.iconst 0, 1, 0, 0, 0, []), (.istore_n 3, 1, 0, 0, 0, [])]
def b_M_best_26 : List mRow := [(.iload_n 3, 1, 0, 0, 0, []), (.sipush 600, 3, 0, 0, 0, []), (.if_icmp .ge 48, 3, 78, 0, 0, []), (.aload_n 0, 1, 0, 0, 0, []), (.iconst 0, 1, 0, 0, 0, []), (.sipush 340, 3, 0, 0, 0, []), (.invokevirtual 177, 3, 154, 3, 0, [9]), (.aload_n 0, 1, 0, 0, 0, []), (.sipush 340, 3, 0, 0, 0, []), (.iload_n 3, 1, 0, 0, 0, []), (.invokevirtual 193, 3, 159, 3, 1, [9]), (.ifCond .eq 23, 3, 72, 0, 0, []), (.aload_n 0, 1, 0, 0, 0, []), (.aload_n 0, 1, 0, 0, 0, []), (.sipush 340, 3, 0, 0, 0, []), (.invokevirtual 150, 3, 134, 2, 1, [9]), (.invokevirtual 196, 3, 158, 2, 1, [9]), (.ifCond .eq 7, 3, 70, 0, 0, []), (.iload_n 3, 1, 0, 0, 0, []), (.goto 4, 3, 71, 0, 0, [])]
def b_M_best_70 : List mRow := [(.iload_n 2, 1, 0, 0, 0, [])]
def b_M_best_71 : List mRow := [(.istore_n 2, 1, 0, 0, 0, [])]
def b_M_best_72 : List mRow := [(.iinc 3 1, 3, 0, 0, 0, []), (.goto (-49), 3, 26, 0, 0, [])]
def b_M_best_78 : List mRow := [(.iload_n 2, 1, 0, 0, 0, []), (.bipush (-4), 2, 0, 0, 0, []), (.if_icmp .eq 7, 3, 88, 0, 0, []), (.iload_n 1, 1, 0, 0, 0, []), (.ifCond .ne 7, 3, 92, 0, 0, [])]
def b_M_best_88 : List mRow := [(.iload_n 2, 1, 0, 0, 0, []), (.goto 7, 3, 96, 0, 0, [])]
def b_M_best_92 : List mRow := [(.aload_n 0, 1, 0, 0, 0, []), (.getfield 190, 3, 6, 17, 0, [])]
def b_M_best_96 : List mRow := [(.ireturn, 1, 0, 0, 0, [])]
def m_M_best : mMeth := ([(0, b_M_best_0), (12, b_M_best_12), (26, b_M_best_26), (70, b_M_best_70), (71, b_M_best_71), (72, b_M_best_72), (78, b_M_best_78), (88, b_M_best_88), (92, b_M_best_92), (96, b_M_best_96)], [(0, [0, 1]), (12, [0, 1]), (26, [0, 1, 2, 3]), (70, [0, 1, 2, 3]), (71, [0, 1, 3]), (72, [0, 1, 2, 3]), (78, [0, 1, 2]), (88, [2]), (92, [0]), (96, [])])
def b_M_isHeldBy_0 : List mRow := [(.iconst 0, 1, 0, 0, 0, []), (.istore_n 3, 1, 0, 0, 0, [])]
def b_M_isHeldBy_2 : List mRow := [(.iload_n 3, 1, 0, 0, 0, []), (.sipush 600, 3, 0, 0, 0, []), (.if_icmp .ge 177, 3, 183, 0, 0, []), (.aload_n 0, 1, 0, 0, 0, []), (.iconst 0, 1, 0, 0, 0, []), (.sipush 425, 3, 0, 0, 0, []), (.invokevirtual 177, 3, 154, 3, 0, [9]), (.aload_n 0, 1, 0, 0, 0, []), (.sipush 425, 3, 0, 0, 0, []), (.iload_n 3, 1, 0, 0, 0, []), (.invokevirtual 193, 3, 159, 3, 1, [9]), (.ifCond .eq 152, 3, 177, 0, 0, []), (.aload_n 0, 1, 0, 0, 0, []), (.iload_n 3, 1, 0, 0, 0, []), (.putfield 199, 3, 6, 18, 0, []), (.iload_n 2, 1, 0, 0, 0, []), (.iconst 1, 1, 0, 0, 0, []), (.if_icmp .ne 17, 3, 52, 0, 0, []), (.aload_n 0, 1, 0, 0, 0, []), (.sipush 425, 3, 0, 0, 0, []), (.iload_n 1, 1, 0, 0, 0, []), (.iconst 0, 1, 0, 0, 0, []), (.invokevirtual 136, 3, 133, 4, 1, [9]), (.ifCond .le 5, 3, 52, 0, 0, []), (.iconst 1, 1, 0, 0, 0, []), (.ireturn, 1, 0, 0, 1, [])]
def b_M_isHeldBy_52 : List mRow := [(.iconst 0, 1, 0, 0, 0, []), (.istore 4, 2, 0, 0, 0, [])]
def b_M_isHeldBy_55 : List mRow := [(.iload 4, 2, 0, 0, 0, []), (.sipush 600, 3, 0, 0, 0, []), (.if_icmp .ge 117, 3, 177, 0, 0, []), (.iload_n 2, 1, 0, 0, 0, []), (.iconst 2, 1, 0, 0, 0, []), (.if_icmp .ne 112, 3, 177, 0, 0, []), (.iload 4, 2, 0, 0, 0, []), (.bipush 100, 2, 0, 0, 0, []), (.idiv, 1, 0, 0, 0, []), (.istore 5, 2, 0, 0, 0, []), (.iload 4, 2, 0, 0, 0, []), (.bipush 10, 2, 0, 0, 0, []), (.idiv, 1, 0, 0, 0, []), (.bipush 10, 2, 0, 0, 0, []), (.irem, 1, 0, 0, 0, []), (.istore 6, 2, 0, 0, 0, []), (.bipush 6, 2, 0, 0, 0, []), (.iload 5, 2, 0, 0, 0, []), (.imul, 1, 0, 0, 0, []), (.iload 6, 2, 0, 0, 0, []), (.iadd, 1, 0, 0, 0, []), (.istore 7, 2, 0, 0, 0, []), (.aload_n 0, 1, 0, 0, 0, []), (.sipush 425, 3, 0, 0, 0, []), (.iload 4, 2, 0, 0, 0, []), (.invokevirtual 193, 3, 159, 3, 1, [9]), (.ifCond .eq 67, 3, 171, 0, 0, []), (.aload_n 0, 1, 0, 0, 0, []), (.iload 4, 2, 0, 0, 0, []), (.putfield 202, 3, 6, 19, 0, []), (.aload_n 0, 1, 0, 0, 0, []), (.sipush 425, 3, 0, 0, 0, []), (.iload_n 1, 1, 0, 0, 0, []), (.iconst 0, 1, 0, 0, 0, []), (.invokevirtual 136, 3, 133, 4, 1, [9]), (.ifCond .le 7, 3, 129, 0, 0, []), (.iconst 1, 1, 0, 0, 0, []), (.goto 4, 3, 130, 0, 0, [])]
def b_M_isHeldBy_129 : List mRow := [(.iconst 0, 1, 0, 0, 0, [])]
def b_M_isHeldBy_130 : List mRow := [(.istore 8, 2, 0, 0, 0, []), (.aload_n 0, 1, 0, 0, 0, []), (.getfield 7, 3, 6, 0, 1, []), (.sipush 425, 3, 0, 0, 0, []), (.iload 7, 2, 0, 0, 0, []), (.iadd, 1, 0, 0, 0, []), (.iconst 0, 1, 0, 0, 0, []), (.iastore, 1, 0, 0, 0, []), (.aload_n 0, 1, 0, 0, 0, []), (.getfield 7, 3, 6, 0, 1, []), (.sipush 461, 3, 0, 0, 0, []), (.iload 4, 2, 0, 0, 0, []), (.bipush 10, 2, 0, 0, 0, []), (.irem, 1, 0, 0, 0, []), (.iadd, 1, 0, 0, 0, []), (.iconst 1, 1, 0, 0, 0, []), (.isub, 1, 0, 0, 0, []), (.dup2, 1, 0, 0, 0, []), (.iaload, 1, 0, 0, 0, []), (.iconst 1, 1, 0, 0, 0, []), (.iadd, 1, 0, 0, 0, []), (.iastore, 1, 0, 0, 0, []), (.iload 8, 2, 0, 0, 0, []), (.ifCond .eq 5, 3, 171, 0, 0, []), (.iconst 1, 1, 0, 0, 0, []), (.ireturn, 1, 0, 0, 1, [])]
def b_M_isHeldBy_171 : List mRow := [(.iinc 4 1, 3, 0, 0, 0, []), (.goto (-119), 3, 55, 0, 0, [])]
def b_M_isHeldBy_177 : List mRow := [(.iinc 3 1, 3, 0, 0, 0, []), (.goto (-178), 3, 2, 0, 0, [])]
def b_M_isHeldBy_183 : List mRow := [(.iconst 0, 1, 0, 0, 0, []), (.ireturn, 1, 0, 0, 1, [])]
def m_M_isHeldBy : mMeth := ([(0, b_M_isHeldBy_0), (2, b_M_isHeldBy_2), (52, b_M_isHeldBy_52), (55, b_M_isHeldBy_55), (129, b_M_isHeldBy_129), (130, b_M_isHeldBy_130), (171, b_M_isHeldBy_171), (177, b_M_isHeldBy_177), (183, b_M_isHeldBy_183)], [(0, [0, 1, 2]), (2, [0, 1, 2, 3]), (52, [0, 1, 2, 3]), (55, [0, 1, 2, 3, 4]), (129, [0, 1, 2, 3, 4, 7]), (130, [0, 1, 2, 3, 4, 7]), (171, [0, 1, 2, 3, 4]), (177, [0, 1, 2, 3]), (183, [])])
def b_M_need_0 : List mRow := [(.aload_n 0, 1, 0, 0, 0, []), (.iload_n 1, 1, 0, 0, 0, []), (.invokevirtual 157, 3, 128, 2, 1, [9]), (.ifCond .eq 21, 3, 26, 0, 0, []), (.iload_n 2, 1, 0, 0, 0, []), (.ifCond .eq 19, 3, 28, 0, 0, []), (.iload_n 2, 1, 0, 0, 0, []), (.i2l, 1, 0, 0, 0, []), (.ldc2_w 205, 3, 0, 0, 10, []), (.ldc2_w 207, 3, 0, 0, 11, []), (.invokestatic 52, 3, 115, 3, 1, []), (.ifCond .ne 5, 3, 28, 0, 0, [])]
def b_M_need_26 : List mRow := [(.iconst (-1), 1, 0, 0, 0, []), (.ireturn, 1, 0, 0, 0, [])]
def b_M_need_28 : List mRow := [(.aload_n 0, 1, 0, 0, 0, []), (.iconst 0, 1, 0, 0, 0, []), (.iload_n 1, 1, 0, 0, 0, []), (.iconst 0, 1, 0, 0, 0, []), (.invokevirtual 136, 3, 133, 4, 1, [9]), (.ifCond .le 7, 3, 42, 0, 0, []), (.iconst 0, 1, 0, 0, 0, []), (.goto 31, 3, 70, 0, 0, [])]
def b_M_need_42 : List mRow := [(.aload_n 0, 1, 0, 0, 0, []), (.iload_n 1, 1, 0, 0, 0, []), (.iconst 1, 1, 0, 0, 0, []), (.invokevirtual 209, 3, 161, 3, 1, [9]), (.ifCond .eq 7, 3, 55, 0, 0, []), (.iconst 1, 1, 0, 0, 0, []), (.goto 18, 3, 70, 0, 0, [])]
def b_M_need_55 : List mRow := [(.aload_n 0, 1, 0, 0, 0, []), (.iload_n 1, 1, 0, 0, 0, []), (.iconst 2, 1, 0, 0, 0, []), (.invokevirtual 209, 3, 161, 3, 1, [9]), (.ifCond .eq 7, 3, 68, 0, 0, []), (.iconst 2, 1, 0, 0, 0, []), (.goto 5, 3, 70, 0, 0, [])]
def b_M_need_68 : List mRow := [(.bipush (-4), 2, 0, 0, 0, [])]
def b_M_need_70 : List mRow := [(.istore_n 3, 1, 0, 0, 0, []), (.iload_n 2, 1, 0, 0, 0, []), (.ifCond .eq 9, 3, 81, 0, 0, []), (.iload_n 3, 1, 0, 0, 0, []), (.bipush (-4), 2, 0, 0, 0, []), (.if_icmp .ne 7, 3, 85, 0, 0, [])]
def b_M_need_81 : List mRow := [(.iload_n 3, 1, 0, 0, 0, []), (.goto 33, 3, 115, 0, 0, [])]
def b_M_need_85 : List mRow := [(.iload_n 2, 1, 0, 0, 0, []), (.bipush 10, 2, 0, 0, 0, []), (.isub, 1, 0, 0, 0, []), (.iload_n 3, 1, 0, 0, 0, []), (.if_icmp .lt 8, 3, 98, 0, 0, []), (.bipush (-4), 2, 0, 0, 0, []), (.goto 20, 3, 115, 0, 0, [])]
def b_M_need_98 : List mRow := [(.iload_n 2, 1, 0, 0, 0, []), (.bipush 10, 2, 0, 0, 0, []), (.if_icmp .ne 10, 3, 111, 0, 0, []), (.aload_n 0, 1, 0, 0, 0, []), (.getfield 199, 3, 6, 18, 0, []), (.goto 7, 3, 115, 0, 0, [])]
def b_M_need_111 : List mRow := [(.aload_n 0, 1, 0, 0, 0, []), (.getfield 202, 3, 6, 19, 0, [])]
def b_M_need_115 : List mRow := [(.ireturn, 1, 0, 0, 0, [])]
def m_M_need : mMeth := ([(0, b_M_need_0), (26, b_M_need_26), (28, b_M_need_28), (42, b_M_need_42), (55, b_M_need_55), (68, b_M_need_68), (70, b_M_need_70), (81, b_M_need_81), (85, b_M_need_85), (98, b_M_need_98), (111, b_M_need_111), (115, b_M_need_115)], [(0, [0, 1, 2]), (26, []), (28, [0, 1, 2]), (42, [0, 1, 2]), (55, [0, 1, 2]), (68, [0, 2]), (70, [0, 2]), (81, [3]), (85, [0, 2, 3]), (98, [0, 2]), (111, [0]), (115, [])])
def b_M_loose_0 : List mRow := [(.aload_n 0, 1, 0, 0, 0, []), (.iload_n 1, 1, 0, 0, 0, []), (.invokevirtual 157, 3, 128, 2, 1, [9]), (.ifCond .eq 13, 3, 18, 0, 0, []), (.iload_n 2, 1, 0, 0, 0, []), (.i2l, 1, 0, 0, 0, []), (.lconst 0, 1, 0, 0, 0, []), (.lconst 1, 1, 0, 0, 0, []), (.invokestatic 52, 3, 115, 3, 1, []), (.ifCond .ne 5, 3, 20, 0, 0, [])]
def b_M_loose_18 : List mRow := [(.iconst (-1), 1, 0, 0, 0, []), (.ireturn, 1, 0, 0, 0, [])]
def b_M_loose_20 : List mRow := [(.aload_n 0, 1, 0, 0, 0, []), (.iconst 0, 1, 0, 0, 0, []), (.iload_n 1, 1, 0, 0, 0, []), (.iconst 0, 1, 0, 0, 0, []), (.invokevirtual 136, 3, 133, 4, 1, [9]), (.istore_n 3, 1, 0, 0, 0, []), (.bipush (-4), 2, 0, 0, 0, []), (.istore 4, 2, 0, 0, 0, []), (.iconst 0, 1, 0, 0, 0, []), (.istore 5, 2, 0, 0, 0, [])]
def b_M_loose_35 : List mRow := [(.iload 5, 2, 0, 0, 0, []), (.bipush 36, 2, 0, 0, 0, []), (.if_icmp .ge 92, 3, 131, 0, 0, []), (.aload_n 0, 1, 0, 0, 0, []), (.getfield 7, 3, 6, 0, 1, []), (.iload 5, 2, 0, 0, 0, []), (.iaload, 1, 0, 0, 0, []), (.istore 6, 2, 0, 0, 0, []), (.iload 6, 2, 0, 0, 0, []), (.invokestatic 140, 3, 130, 1, 1, []), (.ifCond .eq 69, 3, 125, 0, 0, []), (.aload_n 0, 1, 0, 0, 0, []), (.getfield 7, 3, 6, 0, 1, []), (.iload 5, 2, 0, 0, 0, []), (.iconst 0, 1, 0, 0, 0, []), (.iastore, 1, 0, 0, 0, []), (.aload_n 0, 1, 0, 0, 0, []), (.iconst 0, 1, 0, 0, 0, []), (.iload_n 1, 1, 0, 0, 0, []), (.iconst 0, 1, 0, 0, 0, []), (.invokevirtual 136, 3, 133, 4, 1, [9]), (.istore 7, 2, 0, 0, 0, []), (.aload_n 0, 1, 0, 0, 0, []), (.getfield 7, 3, 6, 0, 1, []), (.iload 5, 2, 0, 0, 0, []), (.iload 6, 2, 0, 0, 0, []), (.iastore, 1, 0, 0, 0, []), (.iload 7, 2, 0, 0, 0, []), (.iload_n 3, 1, 0, 0, 0, []), (.if_icmp .ge 20, 3, 108, 0, 0, []), (.bipush 10, 2, 0, 0, 0, []), (.iload 5, 2, 0, 0, 0, []), (.bipush 6, 2, 0, 0, 0, []), (.idiv, 1, 0, 0, 0, []), (.imul, 1, 0, 0, 0, []), (.iload 5, 2, 0, 0, 0, []), (.bipush 6, 2, 0, 0, 0, []), (.irem, 1, 0, 0, 0, []), (.iadd, 1, 0, 0, 0, []), (.goto 5, 3, 110, 0, 0, [])]
def b_M_loose_108 : List mRow := [(.iload 4, 2, 0, 0, 0, [])]
def b_M_loose_110 : List mRow := [(.istore 4, 2, 0, 0, 0, []), (.iload 7, 2, 0, 0, 0, []), (.iload_n 3, 1, 0, 0, 0, []), (.if_icmp .ge 8, 3, 123, 0, 0, []), (.iload 7, 2, 0, 0, 0, []), (.goto 4, 3, 124, 0, 0, [])]
def b_M_loose_123 : List mRow := [(.iload_n 3, 1, 0, 0, 0, [])]
def b_M_loose_124 : List mRow := [(.istore_n 3, 1, 0, 0, 0, [])]
def b_M_loose_125 : List mRow := [(.iinc 5 1, 3, 0, 0, 0, []), (.goto (-93), 3, 35, 0, 0, [])]
def b_M_loose_131 : List mRow := [(.iload 4, 2, 0, 0, 0, []), (.bipush (-4), 2, 0, 0, 0, []), (.if_icmp .eq 7, 3, 142, 0, 0, []), (.iload_n 2, 1, 0, 0, 0, []), (.ifCond .ne 8, 3, 147, 0, 0, [])]
def b_M_loose_142 : List mRow := [(.iload 4, 2, 0, 0, 0, []), (.goto 4, 3, 148, 0, 0, [])]
def b_M_loose_147 : List mRow := [(.iload_n 3, 1, 0, 0, 0, [])]
def b_M_loose_148 : List mRow := [(.ireturn, 1, 0, 0, 0, [])]
def m_M_loose : mMeth := ([(0, b_M_loose_0), (18, b_M_loose_18), (20, b_M_loose_20), (35, b_M_loose_35), (108, b_M_loose_108), (110, b_M_loose_110), (123, b_M_loose_123), (124, b_M_loose_124), (125, b_M_loose_125), (131, b_M_loose_131), (142, b_M_loose_142), (147, b_M_loose_147), (148, b_M_loose_148)], [(0, [0, 1, 2]), (18, []), (20, [0, 1, 2]), (35, [0, 1, 2, 3, 4, 5]), (108, [0, 1, 2, 3, 4, 5, 7]), (110, [0, 1, 2, 3, 5, 7]), (123, [0, 1, 2, 3, 4, 5]), (124, [0, 1, 2, 4, 5]), (125, [0, 1, 2, 3, 4, 5]), (131, [2, 3, 4]), (142, [4]), (147, [3]), (148, [])])
def b_M_dye_0 : List mRow := [(.iload_n 1, 1, 0, 0, 0, []), (.i2l, 1, 0, 0, 0, []), (.lconst 0, 1, 0, 0, 0, []), (.lconst 1, 1, 0, 0, 0, []), (.invokestatic 52, 3, 115, 3, 1, []), (.ifCond .ne 5, 3, 12, 0, 0, []), (.iconst (-1), 1, 0, 0, 0, []), (.ireturn, 1, 0, 0, 0, [])]
def b_M_dye_12 : List mRow := [(.aload_n 0, 1, 0, 0, 0, []), (.aload_n 0, 1, 0, 0, 0, []), (.iconst 0, 1, 0, 0, 0, []), (.invokevirtual 150, 3, 134, 2, 1, [9]), (.putfield 190, 3, 6, 17, 0, []), (.bipush (-4), 2, 0, 0, 0, []), (.istore_n 2, 1, 0, 0, 0, []), (.iconst 1, 1, 0, 0, 0, []), (.istore_n 3, 1, 0, 0, 0, [])]
def b_M_dye_26 : List mRow := [(.iload_n 3, 1, 0, 0, 0, []), (.iconst 3, 1, 0, 0, 0, []), (.if_icmp .gt 126, 3, 154, 0, 0, []), (.iload_n 3, 1, 0, 0, 0, []), (.iconst 1, 1, 0, 0, 0, []), (.iadd, 1, 0, 0, 0, []), (.istore 4, 2, 0, 0, 0, [])]
def b_M_dye_36 : List mRow := [(.iload 4, 2, 0, 0, 0, []), (.iconst 3, 1, 0, 0, 0, []), (.if_icmp .gt 109, 3, 148, 0, 0, []), (.aload_n 0, 1, 0, 0, 0, []), (.iconst 0, 1, 0, 0, 0, []), (.sipush 340, 3, 0, 0, 0, []), (.invokevirtual 177, 3, 154, 3, 0, [9]), (.iconst 0, 1, 0, 0, 0, []), (.istore 5, 2, 0, 0, 0, [])]
def b_M_dye_53 : List mRow := [(.iload 5, 2, 0, 0, 0, []), (.bipush 36, 2, 0, 0, 0, []), (.if_icmp .ge 59, 3, 116, 0, 0, []), (.aload_n 0, 1, 0, 0, 0, []), (.getfield 7, 3, 6, 0, 1, []), (.sipush 340, 3, 0, 0, 0, []), (.iload 5, 2, 0, 0, 0, []), (.iadd, 1, 0, 0, 0, []), (.aload_n 0, 1, 0, 0, 0, []), (.getfield 7, 3, 6, 0, 1, []), (.iload 5, 2, 0, 0, 0, []), (.iaload, 1, 0, 0, 0, []), (.iload_n 3, 1, 0, 0, 0, []), (.if_icmp .ne 8, 3, 86, 0, 0, []), (.iload 4, 2, 0, 0, 0, []), (.goto 26, 3, 109, 0, 0, [])]
def b_M_dye_86 : List mRow := [(.aload_n 0, 1, 0, 0, 0, []), (.getfield 7, 3, 6, 0, 1, []), (.iload 5, 2, 0, 0, 0, []), (.iaload, 1, 0, 0, 0, []), (.iload 4, 2, 0, 0, 0, []), (.if_icmp .ne 7, 3, 102, 0, 0, []), (.iload_n 3, 1, 0, 0, 0, []), (.goto 10, 3, 109, 0, 0, [])]
def b_M_dye_102 : List mRow := [(.aload_n 0, 1, 0, 0, 0, []), (.getfield 7, 3, 6, 0, 1, []), (.iload 5, 2, 0, 0, 0, []), (.iaload, 1, 0, 0, 0, [])]
def b_M_dye_109 : List mRow := [(.iastore, 1, 0, 0, 0, []), (.iinc 5 1, 3, 0, 0, 0, []), (.goto (-60), 3, 53, 0, 0, [])]
def b_M_dye_116 : List mRow := [(.aload_n 0, 1, 0, 0, 0, []), (.aload_n 0, 1, 0, 0, 0, []), (.sipush 340, 3, 0, 0, 0, []), (.invokevirtual 150, 3, 134, 2, 1, [9]), (.invokevirtual 196, 3, 158, 2, 1, [9]), (.ifCond .eq 13, 3, 140, 0, 0, []), (.bipush 10, 2, 0, 0, 0, []), (.iload_n 3, 1, 0, 0, 0, []), (.imul, 1, 0, 0, 0, []), (.iload 4, 2, 0, 0, 0, []), (.iadd, 1, 0, 0, 0, []), (.goto 4, 3, 141, 0, 0, [])]
def b_M_dye_140 : List mRow := [(.iload_n 2, 1, 0, 0, 0, [])]
def b_M_dye_141 : List mRow := [(.istore_n 2, 1, 0, 0, 0, []), (.iinc 4 1, 3, 0, 0, 0, []), (.goto (-109), 3, 36, 0, 0, [])]
def b_M_dye_148 : List mRow := [(.iinc 3 1, 3, 0, 0, 0, []), (.goto (-125), 3, 26, 0, 0, [])]
def b_M_dye_154 : List mRow := [(.iload_n 2, 1, 0, 0, 0, []), (.bipush (-4), 2, 0, 0, 0, []), (.if_icmp .eq 7, 3, 164, 0, 0, []), (.iload_n 1, 1, 0, 0, 0, []), (.ifCond .ne 7, 3, 168, 0, 0, [])]
def b_M_dye_164 : List mRow := [(.iload_n 2, 1, 0, 0, 0, []), (.goto 7, 3, 172, 0, 0, [])]
def b_M_dye_168 : List mRow := [(.aload_n 0, 1, 0, 0, 0, []), (.getfield 190, 3, 6, 17, 0, [])]
def b_M_dye_172 : List mRow := [(.ireturn, 1, 0, 0, 0, [])]
def m_M_dye : mMeth := ([(0, b_M_dye_0), (12, b_M_dye_12), (26, b_M_dye_26), (36, b_M_dye_36), (53, b_M_dye_53), (86, b_M_dye_86), (102, b_M_dye_102), (109, b_M_dye_109), (116, b_M_dye_116), (140, b_M_dye_140), (141, b_M_dye_141), (148, b_M_dye_148), (154, b_M_dye_154), (164, b_M_dye_164), (168, b_M_dye_168), (172, b_M_dye_172)], [(0, [0, 1]), (12, [0, 1]), (26, [0, 1, 2, 3]), (36, [0, 1, 2, 3, 4]), (53, [0, 1, 2, 3, 4, 5]), (86, [0, 1, 2, 3, 4, 5]), (102, [0, 1, 2, 3, 4, 5]), (109, [0, 1, 2, 3, 4, 5]), (116, [0, 1, 2, 3, 4]), (140, [0, 1, 2, 3, 4]), (141, [0, 1, 3, 4]), (148, [0, 1, 2, 3]), (154, [0, 1, 2]), (164, [2]), (168, [0]), (172, [])])
def b_M_turn_0 : List mRow := [(.iload_n 1, 1, 0, 0, 0, []), (.i2l, 1, 0, 0, 0, []), (.lconst 0, 1, 0, 0, 0, []), (.lconst 1, 1, 0, 0, 0, []), (.invokestatic 52, 3, 115, 3, 1, []), (.ifCond .ne 5, 3, 12, 0, 0, []), (.iconst (-1), 1, 0, 0, 0, []), (.ireturn, 1, 0, 0, 0, [])]
def b_M_turn_12 : List mRow := [(.aload_n 0, 1, 0, 0, 0, []), (.aload_n 0, 1, 0, 0, 0, []), (.iconst 0, 1, 0, 0, 0, []), (.invokevirtual 150, 3, 134, 2, 1, [9]), (.putfield 190, 3, 6, 17, 0, []), (.bipush (-4), 2, 0, 0, 0, []), (.istore_n 2, 1, 0, 0, 0, []), (.iconst 0, 1, 0, 0, 0, []), (.istore_n 3, 1, 0, 0, 0, [])]
def b_M_turn_26 : List mRow := [(.iload_n 3, 1, 0, 0, 0, []), (.bipush 6, 2, 0, 0, 0, []), (.if_icmp .ge 83, 3, 112, 0, 0, []), (.aload_n 0, 1, 0, 0, 0, []), (.iconst 0, 1, 0, 0, 0, []), (.sipush 340, 3, 0, 0, 0, []), (.invokevirtual 177, 3, 154, 3, 0, [9]), (.iconst 0, 1, 0, 0, 0, []), (.istore 4, 2, 0, 0, 0, [])]
def b_M_turn_43 : List mRow := [(.iload 4, 2, 0, 0, 0, []), (.bipush 6, 2, 0, 0, 0, []), (.if_icmp .ge 39, 3, 86, 0, 0, []), (.aload_n 0, 1, 0, 0, 0, []), (.getfield 7, 3, 6, 0, 1, []), (.sipush 340, 3, 0, 0, 0, []), (.bipush 6, 2, 0, 0, 0, []), (.iload 4, 2, 0, 0, 0, []), (.imul, 1, 0, 0, 0, []), (.iadd, 1, 0, 0, 0, []), (.iload_n 3, 1, 0, 0, 0, []), (.iadd, 1, 0, 0, 0, []), (.aload_n 0, 1, 0, 0, 0, []), (.getfield 7, 3, 6, 0, 1, []), (.bipush 6, 2, 0, 0, 0, []), (.iconst 5, 1, 0, 0, 0, []), (.iload 4, 2, 0, 0, 0, []), (.isub, 1, 0, 0, 0, []), (.imul, 1, 0, 0, 0, []), (.iload_n 3, 1, 0, 0, 0, []), (.iadd, 1, 0, 0, 0, []), (.iaload, 1, 0, 0, 0, []), (.iastore, 1, 0, 0, 0, []), (.iinc 4 1, 3, 0, 0, 0, []), (.goto (-40), 3, 43, 0, 0, [])]
def b_M_turn_86 : List mRow := [(.aload_n 0, 1, 0, 0, 0, []), (.aload_n 0, 1, 0, 0, 0, []), (.sipush 340, 3, 0, 0, 0, []), (.invokevirtual 150, 3, 134, 2, 1, [9]), (.invokevirtual 196, 3, 158, 2, 1, [9]), (.ifCond .eq 7, 3, 104, 0, 0, []), (.iload_n 3, 1, 0, 0, 0, []), (.goto 4, 3, 105, 0, 0, [])]
def b_M_turn_104 : List mRow := [(.iload_n 2, 1, 0, 0, 0, [])]
def b_M_turn_105 : List mRow := [(.istore_n 2, 1, 0, 0, 0, []), (.iinc 3 1, 3, 0, 0, 0, []), (.goto (-83), 3, 26, 0, 0, [])]
def b_M_turn_112 : List mRow := [(.iload_n 2, 1, 0, 0, 0, []), (.bipush (-4), 2, 0, 0, 0, []), (.if_icmp .eq 7, 3, 122, 0, 0, []), (.iload_n 1, 1, 0, 0, 0, []), (.ifCond .ne 7, 3, 126, 0, 0, [])]
def b_M_turn_122 : List mRow := [(.iload_n 2, 1, 0, 0, 0, []), (.goto 7, 3, 130, 0, 0, [])]
def b_M_turn_126 : List mRow := [(.aload_n 0, 1, 0, 0, 0, []), (.getfield 190, 3, 6, 17, 0, [])]
def b_M_turn_130 : List mRow := [(.ireturn, 1, 0, 0, 0, [])]
def m_M_turn : mMeth := ([(0, b_M_turn_0), (12, b_M_turn_12), (26, b_M_turn_26), (43, b_M_turn_43), (86, b_M_turn_86), (104, b_M_turn_104), (105, b_M_turn_105), (112, b_M_turn_112), (122, b_M_turn_122), (126, b_M_turn_126), (130, b_M_turn_130)], [(0, [0, 1]), (12, [0, 1]), (26, [0, 1, 2, 3]), (43, [0, 1, 2, 3, 4]), (86, [0, 1, 2, 3]), (104, [0, 1, 2, 3]), (105, [0, 1, 3]), (112, [0, 1, 2]), (122, [2]), (126, [0]), (130, [])])
def b_M_leave_0 : List mRow := [(.iload_n 1, 1, 0, 0, 0, []), (.i2l, 1, 0, 0, 0, []), (.lconst 0, 1, 0, 0, 0, []), (.lconst 1, 1, 0, 0, 0, []), (.invokestatic 52, 3, 115, 3, 1, []), (.ifCond .ne 5, 3, 12, 0, 0, []), (.iconst (-1), 1, 0, 0, 0, []), (.ireturn, 1, 0, 0, 0, [])]
def b_M_leave_12 : List mRow := [(.aload_n 0, 1, 0, 0, 0, []), (.bipush (-4), 2, 0, 0, 0, []), (.invokevirtual 187, 3, 155, 2, 0, [9]), (.aload_n 0, 1, 0, 0, 0, []), (.aload_n 0, 1, 0, 0, 0, []), (.sipush 340, 3, 0, 0, 0, []), (.invokevirtual 150, 3, 134, 2, 1, [9]), (.putfield 190, 3, 6, 17, 0, []), (.bipush (-4), 2, 0, 0, 0, []), (.istore_n 2, 1, 0, 0, 0, []), (.iconst 0, 1, 0, 0, 0, []), (.istore_n 3, 1, 0, 0, 0, [])]
def b_M_leave_34 : List mRow := [(.iload_n 3, 1, 0, 0, 0, []), (.aload_n 0, 1, 0, 0, 0, []), (.getfield 7, 3, 6, 0, 1, []), (.bipush 60, 2, 0, 0, 0, []), (.iaload, 1, 0, 0, 0, []), (.if_icmp .ge 34, 3, 76, 0, 0, []), (.aload_n 0, 1, 0, 0, 0, []), (.iload_n 3, 1, 0, 0, 0, []), (.invokevirtual 187, 3, 155, 2, 0, [9]), (.aload_n 0, 1, 0, 0, 0, []), (.aload_n 0, 1, 0, 0, 0, []), (.sipush 340, 3, 0, 0, 0, []), (.invokevirtual 150, 3, 134, 2, 1, [9]), (.invokevirtual 196, 3, 158, 2, 1, [9]), (.ifCond .eq 7, 3, 68, 0, 0, []), (.iload_n 3, 1, 0, 0, 0, []), (.goto 4, 3, 69, 0, 0, [])]
def b_M_leave_68 : List mRow := [(.iload_n 2, 1, 0, 0, 0, [])]
def b_M_leave_69 : List mRow := [(.istore_n 2, 1, 0, 0, 0, []), (.iinc 3 1, 3, 0, 0, 0, []), (.goto (-39), 3, 34, 0, 0, [])]
def b_M_leave_76 : List mRow := [(.iload_n 2, 1, 0, 0, 0, []), (.bipush (-4), 2, 0, 0, 0, []), (.if_icmp .eq 7, 3, 86, 0, 0, []), (.iload_n 1, 1, 0, 0, 0, []), (.ifCond .ne 7, 3, 90, 0, 0, [])]
def b_M_leave_86 : List mRow := [(.iload_n 2, 1, 0, 0, 0, []), (.goto 7, 3, 94, 0, 0, [])]
def b_M_leave_90 : List mRow := [(.aload_n 0, 1, 0, 0, 0, []), (.getfield 190, 3, 6, 17, 0, [])]
def b_M_leave_94 : List mRow := [(.ireturn, 1, 0, 0, 0, [])]
def m_M_leave : mMeth := ([(0, b_M_leave_0), (12, b_M_leave_12), (34, b_M_leave_34), (68, b_M_leave_68), (69, b_M_leave_69), (76, b_M_leave_76), (86, b_M_leave_86), (90, b_M_leave_90), (94, b_M_leave_94)], [(0, [0, 1]), (12, [0, 1]), (34, [0, 1, 2, 3]), (68, [0, 1, 2, 3]), (69, [0, 1, 3]), (76, [0, 1, 2]), (86, [2]), (90, [0]), (94, [])])
def b_M_lowest_0 : List mRow := [(.lload_n 0, 1, 0, 0, 0, []), (.lstore 5, 2, 0, 0, 0, []), (.lload_n 2, 1, 0, 0, 0, []), (.lstore 7, 2, 0, 0, 0, [])]
def b_M_lowest_6 : List mRow := [(.lload 7, 2, 0, 0, 0, []), (.lconst 0, 1, 0, 0, 0, []), (.lcmp, 1, 0, 0, 0, []), (.ifCond .eq 21, 3, 31, 0, 0, []), (.lload 5, 2, 0, 0, 0, []), (.lload 7, 2, 0, 0, 0, []), (.lrem, 1, 0, 0, 0, []), (.lstore 9, 2, 0, 0, 0, []), (.lload 7, 2, 0, 0, 0, []), (.lstore 5, 2, 0, 0, 0, []), (.lload 9, 2, 0, 0, 0, []), (.lstore 7, 2, 0, 0, 0, []), (.goto (-22), 3, 6, 0, 0, [])]
def b_M_lowest_31 : List mRow := [(.iload 4, 2, 0, 0, 0, []), (.ifCond .ne 7, 3, 40, 0, 0, []), (.lload_n 0, 1, 0, 0, 0, []), (.goto 4, 3, 41, 0, 0, [])]
def b_M_lowest_40 : List mRow := [(.lload_n 2, 1, 0, 0, 0, [])]
def b_M_lowest_41 : List mRow := [(.lload 5, 2, 0, 0, 0, []), (.ldiv, 1, 0, 0, 0, []), (.lreturn, 1, 0, 0, 0, [])]
def m_M_lowest : mMeth := ([(0, b_M_lowest_0), (6, b_M_lowest_6), (31, b_M_lowest_31), (40, b_M_lowest_40), (41, b_M_lowest_41)], [(0, [0, 2, 4]), (6, [0, 2, 4, 5, 7]), (31, [0, 2, 4, 5]), (40, [2, 5]), (41, [5])])
def b_M_laysRunning_0 : List mRow := [(.iconst 0, 1, 0, 0, 0, []), (.istore_n 1, 1, 0, 0, 0, []), (.iconst 0, 1, 0, 0, 0, []), (.istore_n 2, 1, 0, 0, 0, [])]
def b_M_laysRunning_4 : List mRow := [(.iload_n 2, 1, 0, 0, 0, []), (.bipush 30, 2, 0, 0, 0, []), (.if_icmp .ge 41, 3, 48, 0, 0, []), (.aload_n 0, 1, 0, 0, 0, []), (.getfield 7, 3, 6, 0, 1, []), (.iload_n 2, 1, 0, 0, 0, []), (.iaload, 1, 0, 0, 0, []), (.iconst 1, 1, 0, 0, 0, []), (.if_icmp .ne 25, 3, 42, 0, 0, []), (.aload_n 0, 1, 0, 0, 0, []), (.getfield 7, 3, 6, 0, 1, []), (.iload_n 2, 1, 0, 0, 0, []), (.bipush 6, 2, 0, 0, 0, []), (.iadd, 1, 0, 0, 0, []), (.iaload, 1, 0, 0, 0, []), (.ifCond .ne 13, 3, 42, 0, 0, []), (.aload_n 0, 1, 0, 0, 0, []), (.getfield 25, 3, 6, 20, 1, []), (.iload_n 1, 1, 0, 0, 0, []), (.iload_n 2, 1, 0, 0, 0, []), (.iastore, 1, 0, 0, 0, []), (.iinc 1 1, 3, 0, 0, 0, [])]
def b_M_laysRunning_42 : List mRow := [(.iinc 2 1, 3, 0, 0, 0, []), (.goto (-41), 3, 4, 0, 0, [])]
def b_M_laysRunning_48 : List mRow := [(.iload_n 1, 1, 0, 0, 0, []), (.ireturn, 1, 0, 0, 0, [])]
def m_M_laysRunning : mMeth := ([(0, b_M_laysRunning_0), (4, b_M_laysRunning_4), (42, b_M_laysRunning_42), (48, b_M_laysRunning_48)], [(0, [0]), (4, [0, 1, 2]), (42, [0, 1, 2]), (48, [1])])
def b_M_byRuns_0 : List mRow := [(.aload_n 0, 1, 0, 0, 0, []), (.invokevirtual 212, 3, 168, 1, 1, [9]), (.istore 4, 2, 0, 0, 0, []), (.lconst 0, 1, 0, 0, 0, []), (.lstore 5, 2, 0, 0, 0, []), (.lconst 1, 1, 0, 0, 0, []), (.lstore 7, 2, 0, 0, 0, []), (.iconst 0, 1, 0, 0, 0, []), (.istore 9, 2, 0, 0, 0, [])]
def b_M_byRuns_15 : List mRow := [(.iload 9, 2, 0, 0, 0, []), (.iload 4, 2, 0, 0, 0, []), (.if_icmp .ge 17, 3, 36, 0, 0, []), (.lload 7, 2, 0, 0, 0, []), (.ldc2_w 205, 3, 0, 0, 10, []), (.lmul, 1, 0, 0, 0, []), (.lstore 7, 2, 0, 0, 0, []), (.iinc 9 1, 3, 0, 0, 0, []), (.goto (-18), 3, 15, 0, 0, [])]
def b_M_byRuns_36 : List mRow := [(.iconst 0, 1, 0, 0, 0, []), (.istore 9, 2, 0, 0, 0, [])]
def b_M_byRuns_39 : List mRow := [(.iload 9, 2, 0, 0, 0, []), (.iconst 1, 1, 0, 0, 0, []), (.iload 4, 2, 0, 0, 0, []), (.ishl, 1, 0, 0, 0, []), (.if_icmp .ge 141, 3, 186, 0, 0, []), (.lconst 1, 1, 0, 0, 0, []), (.lstore 10, 2, 0, 0, 0, []), (.aload_n 0, 1, 0, 0, 0, []), (.iconst 0, 1, 0, 0, 0, []), (.sipush 340, 3, 0, 0, 0, []), (.invokevirtual 177, 3, 154, 3, 0, [9]), (.iconst 0, 1, 0, 0, 0, []), (.istore 12, 2, 0, 0, 0, [])]
def b_M_byRuns_62 : List mRow := [(.iload 12, 2, 0, 0, 0, []), (.iload 4, 2, 0, 0, 0, []), (.if_icmp .ge 72, 3, 138, 0, 0, []), (.iload 9, 2, 0, 0, 0, []), (.iload 12, 2, 0, 0, 0, []), (.ishr, 1, 0, 0, 0, []), (.iconst 1, 1, 0, 0, 0, []), (.iand, 1, 0, 0, 0, []), (.iconst 1, 1, 0, 0, 0, []), (.if_icmp .ne 7, 3, 84, 0, 0, []), (.iconst 1, 1, 0, 0, 0, []), (.goto 4, 3, 85, 0, 0, [])]
def b_M_byRuns_84 : List mRow := [(.iconst 0, 1, 0, 0, 0, [])]
def b_M_byRuns_85 : List mRow := [(.istore 13, 2, 0, 0, 0, []), (.lload 10, 2, 0, 0, 0, []), (.iload 13, 2, 0, 0, 0, []), (.ifCond .eq 8, 3, 99, 0, 0, []), (.iload_n 1, 1, 0, 0, 0, []), (.i2l, 1, 0, 0, 0, []), (.goto 8, 3, 104, 0, 0, [])]
def b_M_byRuns_99 : List mRow := [(.bipush 10, 2, 0, 0, 0, []), (.iload_n 1, 1, 0, 0, 0, []), (.isub, 1, 0, 0, 0, []), (.i2l, 1, 0, 0, 0, [])]
def b_M_byRuns_104 : List mRow := [(.lmul, 1, 0, 0, 0, []), (.lstore 10, 2, 0, 0, 0, []), (.iload 13, 2, 0, 0, 0, []), (.ifCond .eq 23, 3, 132, 0, 0, []), (.aload_n 0, 1, 0, 0, 0, []), (.getfield 7, 3, 6, 0, 1, []), (.sipush 340, 3, 0, 0, 0, []), (.aload_n 0, 1, 0, 0, 0, []), (.getfield 25, 3, 6, 20, 1, []), (.iload 12, 2, 0, 0, 0, []), (.iaload, 1, 0, 0, 0, []), (.iadd, 1, 0, 0, 0, []), (.bipush 6, 2, 0, 0, 0, []), (.iadd, 1, 0, 0, 0, []), (.iconst 1, 1, 0, 0, 0, []), (.iastore, 1, 0, 0, 0, [])]
def b_M_byRuns_132 : List mRow := [(.iinc 12 1, 3, 0, 0, 0, []), (.goto (-73), 3, 62, 0, 0, [])]
def b_M_byRuns_138 : List mRow := [(.lload 5, 2, 0, 0, 0, []), (.lload 10, 2, 0, 0, 0, []), (.iload_n 2, 1, 0, 0, 0, []), (.bipush (-4), 2, 0, 0, 0, []), (.if_icmp .ne 13, 3, 158, 0, 0, []), (.aload_n 0, 1, 0, 0, 0, []), (.sipush 340, 3, 0, 0, 0, []), (.invokevirtual 150, 3, 134, 2, 1, [9]), (.goto 20, 3, 175, 0, 0, [])]
def b_M_byRuns_158 : List mRow := [(.aload_n 0, 1, 0, 0, 0, []), (.sipush 340, 3, 0, 0, 0, []), (.iload_n 2, 1, 0, 0, 0, []), (.iconst 0, 1, 0, 0, 0, []), (.invokevirtual 136, 3, 133, 4, 1, [9]), (.ifCond .le 7, 3, 174, 0, 0, []), (.iconst 1, 1, 0, 0, 0, []), (.goto 4, 3, 175, 0, 0, [])]
def b_M_byRuns_174 : List mRow := [(.iconst 0, 1, 0, 0, 0, [])]
def b_M_byRuns_175 : List mRow := [(.i2l, 1, 0, 0, 0, []), (.lmul, 1, 0, 0, 0, []), (.ladd, 1, 0, 0, 0, []), (.lstore 5, 2, 0, 0, 0, []), (.iinc 9 1, 3, 0, 0, 0, []), (.goto (-144), 3, 39, 0, 0, [])]
def b_M_byRuns_186 : List mRow := [(.lload 5, 2, 0, 0, 0, []), (.lload 7, 2, 0, 0, 0, []), (.iload_n 3, 1, 0, 0, 0, []), (.invokestatic 215, 3, 167, 3, 2, []), (.lreturn, 1, 0, 0, 0, [])]
def m_M_byRuns : mMeth := ([(0, b_M_byRuns_0), (15, b_M_byRuns_15), (36, b_M_byRuns_36), (39, b_M_byRuns_39), (62, b_M_byRuns_62), (84, b_M_byRuns_84), (85, b_M_byRuns_85), (99, b_M_byRuns_99), (104, b_M_byRuns_104), (132, b_M_byRuns_132), (138, b_M_byRuns_138), (158, b_M_byRuns_158), (174, b_M_byRuns_174), (175, b_M_byRuns_175), (186, b_M_byRuns_186)], [(0, [0, 1, 2, 3]), (15, [0, 1, 2, 3, 4, 5, 7, 9]), (36, [0, 1, 2, 3, 4, 5, 7]), (39, [0, 1, 2, 3, 4, 5, 7, 9]), (62, [0, 1, 2, 3, 4, 5, 7, 9, 10, 12]), (84, [0, 1, 2, 3, 4, 5, 7, 9, 10, 12]), (85, [0, 1, 2, 3, 4, 5, 7, 9, 10, 12]), (99, [0, 1, 2, 3, 4, 5, 7, 9, 12, 13]), (104, [0, 1, 2, 3, 4, 5, 7, 9, 12, 13]), (132, [0, 1, 2, 3, 4, 5, 7, 9, 10, 12]), (138, [0, 1, 2, 3, 4, 5, 7, 9, 10]), (158, [0, 1, 2, 3, 4, 7, 9]), (174, [0, 1, 2, 3, 4, 7, 9]), (175, [0, 1, 2, 3, 4, 7, 9]), (186, [3, 5, 7])])
def b_M_luck_0 : List mRow := [(.iload_n 1, 1, 0, 0, 0, []), (.i2l, 1, 0, 0, 0, []), (.lconst 0, 1, 0, 0, 0, []), (.ldc2_w 205, 3, 0, 0, 10, []), (.invokestatic 52, 3, 115, 3, 1, []), (.ifCond .eq 21, 3, 30, 0, 0, []), (.aload_n 0, 1, 0, 0, 0, []), (.iload_n 2, 1, 0, 0, 0, []), (.invokevirtual 157, 3, 128, 2, 1, [9]), (.ifCond .eq 13, 3, 30, 0, 0, []), (.iload_n 3, 1, 0, 0, 0, []), (.i2l, 1, 0, 0, 0, []), (.lconst 0, 1, 0, 0, 0, []), (.lconst 1, 1, 0, 0, 0, []), (.invokestatic 52, 3, 115, 3, 1, []), (.ifCond .ne 7, 3, 34, 0, 0, [])]
def b_M_luck_30 : List mRow := [(.ldc2_w 219, 3, 0, 0, (-1), []), (.lreturn, 1, 0, 0, 0, [])]
def b_M_luck_34 : List mRow := [(.aload_n 0, 1, 0, 0, 0, []), (.invokevirtual 212, 3, 168, 1, 1, [9]), (.bipush 8, 2, 0, 0, 0, []), (.if_icmp .le 9, 3, 49, 0, 0, []), (.ldc2_w 221, 3, 0, 0, (-2), []), (.goto 10, 3, 56, 0, 0, [])]
def b_M_luck_49 : List mRow := [(.aload_n 0, 1, 0, 0, 0, []), (.iload_n 1, 1, 0, 0, 0, []), (.iload_n 2, 1, 0, 0, 0, []), (.iload_n 3, 1, 0, 0, 0, []), (.invokevirtual 223, 3, 169, 4, 2, [9])]
def b_M_luck_56 : List mRow := [(.lreturn, 1, 0, 0, 0, [])]
def m_M_luck : mMeth := ([(0, b_M_luck_0), (30, b_M_luck_30), (34, b_M_luck_34), (49, b_M_luck_49), (56, b_M_luck_56)], [(0, [0, 1, 2, 3]), (30, []), (34, [0, 1, 2, 3]), (49, [0, 1, 2, 3]), (56, [])])
def b_M_mean_0 : List mRow := [(.iload_n 1, 1, 0, 0, 0, []), (.i2l, 1, 0, 0, 0, []), (.lconst 0, 1, 0, 0, 0, []), (.ldc2_w 205, 3, 0, 0, 10, []), (.invokestatic 52, 3, 115, 3, 1, []), (.ifCond .eq 13, 3, 22, 0, 0, []), (.iload_n 2, 1, 0, 0, 0, []), (.i2l, 1, 0, 0, 0, []), (.lconst 0, 1, 0, 0, 0, []), (.lconst 1, 1, 0, 0, 0, []), (.invokestatic 52, 3, 115, 3, 1, []), (.ifCond .ne 7, 3, 26, 0, 0, [])]
def b_M_mean_22 : List mRow := [(.ldc2_w 219, 3, 0, 0, (-1), []), (.lreturn, 1, 0, 0, 0, [])]
def b_M_mean_26 : List mRow := [(.aload_n 0, 1, 0, 0, 0, []), (.invokevirtual 212, 3, 168, 1, 1, [9]), (.bipush 8, 2, 0, 0, 0, []), (.if_icmp .le 9, 3, 41, 0, 0, []), (.ldc2_w 221, 3, 0, 0, (-2), []), (.goto 11, 3, 49, 0, 0, [])]
def b_M_mean_41 : List mRow := [(.aload_n 0, 1, 0, 0, 0, []), (.iload_n 1, 1, 0, 0, 0, []), (.bipush (-4), 2, 0, 0, 0, []), (.iload_n 2, 1, 0, 0, 0, []), (.invokevirtual 223, 3, 169, 4, 2, [9])]
def b_M_mean_49 : List mRow := [(.lreturn, 1, 0, 0, 0, [])]
def m_M_mean : mMeth := ([(0, b_M_mean_0), (22, b_M_mean_22), (26, b_M_mean_26), (41, b_M_mean_41), (49, b_M_mean_49)], [(0, [0, 1, 2]), (22, []), (26, [0, 1, 2]), (41, [0, 1, 2]), (49, [])])
def b_M_see_0 : List mRow := [(.aload_n 0, 1, 0, 0, 0, []), (.iload_n 1, 1, 0, 0, 0, []), (.invokevirtual 157, 3, 128, 2, 1, [9]), (.ifCond .eq 15, 3, 20, 0, 0, []), (.iload_n 2, 1, 0, 0, 0, []), (.i2l, 1, 0, 0, 0, []), (.lconst 0, 1, 0, 0, 0, []), (.ldc2_w 227, 3, 0, 0, 60, []), (.invokestatic 52, 3, 115, 3, 1, []), (.ifCond .ne 5, 3, 22, 0, 0, [])]
def b_M_see_20 : List mRow := [(.iconst (-1), 1, 0, 0, 0, []), (.ireturn, 1, 0, 0, 0, [])]
def b_M_see_22 : List mRow := [(.aload_n 0, 1, 0, 0, 0, []), (.getfield 125, 3, 6, 22, 0, []), (.bipush 6, 2, 0, 0, 0, []), (.if_icmp .ne 6, 3, 34, 0, 0, []), (.bipush (-3), 2, 0, 0, 0, []), (.ireturn, 1, 0, 0, 0, [])]
def b_M_see_34 : List mRow := [(.aload_n 0, 1, 0, 0, 0, []), (.getfield 28, 3, 6, 21, 1, []), (.iconst 2, 1, 0, 0, 0, []), (.aload_n 0, 1, 0, 0, 0, []), (.getfield 125, 3, 6, 22, 0, []), (.imul, 1, 0, 0, 0, []), (.iload_n 1, 1, 0, 0, 0, []), (.iastore, 1, 0, 0, 0, []), (.aload_n 0, 1, 0, 0, 0, []), (.getfield 28, 3, 6, 21, 1, []), (.iconst 2, 1, 0, 0, 0, []), (.aload_n 0, 1, 0, 0, 0, []), (.getfield 125, 3, 6, 22, 0, []), (.imul, 1, 0, 0, 0, []), (.iconst 1, 1, 0, 0, 0, []), (.iadd, 1, 0, 0, 0, []), (.iload_n 2, 1, 0, 0, 0, []), (.iastore, 1, 0, 0, 0, []), (.aload_n 0, 1, 0, 0, 0, []), (.dup, 1, 0, 0, 0, []), (.getfield 125, 3, 6, 22, 0, []), (.iconst 1, 1, 0, 0, 0, []), (.iadd, 1, 0, 0, 0, []), (.putfield 125, 3, 6, 22, 0, []), (.aload_n 0, 1, 0, 0, 0, []), (.getfield 125, 3, 6, 22, 0, []), (.ireturn, 1, 0, 0, 0, [])]
def m_M_see : mMeth := ([(0, b_M_see_0), (20, b_M_see_20), (22, b_M_see_22), (34, b_M_see_34)], [(0, [0, 1, 2]), (20, []), (22, [0, 1, 2]), (34, [0, 1, 2])])
def b_M_forget_0 : List mRow := [(.iload_n 1, 1, 0, 0, 0, []), (.i2l, 1, 0, 0, 0, []), (.lconst 0, 1, 0, 0, 0, []), (.aload_n 0, 1, 0, 0, 0, []), (.getfield 125, 3, 6, 22, 0, []), (.i2l, 1, 0, 0, 0, []), (.invokestatic 52, 3, 115, 3, 1, []), (.ifCond .ne 5, 3, 16, 0, 0, []), (.iconst (-1), 1, 0, 0, 0, []), (.ireturn, 1, 0, 0, 0, [])]
def b_M_forget_16 : List mRow := [(.aload_n 0, 1, 0, 0, 0, []), (.getfield 125, 3, 6, 22, 0, []), (.istore_n 2, 1, 0, 0, 0, []), (.aload_n 0, 1, 0, 0, 0, []), (.iload_n 1, 1, 0, 0, 0, []), (.putfield 125, 3, 6, 22, 0, []), (.iload_n 2, 1, 0, 0, 0, []), (.ireturn, 1, 0, 0, 0, [])]
def m_M_forget : mMeth := ([(0, b_M_forget_0), (16, b_M_forget_16)], [(0, [0, 1]), (16, [0, 1])])
def b_M_isTooMany_0 : List mRow := [(.aload_n 0, 1, 0, 0, 0, []), (.iconst 0, 1, 0, 0, 0, []), (.putfield 229, 3, 6, 24, 0, []), (.iconst 0, 1, 0, 0, 0, []), (.istore_n 1, 1, 0, 0, 0, [])]
def b_M_isTooMany_7 : List mRow := [(.iload_n 1, 1, 0, 0, 0, []), (.bipush 36, 2, 0, 0, 0, []), (.if_icmp .ge 39, 3, 49, 0, 0, []), (.aload_n 0, 1, 0, 0, 0, []), (.getfield 7, 3, 6, 0, 1, []), (.iload_n 1, 1, 0, 0, 0, []), (.iaload, 1, 0, 0, 0, []), (.iconst 4, 1, 0, 0, 0, []), (.if_icmp .ne 23, 3, 43, 0, 0, []), (.aload_n 0, 1, 0, 0, 0, []), (.getfield 31, 3, 6, 23, 1, []), (.aload_n 0, 1, 0, 0, 0, []), (.getfield 229, 3, 6, 24, 0, []), (.iload_n 1, 1, 0, 0, 0, []), (.iastore, 1, 0, 0, 0, []), (.aload_n 0, 1, 0, 0, 0, []), (.dup, 1, 0, 0, 0, []), (.getfield 229, 3, 6, 24, 0, []), (.iconst 1, 1, 0, 0, 0, []), (.iadd, 1, 0, 0, 0, []), (.putfield 229, 3, 6, 24, 0, [])]
def b_M_isTooMany_43 : List mRow := [(.iinc 1 1, 3, 0, 0, 0, []), (.goto (-39), 3, 7, 0, 0, [])]
def b_M_isTooMany_49 : List mRow := [(.aload_n 0, 1, 0, 0, 0, []), (.getfield 229, 3, 6, 24, 0, []), (.iconst 4, 1, 0, 0, 0, []), (.if_icmp .le 7, 3, 61, 0, 0, []), (.iconst 1, 1, 0, 0, 0, []), (.goto 4, 3, 62, 0, 0, [])]
def b_M_isTooMany_61 : List mRow := [(.iconst 0, 1, 0, 0, 0, [])]
def b_M_isTooMany_62 : List mRow := [(.ireturn, 1, 0, 0, 1, [])]
def m_M_isTooMany : mMeth := ([(0, b_M_isTooMany_0), (7, b_M_isTooMany_7), (43, b_M_isTooMany_43), (49, b_M_isTooMany_49), (61, b_M_isTooMany_61), (62, b_M_isTooMany_62)], [(0, [0]), (7, [0, 1]), (43, [0, 1]), (49, [0]), (61, []), (62, [])])
def b_M_fillMany_0 : List mRow := [(.iconst 1, 1, 0, 0, 0, []), (.iconst 2, 1, 0, 0, 0, []), (.aload_n 0, 1, 0, 0, 0, []), (.getfield 229, 3, 6, 24, 0, []), (.imul, 1, 0, 0, 0, []), (.ishl, 1, 0, 0, 0, []), (.ireturn, 1, 0, 0, 0, [])]
def m_M_fillMany : mMeth := ([(0, b_M_fillMany_0)], [(0, [0])])
def b_M_isFit_0 : List mRow := [(.aload_n 0, 1, 0, 0, 0, []), (.iconst 0, 1, 0, 0, 0, []), (.sipush 340, 3, 0, 0, 0, []), (.invokevirtual 177, 3, 154, 3, 0, [9]), (.iconst 0, 1, 0, 0, 0, []), (.istore_n 2, 1, 0, 0, 0, [])]
def b_M_isFit_10 : List mRow := [(.iload_n 2, 1, 0, 0, 0, []), (.aload_n 0, 1, 0, 0, 0, []), (.getfield 229, 3, 6, 24, 0, []), (.if_icmp .ge 31, 3, 46, 0, 0, []), (.aload_n 0, 1, 0, 0, 0, []), (.getfield 7, 3, 6, 0, 1, []), (.sipush 340, 3, 0, 0, 0, []), (.aload_n 0, 1, 0, 0, 0, []), (.getfield 31, 3, 6, 23, 1, []), (.iload_n 2, 1, 0, 0, 0, []), (.iaload, 1, 0, 0, 0, []), (.iadd, 1, 0, 0, 0, []), (.iload_n 1, 1, 0, 0, 0, []), (.iconst 2, 1, 0, 0, 0, []), (.iload_n 2, 1, 0, 0, 0, []), (.imul, 1, 0, 0, 0, []), (.ishr, 1, 0, 0, 0, []), (.iconst 3, 1, 0, 0, 0, []), (.iand, 1, 0, 0, 0, []), (.iastore, 1, 0, 0, 0, []), (.iinc 2 1, 3, 0, 0, 0, []), (.goto (-33), 3, 10, 0, 0, [])]
def b_M_isFit_46 : List mRow := [(.iconst 1, 1, 0, 0, 0, []), (.istore_n 2, 1, 0, 0, 0, []), (.iconst 0, 1, 0, 0, 0, []), (.istore_n 3, 1, 0, 0, 0, [])]
def b_M_isFit_50 : List mRow := [(.iload_n 3, 1, 0, 0, 0, []), (.aload_n 0, 1, 0, 0, 0, []), (.getfield 125, 3, 6, 22, 0, []), (.if_icmp .ge 63, 3, 118, 0, 0, []), (.iload_n 2, 1, 0, 0, 0, []), (.ifCond .eq 51, 3, 110, 0, 0, []), (.aload_n 0, 1, 0, 0, 0, []), (.aload_n 0, 1, 0, 0, 0, []), (.getfield 28, 3, 6, 21, 1, []), (.iconst 2, 1, 0, 0, 0, []), (.iload_n 3, 1, 0, 0, 0, []), (.imul, 1, 0, 0, 0, []), (.iaload, 1, 0, 0, 0, []), (.invokevirtual 157, 3, 128, 2, 1, [9]), (.ifCond .eq 36, 3, 110, 0, 0, []), (.aload_n 0, 1, 0, 0, 0, []), (.sipush 340, 3, 0, 0, 0, []), (.aload_n 0, 1, 0, 0, 0, []), (.getfield 28, 3, 6, 21, 1, []), (.iconst 2, 1, 0, 0, 0, []), (.iload_n 3, 1, 0, 0, 0, []), (.imul, 1, 0, 0, 0, []), (.iaload, 1, 0, 0, 0, []), (.iconst 0, 1, 0, 0, 0, []), (.invokevirtual 136, 3, 133, 4, 1, [9]), (.aload_n 0, 1, 0, 0, 0, []), (.getfield 28, 3, 6, 21, 1, []), (.iconst 2, 1, 0, 0, 0, []), (.iload_n 3, 1, 0, 0, 0, []), (.imul, 1, 0, 0, 0, []), (.iconst 1, 1, 0, 0, 0, []), (.iadd, 1, 0, 0, 0, []), (.iaload, 1, 0, 0, 0, []), (.if_icmp .ne 7, 3, 110, 0, 0, []), (.iconst 1, 1, 0, 0, 0, []), (.goto 4, 3, 111, 0, 0, [])]
def b_M_isFit_110 : List mRow := [(.iconst 0, 1, 0, 0, 0, [])]
def b_M_isFit_111 : List mRow := [(.istore_n 2, 1, 0, 0, 0, []), (.iinc 3 1, 3, 0, 0, 0, []), (.goto (-65), 3, 50, 0, 0, [])]
def b_M_isFit_118 : List mRow := [(.iload_n 2, 1, 0, 0, 0, []), (.ireturn, 1, 0, 0, 1, [])]
def m_M_isFit : mMeth := ([(0, b_M_isFit_0), (10, b_M_isFit_10), (46, b_M_isFit_46), (50, b_M_isFit_50), (110, b_M_isFit_110), (111, b_M_isFit_111), (118, b_M_isFit_118)], [(0, [0, 1]), (10, [0, 1, 2]), (46, [0]), (50, [0, 2, 3]), (110, [0, 3]), (111, [0, 3]), (118, [2])])
def b_M_fills_0 : List mRow := [(.aload_n 0, 1, 0, 0, 0, []), (.invokevirtual 232, 3, 174, 1, 1, [9]), (.ifCond .eq 6, 3, 10, 0, 0, []), (.bipush (-2), 2, 0, 0, 0, []), (.ireturn, 1, 0, 0, 0, [])]
def b_M_fills_10 : List mRow := [(.iconst 0, 1, 0, 0, 0, []), (.istore_n 1, 1, 0, 0, 0, []), (.iconst 0, 1, 0, 0, 0, []), (.istore_n 2, 1, 0, 0, 0, [])]
def b_M_fills_14 : List mRow := [(.iload_n 2, 1, 0, 0, 0, []), (.aload_n 0, 1, 0, 0, 0, []), (.invokevirtual 236, 3, 175, 1, 1, [9]), (.if_icmp .ge 25, 3, 44, 0, 0, []), (.iload_n 1, 1, 0, 0, 0, []), (.aload_n 0, 1, 0, 0, 0, []), (.iload_n 2, 1, 0, 0, 0, []), (.invokevirtual 239, 3, 176, 2, 1, [9]), (.ifCond .eq 7, 3, 35, 0, 0, []), (.iconst 1, 1, 0, 0, 0, []), (.goto 4, 3, 36, 0, 0, [])]
def b_M_fills_35 : List mRow := [(.iconst 0, 1, 0, 0, 0, [])]
def b_M_fills_36 : List mRow := [(.iadd, 1, 0, 0, 0, []), (.istore_n 1, 1, 0, 0, 0, []), (.iinc 2 1, 3, 0, 0, 0, []), (.goto (-27), 3, 14, 0, 0, [])]
def b_M_fills_44 : List mRow := [(.iload_n 1, 1, 0, 0, 0, []), (.ireturn, 1, 0, 0, 0, [])]
def m_M_fills : mMeth := ([(0, b_M_fills_0), (10, b_M_fills_10), (14, b_M_fills_14), (35, b_M_fills_35), (36, b_M_fills_36), (44, b_M_fills_44)], [(0, [0]), (10, [0]), (14, [0, 1, 2]), (35, [0, 2]), (36, [0, 2]), (44, [1])])
def b_M_shades_0 : List mRow := [(.iload_n 1, 1, 0, 0, 0, []), (.iload_n 2, 1, 0, 0, 0, []), (.invokestatic 153, 3, 129, 2, 1, []), (.ifCond .ne 5, 3, 10, 0, 0, []), (.iconst (-1), 1, 0, 0, 0, []), (.ireturn, 1, 0, 0, 0, [])]
def b_M_shades_10 : List mRow := [(.aload_n 0, 1, 0, 0, 0, []), (.invokevirtual 232, 3, 174, 1, 1, [9]), (.ifCond .ne 18, 3, 32, 0, 0, []), (.aload_n 0, 1, 0, 0, 0, []), (.getfield 7, 3, 6, 0, 1, []), (.bipush 6, 2, 0, 0, 0, []), (.iload_n 1, 1, 0, 0, 0, []), (.imul, 1, 0, 0, 0, []), (.iload_n 2, 1, 0, 0, 0, []), (.iadd, 1, 0, 0, 0, []), (.iaload, 1, 0, 0, 0, []), (.iconst 4, 1, 0, 0, 0, []), (.if_icmp .eq 6, 3, 35, 0, 0, [])]
def b_M_shades_32 : List mRow := [(.bipush (-2), 2, 0, 0, 0, []), (.ireturn, 1, 0, 0, 0, [])]
def b_M_shades_35 : List mRow := [(.iconst 0, 1, 0, 0, 0, []), (.istore_n 3, 1, 0, 0, 0, []), (.iconst 0, 1, 0, 0, 0, []), (.istore 4, 2, 0, 0, 0, [])]
def b_M_shades_40 : List mRow := [(.iload 4, 2, 0, 0, 0, []), (.aload_n 0, 1, 0, 0, 0, []), (.invokevirtual 236, 3, 175, 1, 1, [9]), (.if_icmp .ge 42, 3, 88, 0, 0, []), (.iload_n 3, 1, 0, 0, 0, []), (.aload_n 0, 1, 0, 0, 0, []), (.iload 4, 2, 0, 0, 0, []), (.invokevirtual 239, 3, 176, 2, 1, [9]), (.ifCond .eq 23, 3, 79, 0, 0, []), (.iconst 1, 1, 0, 0, 0, []), (.aload_n 0, 1, 0, 0, 0, []), (.getfield 7, 3, 6, 0, 1, []), (.sipush 340, 3, 0, 0, 0, []), (.bipush 6, 2, 0, 0, 0, []), (.iload_n 1, 1, 0, 0, 0, []), (.imul, 1, 0, 0, 0, []), (.iadd, 1, 0, 0, 0, []), (.iload_n 2, 1, 0, 0, 0, []), (.iadd, 1, 0, 0, 0, []), (.iaload, 1, 0, 0, 0, []), (.ishl, 1, 0, 0, 0, []), (.goto 4, 3, 80, 0, 0, [])]
def b_M_shades_79 : List mRow := [(.iconst 0, 1, 0, 0, 0, [])]
def b_M_shades_80 : List mRow := [(.ior, 1, 0, 0, 0, []), (.istore_n 3, 1, 0, 0, 0, []), (.iinc 4 1, 3, 0, 0, 0, []), (.goto (-45), 3, 40, 0, 0, [])]
def b_M_shades_88 : List mRow := [(.iload_n 3, 1, 0, 0, 0, []), (.ireturn, 1, 0, 0, 0, [])]
def m_M_shades : mMeth := ([(0, b_M_shades_0), (10, b_M_shades_10), (32, b_M_shades_32), (35, b_M_shades_35), (40, b_M_shades_40), (79, b_M_shades_79), (80, b_M_shades_80), (88, b_M_shades_88)], [(0, [0, 1, 2]), (10, [0, 1, 2]), (32, []), (35, [0, 1, 2]), (40, [0, 1, 2, 3, 4]), (79, [0, 1, 2, 4]), (80, [0, 1, 2, 4]), (88, [3])])
def b_M_span_0 : List mRow := [(.iload_n 1, 1, 0, 0, 0, []), (.i2l, 1, 0, 0, 0, []), (.lconst 0, 1, 0, 0, 0, []), (.lconst 1, 1, 0, 0, 0, []), (.invokestatic 52, 3, 115, 3, 1, []), (.ifCond .ne 5, 3, 12, 0, 0, []), (.iconst (-1), 1, 0, 0, 0, []), (.ireturn, 1, 0, 0, 0, [])]
def b_M_span_12 : List mRow := [(.aload_n 0, 1, 0, 0, 0, []), (.invokevirtual 232, 3, 174, 1, 1, [9]), (.ifCond .eq 6, 3, 22, 0, 0, []), (.bipush (-2), 2, 0, 0, 0, []), (.ireturn, 1, 0, 0, 0, [])]
def b_M_span_22 : List mRow := [(.bipush (-4), 2, 0, 0, 0, []), (.istore_n 2, 1, 0, 0, 0, []), (.bipush (-4), 2, 0, 0, 0, []), (.istore_n 3, 1, 0, 0, 0, []), (.iconst 0, 1, 0, 0, 0, []), (.istore 4, 2, 0, 0, 0, [])]
def b_M_span_31 : List mRow := [(.iload 4, 2, 0, 0, 0, []), (.aload_n 0, 1, 0, 0, 0, []), (.invokevirtual 236, 3, 175, 1, 1, [9]), (.if_icmp .ge 59, 3, 96, 0, 0, []), (.aload_n 0, 1, 0, 0, 0, []), (.iload 4, 2, 0, 0, 0, []), (.invokevirtual 239, 3, 176, 2, 1, [9]), (.ifCond .eq 44, 3, 90, 0, 0, []), (.aload_n 0, 1, 0, 0, 0, []), (.sipush 340, 3, 0, 0, 0, []), (.invokevirtual 150, 3, 134, 2, 1, [9]), (.istore 5, 2, 0, 0, 0, []), (.iload_n 2, 1, 0, 0, 0, []), (.bipush (-4), 2, 0, 0, 0, []), (.if_icmp .eq 9, 3, 70, 0, 0, []), (.iload 5, 2, 0, 0, 0, []), (.iload_n 2, 1, 0, 0, 0, []), (.if_icmp .ge 8, 3, 75, 0, 0, [])]
def b_M_span_70 : List mRow := [(.iload 5, 2, 0, 0, 0, []), (.goto 4, 3, 76, 0, 0, [])]
def b_M_span_75 : List mRow := [(.iload_n 2, 1, 0, 0, 0, [])]
def b_M_span_76 : List mRow := [(.istore_n 2, 1, 0, 0, 0, []), (.iload 5, 2, 0, 0, 0, []), (.iload_n 3, 1, 0, 0, 0, []), (.if_icmp .le 8, 3, 88, 0, 0, []), (.iload 5, 2, 0, 0, 0, []), (.goto 4, 3, 89, 0, 0, [])]
def b_M_span_88 : List mRow := [(.iload_n 3, 1, 0, 0, 0, [])]
def b_M_span_89 : List mRow := [(.istore_n 3, 1, 0, 0, 0, [])]
def b_M_span_90 : List mRow := [(.iinc 4 1, 3, 0, 0, 0, []), (.goto (-62), 3, 31, 0, 0, [])]
def b_M_span_96 : List mRow := [(.iload_n 1, 1, 0, 0, 0, []), (.ifCond .ne 7, 3, 104, 0, 0, []), (.iload_n 2, 1, 0, 0, 0, []), (.goto 4, 3, 105, 0, 0, [])]
def b_M_span_104 : List mRow := [(.iload_n 3, 1, 0, 0, 0, [])]
def b_M_span_105 : List mRow := [(.ireturn, 1, 0, 0, 0, [])]
def m_M_span : mMeth := ([(0, b_M_span_0), (12, b_M_span_12), (22, b_M_span_22), (31, b_M_span_31), (70, b_M_span_70), (75, b_M_span_75), (76, b_M_span_76), (88, b_M_span_88), (89, b_M_span_89), (90, b_M_span_90), (96, b_M_span_96), (104, b_M_span_104), (105, b_M_span_105)], [(0, [0, 1]), (12, [0, 1]), (22, [0, 1]), (31, [0, 1, 2, 3, 4]), (70, [0, 1, 3, 4, 5]), (75, [0, 1, 2, 3, 4, 5]), (76, [0, 1, 3, 4, 5]), (88, [0, 1, 2, 3, 4]), (89, [0, 1, 2, 4]), (90, [0, 1, 2, 3, 4]), (96, [1, 2, 3]), (104, [3]), (105, [])])
def b_M_worstOf_0 : List mRow := [(.iconst 0, 1, 0, 0, 0, []), (.istore_n 2, 1, 0, 0, 0, []), (.iconst 0, 1, 0, 0, 0, []), (.istore_n 3, 1, 0, 0, 0, [])]
def b_M_worstOf_4 : List mRow := [(.iload_n 3, 1, 0, 0, 0, []), (.bipush 60, 2, 0, 0, 0, []), (.if_icmp .gt 16, 3, 23, 0, 0, []), (.aload_n 0, 1, 0, 0, 0, []), (.getfield 34, 3, 6, 25, 1, []), (.iload_n 3, 1, 0, 0, 0, []), (.iconst 0, 1, 0, 0, 0, []), (.iastore, 1, 0, 0, 0, []), (.iinc 3 1, 3, 0, 0, 0, []), (.goto (-16), 3, 4, 0, 0, [])]
def b_M_worstOf_23 : List mRow := [(.iconst 0, 1, 0, 0, 0, []), (.istore_n 3, 1, 0, 0, 0, [])]
def b_M_worstOf_25 : List mRow := [(.iload_n 3, 1, 0, 0, 0, []), (.aload_n 0, 1, 0, 0, 0, []), (.invokevirtual 236, 3, 175, 1, 1, [9]), (.if_icmp .ge 62, 3, 92, 0, 0, []), (.aload_n 0, 1, 0, 0, 0, []), (.iload_n 3, 1, 0, 0, 0, []), (.invokevirtual 239, 3, 176, 2, 1, [9]), (.ifCond .eq 48, 3, 86, 0, 0, []), (.aload_n 0, 1, 0, 0, 0, []), (.sipush 340, 3, 0, 0, 0, []), (.iload_n 1, 1, 0, 0, 0, []), (.iconst 0, 1, 0, 0, 0, []), (.invokevirtual 136, 3, 133, 4, 1, [9]), (.istore 4, 2, 0, 0, 0, []), (.aload_n 0, 1, 0, 0, 0, []), (.getfield 34, 3, 6, 25, 1, []), (.iload 4, 2, 0, 0, 0, []), (.dup2, 1, 0, 0, 0, []), (.iaload, 1, 0, 0, 0, []), (.iconst 1, 1, 0, 0, 0, []), (.iadd, 1, 0, 0, 0, []), (.iastore, 1, 0, 0, 0, []), (.aload_n 0, 1, 0, 0, 0, []), (.getfield 34, 3, 6, 25, 1, []), (.iload 4, 2, 0, 0, 0, []), (.iaload, 1, 0, 0, 0, []), (.iload_n 2, 1, 0, 0, 0, []), (.if_icmp .le 13, 3, 84, 0, 0, []), (.aload_n 0, 1, 0, 0, 0, []), (.getfield 34, 3, 6, 25, 1, []), (.iload 4, 2, 0, 0, 0, []), (.iaload, 1, 0, 0, 0, []), (.goto 4, 3, 85, 0, 0, [])]
def b_M_worstOf_84 : List mRow := [(.iload_n 2, 1, 0, 0, 0, [])]
def b_M_worstOf_85 : List mRow := [(.istore_n 2, 1, 0, 0, 0, [])]
def b_M_worstOf_86 : List mRow := [(.iinc 3 1, 3, 0, 0, 0, []), (.goto (-64), 3, 25, 0, 0, [])]
def b_M_worstOf_92 : List mRow := [(.iload_n 2, 1, 0, 0, 0, []), (.ireturn, 1, 0, 0, 0, [])]
def m_M_worstOf : mMeth := ([(0, b_M_worstOf_0), (4, b_M_worstOf_4), (23, b_M_worstOf_23), (25, b_M_worstOf_25), (84, b_M_worstOf_84), (85, b_M_worstOf_85), (86, b_M_worstOf_86), (92, b_M_worstOf_92)], [(0, [0, 1]), (4, [0, 1, 2, 3]), (23, [0, 1, 2]), (25, [0, 1, 2, 3]), (84, [0, 1, 2, 3]), (85, [0, 1, 3]), (86, [0, 1, 2, 3]), (92, [2])])
def b_M_ask_0 : List mRow := [(.iload_n 1, 1, 0, 0, 0, []), (.i2l, 1, 0, 0, 0, []), (.lconst 0, 1, 0, 0, 0, []), (.lconst 1, 1, 0, 0, 0, []), (.invokestatic 52, 3, 115, 3, 1, []), (.ifCond .ne 5, 3, 12, 0, 0, []), (.iconst (-1), 1, 0, 0, 0, []), (.ireturn, 1, 0, 0, 0, [])]
def b_M_ask_12 : List mRow := [(.aload_n 0, 1, 0, 0, 0, []), (.invokevirtual 232, 3, 174, 1, 1, [9]), (.ifCond .eq 6, 3, 22, 0, 0, []), (.bipush (-2), 2, 0, 0, 0, []), (.ireturn, 1, 0, 0, 0, [])]
def b_M_ask_22 : List mRow := [(.aload_n 0, 1, 0, 0, 0, []), (.invokevirtual 242, 3, 177, 1, 1, [9]), (.istore_n 2, 1, 0, 0, 0, []), (.bipush (-4), 2, 0, 0, 0, []), (.istore_n 3, 1, 0, 0, 0, []), (.iconst 0, 1, 0, 0, 0, []), (.istore 4, 2, 0, 0, 0, [])]
def b_M_ask_33 : List mRow := [(.iload 4, 2, 0, 0, 0, []), (.aload_n 0, 1, 0, 0, 0, []), (.getfield 7, 3, 6, 0, 1, []), (.bipush 39, 2, 0, 0, 0, []), (.iaload, 1, 0, 0, 0, []), (.if_icmp .ge 43, 3, 85, 0, 0, []), (.aload_n 0, 1, 0, 0, 0, []), (.iload 4, 2, 0, 0, 0, []), (.invokevirtual 245, 3, 180, 2, 1, [9]), (.istore 5, 2, 0, 0, 0, []), (.iload 5, 2, 0, 0, 0, []), (.iload_n 2, 1, 0, 0, 0, []), (.if_icmp .ge 8, 3, 64, 0, 0, []), (.iload 4, 2, 0, 0, 0, []), (.goto 4, 3, 65, 0, 0, [])]
def b_M_ask_64 : List mRow := [(.iload_n 3, 1, 0, 0, 0, [])]
def b_M_ask_65 : List mRow := [(.istore_n 3, 1, 0, 0, 0, []), (.iload 5, 2, 0, 0, 0, []), (.iload_n 2, 1, 0, 0, 0, []), (.if_icmp .ge 8, 3, 77, 0, 0, []), (.iload 5, 2, 0, 0, 0, []), (.goto 4, 3, 78, 0, 0, [])]
def b_M_ask_77 : List mRow := [(.iload_n 2, 1, 0, 0, 0, [])]
def b_M_ask_78 : List mRow := [(.istore_n 2, 1, 0, 0, 0, []), (.iinc 4 1, 3, 0, 0, 0, []), (.goto (-49), 3, 33, 0, 0, [])]
def b_M_ask_85 : List mRow := [(.iload_n 3, 1, 0, 0, 0, []), (.bipush (-4), 2, 0, 0, 0, []), (.if_icmp .eq 7, 3, 95, 0, 0, []), (.iload_n 1, 1, 0, 0, 0, []), (.ifCond .ne 7, 3, 99, 0, 0, [])]
def b_M_ask_95 : List mRow := [(.iload_n 3, 1, 0, 0, 0, []), (.goto 4, 3, 100, 0, 0, [])]
def b_M_ask_99 : List mRow := [(.iload_n 2, 1, 0, 0, 0, [])]
def b_M_ask_100 : List mRow := [(.ireturn, 1, 0, 0, 0, [])]
def m_M_ask : mMeth := ([(0, b_M_ask_0), (12, b_M_ask_12), (22, b_M_ask_22), (33, b_M_ask_33), (64, b_M_ask_64), (65, b_M_ask_65), (77, b_M_ask_77), (78, b_M_ask_78), (85, b_M_ask_85), (95, b_M_ask_95), (99, b_M_ask_99), (100, b_M_ask_100)], [(0, [0, 1]), (12, [0, 1]), (22, [0, 1]), (33, [0, 1, 2, 3, 4]), (64, [0, 1, 2, 3, 4, 5]), (65, [0, 1, 2, 4, 5]), (77, [0, 1, 2, 3, 4]), (78, [0, 1, 3, 4]), (85, [1, 2, 3]), (95, [3]), (99, [2]), (100, [])])
def b_M_drift_0 : List mRow := [(.iload_n 2, 1, 0, 0, 0, []), (.i2l, 1, 0, 0, 0, []), (.lconst 1, 1, 0, 0, 0, []), (.ldc2_w 227, 3, 0, 0, 60, []), (.invokestatic 52, 3, 115, 3, 1, []), (.ifCond .eq 13, 3, 22, 0, 0, []), (.iload_n 3, 1, 0, 0, 0, []), (.i2l, 1, 0, 0, 0, []), (.lconst 0, 1, 0, 0, 0, []), (.lconst 1, 1, 0, 0, 0, []), (.invokestatic 52, 3, 115, 3, 1, []), (.ifCond .ne 5, 3, 24, 0, 0, [])]
def b_M_drift_22 : List mRow := [(.iconst (-1), 1, 0, 0, 0, []), (.ireturn, 1, 0, 0, 0, [])]
def b_M_drift_24 : List mRow := [(.aload_n 0, 1, 0, 0, 0, []), (.iconst 0, 1, 0, 0, 0, []), (.sipush 340, 3, 0, 0, 0, []), (.invokevirtual 177, 3, 154, 3, 0, [9]), (.iload_n 1, 1, 0, 0, 0, []), (.istore 4, 2, 0, 0, 0, []), (.iconst 0, 1, 0, 0, 0, []), (.istore 5, 2, 0, 0, 0, [])]
def b_M_drift_38 : List mRow := [(.iload 5, 2, 0, 0, 0, []), (.iload_n 2, 1, 0, 0, 0, []), (.if_icmp .ge 100, 3, 141, 0, 0, []), (.iload 4, 2, 0, 0, 0, []), (.ldc 248, 2, 0, 0, 1103515245, []), (.imul, 1, 0, 0, 0, []), (.sipush 12345, 3, 0, 0, 0, []), (.iadd, 1, 0, 0, 0, []), (.istore 4, 2, 0, 0, 0, []), (.iload 4, 2, 0, 0, 0, []), (.bipush 16, 2, 0, 0, 0, []), (.ishr, 1, 0, 0, 0, []), (.sipush 32767, 3, 0, 0, 0, []), (.iand, 1, 0, 0, 0, []), (.istore 6, 2, 0, 0, 0, [])]
def b_M_drift_66 : List mRow := [(.iload 6, 2, 0, 0, 0, []), (.bipush 36, 2, 0, 0, 0, []), (.irem, 1, 0, 0, 0, []), (.istore 7, 2, 0, 0, 0, []), (.aload_n 0, 1, 0, 0, 0, []), (.getfield 7, 3, 6, 0, 1, []), (.sipush 340, 3, 0, 0, 0, []), (.iload 7, 2, 0, 0, 0, []), (.iadd, 1, 0, 0, 0, []), (.iaload, 1, 0, 0, 0, []), (.istore 8, 2, 0, 0, 0, [])]
def b_M_drift_86 : List mRow := [(.iload 8, 2, 0, 0, 0, []), (.ifCond .ne 25, 3, 113, 0, 0, []), (.aload_n 0, 1, 0, 0, 0, []), (.sipush 340, 3, 0, 0, 0, []), (.iload 7, 2, 0, 0, 0, []), (.iconst 1, 1, 0, 0, 0, []), (.iload 6, 2, 0, 0, 0, []), (.bipush 64, 2, 0, 0, 0, []), (.idiv, 1, 0, 0, 0, []), (.iconst 3, 1, 0, 0, 0, []), (.irem, 1, 0, 0, 0, []), (.iadd, 1, 0, 0, 0, []), (.invokevirtual 170, 3, 148, 4, 1, [9]), (.pop, 1, 0, 0, 0, []), (.goto 25, 3, 135, 0, 0, [])]
def b_M_drift_113 : List mRow := [(.aload_n 0, 1, 0, 0, 0, []), (.getfield 7, 3, 6, 0, 1, []), (.sipush 340, 3, 0, 0, 0, []), (.iload 7, 2, 0, 0, 0, []), (.iadd, 1, 0, 0, 0, []), (.iload 8, 2, 0, 0, 0, []), (.iconst 4, 1, 0, 0, 0, []), (.if_icmp .ne 7, 3, 133, 0, 0, []), (.iconst 0, 1, 0, 0, 0, []), (.goto 4, 3, 134, 0, 0, [])]
def b_M_drift_133 : List mRow := [(.iconst 4, 1, 0, 0, 0, [])]
def b_M_drift_134 : List mRow := [(.iastore, 1, 0, 0, 0, [])]
def b_M_drift_135 : List mRow := [(.iinc 5 1, 3, 0, 0, 0, []), (.goto (-100), 3, 38, 0, 0, [])]
def b_M_drift_141 : List mRow := [(.iload_n 3, 1, 0, 0, 0, []), (.ifCond .ne 13, 3, 155, 0, 0, []), (.aload_n 0, 1, 0, 0, 0, []), (.sipush 340, 3, 0, 0, 0, []), (.invokevirtual 150, 3, 134, 2, 1, [9]), (.goto 10, 3, 162, 0, 0, [])]
def b_M_drift_155 : List mRow := [(.aload_n 0, 1, 0, 0, 0, []), (.sipush 340, 3, 0, 0, 0, []), (.invokevirtual 144, 3, 136, 2, 1, [9])]
def b_M_drift_162 : List mRow := [(.ireturn, 1, 0, 0, 0, [])]
def m_M_drift : mMeth := ([(0, b_M_drift_0), (22, b_M_drift_22), (24, b_M_drift_24), (38, b_M_drift_38), (66, b_M_drift_66), (86, b_M_drift_86), (113, b_M_drift_113), (133, b_M_drift_133), (134, b_M_drift_134), (135, b_M_drift_135), (141, b_M_drift_141), (155, b_M_drift_155), (162, b_M_drift_162)], [(0, [0, 1, 2, 3]), (22, []), (24, [0, 1, 2, 3]), (38, [0, 2, 3, 4, 5]), (66, [0, 2, 3, 4, 5, 6]), (86, [0, 2, 3, 4, 5, 6, 7, 8]), (113, [0, 2, 3, 4, 5, 7, 8]), (133, [0, 2, 3, 4, 5]), (134, [0, 2, 3, 4, 5]), (135, [0, 2, 3, 4, 5]), (141, [0, 3]), (155, [0]), (162, [])])
def b_M_keep_0 : List mRow := [(.iload_n 1, 1, 0, 0, 0, []), (.i2l, 1, 0, 0, 0, []), (.lconst 0, 1, 0, 0, 0, []), (.lconst 1, 1, 0, 0, 0, []), (.invokestatic 52, 3, 115, 3, 1, []), (.ifCond .ne 5, 3, 12, 0, 0, []), (.iconst (-1), 1, 0, 0, 0, []), (.ireturn, 1, 0, 0, 0, [])]
def b_M_keep_12 : List mRow := [(.aload_n 0, 1, 0, 0, 0, []), (.iconst 0, 1, 0, 0, 0, []), (.bipush 85, 2, 0, 0, 0, []), (.iload_n 1, 1, 0, 0, 0, []), (.iconst 1, 1, 0, 0, 0, []), (.iadd, 1, 0, 0, 0, []), (.imul, 1, 0, 0, 0, []), (.invokevirtual 177, 3, 154, 3, 0, [9]), (.aload_n 0, 1, 0, 0, 0, []), (.getfield 37, 3, 6, 26, 1, []), (.iload_n 1, 1, 0, 0, 0, []), (.baload, 1, 0, 0, 0, []), (.ifCond .eq 7, 3, 36, 0, 0, []), (.iconst 1, 1, 0, 0, 0, []), (.goto 4, 3, 37, 0, 0, [])]
def b_M_keep_36 : List mRow := [(.iconst 0, 1, 0, 0, 0, [])]
def b_M_keep_37 : List mRow := [(.istore_n 2, 1, 0, 0, 0, []), (.aload_n 0, 1, 0, 0, 0, []), (.getfield 37, 3, 6, 26, 1, []), (.iload_n 1, 1, 0, 0, 0, []), (.iconst 1, 1, 0, 0, 0, []), (.bastore, 1, 0, 0, 0, []), (.iload_n 2, 1, 0, 0, 0, []), (.ireturn, 1, 0, 0, 0, [])]
def m_M_keep : mMeth := ([(0, b_M_keep_0), (12, b_M_keep_12), (36, b_M_keep_36), (37, b_M_keep_37)], [(0, [0, 1]), (12, [0, 1]), (36, [0, 1]), (37, [0, 1])])
def b_M_back_0 : List mRow := [(.iload_n 1, 1, 0, 0, 0, []), (.i2l, 1, 0, 0, 0, []), (.lconst 0, 1, 0, 0, 0, []), (.lconst 1, 1, 0, 0, 0, []), (.invokestatic 52, 3, 115, 3, 1, []), (.ifCond .ne 5, 3, 12, 0, 0, []), (.iconst (-1), 1, 0, 0, 0, []), (.ireturn, 1, 0, 0, 0, [])]
def b_M_back_12 : List mRow := [(.aload_n 0, 1, 0, 0, 0, []), (.getfield 37, 3, 6, 26, 1, []), (.iload_n 1, 1, 0, 0, 0, []), (.baload, 1, 0, 0, 0, []), (.ifCond .ne 6, 3, 24, 0, 0, []), (.bipush (-2), 2, 0, 0, 0, []), (.ireturn, 1, 0, 0, 0, [])]
def b_M_back_24 : List mRow := [(.aload_n 0, 1, 0, 0, 0, []), (.bipush 85, 2, 0, 0, 0, []), (.iload_n 1, 1, 0, 0, 0, []), (.iconst 1, 1, 0, 0, 0, []), (.iadd, 1, 0, 0, 0, []), (.imul, 1, 0, 0, 0, []), (.iconst 0, 1, 0, 0, 0, []), (.invokevirtual 177, 3, 154, 3, 0, [9]), (.aload_n 0, 1, 0, 0, 0, []), (.iconst 0, 1, 0, 0, 0, []), (.invokevirtual 150, 3, 134, 2, 1, [9]), (.ireturn, 1, 0, 0, 0, [])]
def m_M_back : mMeth := ([(0, b_M_back_0), (12, b_M_back_12), (24, b_M_back_24)], [(0, [0, 1]), (12, [0, 1]), (24, [0, 1])])
def b_M_sheet_0 : List mRow := [(.iload_n 1, 1, 0, 0, 0, []), (.i2l, 1, 0, 0, 0, []), (.lconst 0, 1, 0, 0, 0, []), (.ldc2_w 128, 3, 0, 0, 3, []), (.invokestatic 52, 3, 115, 3, 1, []), (.ifCond .eq 21, 3, 30, 0, 0, []), (.iload_n 2, 1, 0, 0, 0, []), (.i2l, 1, 0, 0, 0, []), (.lconst 0, 1, 0, 0, 0, []), (.ldc2_w 160, 3, 0, 0, 2, []), (.invokestatic 52, 3, 115, 3, 1, []), (.ifCond .eq 9, 3, 30, 0, 0, []), (.iload_n 3, 1, 0, 0, 0, []), (.bipush 40, 2, 0, 0, 0, []), (.if_icmp .le 5, 3, 32, 0, 0, [])]
def b_M_sheet_30 : List mRow := [(.iconst (-1), 1, 0, 0, 0, []), (.ireturn, 1, 0, 0, 0, [])]
def b_M_sheet_32 : List mRow := [(.iload_n 3, 1, 0, 0, 0, []), (.ifCond .ge 6, 3, 39, 0, 0, []), (.bipush (-14), 2, 0, 0, 0, []), (.ireturn, 1, 0, 0, 0, [])]
def b_M_sheet_39 : List mRow := [(.aload_n 0, 1, 0, 0, 0, []), (.getfield 41, 3, 6, 27, 1, []), (.iload_n 1, 1, 0, 0, 0, []), (.iload_n 2, 1, 0, 0, 0, []), (.iastore, 1, 0, 0, 0, []), (.aload_n 0, 1, 0, 0, 0, []), (.getfield 44, 3, 6, 28, 1, []), (.iload_n 1, 1, 0, 0, 0, []), (.iload_n 3, 1, 0, 0, 0, []), (.iastore, 1, 0, 0, 0, []), (.iconst 0, 1, 0, 0, 0, []), (.istore 4, 2, 0, 0, 0, [])]
def b_M_sheet_56 : List mRow := [(.iload 4, 2, 0, 0, 0, []), (.bipush 40, 2, 0, 0, 0, []), (.if_icmp .ge 22, 3, 82, 0, 0, []), (.aload_n 0, 1, 0, 0, 0, []), (.getfield 47, 3, 6, 29, 1, []), (.bipush 40, 2, 0, 0, 0, []), (.iload_n 1, 1, 0, 0, 0, []), (.imul, 1, 0, 0, 0, []), (.iload 4, 2, 0, 0, 0, []), (.iadd, 1, 0, 0, 0, []), (.iconst 0, 1, 0, 0, 0, []), (.iastore, 1, 0, 0, 0, []), (.iinc 4 1, 3, 0, 0, 0, []), (.goto (-23), 3, 56, 0, 0, [])]
def b_M_sheet_82 : List mRow := [(.iconst 1, 1, 0, 0, 0, []), (.ireturn, 1, 0, 0, 0, [])]
def m_M_sheet : mMeth := ([(0, b_M_sheet_0), (30, b_M_sheet_30), (32, b_M_sheet_32), (39, b_M_sheet_39), (56, b_M_sheet_56), (82, b_M_sheet_82)], [(0, [0, 1, 2, 3]), (30, []), (32, [0, 1, 2, 3]), (39, [0, 1, 2, 3]), (56, [0, 1, 4]), (82, [])])
def b_M_lay_0 : List mRow := [(.iload_n 1, 1, 0, 0, 0, []), (.i2l, 1, 0, 0, 0, []), (.lconst 0, 1, 0, 0, 0, []), (.ldc2_w 128, 3, 0, 0, 3, []), (.invokestatic 52, 3, 115, 3, 1, []), (.ifCond .ne 5, 3, 14, 0, 0, []), (.iconst (-1), 1, 0, 0, 0, []), (.ireturn, 1, 0, 0, 0, [])]
def b_M_lay_14 : List mRow := [(.aload_n 0, 1, 0, 0, 0, []), (.getfield 41, 3, 6, 27, 1, []), (.iload_n 1, 1, 0, 0, 0, []), (.iaload, 1, 0, 0, 0, []), (.bipush (-4), 2, 0, 0, 0, []), (.if_icmp .ne 6, 3, 28, 0, 0, []), (.bipush (-11), 2, 0, 0, 0, []), (.ireturn, 1, 0, 0, 0, [])]
def b_M_lay_28 : List mRow := [(.iload_n 2, 1, 0, 0, 0, []), (.i2l, 1, 0, 0, 0, []), (.lconst 0, 1, 0, 0, 0, []), (.aload_n 0, 1, 0, 0, 0, []), (.getfield 44, 3, 6, 28, 1, []), (.iload_n 1, 1, 0, 0, 0, []), (.iaload, 1, 0, 0, 0, []), (.iconst 1, 1, 0, 0, 0, []), (.isub, 1, 0, 0, 0, []), (.i2l, 1, 0, 0, 0, []), (.invokestatic 52, 3, 115, 3, 1, []), (.ifCond .ne 6, 3, 49, 0, 0, []), (.bipush (-12), 2, 0, 0, 0, []), (.ireturn, 1, 0, 0, 0, [])]
def b_M_lay_49 : List mRow := [(.aload_n 0, 1, 0, 0, 0, []), (.getfield 47, 3, 6, 29, 1, []), (.bipush 40, 2, 0, 0, 0, []), (.iload_n 1, 1, 0, 0, 0, []), (.imul, 1, 0, 0, 0, []), (.iload_n 2, 1, 0, 0, 0, []), (.iadd, 1, 0, 0, 0, []), (.aload_n 0, 1, 0, 0, 0, []), (.getfield 41, 3, 6, 27, 1, []), (.iload_n 1, 1, 0, 0, 0, []), (.iaload, 1, 0, 0, 0, []), (.ifCond .ne 13, 3, 78, 0, 0, []), (.iload_n 3, 1, 0, 0, 0, []), (.bipush 24, 2, 0, 0, 0, []), (.ishl, 1, 0, 0, 0, []), (.bipush 24, 2, 0, 0, 0, []), (.ishr, 1, 0, 0, 0, []), (.goto 24, 3, 99, 0, 0, [])]
def b_M_lay_78 : List mRow := [(.aload_n 0, 1, 0, 0, 0, []), (.getfield 41, 3, 6, 27, 1, []), (.iload_n 1, 1, 0, 0, 0, []), (.iaload, 1, 0, 0, 0, []), (.iconst 1, 1, 0, 0, 0, []), (.if_icmp .ne 13, 3, 98, 0, 0, []), (.iload_n 3, 1, 0, 0, 0, []), (.bipush 16, 2, 0, 0, 0, []), (.ishl, 1, 0, 0, 0, []), (.bipush 16, 2, 0, 0, 0, []), (.ishr, 1, 0, 0, 0, []), (.goto 4, 3, 99, 0, 0, [])]
def b_M_lay_98 : List mRow := [(.iload_n 3, 1, 0, 0, 0, [])]
def b_M_lay_99 : List mRow := [(.iastore, 1, 0, 0, 0, []), (.iconst 1, 1, 0, 0, 0, []), (.ireturn, 1, 0, 0, 0, [])]
def m_M_lay : mMeth := ([(0, b_M_lay_0), (14, b_M_lay_14), (28, b_M_lay_28), (49, b_M_lay_49), (78, b_M_lay_78), (98, b_M_lay_98), (99, b_M_lay_99)], [(0, [0, 1, 2, 3]), (14, [0, 1, 2, 3]), (28, [0, 1, 2, 3]), (49, [0, 1, 2, 3]), (78, [0, 1, 3]), (98, [3]), (99, [])])
def b_M_read_0 : List mRow := [(.iload_n 1, 1, 0, 0, 0, []), (.i2l, 1, 0, 0, 0, []), (.lconst 0, 1, 0, 0, 0, []), (.ldc2_w 128, 3, 0, 0, 3, []), (.invokestatic 52, 3, 115, 3, 1, []), (.ifCond .eq 28, 3, 37, 0, 0, []), (.iload_n 2, 1, 0, 0, 0, []), (.i2l, 1, 0, 0, 0, []), (.lconst 0, 1, 0, 0, 0, []), (.ldc2_w 160, 3, 0, 0, 2, []), (.invokestatic 52, 3, 115, 3, 1, []), (.ifCond .eq 16, 3, 37, 0, 0, []), (.iload 4, 2, 0, 0, 0, []), (.i2l, 1, 0, 0, 0, []), (.lconst 0, 1, 0, 0, 0, []), (.ldc2_w 249, 3, 0, 0, 13, []), (.invokestatic 52, 3, 115, 3, 1, []), (.ifCond .ne 5, 3, 39, 0, 0, [])]
def b_M_read_37 : List mRow := [(.iconst (-1), 1, 0, 0, 0, []), (.ireturn, 1, 0, 0, 0, [])]
def b_M_read_39 : List mRow := [(.aload_n 0, 1, 0, 0, 0, []), (.iconst 0, 1, 0, 0, 0, []), (.sipush 255, 3, 0, 0, 0, []), (.invokevirtual 177, 3, 154, 3, 0, [9]), (.iconst 0, 1, 0, 0, 0, []), (.istore 5, 2, 0, 0, 0, []), (.iconst 0, 1, 0, 0, 0, []), (.istore 6, 2, 0, 0, 0, []), (.iconst 0, 1, 0, 0, 0, []), (.istore 7, 2, 0, 0, 0, [])]
def b_M_read_56 : List mRow := [(.iload 7, 2, 0, 0, 0, []), (.iconst 3, 1, 0, 0, 0, []), (.iload 4, 2, 0, 0, 0, []), (.imul, 1, 0, 0, 0, []), (.if_icmp .ge 145, 3, 207, 0, 0, []), (.iload 5, 2, 0, 0, 0, []), (.ifCond .ne 140, 3, 207, 0, 0, []), (.aload_n 0, 1, 0, 0, 0, []), (.getfield 41, 3, 6, 27, 1, []), (.iload_n 1, 1, 0, 0, 0, []), (.iaload, 1, 0, 0, 0, []), (.bipush (-4), 2, 0, 0, 0, []), (.if_icmp .ne 7, 3, 85, 0, 0, []), (.iconst 1, 1, 0, 0, 0, []), (.goto 44, 3, 126, 0, 0, [])]
def b_M_read_85 : List mRow := [(.aload_n 0, 1, 0, 0, 0, []), (.getfield 41, 3, 6, 27, 1, []), (.iload_n 1, 1, 0, 0, 0, []), (.iaload, 1, 0, 0, 0, []), (.iload_n 2, 1, 0, 0, 0, []), (.if_icmp .eq 7, 3, 99, 0, 0, []), (.iconst 3, 1, 0, 0, 0, []), (.goto 30, 3, 126, 0, 0, [])]
def b_M_read_99 : List mRow := [(.iload_n 3, 1, 0, 0, 0, []), (.i2l, 1, 0, 0, 0, []), (.iload 7, 2, 0, 0, 0, []), (.i2l, 1, 0, 0, 0, []), (.ladd, 1, 0, 0, 0, []), (.lconst 0, 1, 0, 0, 0, []), (.aload_n 0, 1, 0, 0, 0, []), (.getfield 44, 3, 6, 28, 1, []), (.iload_n 1, 1, 0, 0, 0, []), (.iaload, 1, 0, 0, 0, []), (.iconst 1, 1, 0, 0, 0, []), (.isub, 1, 0, 0, 0, []), (.i2l, 1, 0, 0, 0, []), (.invokestatic 52, 3, 115, 3, 1, []), (.ifCond .ne 7, 3, 125, 0, 0, []), (.iconst 2, 1, 0, 0, 0, []), (.goto 4, 3, 126, 0, 0, [])]
def b_M_read_125 : List mRow := [(.iconst 0, 1, 0, 0, 0, [])]
def b_M_read_126 : List mRow := [(.istore 5, 2, 0, 0, 0, []), (.iload 5, 2, 0, 0, 0, []), (.ifCond .ne 71, 3, 201, 0, 0, []), (.iload 7, 2, 0, 0, 0, []), (.iconst 3, 1, 0, 0, 0, []), (.irem, 1, 0, 0, 0, []), (.iconst 2, 1, 0, 0, 0, []), (.if_icmp .ne 63, 3, 201, 0, 0, []), (.bipush 40, 2, 0, 0, 0, []), (.iload_n 1, 1, 0, 0, 0, []), (.imul, 1, 0, 0, 0, []), (.iload_n 3, 1, 0, 0, 0, []), (.iadd, 1, 0, 0, 0, []), (.iload 7, 2, 0, 0, 0, []), (.iadd, 1, 0, 0, 0, []), (.istore 8, 2, 0, 0, 0, []), (.aload_n 0, 1, 0, 0, 0, []), (.aload_n 0, 1, 0, 0, 0, []), (.getfield 47, 3, 6, 29, 1, []), (.iload 8, 2, 0, 0, 0, []), (.iconst 2, 1, 0, 0, 0, []), (.isub, 1, 0, 0, 0, []), (.iaload, 1, 0, 0, 0, []), (.aload_n 0, 1, 0, 0, 0, []), (.getfield 47, 3, 6, 29, 1, []), (.iload 8, 2, 0, 0, 0, []), (.iconst 1, 1, 0, 0, 0, []), (.isub, 1, 0, 0, 0, []), (.iaload, 1, 0, 0, 0, []), (.aload_n 0, 1, 0, 0, 0, []), (.getfield 47, 3, 6, 29, 1, []), (.iload 8, 2, 0, 0, 0, []), (.iaload, 1, 0, 0, 0, []), (.invokevirtual 174, 3, 149, 4, 1, [9]), (.ifCond .ge 17, 3, 198, 0, 0, []), (.aload_n 0, 1, 0, 0, 0, []), (.sipush 255, 3, 0, 0, 0, []), (.iconst 0, 1, 0, 0, 0, []), (.invokevirtual 177, 3, 154, 3, 0, [9]), (.bipush (-20), 2, 0, 0, 0, []), (.iload 6, 2, 0, 0, 0, []), (.isub, 1, 0, 0, 0, []), (.ireturn, 1, 0, 0, 0, [])]
def b_M_read_198 : List mRow := [(.iinc 6 1, 3, 0, 0, 0, [])]
def b_M_read_201 : List mRow := [(.iinc 7 1, 3, 0, 0, 0, []), (.goto (-148), 3, 56, 0, 0, [])]
def b_M_read_207 : List mRow := [(.aload_n 0, 1, 0, 0, 0, []), (.iload 5, 2, 0, 0, 0, []), (.putfield 251, 3, 6, 30, 0, []), (.iload 6, 2, 0, 0, 0, []), (.ireturn, 1, 0, 0, 0, [])]
def m_M_read : mMeth := ([(0, b_M_read_0), (37, b_M_read_37), (39, b_M_read_39), (56, b_M_read_56), (85, b_M_read_85), (99, b_M_read_99), (125, b_M_read_125), (126, b_M_read_126), (198, b_M_read_198), (201, b_M_read_201), (207, b_M_read_207)], [(0, [0, 1, 2, 3, 4]), (37, []), (39, [0, 1, 2, 3, 4]), (56, [0, 1, 2, 3, 4, 5, 6, 7]), (85, [0, 1, 2, 3, 4, 6, 7]), (99, [0, 1, 2, 3, 4, 6, 7]), (125, [0, 1, 2, 3, 4, 6, 7]), (126, [0, 1, 2, 3, 4, 6, 7]), (198, [0, 1, 2, 3, 4, 5, 6, 7]), (201, [0, 1, 2, 3, 4, 5, 6, 7]), (207, [0, 5, 6])])
def b_M_torn_0 : List mRow := [(.aload_n 0, 1, 0, 0, 0, []), (.getfield 251, 3, 6, 30, 0, []), (.ireturn, 1, 0, 0, 0, [])]
def m_M_torn : mMeth := ([(0, b_M_torn_0)], [(0, [0])])
def b_M_count_0 : List mRow := [(.iconst 0, 1, 0, 0, 0, []), (.istore_n 2, 1, 0, 0, 0, []), (.iconst 0, 1, 0, 0, 0, []), (.istore_n 3, 1, 0, 0, 0, [])]
def b_M_count_4 : List mRow := [(.iload_n 3, 1, 0, 0, 0, []), (.iconst 3, 1, 0, 0, 0, []), (.if_icmp .ge 24, 3, 30, 0, 0, []), (.iload_n 2, 1, 0, 0, 0, []), (.aload_n 0, 1, 0, 0, 0, []), (.getfield 7, 3, 6, 0, 1, []), (.bipush 36, 2, 0, 0, 0, []), (.iload_n 3, 1, 0, 0, 0, []), (.iadd, 1, 0, 0, 0, []), (.iaload, 1, 0, 0, 0, []), (.bipush 20, 2, 0, 0, 0, []), (.iadd, 1, 0, 0, 0, []), (.iadd, 1, 0, 0, 0, []), (.istore_n 2, 1, 0, 0, 0, []), (.iinc 3 1, 3, 0, 0, 0, []), (.goto (-23), 3, 4, 0, 0, [])]
def b_M_count_30 : List mRow := [(.iload_n 1, 1, 0, 0, 0, []), (.tableswitch 107 0 5 #[37, 42, 72, 77, 100, 102], 37, 138, 0, 0, [68, 73, 103, 108, 131, 133])]
def b_M_count_68 : List mRow := [(.aload_n 0, 1, 0, 0, 0, []), (.getfield 125, 3, 6, 22, 0, []), (.ireturn, 1, 0, 0, 0, [])]
def b_M_count_73 : List mRow := [(.aload_n 0, 1, 0, 0, 0, []), (.getfield 37, 3, 6, 26, 1, []), (.iconst 0, 1, 0, 0, 0, []), (.baload, 1, 0, 0, 0, []), (.ifCond .eq 7, 3, 86, 0, 0, []), (.iconst 1, 1, 0, 0, 0, []), (.goto 4, 3, 87, 0, 0, [])]
def b_M_count_86 : List mRow := [(.iconst 0, 1, 0, 0, 0, [])]
def b_M_count_87 : List mRow := [(.aload_n 0, 1, 0, 0, 0, []), (.getfield 37, 3, 6, 26, 1, []), (.iconst 1, 1, 0, 0, 0, []), (.baload, 1, 0, 0, 0, []), (.ifCond .eq 7, 3, 100, 0, 0, []), (.iconst 1, 1, 0, 0, 0, []), (.goto 4, 3, 101, 0, 0, [])]
def b_M_count_100 : List mRow := [(.iconst 0, 1, 0, 0, 0, [])]
def b_M_count_101 : List mRow := [(.iadd, 1, 0, 0, 0, []), (.ireturn, 1, 0, 0, 0, [])]
def b_M_count_103 : List mRow := [(.aload_n 0, 1, 0, 0, 0, []), (.getfield 56, 3, 6, 5, 0, []), (.ireturn, 1, 0, 0, 0, [])]
def b_M_count_108 : List mRow := [(.aload_n 0, 1, 0, 0, 0, []), (.getfield 41, 3, 6, 27, 1, []), (.iconst 0, 1, 0, 0, 0, []), (.iaload, 1, 0, 0, 0, []), (.bipush (-4), 2, 0, 0, 0, []), (.if_icmp .ne 8, 3, 124, 0, 0, []), (.bipush (-4), 2, 0, 0, 0, []), (.goto 9, 3, 130, 0, 0, [])]
def b_M_count_124 : List mRow := [(.aload_n 0, 1, 0, 0, 0, []), (.getfield 44, 3, 6, 28, 1, []), (.iconst 0, 1, 0, 0, 0, []), (.iaload, 1, 0, 0, 0, [])]
def b_M_count_130 : List mRow := [(.ireturn, 1, 0, 0, 0, [])]
def b_M_count_131 : List mRow := [(.iload_n 2, 1, 0, 0, 0, []), (.ireturn, 1, 0, 0, 0, [])]
def b_M_count_133 : List mRow := [(.aload_n 0, 1, 0, 0, 0, []), (.invokevirtual 212, 3, 168, 1, 1, [9]), (.ireturn, 1, 0, 0, 0, [])]
def b_M_count_138 : List mRow := [(.iconst (-1), 1, 0, 0, 0, []), (.ireturn, 1, 0, 0, 0, [])]
def m_M_count : mMeth := ([(0, b_M_count_0), (4, b_M_count_4), (30, b_M_count_30), (68, b_M_count_68), (73, b_M_count_73), (86, b_M_count_86), (87, b_M_count_87), (100, b_M_count_100), (101, b_M_count_101), (103, b_M_count_103), (108, b_M_count_108), (124, b_M_count_124), (130, b_M_count_130), (131, b_M_count_131), (133, b_M_count_133), (138, b_M_count_138)], [(0, [0, 1]), (4, [0, 1, 2, 3]), (30, [0, 1, 2]), (68, [0]), (73, [0]), (86, [0]), (87, [0]), (100, []), (101, []), (103, [0]), (108, [0]), (124, [0]), (130, []), (131, [2]), (133, [0]), (138, [])])
def b_A_fill_0 : List mRow := [(.iconst 0, 1, 0, 0, 0, []), (.istore_n 2, 1, 0, 0, 0, []), (.aload_n 0, 1, 0, 0, 0, []), (.arraylength, 1, 0, 0, 0, []), (.istore_n 3, 1, 0, 0, 0, [])]
def b_A_fill_5 : List mRow := [(.iload_n 2, 1, 0, 0, 0, []), (.iload_n 3, 1, 0, 0, 0, []), (.if_icmp .ge 13, 3, 20, 0, 0, []), (.aload_n 0, 1, 0, 0, 0, []), (.iload_n 2, 1, 0, 0, 0, []), (.iload_n 1, 1, 0, 0, 0, []), (.iastore, 1, 0, 0, 0, []), (.iinc 2 1, 3, 0, 0, 0, []), (.goto (-12), 3, 5, 0, 0, [])]
def b_A_fill_20 : List mRow := [(.return_, 1, 0, 0, 0, [])]
def m_A_fill : mMeth := ([(0, b_A_fill_0), (5, b_A_fill_5), (20, b_A_fill_20)], [(0, [0, 1]), (5, [0, 1, 2, 3]), (20, [])])
def mProg : List mMeth := [m_C_init, m_C_clear, m_C_copyFrom, m_C_put, m_C_tallyAround, m_C_canTake, m_C_take, m_C_takeBack, m_C_takePlanned, m_C_addLaw, m_C_reads, m_C_readsByBack, m_C_readsAs, m_C_worth, m_C_heldBits, m_C_cellsOf, m_C_canRun, m_C_runningCells, m_C_exchange, m_C_turnRow, m_O_init, m_O_begin, m_O_offer, m_O_told, m_I_init, m_S_init, m_S_renew, m_S_set, m_S_faultAsOf, m_S_faultAt, m_T_init, m_T_tell, m_T_fail, m_T_readToken, m_T_isLetter, m_T_isFigure, m_T_readLine, m_T_isName, m_T_readRow, m_T_takeCell, m_T_readThread, m_T_readLaw, m_T_takeNumber, m_T_takeStop, m_L_init, m_L_feed, m_L_end, m_L_text, m_L_fault, m_L_rule, m_L_cell, m_L_thread, m_L_law, m_L_stitch, m_L_amend, m_L_spool, m_L_plan, m_L_cut, m_L_enact, m_L_work, m_L_unpick, m_L_moth, m_L_mend, m_L_runs, m_L_ahead, m_L_best, m_L_need, m_L_loose, m_L_dye, m_L_turn, m_L_leave, m_L_luck, m_L_mean, m_L_see, m_L_forget, m_L_fills, m_L_shades, m_L_span, m_L_ask, m_L_drift, m_L_keep, m_L_back, m_L_sheet, m_L_lay, m_L_read, m_L_torn, m_L_count, m_L_isCell, m_L_isColour, m_L_isPart, m_L_isSheet, m_L_isLane, m_L_isLaw, m_L_isLawPart, m_L_place, m_L_stitchCode, m_L_followPlan, m_L_fewestToHold, m_L_holdsByOne, m_L_holdsByTwo, m_L_holdsByStitchAt, m_L_placeByRows, m_L_workFrom, m_L_driftOnce, m_L_gatherRunners, m_L_letRun, m_L_weight, m_L_fractionPart, m_L_greatestDivisor, m_L_gatherHoles, m_L_fillCount, m_L_fits, m_L_groupByReads, m_L_largestGroup, m_M_init, m_M_in, m_M_feed, m_M_end, m_M_byteAt, m_M_fails, m_M_nameHere, m_M_step, m_M_other, m_M_readRow, m_M_readMore, m_M_readLine, m_M_text, m_M_fault, m_M_isLaw, m_M_isCell, m_M_isColour, m_M_besideOn, m_M_aboveOn, m_M_readsOn, m_M_worthOn, m_M_heldOn, m_M_holesOn, m_M_rule, m_M_cell, m_M_thread, m_M_law, m_M_stitch, m_M_puts, m_M_amend, m_M_spool, m_M_plan, m_M_cut, m_M_enact, m_M_stitchesOn, m_M_works, m_M_work, m_M_unpick, m_M_moth, m_M_mend, m_M_copies, m_M_planGoes, m_M_runs, m_M_ahead, m_M_isMore, m_M_stitchesBy, m_M_best, m_M_isHeldBy, m_M_need, m_M_loose, m_M_dye, m_M_turn, m_M_leave, m_M_lowest, m_M_laysRunning, m_M_byRuns, m_M_luck, m_M_mean, m_M_see, m_M_forget, m_M_isTooMany, m_M_fillMany, m_M_isFit, m_M_fills, m_M_shades, m_M_span, m_M_worstOf, m_M_ask, m_M_drift, m_M_keep, m_M_back, m_M_sheet, m_M_lay, m_M_read, m_M_torn, m_M_count, m_A_fill]
def mP : Nat → mMeth := fun n => (mProg[n]?).getD ([], [])
def S0 : mSh := ([(8, 17), (3, 11), (0, 36), (0, 4), (0, 20), (0, 8), (0, 8), (0, 25), (0, 25), (3, 11), (0, 36), (0, 4), (0, 20), (0, 8), (0, 8), (0, 25), (0, 25), (5, 2), (3, 11), (0, 36), (0, 4), (0, 20), (0, 8), (0, 8), (0, 25), (0, 25), (5, 2), (3, 11), (0, 36), (0, 4), (0, 20), (0, 8), (0, 8), (0, 25), (0, 25), (7, 10), (0, 160), (4, 2), (2, 4), (0, 2), (0, 6), (0, 6), (0, 4), (0, 305), (0, 8), (6, 3), (0, 40), (6, 3), (0, 40), (6, 3), (0, 40), (6, 3), (0, 40), (9, 31), (0, 510), (0, 85), (0, 160), (0, 7), (0, 31), (0, 36), (0, 12), (0, 36), (0, 61), (1, 2), (0, 4), (0, 4), (0, 160)], [((53, 29), 66), ((53, 28), 65), ((53, 27), 64), ((53, 26), 63), ((53, 25), 62), ((53, 23), 61), ((53, 21), 60), ((53, 20), 59), ((53, 14), 58), ((53, 13), 57), ((53, 4), 56), ((53, 1), 55), ((53, 0), 54), ((38, 3), 51), ((51, 0), 52), ((38, 2), 49), ((49, 0), 50), ((38, 1), 47), ((47, 0), 48), ((38, 0), 45), ((45, 0), 46), ((0, 12), 44), ((0, 11), 43), ((0, 10), 42), ((0, 9), 41), ((0, 8), 40), ((0, 7), 39), ((0, 6), 38), ((0, 5), 37), ((0, 4), 35), ((35, 0), 36), ((0, 3), 26), ((26, 0), 27), ((27, 10), 34), ((27, 9), 33), ((27, 4), 32), ((27, 3), 31), ((27, 2), 30), ((27, 1), 29), ((27, 0), 28), ((0, 2), 17), ((17, 0), 18), ((18, 10), 25), ((18, 9), 24), ((18, 4), 23), ((18, 3), 22), ((18, 2), 21), ((18, 1), 20), ((18, 0), 19), ((0, 1), 9), ((9, 10), 16), ((9, 9), 15), ((9, 4), 14), ((9, 3), 13), ((9, 2), 12), ((9, 1), 11), ((9, 0), 10), ((0, 0), 1), ((1, 10), 8), ((1, 9), 7), ((1, 4), 6), ((1, 3), 5), ((1, 2), 4), ((1, 1), 3), ((1, 0), 2)])
end
section
set_option maxRecDepth 40000 in
theorem q_C_clear_0 {cal : mCal} {lim : Nat × Nat} {scr : Nat × (Nat → Int)} {ret : Option mVal → mHp → Prop} {K : Nat → mLV → List mVal → mHp → Prop} (hK : mClo m_C_clear cal lim scr ret K)  (M : mMem) (h :
  (∃ m1, cal 190 [vr 10, vi 0] (S0, M) (none, (S0, m1)) ∧
  (∃ m2, cal 190 [vr 15, vi 0] (S0, m1) (none, (S0, m2)) ∧
  (∃ m3, cal 190 [vr 16, vi 0] (S0, m2) (none, (S0, m3)) ∧
  (∃ m4, cal 190 [vr 11, vi 20] (S0, mupd (mupd m3 15 0 30) 16 0 30) (none, (S0, m4)) ∧
  ret none (S0, mupd (mupd m4 9 5 0) 9 6 0)))))) :
  K 0 [(0, vr 9)] [] (S0, M) := by
  exact mQ hK [] 1 0 0 b_C_clear_0 rfl _ _ _ h
set_option maxRecDepth 40000 in
theorem q_C_copyFrom_0 {cal : mCal} {lim : Nat × Nat} {scr : Nat × (Nat → Int)} {ret : Option mVal → mHp → Prop} {K : Nat → mLV → List mVal → mHp → Prop} (hK : mClo m_C_copyFrom cal lim scr ret K) (c0 : Nat) (c1 : Nat) (M : mMem) (hc : (c0 = 1 ∧ c1 = 9) ∨ (c0 = 9 ∧ c1 = 1) ∨ (c0 = 18 ∧ c1 = 1) ∨ (c0 = 27 ∧ c1 = 1) ∨ (c0 = 1 ∧ c1 = 18) ∨ (c0 = 1 ∧ c1 = 27)) (h :
  (((0 : Int) ≤ 36 ∧ (0 : Int) ≤ 0 ∧ (0 : Int) ≤ 0 ∧ 0 + 36 ≤ ((36 : Nat) : Int) ∧ 0 + 36 ≤ ((36 : Nat) : Int)) ∧
  (((0 : Int) ≤ 25 ∧ (0 : Int) ≤ 0 ∧ (0 : Int) ≤ 0 ∧ 0 + 25 ≤ ((25 : Nat) : Int) ∧ 0 + 25 ≤ ((25 : Nat) : Int)) ∧
  (((0 : Int) ≤ 25 ∧ (0 : Int) ≤ 0 ∧ (0 : Int) ≤ 0 ∧ 0 + 25 ≤ ((25 : Nat) : Int) ∧ 0 + 25 ≤ ((25 : Nat) : Int)) ∧
  (((0 : Int) ≤ 4 ∧ (0 : Int) ≤ 0 ∧ (0 : Int) ≤ 0 ∧ 0 + 4 ≤ ((4 : Nat) : Int) ∧ 0 + 4 ≤ ((4 : Nat) : Int)) ∧
  (((0 : Int) ≤ 20 ∧ (0 : Int) ≤ 0 ∧ (0 : Int) ≤ 0 ∧ 0 + 20 ≤ ((20 : Nat) : Int) ∧ 0 + 20 ≤ ((20 : Nat) : Int)) ∧
  (((0 : Int) ≤ 8 ∧ (0 : Int) ≤ 0 ∧ (0 : Int) ≤ 0 ∧ 0 + 8 ≤ ((8 : Nat) : Int) ∧ 0 + 8 ≤ ((8 : Nat) : Int)) ∧
  (((0 : Int) ≤ 8 ∧ (0 : Int) ≤ 0 ∧ (0 : Int) ≤ 0 ∧ 0 + 8 ≤ ((8 : Nat) : Int) ∧ 0 + 8 ≤ ((8 : Nat) : Int)) ∧
  ret none (S0, mupd (mupd (mcpy (mcpy (mcpy (mcpy (mcpy (mcpy (mcpy M (c1 + 1) 0 (c0 + 1) 0 36) (c1 + 6) 0 (c0 + 6) 0 25) (c1 + 7) 0 (c0 + 7) 0 25) (c1 + 2) 0 (c0 + 2) 0 4) (c1 + 3) 0 (c0 + 3) 0 20) (c1 + 4) 0 (c0 + 4) 0 8) (c1 + 5) 0 (c0 + 5) 0 8) c0 5 ((mcpy (mcpy (mcpy (mcpy (mcpy (mcpy (mcpy M (c1 + 1) 0 (c0 + 1) 0 36) (c1 + 6) 0 (c0 + 6) 0 25) (c1 + 7) 0 (c0 + 7) 0 25) (c1 + 2) 0 (c0 + 2) 0 4) (c1 + 3) 0 (c0 + 3) 0 20) (c1 + 4) 0 (c0 + 4) 0 8) (c1 + 5) 0 (c0 + 5) 0 8) c1 5)) c0 6 ((mupd (mcpy (mcpy (mcpy (mcpy (mcpy (mcpy (mcpy M (c1 + 1) 0 (c0 + 1) 0 36) (c1 + 6) 0 (c0 + 6) 0 25) (c1 + 7) 0 (c0 + 7) 0 25) (c1 + 2) 0 (c0 + 2) 0 4) (c1 + 3) 0 (c0 + 3) 0 20) (c1 + 4) 0 (c0 + 4) 0 8) (c1 + 5) 0 (c0 + 5) 0 8) c0 5 ((mcpy (mcpy (mcpy (mcpy (mcpy (mcpy (mcpy M (c1 + 1) 0 (c0 + 1) 0 36) (c1 + 6) 0 (c0 + 6) 0 25) (c1 + 7) 0 (c0 + 7) 0 25) (c1 + 2) 0 (c0 + 2) 0 4) (c1 + 3) 0 (c0 + 3) 0 20) (c1 + 4) 0 (c0 + 4) 0 8) (c1 + 5) 0 (c0 + 5) 0 8) c1 5)) c1 6)))))))))) :
  K 0 [(0, vr c0), (1, vr c1)] [] (S0, M) := by
  rcases hc with ⟨rfl, rfl⟩ | ⟨rfl, rfl⟩ | ⟨rfl, rfl⟩ | ⟨rfl, rfl⟩ | ⟨rfl, rfl⟩ | ⟨rfl, rfl⟩ <;> exact mQ hK [] 1 0 0 b_C_copyFrom_0 rfl _ _ _ h
set_option maxRecDepth 40000 in
theorem q_C_put_0 {cal : mCal} {lim : Nat × Nat} {scr : Nat × (Nat → Int)} {ret : Option mVal → mHp → Prop} {K : Nat → mLV → List mVal → mHp → Prop} (hK : mClo m_C_put cal lim scr ret K) (c0 : Nat) (x1 : Int) (x2 : Int) (M : mMem) (hc0 : c0 = 1 ∨ c0 = 9) (h :
  mIn x1 36 ((((M (c0 + 1) x1) = x2 →
    ret none (S0, M)) ∧ (¬ ((M (c0 + 1) x1) = x2) →
    (∃ m1, cal 4 [vr c0, vi x1, vi (-1)] (S0, M) (none, (S0, m1)) ∧
    mIn x1 36 ((∃ m2, cal 4 [vr c0, vi x1, vi 1] (S0, mupd m1 (c0 + 1) x1 x2) (none, (S0, m2)) ∧
    ret none (S0, m2)))))))) :
  K 0 [(0, vr c0), (1, vi x1), (2, vi x2)] [] (S0, M) := by
  rcases hc0 with rfl | rfl <;> exact mQ hK [29] 2 0 0 b_C_put_0 rfl _ _ _ h
set_option maxRecDepth 40000 in
theorem q_C_tallyAround_0 {cal : mCal} {lim : Nat × Nat} {scr : Nat × (Nat → Int)} {ret : Option mVal → mHp → Prop} {K : Nat → mLV → List mVal → mHp → Prop} (hK : mClo m_C_tallyAround cal lim scr ret K) (c0 : Nat) (x1 : Int) (x2 : Int) (M : mMem) (hc0 : c0 = 1 ∨ c0 = 9) (h :
  mIn x1 36 ((((jdiv x1 6) ≤ 0 →
    K 46 [(0, vr c0), (1, vi x1), (2, vi x2), (3, vi (M (c0 + 1) x1)), (4, vi (jdiv x1 6)), (5, vi (jrem x1 6))] [] (S0, M)) ∧ (¬ ((jdiv x1 6) ≤ 0) →
    mIn (w32 (x1 - 6)) 36 (mIn (w32 ((w32 ((M (c0 + 1) (w32 (x1 - 6))) * 5)) + (M (c0 + 1) x1))) 25 (mIn (w32 ((w32 ((M (c0 + 1) (w32 (x1 - 6))) * 5)) + (M (c0 + 1) x1))) 25 (K 46 [(0, vr c0), (1, vi x1), (2, vi x2), (3, vi (M (c0 + 1) x1)), (4, vi (jdiv x1 6)), (5, vi (jrem x1 6))] [] (S0, mupd M (c0 + 6) (w32 ((w32 ((M (c0 + 1) (w32 (x1 - 6))) * 5)) + (M (c0 + 1) x1))) (w32 ((M (c0 + 6) (w32 ((w32 ((M (c0 + 1) (w32 (x1 - 6))) * 5)) + (M (c0 + 1) x1)))) + x2)))))))))) :
  K 0 [(0, vr c0), (1, vi x1), (2, vi x2)] [] (S0, M) := by
  rcases hc0 with rfl | rfl <;> exact mQ hK [127] 2 0 0 b_C_tallyAround_0 rfl _ _ _ h
set_option maxRecDepth 40000 in
theorem q_C_tallyAround_46 {cal : mCal} {lim : Nat × Nat} {scr : Nat × (Nat → Int)} {ret : Option mVal → mHp → Prop} {K : Nat → mLV → List mVal → mHp → Prop} (hK : mClo m_C_tallyAround cal lim scr ret K) (c0 : Nat) (x1 : Int) (x2 : Int) (x3 : Int) (x4 : Int) (x5 : Int) (M : mMem) (hc0 : c0 = 1 ∨ c0 = 9) (h :
  ((5 ≤ x4 →
    K 74 [(0, vr c0), (1, vi x1), (2, vi x2), (3, vi x3), (5, vi x5)] [] (S0, M)) ∧ (¬ (5 ≤ x4) →
    mIn (w32 (x1 + 6)) 36 (mIn (w32 ((w32 (x3 * 5)) + (M (c0 + 1) (w32 (x1 + 6))))) 25 (mIn (w32 ((w32 (x3 * 5)) + (M (c0 + 1) (w32 (x1 + 6))))) 25 (K 74 [(0, vr c0), (1, vi x1), (2, vi x2), (3, vi x3), (5, vi x5)] [] (S0, mupd M (c0 + 6) (w32 ((w32 (x3 * 5)) + (M (c0 + 1) (w32 (x1 + 6))))) (w32 ((M (c0 + 6) (w32 ((w32 (x3 * 5)) + (M (c0 + 1) (w32 (x1 + 6)))))) + x2))))))))) :
  K 46 [(0, vr c0), (1, vi x1), (2, vi x2), (3, vi x3), (4, vi x4), (5, vi x5)] [] (S0, M) := by
  rcases hc0 with rfl | rfl <;> exact mQ hK [127] 2 1 46 b_C_tallyAround_46 rfl _ _ _ h
set_option maxRecDepth 40000 in
theorem q_C_tallyAround_74 {cal : mCal} {lim : Nat × Nat} {scr : Nat × (Nat → Int)} {ret : Option mVal → mHp → Prop} {K : Nat → mLV → List mVal → mHp → Prop} (hK : mClo m_C_tallyAround cal lim scr ret K) (c0 : Nat) (x1 : Int) (x2 : Int) (x3 : Int) (x5 : Int) (M : mMem) (hc0 : c0 = 1 ∨ c0 = 9) (h :
  ((x5 ≤ 0 →
    K 100 [(0, vr c0), (1, vi x1), (2, vi x2), (3, vi x3), (5, vi x5)] [] (S0, M)) ∧ (¬ (x5 ≤ 0) →
    mIn (w32 (x1 - 1)) 36 (mIn (w32 ((w32 ((M (c0 + 1) (w32 (x1 - 1))) * 5)) + x3)) 25 (mIn (w32 ((w32 ((M (c0 + 1) (w32 (x1 - 1))) * 5)) + x3)) 25 (K 100 [(0, vr c0), (1, vi x1), (2, vi x2), (3, vi x3), (5, vi x5)] [] (S0, mupd M (c0 + 7) (w32 ((w32 ((M (c0 + 1) (w32 (x1 - 1))) * 5)) + x3)) (w32 ((M (c0 + 7) (w32 ((w32 ((M (c0 + 1) (w32 (x1 - 1))) * 5)) + x3))) + x2))))))))) :
  K 74 [(0, vr c0), (1, vi x1), (2, vi x2), (3, vi x3), (5, vi x5)] [] (S0, M) := by
  rcases hc0 with rfl | rfl <;> exact mQ hK [127] 2 2 74 b_C_tallyAround_74 rfl _ _ _ h
set_option maxRecDepth 40000 in
theorem q_C_tallyAround_100 {cal : mCal} {lim : Nat × Nat} {scr : Nat × (Nat → Int)} {ret : Option mVal → mHp → Prop} {K : Nat → mLV → List mVal → mHp → Prop} (hK : mClo m_C_tallyAround cal lim scr ret K) (c0 : Nat) (x1 : Int) (x2 : Int) (x3 : Int) (x5 : Int) (M : mMem) (hc0 : c0 = 1 ∨ c0 = 9) (h :
  ((5 ≤ x5 →
    ret none (S0, M)) ∧ (¬ (5 ≤ x5) →
    mIn (w32 (x1 + 1)) 36 (mIn (w32 ((w32 (x3 * 5)) + (M (c0 + 1) (w32 (x1 + 1))))) 25 (mIn (w32 ((w32 (x3 * 5)) + (M (c0 + 1) (w32 (x1 + 1))))) 25 (ret none (S0, mupd M (c0 + 7) (w32 ((w32 (x3 * 5)) + (M (c0 + 1) (w32 (x1 + 1))))) (w32 ((M (c0 + 7) (w32 ((w32 (x3 * 5)) + (M (c0 + 1) (w32 (x1 + 1)))))) + x2))))))))) :
  K 100 [(0, vr c0), (1, vi x1), (2, vi x2), (3, vi x3), (5, vi x5)] [] (S0, M) := by
  rcases hc0 with rfl | rfl <;> exact mQ hK [127] 2 3 100 b_C_tallyAround_100 rfl _ _ _ h
set_option maxRecDepth 40000 in
theorem q_C_canTake_0 {cal : mCal} {lim : Nat × Nat} {scr : Nat × (Nat → Int)} {ret : Option mVal → mHp → Prop} {K : Nat → mLV → List mVal → mHp → Prop} (hK : mClo m_C_canTake cal lim scr ret K) (c0 : Nat) (x1 : Int) (x2 : Int) (M : mMem) (hc0 : c0 = 1 ∨ c0 = 9) (h :
  mIn x1 36 ((((M (c0 + 1) x1) ≠ 0 →
    ret (some (vi 0)) (S0, M)) ∧ (¬ ((M (c0 + 1) x1) ≠ 0) →
    mIn x2 4 ((((M (c0 + 2) x2) ≤ 0 →
      ret (some (vi 0)) (S0, M)) ∧ (¬ ((M (c0 + 2) x2) ≤ 0) →
      ret (some (vi 1)) (S0, M)))))))) :
  K 0 [(0, vr c0), (1, vi x1), (2, vi x2)] [] (S0, M) := by
  rcases hc0 with rfl | rfl <;> exact mQ hK [22, 23] 3 0 0 b_C_canTake_0 rfl _ _ _ h
set_option maxRecDepth 40000 in
theorem q_C_take_0 {cal : mCal} {lim : Nat × Nat} {scr : Nat × (Nat → Int)} {ret : Option mVal → mHp → Prop} {K : Nat → mLV → List mVal → mHp → Prop} (hK : mClo m_C_take cal lim scr ret K) (c0 : Nat) (x1 : Int) (x2 : Int) (M : mMem) (hc0 : c0 = 1 ∨ c0 = 9) (h :
  (∃ m1, cal 3 [vr c0, vi x1, vi x2] (S0, M) (none, (S0, m1)) ∧
  mIn x2 4 (mIn x2 4 (ret none (S0, mupd m1 (c0 + 2) x2 (w32 ((m1 (c0 + 2) x2) - 1))))))) :
  K 0 [(0, vr c0), (1, vi x1), (2, vi x2)] [] (S0, M) := by
  rcases hc0 with rfl | rfl <;> exact mQ hK [] 1 0 0 b_C_take_0 rfl _ _ _ h
set_option maxRecDepth 40000 in
theorem q_C_takeBack_0 {cal : mCal} {lim : Nat × Nat} {scr : Nat × (Nat → Int)} {ret : Option mVal → mHp → Prop} {K : Nat → mLV → List mVal → mHp → Prop} (hK : mClo m_C_takeBack cal lim scr ret K) (c0 : Nat) (x1 : Int) (M : mMem) (hc0 : c0 = 1 ∨ c0 = 9) (h :
  mIn x1 36 (mIn (M (c0 + 1) x1) 4 (mIn (M (c0 + 1) x1) 4 ((∃ m1, cal 3 [vr c0, vi x1, vi 0] (S0, mupd M (c0 + 2) (M (c0 + 1) x1) (w32 ((M (c0 + 2) (M (c0 + 1) x1)) + 1))) (none, (S0, m1)) ∧
  ret none (S0, m1)))))) :
  K 0 [(0, vr c0), (1, vi x1)] [] (S0, M) := by
  rcases hc0 with rfl | rfl <;> exact mQ hK [] 1 0 0 b_C_takeBack_0 rfl _ _ _ h
set_option maxRecDepth 40000 in
theorem q_C_takePlanned_0 {cal : mCal} {lim : Nat × Nat} {scr : Nat × (Nat → Int)} {ret : Option mVal → mHp → Prop} {K : Nat → mLV → List mVal → mHp → Prop} (hK : mClo m_C_takePlanned cal lim scr ret K) (c0 : Nat) (x1 : Int) (M : mMem) (hc0 : c0 = 1 ∨ c0 = 9) (h :
  mIn x1 8 (mIn x1 8 ((∃ v2 m1, cal 5 [vr c0, vi (M (c0 + 4) x1), vi (M (c0 + 5) x1)] (S0, M) (some (vi v2), (S0, m1)) ∧
  ((v2 = 0 →
    (((m1 c0 8) ≠ (-4) →
      ret none (S0, m1)) ∧ (¬ ((m1 c0 8) ≠ (-4)) →
      ret none (S0, mupd m1 c0 8 x1)))) ∧ (¬ (v2 = 0) →
    mIn x1 8 (mIn x1 8 ((∃ m3, cal 6 [vr c0, vi (m1 (c0 + 4) x1), vi (m1 (c0 + 5) x1)] (S0, m1) (none, (S0, m3)) ∧
    ret none (S0, mupd m3 c0 7 (w32 ((m3 c0 7) + 1)))))))))))) :
  K 0 [(0, vr c0), (1, vi x1)] [] (S0, M) := by
  rcases hc0 with rfl | rfl <;> exact mQ hK [48, 62] 3 0 0 b_C_takePlanned_0 rfl _ _ _ h
set_option maxRecDepth 40000 in
theorem q_C_addLaw_0 {cal : mCal} {lim : Nat × Nat} {scr : Nat × (Nat → Int)} {ret : Option mVal → mHp → Prop} {K : Nat → mLV → List mVal → mHp → Prop} (hK : mClo m_C_addLaw cal lim scr ret K) (c0 : Nat) (x1 : Int) (x2 : Int) (x3 : Int) (x4 : Int) (M : mMem) (hc0 : c0 = 1 ∨ c0 = 9) (h :
  mIn (w32 ((M c0 5) * 4)) 20 (mIn (w32 ((w32 ((M c0 5) * 4)) + 1)) 20 (mIn (w32 ((w32 ((M c0 5) * 4)) + 2)) 20 (mIn (w32 ((w32 ((M c0 5) * 4)) + 3)) 20 (ret none (S0, mupd (mupd (mupd (mupd (mupd M (c0 + 3) (w32 ((M c0 5) * 4)) x1) (c0 + 3) (w32 ((w32 ((M c0 5) * 4)) + 1)) x2) (c0 + 3) (w32 ((w32 ((M c0 5) * 4)) + 2)) x3) (c0 + 3) (w32 ((w32 ((M c0 5) * 4)) + 3)) x4) c0 5 (w32 (((mupd (mupd (mupd (mupd M (c0 + 3) (w32 ((M c0 5) * 4)) x1) (c0 + 3) (w32 ((w32 ((M c0 5) * 4)) + 1)) x2) (c0 + 3) (w32 ((w32 ((M c0 5) * 4)) + 2)) x3) (c0 + 3) (w32 ((w32 ((M c0 5) * 4)) + 3)) x4) c0 5) + 1)))))))) :
  K 0 [(0, vr c0), (1, vi x1), (2, vi x2), (3, vi x3), (4, vi x4)] [] (S0, M) := by
  rcases hc0 with rfl | rfl <;> exact mQ hK [] 1 0 0 b_C_addLaw_0 rfl _ _ _ h
set_option maxRecDepth 40000 in
theorem q_C_reads_0 {cal : mCal} {lim : Nat × Nat} {scr : Nat × (Nat → Int)} {ret : Option mVal → mHp → Prop} {K : Nat → mLV → List mVal → mHp → Prop} (hK : mClo m_C_reads cal lim scr ret K) (c0 : Nat) (x1 : Int) (M : mMem) (hc0 : c0 = 1 ∨ c0 = 9) (h :
  mIn (w32 ((w32 (x1 * 4)) + 1)) 20 (mIn (w32 ((w32 (x1 * 4)) + 2)) 20 (mIn (w32 (x1 * 4)) 20 (mIn (w32 ((w32 ((M (c0 + 3) (w32 ((w32 (x1 * 4)) + 1))) * 5)) + (M (c0 + 3) (w32 ((w32 (x1 * 4)) + 2))))) 25 (mIn (w32 ((w32 ((M (c0 + 3) (w32 ((w32 (x1 * 4)) + 2))) * 5)) + (M (c0 + 3) (w32 ((w32 (x1 * 4)) + 1))))) 25 (mIn (w32 ((w32 ((M (c0 + 3) (w32 ((w32 (x1 * 4)) + 1))) * 5)) + (M (c0 + 3) (w32 ((w32 (x1 * 4)) + 2))))) 25 ((∃ v2 m1, cal 12 [vi (M (c0 + 3) (w32 (x1 * 4))), vi (M (c0 + 6) (w32 ((w32 ((M (c0 + 3) (w32 ((w32 (x1 * 4)) + 1))) * 5)) + (M (c0 + 3) (w32 ((w32 (x1 * 4)) + 2)))))), vi (M (c0 + 6) (w32 ((w32 ((M (c0 + 3) (w32 ((w32 (x1 * 4)) + 2))) * 5)) + (M (c0 + 3) (w32 ((w32 (x1 * 4)) + 1)))))), vi (M (c0 + 7) (w32 ((w32 ((M (c0 + 3) (w32 ((w32 (x1 * 4)) + 1))) * 5)) + (M (c0 + 3) (w32 ((w32 (x1 * 4)) + 2))))))] (S0, M) (some (vi v2), (S0, m1)) ∧
  ret (some (vi v2)) (S0, m1))))))))) :
  K 0 [(0, vr c0), (1, vi x1)] [] (S0, M) := by
  rcases hc0 with rfl | rfl <;> exact mQ hK [] 1 0 0 b_C_reads_0 rfl _ _ _ h
set_option maxRecDepth 40000 in
theorem q_C_readsByBack_0 {cal : mCal} {lim : Nat × Nat} {scr : Nat × (Nat → Int)} {ret : Option mVal → mHp → Prop} {K : Nat → mLV → List mVal → mHp → Prop} (hK : mClo m_C_readsByBack cal lim scr ret K) (c0 : Nat) (x1 : Int) (M : mMem) (hc0 : c0 = 1 ∨ c0 = 9) (h :
  mIn (w32 ((w32 (x1 * 4)) + 1)) 20 (mIn (w32 ((w32 (x1 * 4)) + 2)) 20 (mIn (w32 (x1 * 4)) 20 (mIn (w32 ((w32 ((M (c0 + 3) (w32 ((w32 (x1 * 4)) + 2))) * 5)) + (M (c0 + 3) (w32 ((w32 (x1 * 4)) + 1))))) 25 (mIn (w32 ((w32 ((M (c0 + 3) (w32 ((w32 (x1 * 4)) + 1))) * 5)) + (M (c0 + 3) (w32 ((w32 (x1 * 4)) + 2))))) 25 (mIn (w32 ((w32 ((M (c0 + 3) (w32 ((w32 (x1 * 4)) + 1))) * 5)) + (M (c0 + 3) (w32 ((w32 (x1 * 4)) + 2))))) 25 ((∃ v2 m1, cal 12 [vi (M (c0 + 3) (w32 (x1 * 4))), vi (M (c0 + 6) (w32 ((w32 ((M (c0 + 3) (w32 ((w32 (x1 * 4)) + 2))) * 5)) + (M (c0 + 3) (w32 ((w32 (x1 * 4)) + 1)))))), vi (M (c0 + 6) (w32 ((w32 ((M (c0 + 3) (w32 ((w32 (x1 * 4)) + 1))) * 5)) + (M (c0 + 3) (w32 ((w32 (x1 * 4)) + 2)))))), vi (M (c0 + 7) (w32 ((w32 ((M (c0 + 3) (w32 ((w32 (x1 * 4)) + 1))) * 5)) + (M (c0 + 3) (w32 ((w32 (x1 * 4)) + 2))))))] (S0, M) (some (vi v2), (S0, m1)) ∧
  ret (some (vi v2)) (S0, m1))))))))) :
  K 0 [(0, vr c0), (1, vi x1)] [] (S0, M) := by
  rcases hc0 with rfl | rfl <;> exact mQ hK [] 1 0 0 b_C_readsByBack_0 rfl _ _ _ h
set_option maxRecDepth 40000 in
theorem q_C_readsAs_0 {cal : mCal} {lim : Nat × Nat} {scr : Nat × (Nat → Int)} {ret : Option mVal → mHp → Prop} {K : Nat → mLV → List mVal → mHp → Prop} (hK : mClo m_C_readsAs cal lim scr ret K) (x0 : Int) (x1 : Int) (x2 : Int) (x3 : Int) (M : mMem) (h :
  (((x0 = ((0 : Nat) : Int) →
    ret (some (vi x1)) (S0, M)) ∧ 
  (x0 = ((1 : Nat) : Int) →
    ret (some (vi x2)) (S0, M)) ∧ 
  (x0 = ((2 : Nat) : Int) →
    ret (some (vi x3)) (S0, M)) ∧ True) ∧ ((x0 < 0 ∨ ((3 : Nat) : Int) ≤ x0) →
    ret (some (vi (w32 (x1 + x3)))) (S0, M)))) :
  K 0 [(0, vi x0), (1, vi x1), (2, vi x2), (3, vi x3)] [] (S0, M) := by
  exact mQ hK [28, 30, 32, 34] 5 0 0 b_C_readsAs_0 rfl _ _ _ h
set_option maxRecDepth 40000 in
theorem q_C_worth_0 {cal : mCal} {lim : Nat × Nat} {scr : Nat × (Nat → Int)} {ret : Option mVal → mHp → Prop} {K : Nat → mLV → List mVal → mHp → Prop} (hK : mClo m_C_worth cal lim scr ret K) (c0 : Nat) (M : mMem) (hc0 : c0 = 1 ∨ c0 = 9) (h :
  K 4 [(0, vr c0), (1, vi 0), (2, vi 0)] [] (S0, M)) :
  K 0 [(0, vr c0)] [] (S0, M) := by
  rcases hc0 with rfl | rfl <;> exact mQ hK [37] 2 0 0 b_C_worth_0 rfl _ _ _ h
set_option maxRecDepth 40000 in
theorem q_C_worth_4 {cal : mCal} {lim : Nat × Nat} {scr : Nat × (Nat → Int)} {ret : Option mVal → mHp → Prop} {K : Nat → mLV → List mVal → mHp → Prop} (hK : mClo m_C_worth cal lim scr ret K) (c0 : Nat) (x1 : Int) (x2 : Int) (M : mMem) (hc0 : c0 = 1 ∨ c0 = 9) (h :
  (((M c0 5) ≤ x2 →
    ret (some (vi x1)) (S0, M)) ∧ (¬ ((M c0 5) ≤ x2) →
    mIn (w32 ((w32 (x2 * 4)) + 3)) 20 ((∃ v2 m1, cal 10 [vr c0, vi x2] (S0, M) (some (vi v2), (S0, m1)) ∧
    K 4 [(0, vr c0), (1, vi (w32 (x1 + (w32 ((M (c0 + 3) (w32 ((w32 (x2 * 4)) + 3))) * v2))))), (2, vi (w32 (x2 + 1)))] [] (S0, m1)))))) :
  K 4 [(0, vr c0), (1, vi x1), (2, vi x2)] [] (S0, M) := by
  rcases hc0 with rfl | rfl <;> exact mQ hK [37] 2 1 4 b_C_worth_4 rfl _ _ _ h
set_option maxRecDepth 40000 in
theorem q_C_heldBits_0 {cal : mCal} {lim : Nat × Nat} {scr : Nat × (Nat → Int)} {ret : Option mVal → mHp → Prop} {K : Nat → mLV → List mVal → mHp → Prop} (hK : mClo m_C_heldBits cal lim scr ret K) (c0 : Nat) (M : mMem) (hc0 : c0 = 1 ∨ c0 = 9) (h :
  K 4 [(0, vr c0), (1, vi 0), (2, vi 0)] [] (S0, M)) :
  K 0 [(0, vr c0)] [] (S0, M) := by
  rcases hc0 with rfl | rfl <;> exact mQ hK [26, 32] 3 0 0 b_C_heldBits_0 rfl _ _ _ h
set_option maxRecDepth 40000 in
theorem q_C_heldBits_4 {cal : mCal} {lim : Nat × Nat} {scr : Nat × (Nat → Int)} {ret : Option mVal → mHp → Prop} {K : Nat → mLV → List mVal → mHp → Prop} (hK : mClo m_C_heldBits cal lim scr ret K) (c0 : Nat) (x1 : Int) (x2 : Int) (M : mMem) (hc0 : c0 = 1 ∨ c0 = 9) (h :
  (((M c0 5) ≤ x2 →
    ret (some (vi x1)) (S0, M)) ∧ (¬ ((M c0 5) ≤ x2) →
    (∃ v2 m1, cal 10 [vr c0, vi x2] (S0, M) (some (vi v2), (S0, m1)) ∧
    ((v2 ≤ 0 →
      K 4 [(0, vr c0), (1, vi x1), (2, vi (w32 (x2 + 1)))] [] (S0, m1)) ∧ (¬ (v2 ≤ 0) →
      K 4 [(0, vr c0), (1, vi (jor x1 (jshl 1 x2))), (2, vi (w32 (x2 + 1)))] [] (S0, m1))))))) :
  K 4 [(0, vr c0), (1, vi x1), (2, vi x2)] [] (S0, M) := by
  rcases hc0 with rfl | rfl <;> exact mQ hK [26, 32] 3 1 4 b_C_heldBits_4 rfl _ _ _ h
set_option maxRecDepth 40000 in
theorem q_C_cellsOf_0 {cal : mCal} {lim : Nat × Nat} {scr : Nat × (Nat → Int)} {ret : Option mVal → mHp → Prop} {K : Nat → mLV → List mVal → mHp → Prop} (hK : mClo m_C_cellsOf cal lim scr ret K) (c0 : Nat) (x1 : Int) (M : mMem) (hc0 : c0 = 1 ∨ c0 = 9) (h :
  K 4 [(0, vr c0), (1, vi x1), (2, vi 0), (3, vi 0)] [] (S0, M)) :
  K 0 [(0, vr c0), (1, vi x1)] [] (S0, M) := by
  rcases hc0 with rfl | rfl <;> exact mQ hK [23, 29] 3 0 0 b_C_cellsOf_0 rfl _ _ _ h
set_option maxRecDepth 40000 in
theorem q_C_cellsOf_4 {cal : mCal} {lim : Nat × Nat} {scr : Nat × (Nat → Int)} {ret : Option mVal → mHp → Prop} {K : Nat → mLV → List mVal → mHp → Prop} (hK : mClo m_C_cellsOf cal lim scr ret K) (c0 : Nat) (x1 : Int) (x2 : Int) (x3 : Int) (M : mMem) (hc0 : c0 = 1 ∨ c0 = 9) (h :
  ((36 ≤ x3 →
    ret (some (vi x2)) (S0, M)) ∧ (¬ (36 ≤ x3) →
    mIn x3 36 ((((M (c0 + 1) x3) ≠ x1 →
      K 4 [(0, vr c0), (1, vi x1), (2, vi x2), (3, vi (w32 (x3 + 1)))] [] (S0, M)) ∧ (¬ ((M (c0 + 1) x3) ≠ x1) →
      K 4 [(0, vr c0), (1, vi x1), (2, vi (w32 (x2 + 1))), (3, vi (w32 (x3 + 1)))] [] (S0, M))))))) :
  K 4 [(0, vr c0), (1, vi x1), (2, vi x2), (3, vi x3)] [] (S0, M) := by
  rcases hc0 with rfl | rfl <;> exact mQ hK [23, 29] 3 1 4 b_C_cellsOf_4 rfl _ _ _ h
set_option maxRecDepth 40000 in
theorem q_C_canRun_0 {cal : mCal} {lim : Nat × Nat} {scr : Nat × (Nat → Int)} {ret : Option mVal → mHp → Prop} {K : Nat → mLV → List mVal → mHp → Prop} (hK : mClo m_C_canRun cal lim scr ret K) (c0 : Nat) (x1 : Int) (M : mMem) (hc0 : c0 = 1 ∨ c0 = 9) (h :
  mIn x1 36 ((((M (c0 + 1) x1) ≠ 1 →
    ret (some (vi 0)) (S0, M)) ∧ (¬ ((M (c0 + 1) x1) ≠ 1) →
    ((5 ≤ (jdiv x1 6) →
      ret (some (vi 0)) (S0, M)) ∧ (¬ (5 ≤ (jdiv x1 6)) →
      mIn (w32 (x1 + 6)) 36 ((((M (c0 + 1) (w32 (x1 + 6))) ≠ 0 →
        ret (some (vi 0)) (S0, M)) ∧ (¬ ((M (c0 + 1) (w32 (x1 + 6))) ≠ 0) →
        ret (some (vi 1)) (S0, M)))))))))) :
  K 0 [(0, vr c0), (1, vi x1)] [] (S0, M) := by
  rcases hc0 with rfl | rfl <;> exact mQ hK [34, 35] 3 0 0 b_C_canRun_0 rfl _ _ _ h
set_option maxRecDepth 40000 in
theorem q_C_runningCells_0 {cal : mCal} {lim : Nat × Nat} {scr : Nat × (Nat → Int)} {ret : Option mVal → mHp → Prop} {K : Nat → mLV → List mVal → mHp → Prop} (hK : mClo m_C_runningCells cal lim scr ret K) (c0 : Nat) (M : mMem) (hc0 : c0 = 1 ∨ c0 = 9) (h :
  ret (some (vi (M (c0 + 6) 5))) (S0, M)) :
  K 0 [(0, vr c0)] [] (S0, M) := by
  rcases hc0 with rfl | rfl <;> exact mQ hK [] 1 0 0 b_C_runningCells_0 rfl _ _ _ h
set_option maxRecDepth 40000 in
theorem q_C_exchange_0 {cal : mCal} {lim : Nat × Nat} {scr : Nat × (Nat → Int)} {ret : Option mVal → mHp → Prop} {K : Nat → mLV → List mVal → mHp → Prop} (hK : mClo m_C_exchange cal lim scr ret K) (c0 : Nat) (x1 : Int) (x2 : Int) (M : mMem) (hc0 : c0 = 1 ∨ c0 = 9) (h :
  K 2 [(0, vr c0), (1, vi x1), (2, vi x2), (3, vi 0)] [] (S0, M)) :
  K 0 [(0, vr c0), (1, vi x1), (2, vi x2)] [] (S0, M) := by
  rcases hc0 with rfl | rfl <;> exact mQ hK [27, 43, 49] 4 0 0 b_C_exchange_0 rfl _ _ _ h
set_option maxRecDepth 40000 in
theorem q_C_exchange_2 {cal : mCal} {lim : Nat × Nat} {scr : Nat × (Nat → Int)} {ret : Option mVal → mHp → Prop} {K : Nat → mLV → List mVal → mHp → Prop} (hK : mClo m_C_exchange cal lim scr ret K) (c0 : Nat) (x1 : Int) (x2 : Int) (x3 : Int) (M : mMem) (hc0 : c0 = 1 ∨ c0 = 9) (h :
  ((36 ≤ x3 →
    ret none (S0, M)) ∧ (¬ (36 ≤ x3) →
    mIn x3 36 ((((M (c0 + 1) x3) ≠ x1 →
      mIn x3 36 ((((M (c0 + 1) x3) ≠ x2 →
        K 2 [(0, vr c0), (1, vi x1), (2, vi x2), (3, vi (w32 (x3 + 1)))] [] (S0, M)) ∧ (¬ ((M (c0 + 1) x3) ≠ x2) →
        (∃ m1, cal 3 [vr c0, vi x3, vi x1] (S0, M) (none, (S0, m1)) ∧
        K 2 [(0, vr c0), (1, vi x1), (2, vi x2), (3, vi (w32 (x3 + 1)))] [] (S0, m1)))))) ∧ (¬ ((M (c0 + 1) x3) ≠ x1) →
      (∃ m2, cal 3 [vr c0, vi x3, vi x2] (S0, M) (none, (S0, m2)) ∧
      K 2 [(0, vr c0), (1, vi x1), (2, vi x2), (3, vi (w32 (x3 + 1)))] [] (S0, m2)))))))) :
  K 2 [(0, vr c0), (1, vi x1), (2, vi x2), (3, vi x3)] [] (S0, M) := by
  rcases hc0 with rfl | rfl <;> exact mQ hK [27, 43, 49] 4 1 2 b_C_exchange_2 rfl _ _ _ h
set_option maxRecDepth 40000 in
theorem q_C_turnRow_0 {cal : mCal} {lim : Nat × Nat} {scr : Nat × (Nat → Int)} {ret : Option mVal → mHp → Prop} {K : Nat → mLV → List mVal → mHp → Prop} (hK : mClo m_C_turnRow cal lim scr ret K) (c0 : Nat) (x1 : Int) (M : mMem) (hc0 : c0 = 1 ∨ c0 = 9) (h :
  K 2 [(0, vr c0), (1, vi x1), (2, vi 0)] [] (S0, M)) :
  K 0 [(0, vr c0), (1, vi x1)] [] (S0, M) := by
  rcases hc0 with rfl | rfl <;> exact mQ hK [58] 2 0 0 b_C_turnRow_0 rfl _ _ _ h
set_option maxRecDepth 40000 in
theorem q_C_turnRow_2 {cal : mCal} {lim : Nat × Nat} {scr : Nat × (Nat → Int)} {ret : Option mVal → mHp → Prop} {K : Nat → mLV → List mVal → mHp → Prop} (hK : mClo m_C_turnRow cal lim scr ret K) (c0 : Nat) (x1 : Int) (x2 : Int) (M : mMem) (hc0 : c0 = 1 ∨ c0 = 9) (h :
  ((3 ≤ x2 →
    ret none (S0, M)) ∧ (¬ (3 ≤ x2) →
    mIn (w32 ((w32 (x2 * 6)) + x1)) 36 (mIn (w32 ((w32 ((w32 (5 - x2)) * 6)) + x1)) 36 ((∃ m1, cal 3 [vr c0, vi (w32 ((w32 (x2 * 6)) + x1)), vi (M (c0 + 1) (w32 ((w32 ((w32 (5 - x2)) * 6)) + x1)))] (S0, M) (none, (S0, m1)) ∧
    (∃ m2, cal 3 [vr c0, vi (w32 ((w32 ((w32 (5 - x2)) * 6)) + x1)), vi (M (c0 + 1) (w32 ((w32 (x2 * 6)) + x1)))] (S0, m1) (none, (S0, m2)) ∧
    K 2 [(0, vr c0), (1, vi x1), (2, vi (w32 (x2 + 1)))] [] (S0, m2)))))))) :
  K 2 [(0, vr c0), (1, vi x1), (2, vi x2)] [] (S0, M) := by
  rcases hc0 with rfl | rfl <;> exact mQ hK [58] 2 1 2 b_C_turnRow_2 rfl _ _ _ h
set_option maxRecDepth 40000 in
theorem q_O_begin_0 {cal : mCal} {lim : Nat × Nat} {scr : Nat × (Nat → Int)} {ret : Option mVal → mHp → Prop} {K : Nat → mLV → List mVal → mHp → Prop} (hK : mClo m_O_begin cal lim scr ret K) (x1 : Int) (M : mMem) (h :
  ret none (S0, mupd (mupd M 37 0 (-4)) 37 1 x1)) :
  K 0 [(0, vr 37), (1, vi x1)] [] (S0, M) := by
  exact mQ hK [] 1 0 0 b_O_begin_0 rfl _ _ _ h
set_option maxRecDepth 40000 in
theorem q_O_offer_0 {cal : mCal} {lim : Nat × Nat} {scr : Nat × (Nat → Int)} {ret : Option mVal → mHp → Prop} {K : Nat → mLV → List mVal → mHp → Prop} (hK : mClo m_O_offer cal lim scr ret K) (x1 : Int) (x2 : Int) (M : mMem) (h :
  ((x2 ≤ (M 37 1) →
    ret none (S0, M)) ∧ (¬ (x2 ≤ (M 37 1)) →
    ret none (S0, mupd (mupd M 37 0 x1) 37 1 x2)))) :
  K 0 [(0, vr 37), (1, vi x1), (2, vi x2)] [] (S0, M) := by
  exact mQ hK [18] 2 0 0 b_O_offer_0 rfl _ _ _ h
set_option maxRecDepth 40000 in
theorem q_O_told_0 {cal : mCal} {lim : Nat × Nat} {scr : Nat × (Nat → Int)} {ret : Option mVal → mHp → Prop} {K : Nat → mLV → List mVal → mHp → Prop} (hK : mClo m_O_told cal lim scr ret K) (x1 : Int) (M : mMem) (h :
  (((M 37 0) = (-4) →
    ret (some (vi (M 37 0))) (S0, M)) ∧ (¬ ((M 37 0) = (-4)) →
    ((x1 ≠ 0 →
      ret (some (vi (M 37 1))) (S0, M)) ∧ (¬ (x1 ≠ 0) →
      ret (some (vi (M 37 0))) (S0, M)))))) :
  K 0 [(0, vr 37), (1, vi x1)] [] (S0, M) := by
  exact mQ hK [13, 20, 24] 4 0 0 b_O_told_0 rfl _ _ _ h
set_option maxRecDepth 40000 in
theorem q_S_renew_0 {cal : mCal} {lim : Nat × Nat} {scr : Nat × (Nat → Int)} {ret : Option mVal → mHp → Prop} {K : Nat → mLV → List mVal → mHp → Prop} (hK : mClo m_S_renew cal lim scr ret K) (c0 : Nat) (x1 : Int) (x2 : Int) (M : mMem) (hc0 : c0 = 45 ∨ c0 = 47 ∨ c0 = 49 ∨ c0 = 51) (h :
  (∃ m1, cal 190 [vr (c0 + 1), vi 0] (S0, M) (none, (S0, m1)) ∧
  ret none (S0, mupd (mupd m1 c0 1 x1) c0 2 x2))) :
  K 0 [(0, vr c0), (1, vi x1), (2, vi x2)] [] (S0, M) := by
  rcases hc0 with rfl | rfl | rfl | rfl <;> exact mQ hK [] 1 0 0 b_S_renew_0 rfl _ _ _ h
set_option maxRecDepth 40000 in
theorem q_S_set_0 {cal : mCal} {lim : Nat × Nat} {scr : Nat × (Nat → Int)} {ret : Option mVal → mHp → Prop} {K : Nat → mLV → List mVal → mHp → Prop} (hK : mClo m_S_set cal lim scr ret K) (c0 : Nat) (x1 : Int) (x2 : Int) (M : mMem) (hc0 : c0 = 45 ∨ c0 = 47 ∨ c0 = 49 ∨ c0 = 51) (h :
  (((M c0 1) ≠ 0 →
    (((M c0 1) ≠ 1 →
      mIn x1 40 (ret none (S0, mupd M (c0 + 1) x1 x2))) ∧ (¬ ((M c0 1) ≠ 1) →
      mIn x1 40 (ret none (S0, mupd M (c0 + 1) x1 (w16 x2)))))) ∧ (¬ ((M c0 1) ≠ 0) →
    mIn x1 40 (ret none (S0, mupd M (c0 + 1) x1 (w8 x2)))))) :
  K 0 [(0, vr c0), (1, vi x1), (2, vi x2)] [] (S0, M) := by
  rcases hc0 with rfl | rfl | rfl | rfl <;> exact mQ hK [18, 37, 44] 4 0 0 b_S_set_0 rfl _ _ _ h
set_option maxRecDepth 40000 in
theorem q_S_faultAsOf_0 {cal : mCal} {lim : Nat × Nat} {scr : Nat × (Nat → Int)} {ret : Option mVal → mHp → Prop} {K : Nat → mLV → List mVal → mHp → Prop} (hK : mClo m_S_faultAsOf cal lim scr ret K) (c0 : Nat) (x1 : Int) (x2 : Int) (x3 : Int) (M : mMem) (hc0 : c0 = 45 ∨ c0 = 47 ∨ c0 = 49 ∨ c0 = 51) (h :
  (((M c0 2) < 0 →
    (∃ v2 m1, cal 29 [vr c0, vi x2, vi x3] (S0, M) (some (vi v2), (S0, m1)) ∧
    ret (some (vi v2)) (S0, m1))) ∧ (¬ ((M c0 2) < 0) →
    (((M c0 1) = x1 →
      (∃ v4 m3, cal 29 [vr c0, vi x2, vi x3] (S0, M) (some (vi v4), (S0, m3)) ∧
      ret (some (vi v4)) (S0, m3))) ∧ (¬ ((M c0 1) = x1) →
      ret (some (vi 3)) (S0, M)))))) :
  K 0 [(0, vr c0), (1, vi x1), (2, vi x2), (3, vi x3)] [] (S0, M) := by
  rcases hc0 with rfl | rfl | rfl | rfl <;> exact mQ hK [19, 25] 3 0 0 b_S_faultAsOf_0 rfl _ _ _ h
set_option maxRecDepth 40000 in
theorem q_S_faultAt_0 {cal : mCal} {lim : Nat × Nat} {scr : Nat × (Nat → Int)} {ret : Option mVal → mHp → Prop} {K : Nat → mLV → List mVal → mHp → Prop} (hK : mClo m_S_faultAt cal lim scr ret K) (c0 : Nat) (x1 : Int) (x2 : Int) (M : mMem) (hc0 : c0 = 45 ∨ c0 = 47 ∨ c0 = 49 ∨ c0 = 51) (h :
  ((0 ≤ (M c0 2) →
    ((x1 < 0 →
      ret (some (vi 2)) (S0, M)) ∧ (¬ (x1 < 0) →
      ((x1 ≤ (w32 ((M c0 2) - x2)) →
        ret (some (vi 0)) (S0, M)) ∧ (¬ (x1 ≤ (w32 ((M c0 2) - x2))) →
        ret (some (vi 2)) (S0, M)))))) ∧ (¬ (0 ≤ (M c0 2)) →
    ret (some (vi 1)) (S0, M)))) :
  K 0 [(0, vr c0), (1, vi x1), (2, vi x2)] [] (S0, M) := by
  rcases hc0 with rfl | rfl | rfl | rfl <;> exact mQ hK [9, 23, 27, 28] 5 0 0 b_S_faultAt_0 rfl _ _ _ h
set_option maxRecDepth 40000 in
theorem q_T_tell_0 {cal : mCal} {lim : Nat × Nat} {scr : Nat × (Nat → Int)} {ret : Option mVal → mHp → Prop} {K : Nat → mLV → List mVal → mHp → Prop} (hK : mClo m_T_tell cal lim scr ret K)  (M : mMem) (h :
  (∃ m1, cal 1 [vr 9] (S0, M) (none, (S0, m1)) ∧
  K 33 [(0, vr 35), (1, vr 9), (2, vi 0), (3, vi 0)] [] (S0, mupd (mupd (mupd (mupd (mupd m1 35 2 0) 35 3 0) 35 4 0) 35 8 0) 35 9 0))) :
  K 0 [(0, vr 35), (1, vr 9)] [] (S0, M) := by
  exact mQ hK [61, 75] 3 0 0 b_T_tell_0 rfl _ _ _ h
set_option maxRecDepth 40000 in
theorem q_T_tell_33 {cal : mCal} {lim : Nat × Nat} {scr : Nat × (Nat → Int)} {ret : Option mVal → mHp → Prop} {K : Nat → mLV → List mVal → mHp → Prop} (hK : mClo m_T_tell cal lim scr ret K) (x2 : Int) (x3 : Int) (M : mMem) (h :
  ((160 < x3 →
    ret (some (vi x2)) (S0, M)) ∧ (¬ (160 < x3) →
    (∃ m1, cal 33 [vr 35] (S0, M) (none, (S0, m1)) ∧
    (((m1 35 2) ≠ 0 →
      ret (some (vi x2)) (S0, m1)) ∧ (¬ ((m1 35 2) ≠ 0) →
      (((m1 35 5) ≠ 0 →
        (∃ m2, cal 36 [vr 35, vr 9] (S0, m1) (none, (S0, m2)) ∧
        K 33 [(0, vr 35), (1, vr 9), (2, vi (w32 (x2 + 1))), (3, vi (w32 (x3 + 1)))] [] (S0, m2))) ∧ (¬ ((m1 35 5) ≠ 0) →
        ret (some (vi x2)) (S0, m1))))))))) :
  K 33 [(0, vr 35), (1, vr 9), (2, vi x2), (3, vi x3)] [] (S0, M) := by
  exact mQ hK [61, 75] 3 1 33 b_T_tell_33 rfl _ _ _ h
set_option maxRecDepth 40000 in
theorem q_T_fail_0 {cal : mCal} {lim : Nat × Nat} {scr : Nat × (Nat → Int)} {ret : Option mVal → mHp → Prop} {K : Nat → mLV → List mVal → mHp → Prop} (hK : mClo m_T_fail cal lim scr ret K) (x1 : Int) (M : mMem) (h :
  (((M 35 2) ≠ 0 →
    ret none (S0, M)) ∧ (¬ ((M 35 2) ≠ 0) →
    ret none (S0, mupd (mupd M 35 2 x1) 35 3 ((mupd M 35 2 x1) 35 6))))) :
  K 0 [(0, vr 35), (1, vi x1)] [] (S0, M) := by
  exact mQ hK [20] 2 0 0 b_T_fail_0 rfl _ _ _ h
set_option maxRecDepth 40000 in
theorem q_T_readToken_0 {cal : mCal} {lim : Nat × Nat} {scr : Nat × (Nat → Int)} {ret : Option mVal → mHp → Prop} {K : Nat → mLV → List mVal → mHp → Prop} (hK : mClo m_T_readToken cal lim scr ret K)  (M : mMem) (h :
  (((M 35 2) = 0 →
    K 8 [(0, vr 35)] [] (S0, M)) ∧ (¬ ((M 35 2) = 0) →
    ret none (S0, M)))) :
  K 0 [(0, vr 35)] [] (S0, M) := by
  exact mQ hK [73, 132, 241, 273, 278] 6 0 0 b_T_readToken_0 rfl _ _ _ h
set_option maxRecDepth 40000 in
theorem q_T_readToken_8 {cal : mCal} {lim : Nat × Nat} {scr : Nat × (Nat → Int)} {ret : Option mVal → mHp → Prop} {K : Nat → mLV → List mVal → mHp → Prop} (hK : mClo m_T_readToken cal lim scr ret K)  (M : mMem) (h :
  (((M 35 1) ≤ (M 35 4) →
    K 46 [(0, vr 35)] [] (S0, M)) ∧ (¬ ((M 35 1) ≤ (M 35 4)) →
    mIn (M 35 4) 160 ((((M 36 (M 35 4)) ≠ 32 →
      K 46 [(0, vr 35)] [] (S0, M)) ∧ (¬ ((M 36 (M 35 4)) ≠ 32) →
      K 8 [(0, vr 35)] [] (S0, mupd M 35 4 (w32 ((M 35 4) + 1))))))))) :
  K 8 [(0, vr 35)] [] (S0, M) := by
  exact mQ hK [73, 132, 241, 273, 278] 6 1 8 b_T_readToken_8 rfl _ _ _ h
set_option maxRecDepth 40000 in
theorem q_T_readToken_46 {cal : mCal} {lim : Nat × Nat} {scr : Nat × (Nat → Int)} {ret : Option mVal → mHp → Prop} {K : Nat → mLV → List mVal → mHp → Prop} (hK : mClo m_T_readToken cal lim scr ret K)  (M : mMem) (h :
  ((((mupd M 35 6 (M 35 4)) 35 4) < ((mupd M 35 6 (M 35 4)) 35 1) →
    mIn ((mupd M 35 6 (M 35 4)) 35 4) 160 ((∃ v2 m1, cal 34 [vi ((mupd M 35 6 (M 35 4)) 36 ((mupd M 35 6 (M 35 4)) 35 4))] (S0, mupd M 35 6 (M 35 4)) (some (vi v2), (S0, m1)) ∧
    ((v2 = 0 →
      mIn (m1 35 4) 160 ((∃ v4 m3, cal 35 [vi (m1 36 (m1 35 4))] (S0, m1) (some (vi v4), (S0, m3)) ∧
      ((v4 = 0 →
        mIn (m3 35 4) 160 ((((m3 36 (m3 35 4)) ≠ 59 →
          (∃ m5, cal 32 [vr 35, vi 1] (S0, m3) (none, (S0, m5)) ∧
          ret none (S0, m5))) ∧ (¬ ((m3 36 (m3 35 4)) ≠ 59) →
          ret none (S0, mupd (mupd m3 35 5 3) 35 4 (w32 (((mupd m3 35 5 3) 35 4) + 1))))))) ∧ (¬ (v4 = 0) →
        K 157 [(0, vr 35)] [] (S0, mupd (mupd m3 35 5 2) 35 7 0)))))) ∧ (¬ (v2 = 0) →
      K 93 [(0, vr 35)] [] (S0, mupd m1 35 5 1)))))) ∧ (¬ (((mupd M 35 6 (M 35 4)) 35 4) < ((mupd M 35 6 (M 35 4)) 35 1)) →
    ret none (S0, mupd (mupd M 35 6 (M 35 4)) 35 5 0)))) :
  K 46 [(0, vr 35)] [] (S0, M) := by
  exact mQ hK [73, 132, 241, 273, 278] 6 2 46 b_T_readToken_46 rfl _ _ _ h
set_option maxRecDepth 40000 in
theorem q_T_readToken_93 {cal : mCal} {lim : Nat × Nat} {scr : Nat × (Nat → Int)} {ret : Option mVal → mHp → Prop} {K : Nat → mLV → List mVal → mHp → Prop} (hK : mClo m_T_readToken cal lim scr ret K)  (M : mMem) (h :
  (((M 35 1) ≤ (M 35 4) →
    ret none (S0, M)) ∧ (¬ ((M 35 1) ≤ (M 35 4)) →
    mIn (M 35 4) 160 ((∃ v2 m1, cal 34 [vi (M 36 (M 35 4))] (S0, M) (some (vi v2), (S0, m1)) ∧
    ((v2 = 0 →
      ret none (S0, m1)) ∧ (¬ (v2 = 0) →
      K 93 [(0, vr 35)] [] (S0, mupd m1 35 4 (w32 ((m1 35 4) + 1)))))))))) :
  K 93 [(0, vr 35)] [] (S0, M) := by
  exact mQ hK [73, 132, 241, 273, 278] 6 4 93 b_T_readToken_93 rfl _ _ _ h
set_option maxRecDepth 40000 in
theorem q_T_readToken_157 {cal : mCal} {lim : Nat × Nat} {scr : Nat × (Nat → Int)} {ret : Option mVal → mHp → Prop} {K : Nat → mLV → List mVal → mHp → Prop} (hK : mClo m_T_readToken cal lim scr ret K)  (M : mMem) (h :
  (((M 35 1) ≤ (M 35 4) →
    K 220 [(0, vr 35)] [] (S0, M)) ∧ (¬ ((M 35 1) ≤ (M 35 4)) →
    mIn (M 35 4) 160 ((∃ v2 m1, cal 35 [vi (M 36 (M 35 4))] (S0, M) (some (vi v2), (S0, m1)) ∧
    ((v2 = 0 →
      K 220 [(0, vr 35)] [] (S0, m1)) ∧ (¬ (v2 = 0) →
      mIn (m1 35 4) 160 (K 157 [(0, vr 35)] [] (S0, mupd (mupd m1 35 7 (w32 ((w32 ((w32 (10 * (m1 35 7))) + (m1 36 (m1 35 4)))) - 48))) 35 4 (w32 (((mupd m1 35 7 (w32 ((w32 ((w32 (10 * (m1 35 7))) + (m1 36 (m1 35 4)))) - 48))) 35 4) + 1))))))))))) :
  K 157 [(0, vr 35)] [] (S0, M) := by
  exact mQ hK [73, 132, 241, 273, 278] 6 6 157 b_T_readToken_157 rfl _ _ _ h
set_option maxRecDepth 40000 in
theorem q_T_readToken_220 {cal : mCal} {lim : Nat × Nat} {scr : Nat × (Nat → Int)} {ret : Option mVal → mHp → Prop} {K : Nat → mLV → List mVal → mHp → Prop} (hK : mClo m_T_readToken cal lim scr ret K)  (M : mMem) (h :
  (((w32 ((M 35 4) - (M 35 6))) ≤ 2 →
    ret none (S0, M)) ∧ (¬ ((w32 ((M 35 4) - (M 35 6))) ≤ 2) →
    (∃ m1, cal 32 [vr 35, vi 1] (S0, M) (none, (S0, m1)) ∧
    ret none (S0, m1))))) :
  K 220 [(0, vr 35)] [] (S0, M) := by
  exact mQ hK [73, 132, 241, 273, 278] 6 7 220 b_T_readToken_220 rfl _ _ _ h
set_option maxRecDepth 40000 in
theorem q_T_isLetter_0 {cal : mCal} {lim : Nat × Nat} {scr : Nat × (Nat → Int)} {ret : Option mVal → mHp → Prop} {K : Nat → mLV → List mVal → mHp → Prop} (hK : mClo m_T_isLetter cal lim scr ret K) (x0 : Int) (M : mMem) (h :
  ((x0 < 97 →
    ret (some (vi 0)) (S0, M)) ∧ (¬ (x0 < 97) →
    ((122 < x0 →
      ret (some (vi 0)) (S0, M)) ∧ (¬ (122 < x0) →
      ret (some (vi 1)) (S0, M)))))) :
  K 0 [(0, vi x0)] [] (S0, M) := by
  exact mQ hK [16, 17] 3 0 0 b_T_isLetter_0 rfl _ _ _ h
set_option maxRecDepth 40000 in
theorem q_T_isFigure_0 {cal : mCal} {lim : Nat × Nat} {scr : Nat × (Nat → Int)} {ret : Option mVal → mHp → Prop} {K : Nat → mLV → List mVal → mHp → Prop} (hK : mClo m_T_isFigure cal lim scr ret K) (x0 : Int) (M : mMem) (h :
  ((x0 < 48 →
    ret (some (vi 0)) (S0, M)) ∧ (¬ (x0 < 48) →
    ((57 < x0 →
      ret (some (vi 0)) (S0, M)) ∧ (¬ (57 < x0) →
      ret (some (vi 1)) (S0, M)))))) :
  K 0 [(0, vi x0)] [] (S0, M) := by
  exact mQ hK [16, 17] 3 0 0 b_T_isFigure_0 rfl _ _ _ h
set_option maxRecDepth 40000 in
theorem q_T_readLine_0 {cal : mCal} {lim : Nat × Nat} {scr : Nat × (Nat → Int)} {ret : Option mVal → mHp → Prop} {K : Nat → mLV → List mVal → mHp → Prop} (hK : mClo m_T_readLine cal lim scr ret K)  (M : mMem) (h :
  (((M 35 5) = 1 →
    (∃ v2 m1, cal 37 [vr 35, vs 1] (S0, M) (some (vi v2), (S0, m1)) ∧
    ((v2 = 0 →
      (∃ v4 m3, cal 37 [vr 35, vs 2] (S0, m1) (some (vi v4), (S0, m3)) ∧
      ((v4 = 0 →
        (∃ v6 m5, cal 37 [vr 35, vs 3] (S0, m3) (some (vi v6), (S0, m5)) ∧
        ((v6 = 0 →
          (∃ v8 m7, cal 37 [vr 35, vs 4] (S0, m5) (some (vi v8), (S0, m7)) ∧
          ((v8 = 0 →
            (∃ v10 m9, cal 37 [vr 35, vs 5] (S0, m7) (some (vi v10), (S0, m9)) ∧
            ((v10 = 0 →
              (∃ v12 m11, cal 37 [vr 35, vs 6] (S0, m9) (some (vi v12), (S0, m11)) ∧
              ((v12 = 0 →
                (∃ m13, cal 32 [vr 35, vi 2] (S0, m11) (none, (S0, m13)) ∧
                ret none (S0, m13))) ∧ (¬ (v12 = 0) →
                (∃ m14, cal 41 [vr 35, vr 9, vi 3] (S0, m11) (none, (S0, m14)) ∧
                ret none (S0, m14)))))) ∧ (¬ (v10 = 0) →
              (∃ m15, cal 41 [vr 35, vr 9, vi 2] (S0, m9) (none, (S0, m15)) ∧
              ret none (S0, m15)))))) ∧ (¬ (v8 = 0) →
            (∃ m16, cal 41 [vr 35, vr 9, vi 1] (S0, m7) (none, (S0, m16)) ∧
            ret none (S0, m16)))))) ∧ (¬ (v6 = 0) →
          (∃ m17, cal 41 [vr 35, vr 9, vi 0] (S0, m5) (none, (S0, m17)) ∧
          ret none (S0, m17)))))) ∧ (¬ (v4 = 0) →
        (∃ m18, cal 40 [vr 35, vr 9] (S0, m3) (none, (S0, m18)) ∧
        ret none (S0, m18)))))) ∧ (¬ (v2 = 0) →
      (∃ m19, cal 38 [vr 35, vr 9] (S0, m1) (none, (S0, m19)) ∧
      ret none (S0, m19)))))) ∧ (¬ ((M 35 5) = 1) →
    (∃ m20, cal 32 [vr 35, vi 2] (S0, M) (none, (S0, m20)) ∧
    ret none (S0, m20))))) :
  K 0 [(0, vr 35), (1, vr 9)] [] (S0, M) := by
  exact mQ hK [16, 33, 50, 68, 86, 104, 122, 127] 9 0 0 b_T_readLine_0 rfl _ _ _ h
set_option maxRecDepth 40000 in
theorem q_T_isName_0 {cal : mCal} {lim : Nat × Nat} {scr : Nat × (Nat → Int)} {ret : Option mVal → mHp → Prop} {K : Nat → mLV → List mVal → mHp → Prop} (hK : mClo m_T_isName cal lim scr ret K) (i1 : Nat) (M : mMem) (h :
  (((w32 ((M 35 4) - (M 35 6))) = ((mstrs.getD i1 []).length : Nat) →
    K 20 [(0, vr 35), (1, vs (i1 + 1)), (2, vi 0)] [] (S0, M)) ∧ (¬ ((w32 ((M 35 4) - (M 35 6))) = ((mstrs.getD i1 []).length : Nat)) →
    ret (some (vi 0)) (S0, M)))) :
  K 0 [(0, vr 35), (1, vs (i1 + 1))] [] (S0, M) := by
  exact mQ hK [18, 49, 55] 4 0 0 b_T_isName_0 rfl _ _ _ h
set_option maxRecDepth 40000 in
theorem q_T_isName_20 {cal : mCal} {lim : Nat × Nat} {scr : Nat × (Nat → Int)} {ret : Option mVal → mHp → Prop} {K : Nat → mLV → List mVal → mHp → Prop} (hK : mClo m_T_isName cal lim scr ret K) (i1 : Nat) (x2 : Int) (M : mMem) (h :
  ((((mstrs.getD i1 []).length : Nat) ≤ x2 →
    ret (some (vi 1)) (S0, M)) ∧ (¬ (((mstrs.getD i1 []).length : Nat) ≤ x2) →
    mIn (w32 ((M 35 6) + x2)) 160 (mIn x2 (mstrs.getD i1 []).length ((((M 36 (w32 ((M 35 6) + x2))) = ((mstrs.getD i1 []).getD (x2 : Int).toNat 0 : Nat) →
      K 20 [(0, vr 35), (1, vs (i1 + 1)), (2, vi (w32 (x2 + 1)))] [] (S0, M)) ∧ (¬ ((M 36 (w32 ((M 35 6) + x2))) = ((mstrs.getD i1 []).getD (x2 : Int).toNat 0 : Nat)) →
      ret (some (vi 0)) (S0, M)))))))) :
  K 20 [(0, vr 35), (1, vs (i1 + 1)), (2, vi x2)] [] (S0, M) := by
  exact mQ hK [18, 49, 55] 4 2 20 b_T_isName_20 rfl _ _ _ h
set_option maxRecDepth 40000 in
theorem q_T_readRow_0 {cal : mCal} {lim : Nat × Nat} {scr : Nat × (Nat → Int)} {ret : Option mVal → mHp → Prop} {K : Nat → mLV → List mVal → mHp → Prop} (hK : mClo m_T_readRow cal lim scr ret K)  (M : mMem) (h :
  (∃ v2 m1, cal 42 [vr 35, vi 0, vi 5] (S0, M) (some (vi v2), (S0, m1)) ∧
  (((jand (jshr (m1 35 8) v2) 1) ≠ 1 →
    K 24 [(0, vr 35), (1, vr 9), (2, vi v2)] [] (S0, m1)) ∧ (¬ ((jand (jshr (m1 35 8) v2) 1) ≠ 1) →
    (∃ m3, cal 32 [vr 35, vi 4] (S0, m1) (none, (S0, m3)) ∧
    K 24 [(0, vr 35), (1, vr 9), (2, vi v2)] [] (S0, m3)))))) :
  K 0 [(0, vr 35), (1, vr 9)] [] (S0, M) := by
  exact mQ hK [84] 2 0 0 b_T_readRow_0 rfl _ _ _ h
set_option maxRecDepth 40000 in
theorem q_T_readRow_24 {cal : mCal} {lim : Nat × Nat} {scr : Nat × (Nat → Int)} {ret : Option mVal → mHp → Prop} {K : Nat → mLV → List mVal → mHp → Prop} (hK : mClo m_T_readRow cal lim scr ret K) (x2 : Int) (M : mMem) (h :
  K 38 [(0, vr 35), (1, vr 9), (2, vi x2), (3, vi 0)] [] (S0, mupd M 35 8 (jor (M 35 8) (jshl 1 x2)))) :
  K 24 [(0, vr 35), (1, vr 9), (2, vi x2)] [] (S0, M) := by
  exact mQ hK [84] 2 1 24 b_T_readRow_24 rfl _ _ _ h
set_option maxRecDepth 40000 in
theorem q_T_readRow_38 {cal : mCal} {lim : Nat × Nat} {scr : Nat × (Nat → Int)} {ret : Option mVal → mHp → Prop} {K : Nat → mLV → List mVal → mHp → Prop} (hK : mClo m_T_readRow cal lim scr ret K) (x2 : Int) (x3 : Int) (M : mMem) (h :
  ((6 < x3 →
    ret none (S0, M)) ∧ (¬ (6 < x3) →
    (((M 35 2) ≠ 0 →
      ret none (S0, M)) ∧ (¬ ((M 35 2) ≠ 0) →
      (∃ m1, cal 33 [vr 35] (S0, M) (none, (S0, m1)) ∧
      (((m1 35 2) ≠ 0 →
        K 71 [(0, vr 35), (1, vr 9), (2, vi x2), (3, vi x3)] [] (S0, m1)) ∧ (¬ ((m1 35 2) ≠ 0) →
        (((m1 35 5) ≠ 3 →
          K 71 [(0, vr 35), (1, vr 9), (2, vi x2), (3, vi x3)] [] (S0, m1)) ∧ (¬ ((m1 35 5) ≠ 3) →
          ret none (S0, m1))))))))))) :
  K 38 [(0, vr 35), (1, vr 9), (2, vi x2), (3, vi x3)] [] (S0, M) := by
  exact mQ hK [84] 2 2 38 b_T_readRow_38 rfl _ _ _ h
set_option maxRecDepth 40000 in
theorem q_T_readRow_71 {cal : mCal} {lim : Nat × Nat} {scr : Nat × (Nat → Int)} {ret : Option mVal → mHp → Prop} {K : Nat → mLV → List mVal → mHp → Prop} (hK : mClo m_T_readRow cal lim scr ret K) (x2 : Int) (x3 : Int) (M : mMem) (h :
  (∃ m1, cal 39 [vr 35, vr 9, vi x3, vi x2] (S0, M) (none, (S0, m1)) ∧
  K 38 [(0, vr 35), (1, vr 9), (2, vi x2), (3, vi (w32 (x3 + 1)))] [] (S0, m1))) :
  K 71 [(0, vr 35), (1, vr 9), (2, vi x2), (3, vi x3)] [] (S0, M) := by
  exact mQ hK [84] 2 3 71 b_T_readRow_71 rfl _ _ _ h
set_option maxRecDepth 40000 in
theorem q_T_takeCell_0 {cal : mCal} {lim : Nat × Nat} {scr : Nat × (Nat → Int)} {ret : Option mVal → mHp → Prop} {K : Nat → mLV → List mVal → mHp → Prop} (hK : mClo m_T_takeCell cal lim scr ret K) (x2 : Int) (x3 : Int) (M : mMem) (h :
  (((M 35 2) = 0 →
    (((M 35 5) = 2 →
      ((x2 < 6 →
        (((M 35 7) ≤ 4 →
          (∃ m1, cal 3 [vr 9, vi (w32 ((w32 (x2 * 6)) + x3)), vi (M 35 7)] (S0, M) (none, (S0, m1)) ∧
          ret none (S0, m1))) ∧ (¬ ((M 35 7) ≤ 4) →
          (∃ m2, cal 32 [vr 35, vi 3] (S0, M) (none, (S0, m2)) ∧
          ret none (S0, m2))))) ∧ (¬ (x2 < 6) →
        (∃ m3, cal 32 [vr 35, vi 5] (S0, M) (none, (S0, m3)) ∧
        ret none (S0, m3))))) ∧ (¬ ((M 35 5) = 2) →
      (∃ m4, cal 32 [vr 35, vi 2] (S0, M) (none, (S0, m4)) ∧
      ret none (S0, m4))))) ∧ (¬ ((M 35 2) = 0) →
    ret none (S0, M)))) :
  K 0 [(0, vr 35), (1, vr 9), (2, vi x2), (3, vi x3)] [] (S0, M) := by
  exact mQ hK [8, 24, 38, 54, 68] 6 0 0 b_T_takeCell_0 rfl _ _ _ h
set_option maxRecDepth 40000 in
theorem q_T_readThread_0 {cal : mCal} {lim : Nat × Nat} {scr : Nat × (Nat → Int)} {ret : Option mVal → mHp → Prop} {K : Nat → mLV → List mVal → mHp → Prop} (hK : mClo m_T_readThread cal lim scr ret K)  (M : mMem) (h :
  (∃ v2 m1, cal 42 [vr 35, vi 1, vi 3] (S0, M) (some (vi v2), (S0, m1)) ∧
  (((jand (jshr (m1 35 9) v2) 1) ≠ 1 →
    K 24 [(0, vr 35), (1, vr 9), (2, vi v2)] [] (S0, m1)) ∧ (¬ ((jand (jshr (m1 35 9) v2) 1) ≠ 1) →
    (∃ m3, cal 32 [vr 35, vi 4] (S0, m1) (none, (S0, m3)) ∧
    K 24 [(0, vr 35), (1, vr 9), (2, vi v2)] [] (S0, m3)))))) :
  K 0 [(0, vr 35), (1, vr 9)] [] (S0, M) := by
  exact mQ hK [] 1 0 0 b_T_readThread_0 rfl _ _ _ h
set_option maxRecDepth 40000 in
theorem q_T_readThread_24 {cal : mCal} {lim : Nat × Nat} {scr : Nat × (Nat → Int)} {ret : Option mVal → mHp → Prop} {K : Nat → mLV → List mVal → mHp → Prop} (hK : mClo m_T_readThread cal lim scr ret K) (x2 : Int) (M : mMem) (h :
  (∃ v2 m1, cal 42 [vr 35, vi 0, vi 99] (S0, mupd M 35 9 (jor (M 35 9) (jshl 1 x2))) (some (vi v2), (S0, m1)) ∧
  mIn x2 4 ((∃ m3, cal 43 [vr 35] (S0, mupd m1 11 x2 v2) (none, (S0, m3)) ∧
  ret none (S0, m3))))) :
  K 24 [(0, vr 35), (1, vr 9), (2, vi x2)] [] (S0, M) := by
  exact mQ hK [] 1 1 24 b_T_readThread_24 rfl _ _ _ h
set_option maxRecDepth 40000 in
theorem q_T_readLaw_0 {cal : mCal} {lim : Nat × Nat} {scr : Nat × (Nat → Int)} {ret : Option mVal → mHp → Prop} {K : Nat → mLV → List mVal → mHp → Prop} (hK : mClo m_T_readLaw cal lim scr ret K) (x2 : Int) (M : mMem) (h :
  (((M 9 5) < 5 →
    (∃ v2 m1, cal 42 [vr 35, vi 1, vi 3] (S0, M) (some (vi v2), (S0, m1)) ∧
    (∃ v4 m3, cal 42 [vr 35, vi 1, vi 3] (S0, m1) (some (vi v4), (S0, m3)) ∧
    (∃ v6 m5, cal 42 [vr 35, vi 1, vi 9] (S0, m3) (some (vi v6), (S0, m5)) ∧
    (∃ m7, cal 43 [vr 35] (S0, m5) (none, (S0, m7)) ∧
    (((m7 35 2) ≠ 0 →
      ret none (S0, m7)) ∧ (¬ ((m7 35 2) ≠ 0) →
      (∃ m8, cal 9 [vr 9, vi x2, vi v2, vi v4, vi v6] (S0, m7) (none, (S0, m8)) ∧
      ret none (S0, m8))))))))) ∧ (¬ ((M 9 5) < 5) →
    (∃ m9, cal 32 [vr 35, vi 5] (S0, M) (none, (S0, m9)) ∧
    ret none (S0, m9))))) :
  K 0 [(0, vr 35), (1, vr 9), (2, vi x2)] [] (S0, M) := by
  exact mQ hK [14, 59] 3 0 0 b_T_readLaw_0 rfl _ _ _ h
set_option maxRecDepth 40000 in
theorem q_T_takeNumber_0 {cal : mCal} {lim : Nat × Nat} {scr : Nat × (Nat → Int)} {ret : Option mVal → mHp → Prop} {K : Nat → mLV → List mVal → mHp → Prop} (hK : mClo m_T_takeNumber cal lim scr ret K) (x1 : Int) (x2 : Int) (M : mMem) (h :
  (∃ m1, cal 33 [vr 35] (S0, M) (none, (S0, m1)) ∧
  (((m1 35 2) ≠ 0 →
    (((m1 35 2) ≠ 0 →
      ret (some (vi x1)) (S0, m1)) ∧ (¬ ((m1 35 2) ≠ 0) →
      ret (some (vi (m1 35 7))) (S0, m1)))) ∧ (¬ ((m1 35 2) ≠ 0) →
    (((m1 35 5) = 2 →
      (((m1 35 7) < x1 →
        K 43 [(0, vr 35), (1, vi x1)] [] (S0, m1)) ∧ (¬ ((m1 35 7) < x1) →
        (((m1 35 7) ≤ x2 →
          (((m1 35 2) ≠ 0 →
            ret (some (vi x1)) (S0, m1)) ∧ (¬ ((m1 35 2) ≠ 0) →
            ret (some (vi (m1 35 7))) (S0, m1)))) ∧ (¬ ((m1 35 7) ≤ x2) →
          K 43 [(0, vr 35), (1, vi x1)] [] (S0, m1)))))) ∧ (¬ ((m1 35 5) = 2) →
      (∃ m2, cal 32 [vr 35, vi 2] (S0, m1) (none, (S0, m2)) ∧
      (((m2 35 2) ≠ 0 →
        ret (some (vi x1)) (S0, m2)) ∧ (¬ ((m2 35 2) ≠ 0) →
        ret (some (vi (m2 35 7))) (S0, m2)))))))))) :
  K 0 [(0, vr 35), (1, vi x1), (2, vi x2)] [] (S0, M) := by
  exact mQ hK [27, 48, 62, 63] 5 0 0 b_T_takeNumber_0 rfl _ _ _ h
set_option maxRecDepth 40000 in
theorem q_T_takeNumber_43 {cal : mCal} {lim : Nat × Nat} {scr : Nat × (Nat → Int)} {ret : Option mVal → mHp → Prop} {K : Nat → mLV → List mVal → mHp → Prop} (hK : mClo m_T_takeNumber cal lim scr ret K) (x1 : Int) (M : mMem) (h :
  (∃ m1, cal 32 [vr 35, vi 3] (S0, M) (none, (S0, m1)) ∧
  (((m1 35 2) ≠ 0 →
    ret (some (vi x1)) (S0, m1)) ∧ (¬ ((m1 35 2) ≠ 0) →
    ret (some (vi (m1 35 7))) (S0, m1))))) :
  K 43 [(0, vr 35), (1, vi x1)] [] (S0, M) := by
  exact mQ hK [27, 48, 62, 63] 5 2 43 b_T_takeNumber_43 rfl _ _ _ h
set_option maxRecDepth 40000 in
theorem q_T_takeStop_0 {cal : mCal} {lim : Nat × Nat} {scr : Nat × (Nat → Int)} {ret : Option mVal → mHp → Prop} {K : Nat → mLV → List mVal → mHp → Prop} (hK : mClo m_T_takeStop cal lim scr ret K)  (M : mMem) (h :
  (∃ m1, cal 33 [vr 35] (S0, M) (none, (S0, m1)) ∧
  (((m1 35 2) ≠ 0 →
    ret none (S0, m1)) ∧ (¬ ((m1 35 2) ≠ 0) →
    (((m1 35 5) = 3 →
      ret none (S0, m1)) ∧ (¬ ((m1 35 5) = 3) →
      (∃ m2, cal 32 [vr 35, vi 2] (S0, m1) (none, (S0, m2)) ∧
      ret none (S0, m2)))))))) :
  K 0 [(0, vr 35)] [] (S0, M) := by
  exact mQ hK [24] 2 0 0 b_T_takeStop_0 rfl _ _ _ h
end
section
set_option maxRecDepth 40000 in
theorem q_L_feed_0 {cal : mCal} {lim : Nat × Nat} {scr : Nat × (Nat → Int)} {ret : Option mVal → mHp → Prop} {K : Nat → mLV → List mVal → mHp → Prop} (hK : mClo m_L_feed cal lim scr ret K) (x1 : Int) (M : mMem) (h :
  ((x1 < 0 →
    ret (some (vi (-1))) (S0, M)) ∧ (¬ (x1 < 0) →
    ((x1 ≤ 127 →
      (((M 35 1) < 160 →
        mIn (M 35 1) 160 (ret (some (vi ((mupd (mupd M 36 (M 35 1) x1) 35 1 (w32 (((mupd M 36 (M 35 1) x1) 35 1) + 1))) 35 1))) (S0, mupd (mupd M 36 (M 35 1) x1) 35 1 (w32 (((mupd M 36 (M 35 1) x1) 35 1) + 1))))) ∧ (¬ ((M 35 1) < 160) →
        ret (some (vi (-3))) (S0, M)))) ∧ (¬ (x1 ≤ 127) →
      ret (some (vi (-1))) (S0, M)))))) :
  K 0 [(0, vr 0), (1, vi x1)] [] (S0, M) := by
  exact mQ hK [10, 12, 28] 4 0 0 b_L_feed_0 rfl _ _ _ h
set_option maxRecDepth 40000 in
theorem q_L_end_0 {cal : mCal} {lim : Nat × Nat} {scr : Nat × (Nat → Int)} {ret : Option mVal → mHp → Prop} {K : Nat → mLV → List mVal → mHp → Prop} (hK : mClo m_L_end cal lim scr ret K) (x1 : Int) (M : mMem) (h :
  ((x1 < 0 →
    ret (some (vi (-1))) (S0, M)) ∧ (¬ (x1 < 0) →
    ((x1 ≤ (M 35 1) →
      ret (some (vi (M 35 1))) (S0, mupd M 35 1 x1)) ∧ (¬ (x1 ≤ (M 35 1)) →
      ret (some (vi (-1))) (S0, M)))))) :
  K 0 [(0, vr 0), (1, vi x1)] [] (S0, M) := by
  exact mQ hK [15, 17] 3 0 0 b_L_end_0 rfl _ _ _ h
set_option maxRecDepth 40000 in
theorem q_L_text_0 {cal : mCal} {lim : Nat × Nat} {scr : Nat × (Nat → Int)} {ret : Option mVal → mHp → Prop} {K : Nat → mLV → List mVal → mHp → Prop} (hK : mClo m_L_text cal lim scr ret K)  (M : mMem) (h :
  (∃ v2 m1, cal 31 [vr 35, vr 9] (S0, M) (some (vi v2), (S0, m1)) ∧
  ((((mupd m1 35 1 0) 35 2) = 0 →
    (∃ m3, cal 2 [vr 1, vr 9] (S0, mupd m1 35 1 0) (none, (S0, m3)) ∧
    ret (some (vi v2)) (S0, mupd (mupd (mupd m3 0 13 0) 17 1 0) 26 1 0))) ∧ (¬ (((mupd m1 35 1 0) 35 2) = 0) →
    ret (some (vi (w32 ((-10) - ((mupd m1 35 1 0) 35 3))))) (S0, mupd m1 35 1 0))))) :
  K 0 [(0, vr 0)] [] (S0, M) := by
  exact mQ hK [41] 2 0 0 b_L_text_0 rfl _ _ _ h
set_option maxRecDepth 40000 in
theorem q_L_fault_0 {cal : mCal} {lim : Nat × Nat} {scr : Nat × (Nat → Int)} {ret : Option mVal → mHp → Prop} {K : Nat → mLV → List mVal → mHp → Prop} (hK : mClo m_L_fault cal lim scr ret K)  (M : mMem) (h :
  ret (some (vi (M 35 2))) (S0, M)) :
  K 0 [(0, vr 0)] [] (S0, M) := by
  exact mQ hK [] 1 0 0 b_L_fault_0 rfl _ _ _ h
set_option maxRecDepth 40000 in
theorem q_L_rule_0 {cal : mCal} {lim : Nat × Nat} {scr : Nat × (Nat → Int)} {ret : Option mVal → mHp → Prop} {K : Nat → mLV → List mVal → mHp → Prop} (hK : mClo m_L_rule cal lim scr ret K) (x1 : Int) (M : mMem) (h :
  (((x1 = ((0 : Nat) : Int) →
    ret (some (vi (M 1 5))) (S0, M)) ∧ 
  (x1 = ((1 : Nat) : Int) →
    (∃ v2 m1, cal 15 [vr 1, vi 0] (S0, M) (some (vi v2), (S0, m1)) ∧
    (∃ v4 m3, cal 15 [vr 1, vi 4] (S0, m1) (some (vi v4), (S0, m3)) ∧
    ret (some (vi (w32 ((w32 (36 - v2)) - v4)))) (S0, m3)))) ∧ 
  (x1 = ((2 : Nat) : Int) →
    (∃ v6 m5, cal 15 [vr 1, vi 4] (S0, M) (some (vi v6), (S0, m5)) ∧
    ret (some (vi v6)) (S0, m5))) ∧ 
  (x1 = ((3 : Nat) : Int) →
    ret (some (vi (M 1 6))) (S0, M)) ∧ 
  (x1 = ((4 : Nat) : Int) →
    (∃ v8 m7, cal 14 [vr 1] (S0, M) (some (vi v8), (S0, m7)) ∧
    ret (some (vi v8)) (S0, m7))) ∧ 
  (x1 = ((5 : Nat) : Int) →
    (∃ v10 m9, cal 13 [vr 1] (S0, M) (some (vi v10), (S0, m9)) ∧
    ret (some (vi v10)) (S0, m9))) ∧ True) ∧ ((x1 < 0 ∨ ((6 : Nat) : Int) ≤ x1) →
    ret (some (vi (-1))) (S0, M)))) :
  K 0 [(0, vr 0), (1, vi x1)] [] (S0, M) := by
  exact mQ hK [40, 48, 69, 78, 86, 94, 102] 8 0 0 b_L_rule_0 rfl _ _ _ h
set_option maxRecDepth 40000 in
theorem q_L_cell_0 {cal : mCal} {lim : Nat × Nat} {scr : Nat × (Nat → Int)} {ret : Option mVal → mHp → Prop} {K : Nat → mLV → List mVal → mHp → Prop} (hK : mClo m_L_cell cal lim scr ret K) (x1 : Int) (x2 : Int) (M : mMem) (h :
  (∃ v2 m1, cal 87 [vi x1, vi x2] (S0, M) (some (vi v2), (S0, m1)) ∧
  ((v2 = 0 →
    ret (some (vi (-1))) (S0, m1)) ∧ (¬ (v2 = 0) →
    (∃ v4 m3, cal 94 [vi x1, vi x2] (S0, m1) (some (vi v4), (S0, m3)) ∧
    mIn v4 36 (ret (some (vi (m3 2 v4))) (S0, m3))))))) :
  K 0 [(0, vr 0), (1, vi x1), (2, vi x2)] [] (S0, M) := by
  exact mQ hK [24, 25] 3 0 0 b_L_cell_0 rfl _ _ _ h
set_option maxRecDepth 40000 in
theorem q_L_thread_0 {cal : mCal} {lim : Nat × Nat} {scr : Nat × (Nat → Int)} {ret : Option mVal → mHp → Prop} {K : Nat → mLV → List mVal → mHp → Prop} (hK : mClo m_L_thread cal lim scr ret K) (x1 : Int) (M : mMem) (h :
  (∃ v2 m1, cal 88 [vi x1] (S0, M) (some (vi v2), (S0, m1)) ∧
  ((v2 = 0 →
    ret (some (vi (-1))) (S0, m1)) ∧ (¬ (v2 = 0) →
    mIn x1 4 (ret (some (vi (m1 3 x1))) (S0, m1)))))) :
  K 0 [(0, vr 0), (1, vi x1)] [] (S0, M) := by
  exact mQ hK [19, 20] 3 0 0 b_L_thread_0 rfl _ _ _ h
set_option maxRecDepth 40000 in
theorem q_L_law_0 {cal : mCal} {lim : Nat × Nat} {scr : Nat × (Nat → Int)} {ret : Option mVal → mHp → Prop} {K : Nat → mLV → List mVal → mHp → Prop} (hK : mClo m_L_law cal lim scr ret K) (x1 : Int) (x2 : Int) (M : mMem) (h :
  (∃ v2 m1, cal 92 [vr 0, vi x1] (S0, M) (some (vi v2), (S0, m1)) ∧
  ((v2 = 0 →
    ret (some (vi (-1))) (S0, m1)) ∧ (¬ (v2 = 0) →
    ((x2 < 0 →
      ret (some (vi (-1))) (S0, m1)) ∧ (¬ (x2 < 0) →
      ((x2 ≤ 5 →
        ((4 ≤ x2 →
          ((x2 ≠ 4 →
            (∃ v4 m3, cal 11 [vr 1, vi x1] (S0, m1) (some (vi v4), (S0, m3)) ∧
            ret (some (vi v4)) (S0, m3))) ∧ (¬ (x2 ≠ 4) →
            (∃ v6 m5, cal 10 [vr 1, vi x1] (S0, m1) (some (vi v6), (S0, m5)) ∧
            ret (some (vi v6)) (S0, m5))))) ∧ (¬ (4 ≤ x2) →
          mIn (w32 ((w32 (x1 * 4)) + x2)) 20 (ret (some (vi (m1 4 (w32 ((w32 (x1 * 4)) + x2))))) (S0, m1))))) ∧ (¬ (x2 ≤ 5) →
        ret (some (vi (-1))) (S0, m1))))))))) :
  K 0 [(0, vr 0), (1, vi x1), (2, vi x2)] [] (S0, M) := by
  exact mQ hK [17, 19, 38, 54, 62] 6 0 0 b_L_law_0 rfl _ _ _ h
set_option maxRecDepth 40000 in
theorem q_L_stitch_0 {cal : mCal} {lim : Nat × Nat} {scr : Nat × (Nat → Int)} {ret : Option mVal → mHp → Prop} {K : Nat → mLV → List mVal → mHp → Prop} (hK : mClo m_L_stitch cal lim scr ret K) (x1 : Int) (x2 : Int) (M : mMem) (h :
  ((x1 < 0 →
    ret (some (vi (-1))) (S0, M)) ∧ (¬ (x1 < 0) →
    ((x1 < (M 1 6) →
      (((x2 = ((0 : Nat) : Int) →
        mIn x1 8 (ret (some (vi (jdiv (M 5 x1) 6))) (S0, M))) ∧ 
      (x2 = ((1 : Nat) : Int) →
        mIn x1 8 (ret (some (vi (jrem (M 5 x1) 6))) (S0, M))) ∧ 
      (x2 = ((2 : Nat) : Int) →
        mIn x1 8 (ret (some (vi (M 6 x1))) (S0, M))) ∧ True) ∧ ((x2 < 0 ∨ ((3 : Nat) : Int) ≤ x2) →
        ret (some (vi (-1))) (S0, M)))) ∧ (¬ (x1 < (M 1 6)) →
      ret (some (vi (-1))) (S0, M)))))) :
  K 0 [(0, vr 0), (1, vi x1), (2, vi x2)] [] (S0, M) := by
  exact mQ hK [15, 17, 44, 57, 70, 80] 7 0 0 b_L_stitch_0 rfl _ _ _ h
set_option maxRecDepth 40000 in
theorem q_L_amend_0 {cal : mCal} {lim : Nat × Nat} {scr : Nat × (Nat → Int)} {ret : Option mVal → mHp → Prop} {K : Nat → mLV → List mVal → mHp → Prop} (hK : mClo m_L_amend cal lim scr ret K) (x1 : Int) (x2 : Int) (x3 : Int) (M : mMem) (h :
  (∃ v2 m1, cal 92 [vr 0, vi x1] (S0, M) (some (vi v2), (S0, m1)) ∧
  ((v2 = 0 →
    ret (some (vi (-1))) (S0, m1)) ∧ (¬ (v2 = 0) →
    (∃ v4 m3, cal 93 [vi x2, vi x3] (S0, m1) (some (vi v4), (S0, m3)) ∧
    ((v4 ≠ 0 →
      mIn (w32 ((w32 (x1 * 4)) + x2)) 20 (mIn (w32 ((w32 (x1 * 4)) + x2)) 20 (ret (some (vi (m3 4 (w32 ((w32 (x1 * 4)) + x2))))) (S0, mupd m3 4 (w32 ((w32 (x1 * 4)) + x2)) x3)))) ∧ (¬ (v4 ≠ 0) →
      ret (some (vi (-1))) (S0, m3)))))))) :
  K 0 [(0, vr 0), (1, vi x1), (2, vi x2), (3, vi x3)] [] (S0, M) := by
  exact mQ hK [16, 18] 3 0 0 b_L_amend_0 rfl _ _ _ h
set_option maxRecDepth 40000 in
theorem q_L_spool_0 {cal : mCal} {lim : Nat × Nat} {scr : Nat × (Nat → Int)} {ret : Option mVal → mHp → Prop} {K : Nat → mLV → List mVal → mHp → Prop} (hK : mClo m_L_spool cal lim scr ret K) (x1 : Int) (x2 : Int) (M : mMem) (h :
  (∃ v2 m1, cal 88 [vi x1] (S0, M) (some (vi v2), (S0, m1)) ∧
  ((v2 = 0 →
    ret (some (vi (-1))) (S0, m1)) ∧ (¬ (v2 = 0) →
    ((x2 < 0 →
      ret (some (vi (-1))) (S0, m1)) ∧ (¬ (x2 < 0) →
      ((x2 ≤ 99 →
        mIn x1 4 (mIn x1 4 (ret (some (vi (m1 3 x1))) (S0, mupd m1 3 x1 x2)))) ∧ (¬ (x2 ≤ 99) →
        ret (some (vi (-1))) (S0, m1))))))))) :
  K 0 [(0, vr 0), (1, vi x1), (2, vi x2)] [] (S0, M) := by
  exact mQ hK [17, 19] 3 0 0 b_L_spool_0 rfl _ _ _ h
set_option maxRecDepth 40000 in
theorem q_L_plan_0 {cal : mCal} {lim : Nat × Nat} {scr : Nat × (Nat → Int)} {ret : Option mVal → mHp → Prop} {K : Nat → mLV → List mVal → mHp → Prop} (hK : mClo m_L_plan cal lim scr ret K) (x1 : Int) (x2 : Int) (x3 : Int) (M : mMem) (h :
  (∃ v2 m1, cal 87 [vi x1, vi x2] (S0, M) (some (vi v2), (S0, m1)) ∧
  ((v2 = 0 →
    ret (some (vi (-1))) (S0, m1)) ∧ (¬ (v2 = 0) →
    (∃ v4 m3, cal 88 [vi x3] (S0, m1) (some (vi v4), (S0, m3)) ∧
    ((v4 ≠ 0 →
      (((m3 1 6) < 8 →
        (∃ v6 m5, cal 94 [vi x1, vi x2] (S0, m3) (some (vi v6), (S0, m5)) ∧
        mIn (m3 1 6) 8 (mIn ((mupd m5 5 (m3 1 6) v6) 1 6) 8 (ret (some (vi ((mupd (mupd (mupd m5 5 (m3 1 6) v6) 6 ((mupd m5 5 (m3 1 6) v6) 1 6) x3) 1 6 (w32 (((mupd (mupd m5 5 (m3 1 6) v6) 6 ((mupd m5 5 (m3 1 6) v6) 1 6) x3) 1 6) + 1))) 1 6))) (S0, mupd (mupd (mupd m5 5 (m3 1 6) v6) 6 ((mupd m5 5 (m3 1 6) v6) 1 6) x3) 1 6 (w32 (((mupd (mupd m5 5 (m3 1 6) v6) 6 ((mupd m5 5 (m3 1 6) v6) 1 6) x3) 1 6) + 1))))))) ∧ (¬ ((m3 1 6) < 8) →
        ret (some (vi (-3))) (S0, m3)))) ∧ (¬ (v4 ≠ 0) →
      ret (some (vi (-1))) (S0, m3)))))))) :
  K 0 [(0, vr 0), (1, vi x1), (2, vi x2), (3, vi x3)] [] (S0, M) := by
  exact mQ hK [15, 17, 32] 4 0 0 b_L_plan_0 rfl _ _ _ h
set_option maxRecDepth 40000 in
theorem q_L_cut_0 {cal : mCal} {lim : Nat × Nat} {scr : Nat × (Nat → Int)} {ret : Option mVal → mHp → Prop} {K : Nat → mLV → List mVal → mHp → Prop} (hK : mClo m_L_cut cal lim scr ret K) (x1 : Int) (M : mMem) (h :
  ((x1 < 0 →
    ret (some (vi (-1))) (S0, M)) ∧ (¬ (x1 < 0) →
    ((x1 ≤ (M 1 6) →
      ret (some (vi (M 1 6))) (S0, mupd M 1 6 x1)) ∧ (¬ (x1 ≤ (M 1 6)) →
      ret (some (vi (-1))) (S0, M)))))) :
  K 0 [(0, vr 0), (1, vi x1)] [] (S0, M) := by
  exact mQ hK [15, 17] 3 0 0 b_L_cut_0 rfl _ _ _ h
set_option maxRecDepth 40000 in
theorem q_L_enact_0 {cal : mCal} {lim : Nat × Nat} {scr : Nat × (Nat → Int)} {ret : Option mVal → mHp → Prop} {K : Nat → mLV → List mVal → mHp → Prop} (hK : mClo m_L_enact cal lim scr ret K) (x1 : Int) (x2 : Int) (x3 : Int) (x4 : Int) (M : mMem) (h :
  (∃ v2 m1, cal 93 [vi 0, vi x1] (S0, M) (some (vi v2), (S0, m1)) ∧
  ((v2 = 0 →
    ret (some (vi (-1))) (S0, m1)) ∧ (¬ (v2 = 0) →
    (∃ v4 m3, cal 93 [vi 1, vi x2] (S0, m1) (some (vi v4), (S0, m3)) ∧
    ((v4 = 0 →
      ret (some (vi (-1))) (S0, m3)) ∧ (¬ (v4 = 0) →
      (∃ v6 m5, cal 93 [vi 2, vi x3] (S0, m3) (some (vi v6), (S0, m5)) ∧
      ((v6 = 0 →
        ret (some (vi (-1))) (S0, m5)) ∧ (¬ (v6 = 0) →
        (∃ v8 m7, cal 93 [vi 3, vi x4] (S0, m5) (some (vi v8), (S0, m7)) ∧
        ((v8 ≠ 0 →
          (((m7 1 5) < 5 →
            (∃ m9, cal 9 [vr 1, vi x1, vi x2, vi x3, vi x4] (S0, m7) (none, (S0, m9)) ∧
            ret (some (vi (m9 1 5))) (S0, m9))) ∧ (¬ ((m7 1 5) < 5) →
            ret (some (vi (-3))) (S0, m7)))) ∧ (¬ (v8 ≠ 0) →
          ret (some (vi (-1))) (S0, m7)))))))))))))) :
  K 0 [(0, vr 0), (1, vi x1), (2, vi x2), (3, vi x3), (4, vi x4)] [] (S0, M) := by
  exact mQ hK [33, 35, 49] 4 0 0 b_L_enact_0 rfl _ _ _ h
set_option maxRecDepth 40000 in
theorem q_L_work_0 {cal : mCal} {lim : Nat × Nat} {scr : Nat × (Nat → Int)} {ret : Option mVal → mHp → Prop} {K : Nat → mLV → List mVal → mHp → Prop} (hK : mClo m_L_work cal lim scr ret K) (x1 : Int) (x2 : Int) (x3 : Int) (M : mMem) (h :
  (∃ v2 m1, cal 87 [vi x1, vi x2] (S0, M) (some (vi v2), (S0, m1)) ∧
  ((v2 = 0 →
    ret (some (vi (-1))) (S0, m1)) ∧ (¬ (v2 = 0) →
    (∃ v4 m3, cal 88 [vi x3] (S0, m1) (some (vi v4), (S0, m3)) ∧
    ((v4 ≠ 0 →
      (∃ v6 m5, cal 94 [vi x1, vi x2] (S0, m3) (some (vi v6), (S0, m5)) ∧
      (∃ v8 m7, cal 5 [vr 1, vi v6, vi x3] (S0, m5) (some (vi v8), (S0, m7)) ∧
      ((v8 ≠ 0 →
        (∃ m9, cal 6 [vr 1, vi v6, vi x3] (S0, m7) (none, (S0, m9)) ∧
        (∃ v11 m10, cal 13 [vr 1] (S0, m9) (some (vi v11), (S0, m10)) ∧
        ret (some (vi v11)) (S0, m10)))) ∧ (¬ (v8 ≠ 0) →
        ret (some (vi (-2))) (S0, m7)))))) ∧ (¬ (v4 ≠ 0) →
      ret (some (vi (-1))) (S0, m3)))))))) :
  K 0 [(0, vr 0), (1, vi x1), (2, vi x2), (3, vi x3)] [] (S0, M) := by
  exact mQ hK [15, 17, 40] 4 0 0 b_L_work_0 rfl _ _ _ h
set_option maxRecDepth 40000 in
theorem q_L_unpick_0 {cal : mCal} {lim : Nat × Nat} {scr : Nat × (Nat → Int)} {ret : Option mVal → mHp → Prop} {K : Nat → mLV → List mVal → mHp → Prop} (hK : mClo m_L_unpick cal lim scr ret K) (x1 : Int) (x2 : Int) (M : mMem) (h :
  (∃ v2 m1, cal 87 [vi x1, vi x2] (S0, M) (some (vi v2), (S0, m1)) ∧
  ((v2 ≠ 0 →
    (∃ v4 m3, cal 94 [vi x1, vi x2] (S0, m1) (some (vi v4), (S0, m3)) ∧
    mIn v4 36 ((∃ v6 m5, cal 88 [vi (m3 2 v4)] (S0, m3) (some (vi v6), (S0, m5)) ∧
    ((v6 ≠ 0 →
      (∃ m7, cal 3 [vr 1, vi v4, vi 0] (S0, m5) (none, (S0, m7)) ∧
      ret (some (vi (m3 2 v4))) (S0, m7))) ∧ (¬ (v6 ≠ 0) →
      ret (some (vi (-2))) (S0, m5))))))) ∧ (¬ (v2 ≠ 0) →
    ret (some (vi (-1))) (S0, m1))))) :
  K 0 [(0, vr 0), (1, vi x1), (2, vi x2)] [] (S0, M) := by
  exact mQ hK [10, 38] 3 0 0 b_L_unpick_0 rfl _ _ _ h
set_option maxRecDepth 40000 in
theorem q_L_moth_0 {cal : mCal} {lim : Nat × Nat} {scr : Nat × (Nat → Int)} {ret : Option mVal → mHp → Prop} {K : Nat → mLV → List mVal → mHp → Prop} (hK : mClo m_L_moth cal lim scr ret K) (x1 : Int) (x2 : Int) (M : mMem) (h :
  (∃ v2 m1, cal 87 [vi x1, vi x2] (S0, M) (some (vi v2), (S0, m1)) ∧
  ((v2 ≠ 0 →
    (∃ v4 m3, cal 94 [vi x1, vi x2] (S0, m1) (some (vi v4), (S0, m3)) ∧
    mIn v4 36 ((((m3 2 v4) ≠ 4 →
      (∃ m5, cal 3 [vr 1, vi v4, vi 4] (S0, m3) (none, (S0, m5)) ∧
      ret (some (vi (m3 2 v4))) (S0, m5))) ∧ (¬ ((m3 2 v4) ≠ 4) →
      ret (some (vi (-2))) (S0, m3)))))) ∧ (¬ (v2 ≠ 0) →
    ret (some (vi (-1))) (S0, m1))))) :
  K 0 [(0, vr 0), (1, vi x1), (2, vi x2)] [] (S0, M) := by
  exact mQ hK [10, 36] 3 0 0 b_L_moth_0 rfl _ _ _ h
set_option maxRecDepth 40000 in
theorem q_L_mend_0 {cal : mCal} {lim : Nat × Nat} {scr : Nat × (Nat → Int)} {ret : Option mVal → mHp → Prop} {K : Nat → mLV → List mVal → mHp → Prop} (hK : mClo m_L_mend cal lim scr ret K) (x1 : Int) (x2 : Int) (M : mMem) (h :
  (∃ v2 m1, cal 87 [vi x1, vi x2] (S0, M) (some (vi v2), (S0, m1)) ∧
  ((v2 ≠ 0 →
    (∃ v4 m3, cal 94 [vi x1, vi x2] (S0, m1) (some (vi v4), (S0, m3)) ∧
    mIn v4 36 ((((m3 2 v4) = 4 →
      (∃ m5, cal 3 [vr 1, vi v4, vi 0] (S0, m3) (none, (S0, m5)) ∧
      (∃ v7 m6, cal 15 [vr 1, vi 4] (S0, m5) (some (vi v7), (S0, m6)) ∧
      ret (some (vi v7)) (S0, m6)))) ∧ (¬ ((m3 2 v4) = 4) →
      ret (some (vi (-2))) (S0, m3)))))) ∧ (¬ (v2 ≠ 0) →
    ret (some (vi (-1))) (S0, m1))))) :
  K 0 [(0, vr 0), (1, vi x1), (2, vi x2)] [] (S0, M) := by
  exact mQ hK [10, 32] 3 0 0 b_L_mend_0 rfl _ _ _ h
set_option maxRecDepth 40000 in
theorem q_L_runs_0 {cal : mCal} {lim : Nat × Nat} {scr : Nat × (Nat → Int)} {ret : Option mVal → mHp → Prop} {K : Nat → mLV → List mVal → mHp → Prop} (hK : mClo m_L_runs cal lim scr ret K) (x1 : Int) (M : mMem) (h :
  ((x1 < 0 →
    ret (some (vi (-1))) (S0, M)) ∧ (¬ (x1 < 0) →
    ((x1 ≤ 3 →
      (∃ m1, cal 96 [vr 0, vi (-4)] (S0, M) (none, (S0, m1)) ∧
      (((x1 = ((0 : Nat) : Int) →
        (∃ v3 m2, cal 13 [vr 9] (S0, m1) (some (vi v3), (S0, m2)) ∧
        ret (some (vi v3)) (S0, m2))) ∧ 
      (x1 = ((1 : Nat) : Int) →
        (∃ v5 m4, cal 14 [vr 9] (S0, m1) (some (vi v5), (S0, m4)) ∧
        ret (some (vi v5)) (S0, m4))) ∧ 
      (x1 = ((2 : Nat) : Int) →
        ret (some (vi (m1 9 7))) (S0, m1)) ∧ True) ∧ ((x1 < 0 ∨ ((3 : Nat) : Int) ≤ x1) →
        ret (some (vi (m1 9 8))) (S0, m1))))) ∧ (¬ (x1 ≤ 3) →
      ret (some (vi (-1))) (S0, M)))))) :
  K 0 [(0, vr 0), (1, vi x1)] [] (S0, M) := by
  exact mQ hK [9, 11, 44, 52, 60, 68] 7 0 0 b_L_runs_0 rfl _ _ _ h
set_option maxRecDepth 40000 in
theorem q_L_ahead_0 {cal : mCal} {lim : Nat × Nat} {scr : Nat × (Nat → Int)} {ret : Option mVal → mHp → Prop} {K : Nat → mLV → List mVal → mHp → Prop} (hK : mClo m_L_ahead cal lim scr ret K) (x1 : Int) (x2 : Int) (M : mMem) (h :
  (∃ v2 m1, cal 87 [vi x1, vi x2] (S0, M) (some (vi v2), (S0, m1)) ∧
  ((v2 ≠ 0 →
    (∃ m3, cal 96 [vr 0, vi (-4)] (S0, m1) (none, (S0, m3)) ∧
    (∃ v5 m4, cal 94 [vi x1, vi x2] (S0, m3) (some (vi v5), (S0, m4)) ∧
    mIn v5 36 (ret (some (vi (m4 10 v5))) (S0, m4))))) ∧ (¬ (v2 ≠ 0) →
    ret (some (vi (-1))) (S0, m1))))) :
  K 0 [(0, vr 0), (1, vi x1), (2, vi x2)] [] (S0, M) := by
  exact mQ hK [10] 2 0 0 b_L_ahead_0 rfl _ _ _ h
set_option maxRecDepth 40000 in
theorem q_L_best_0 {cal : mCal} {lim : Nat × Nat} {scr : Nat × (Nat → Int)} {ret : Option mVal → mHp → Prop} {K : Nat → mLV → List mVal → mHp → Prop} (hK : mClo m_L_best cal lim scr ret K) (x1 : Int) (M : mMem) (h :
  (∃ v2 m1, cal 89 [vi x1] (S0, M) (some (vi v2), (S0, m1)) ∧
  ((v2 ≠ 0 →
    (∃ m3, cal 2 [vr 9, vr 1] (S0, m1) (none, (S0, m3)) ∧
    (∃ v5 m4, cal 13 [vr 9] (S0, m3) (some (vi v5), (S0, m4)) ∧
    (∃ m6, cal 21 [vr 37, vi v5] (S0, m4) (none, (S0, m6)) ∧
    K 36 [(0, vr 0), (1, vi x1), (2, vi 0)] [] (S0, m6))))) ∧ (¬ (v2 ≠ 0) →
    ret (some (vi (-1))) (S0, m1))))) :
  K 0 [(0, vr 0), (1, vi x1)] [] (S0, M) := by
  exact mQ hK [9, 98, 104, 110] 5 0 0 b_L_best_0 rfl _ _ _ h
set_option maxRecDepth 40000 in
theorem q_L_best_36 {cal : mCal} {lim : Nat × Nat} {scr : Nat × (Nat → Int)} {ret : Option mVal → mHp → Prop} {K : Nat → mLV → List mVal → mHp → Prop} (hK : mClo m_L_best cal lim scr ret K) (x1 : Int) (x2 : Int) (M : mMem) (h :
  ((36 ≤ x2 →
    (∃ v2 m1, cal 23 [vr 37, vi x1] (S0, M) (some (vi v2), (S0, m1)) ∧
    ret (some (vi v2)) (S0, m1))) ∧ (¬ (36 ≤ x2) →
    K 44 [(0, vr 0), (1, vi x1), (2, vi x2), (3, vi 1)] [] (S0, M)))) :
  K 36 [(0, vr 0), (1, vi x1), (2, vi x2)] [] (S0, M) := by
  exact mQ hK [9, 98, 104, 110] 5 2 36 b_L_best_36 rfl _ _ _ h
set_option maxRecDepth 40000 in
theorem q_L_best_44 {cal : mCal} {lim : Nat × Nat} {scr : Nat × (Nat → Int)} {ret : Option mVal → mHp → Prop} {K : Nat → mLV → List mVal → mHp → Prop} (hK : mClo m_L_best cal lim scr ret K) (x1 : Int) (x2 : Int) (x3 : Int) (M : mMem) (h :
  ((3 < x3 →
    K 36 [(0, vr 0), (1, vi x1), (2, vi (w32 (x2 + 1)))] [] (S0, M)) ∧ (¬ (3 < x3) →
    (∃ v2 m1, cal 5 [vr 9, vi x2, vi x3] (S0, M) (some (vi v2), (S0, m1)) ∧
    ((v2 = 0 →
      K 44 [(0, vr 0), (1, vi x1), (2, vi x2), (3, vi (w32 (x3 + 1)))] [] (S0, m1)) ∧ (¬ (v2 = 0) →
      (∃ m3, cal 3 [vr 9, vi x2, vi x3] (S0, m1) (none, (S0, m3)) ∧
      (∃ v5 m4, cal 95 [vi x2, vi x3] (S0, m3) (some (vi v5), (S0, m4)) ∧
      (∃ v7 m6, cal 13 [vr 9] (S0, m4) (some (vi v7), (S0, m6)) ∧
      (∃ m8, cal 22 [vr 37, vi v5, vi v7] (S0, m6) (none, (S0, m8)) ∧
      (∃ m9, cal 3 [vr 9, vi x2, vi 0] (S0, m8) (none, (S0, m9)) ∧
      K 44 [(0, vr 0), (1, vi x1), (2, vi x2), (3, vi (w32 (x3 + 1)))] [] (S0, m9)))))))))))) :
  K 44 [(0, vr 0), (1, vi x1), (2, vi x2), (3, vi x3)] [] (S0, M) := by
  exact mQ hK [9, 98, 104, 110] 5 3 44 b_L_best_44 rfl _ _ _ h
set_option maxRecDepth 40000 in
theorem q_L_need_0 {cal : mCal} {lim : Nat × Nat} {scr : Nat × (Nat → Int)} {ret : Option mVal → mHp → Prop} {K : Nat → mLV → List mVal → mHp → Prop} (hK : mClo m_L_need cal lim scr ret K) (x1 : Int) (x2 : Int) (M : mMem) (h :
  (∃ v2 m1, cal 92 [vr 0, vi x1] (S0, M) (some (vi v2), (S0, m1)) ∧
  ((v2 = 0 →
    ret (some (vi (-1))) (S0, m1)) ∧ (¬ (v2 = 0) →
    ((x2 = 0 →
      K 26 [(0, vr 0), (1, vi x1), (2, vi x2)] [] (S0, m1)) ∧ (¬ (x2 = 0) →
      ((x2 = 10 →
        K 26 [(0, vr 0), (1, vi x1), (2, vi x2)] [] (S0, m1)) ∧ (¬ (x2 = 10) →
        ((x2 = 11 →
          K 26 [(0, vr 0), (1, vi x1), (2, vi x2)] [] (S0, m1)) ∧ (¬ (x2 = 11) →
          ret (some (vi (-1))) (S0, m1))))))))))) :
  K 0 [(0, vr 0), (1, vi x1), (2, vi x2)] [] (S0, M) := by
  exact mQ hK [24, 42, 44, 66, 68] 6 0 0 b_L_need_0 rfl _ _ _ h
set_option maxRecDepth 40000 in
theorem q_L_need_26 {cal : mCal} {lim : Nat × Nat} {scr : Nat × (Nat → Int)} {ret : Option mVal → mHp → Prop} {K : Nat → mLV → List mVal → mHp → Prop} (hK : mClo m_L_need cal lim scr ret K) (x1 : Int) (x2 : Int) (M : mMem) (h :
  (∃ v2 m1, cal 97 [vr 0, vi x1] (S0, M) (some (vi v2), (S0, m1)) ∧
  ((v2 = (-4) →
    ret (some (vi v2)) (S0, m1)) ∧ (¬ (v2 = (-4)) →
    ((x2 ≠ 0 →
      ((v2 ≤ (w32 (x2 - 10)) →
        ret (some (vi (-4))) (S0, m1)) ∧ (¬ (v2 ≤ (w32 (x2 - 10))) →
        mIn (w32 (x2 - 10)) 2 (ret (some (vi (m1 39 (w32 (x2 - 10))))) (S0, m1))))) ∧ (¬ (x2 ≠ 0) →
      ret (some (vi v2)) (S0, m1))))))) :
  K 26 [(0, vr 0), (1, vi x1), (2, vi x2)] [] (S0, M) := by
  exact mQ hK [24, 42, 44, 66, 68] 6 2 26 b_L_need_26 rfl _ _ _ h
set_option maxRecDepth 40000 in
theorem q_L_loose_0 {cal : mCal} {lim : Nat × Nat} {scr : Nat × (Nat → Int)} {ret : Option mVal → mHp → Prop} {K : Nat → mLV → List mVal → mHp → Prop} (hK : mClo m_L_loose cal lim scr ret K) (x1 : Int) (x2 : Int) (M : mMem) (h :
  (∃ v2 m1, cal 92 [vr 0, vi x1] (S0, M) (some (vi v2), (S0, m1)) ∧
  ((v2 = 0 →
    ret (some (vi (-1))) (S0, m1)) ∧ (¬ (v2 = 0) →
    (∃ v4 m3, cal 89 [vi x2] (S0, m1) (some (vi v4), (S0, m3)) ∧
    ((v4 ≠ 0 →
      (∃ m5, cal 2 [vr 9, vr 1] (S0, m3) (none, (S0, m5)) ∧
      (∃ v7 m6, cal 10 [vr 9, vi x1] (S0, m5) (some (vi v7), (S0, m6)) ∧
      (∃ m8, cal 21 [vr 37, vi (w32 (-v7))] (S0, m6) (none, (S0, m8)) ∧
      K 46 [(0, vr 0), (1, vi x1), (2, vi x2), (3, vi 0)] [] (S0, m8))))) ∧ (¬ (v4 ≠ 0) →
      ret (some (vi (-1))) (S0, m3)))))))) :
  K 0 [(0, vr 0), (1, vi x1), (2, vi x2)] [] (S0, M) := by
  exact mQ hK [15, 17, 118, 124, 140, 148] 7 0 0 b_L_loose_0 rfl _ _ _ h
set_option maxRecDepth 40000 in
theorem q_L_loose_46 {cal : mCal} {lim : Nat × Nat} {scr : Nat × (Nat → Int)} {ret : Option mVal → mHp → Prop} {K : Nat → mLV → List mVal → mHp → Prop} (hK : mClo m_L_loose cal lim scr ret K) (x1 : Int) (x2 : Int) (x3 : Int) (M : mMem) (h :
  ((36 ≤ x3 →
    (((M 37 0) = (-4) →
      ret (some (vi (M 37 0))) (S0, M)) ∧ (¬ ((M 37 0) = (-4)) →
      ((x2 ≠ 0 →
        ret (some (vi (w32 (-(M 37 1))))) (S0, M)) ∧ (¬ (x2 ≠ 0) →
        ret (some (vi (M 37 0))) (S0, M)))))) ∧ (¬ (36 ≤ x3) →
    mIn x3 36 ((∃ v2 m1, cal 88 [vi (M 10 x3)] (S0, M) (some (vi v2), (S0, m1)) ∧
    ((v2 = 0 →
      K 46 [(0, vr 0), (1, vi x1), (2, vi x2), (3, vi (w32 (x3 + 1)))] [] (S0, m1)) ∧ (¬ (v2 = 0) →
      (∃ m3, cal 3 [vr 9, vi x3, vi 0] (S0, m1) (none, (S0, m3)) ∧
      (∃ v5 m4, cal 10 [vr 9, vi x1] (S0, m3) (some (vi v5), (S0, m4)) ∧
      (∃ m6, cal 22 [vr 37, vi (w32 ((w32 (10 * (jdiv x3 6))) + (jrem x3 6))), vi (w32 (-v5))] (S0, m4) (none, (S0, m6)) ∧
      (∃ m7, cal 3 [vr 9, vi x3, vi (M 10 x3)] (S0, m6) (none, (S0, m7)) ∧
      K 46 [(0, vr 0), (1, vi x1), (2, vi x2), (3, vi (w32 (x3 + 1)))] [] (S0, m7)))))))))))) :
  K 46 [(0, vr 0), (1, vi x1), (2, vi x2), (3, vi x3)] [] (S0, M) := by
  exact mQ hK [15, 17, 118, 124, 140, 148] 7 3 46 b_L_loose_46 rfl _ _ _ h
set_option maxRecDepth 40000 in
theorem q_L_dye_0 {cal : mCal} {lim : Nat × Nat} {scr : Nat × (Nat → Int)} {ret : Option mVal → mHp → Prop} {K : Nat → mLV → List mVal → mHp → Prop} (hK : mClo m_L_dye cal lim scr ret K) (x1 : Int) (M : mMem) (h :
  (∃ v2 m1, cal 89 [vi x1] (S0, M) (some (vi v2), (S0, m1)) ∧
  ((v2 ≠ 0 →
    (∃ m3, cal 2 [vr 9, vr 1] (S0, m1) (none, (S0, m3)) ∧
    (∃ v5 m4, cal 13 [vr 9] (S0, m3) (some (vi v5), (S0, m4)) ∧
    (∃ m6, cal 21 [vr 37, vi v5] (S0, m4) (none, (S0, m6)) ∧
    K 36 [(0, vr 0), (1, vi x1), (2, vi 1)] [] (S0, m6))))) ∧ (¬ (v2 ≠ 0) →
    ret (some (vi (-1))) (S0, m1))))) :
  K 0 [(0, vr 0), (1, vi x1)] [] (S0, M) := by
  exact mQ hK [9, 94, 100] 4 0 0 b_L_dye_0 rfl _ _ _ h
set_option maxRecDepth 40000 in
theorem q_L_dye_36 {cal : mCal} {lim : Nat × Nat} {scr : Nat × (Nat → Int)} {ret : Option mVal → mHp → Prop} {K : Nat → mLV → List mVal → mHp → Prop} (hK : mClo m_L_dye cal lim scr ret K) (x1 : Int) (x2 : Int) (M : mMem) (h :
  ((3 ≤ x2 →
    (∃ v2 m1, cal 23 [vr 37, vi x1] (S0, M) (some (vi v2), (S0, m1)) ∧
    ret (some (vi v2)) (S0, m1))) ∧ (¬ (3 ≤ x2) →
    K 45 [(0, vr 0), (1, vi x1), (2, vi x2), (3, vi (w32 (x2 + 1)))] [] (S0, M)))) :
  K 36 [(0, vr 0), (1, vi x1), (2, vi x2)] [] (S0, M) := by
  exact mQ hK [9, 94, 100] 4 2 36 b_L_dye_36 rfl _ _ _ h
set_option maxRecDepth 40000 in
theorem q_L_dye_45 {cal : mCal} {lim : Nat × Nat} {scr : Nat × (Nat → Int)} {ret : Option mVal → mHp → Prop} {K : Nat → mLV → List mVal → mHp → Prop} (hK : mClo m_L_dye cal lim scr ret K) (x1 : Int) (x2 : Int) (x3 : Int) (M : mMem) (h :
  ((3 < x3 →
    K 36 [(0, vr 0), (1, vi x1), (2, vi (w32 (x2 + 1)))] [] (S0, M)) ∧ (¬ (3 < x3) →
    (∃ m1, cal 18 [vr 9, vi x2, vi x3] (S0, M) (none, (S0, m1)) ∧
    (∃ v3 m2, cal 13 [vr 9] (S0, m1) (some (vi v3), (S0, m2)) ∧
    (∃ m4, cal 22 [vr 37, vi (w32 ((w32 (10 * x2)) + x3)), vi v3] (S0, m2) (none, (S0, m4)) ∧
    (∃ m5, cal 18 [vr 9, vi x2, vi x3] (S0, m4) (none, (S0, m5)) ∧
    K 45 [(0, vr 0), (1, vi x1), (2, vi x2), (3, vi (w32 (x3 + 1)))] [] (S0, m5)))))))) :
  K 45 [(0, vr 0), (1, vi x1), (2, vi x2), (3, vi x3)] [] (S0, M) := by
  exact mQ hK [9, 94, 100] 4 3 45 b_L_dye_45 rfl _ _ _ h
set_option maxRecDepth 40000 in
theorem q_L_turn_0 {cal : mCal} {lim : Nat × Nat} {scr : Nat × (Nat → Int)} {ret : Option mVal → mHp → Prop} {K : Nat → mLV → List mVal → mHp → Prop} (hK : mClo m_L_turn cal lim scr ret K) (x1 : Int) (M : mMem) (h :
  (∃ v2 m1, cal 89 [vi x1] (S0, M) (some (vi v2), (S0, m1)) ∧
  ((v2 ≠ 0 →
    (∃ m3, cal 2 [vr 9, vr 1] (S0, m1) (none, (S0, m3)) ∧
    (∃ v5 m4, cal 13 [vr 9] (S0, m3) (some (vi v5), (S0, m4)) ∧
    (∃ m6, cal 21 [vr 37, vi v5] (S0, m4) (none, (S0, m6)) ∧
    K 36 [(0, vr 0), (1, vi x1), (2, vi 0)] [] (S0, m6))))) ∧ (¬ (v2 ≠ 0) →
    ret (some (vi (-1))) (S0, m1))))) :
  K 0 [(0, vr 0), (1, vi x1)] [] (S0, M) := by
  exact mQ hK [9, 79] 3 0 0 b_L_turn_0 rfl _ _ _ h
set_option maxRecDepth 40000 in
theorem q_L_turn_36 {cal : mCal} {lim : Nat × Nat} {scr : Nat × (Nat → Int)} {ret : Option mVal → mHp → Prop} {K : Nat → mLV → List mVal → mHp → Prop} (hK : mClo m_L_turn cal lim scr ret K) (x1 : Int) (x2 : Int) (M : mMem) (h :
  ((6 ≤ x2 →
    (∃ v2 m1, cal 23 [vr 37, vi x1] (S0, M) (some (vi v2), (S0, m1)) ∧
    ret (some (vi v2)) (S0, m1))) ∧ (¬ (6 ≤ x2) →
    (∃ m3, cal 19 [vr 9, vi x2] (S0, M) (none, (S0, m3)) ∧
    (∃ v5 m4, cal 13 [vr 9] (S0, m3) (some (vi v5), (S0, m4)) ∧
    (∃ m6, cal 22 [vr 37, vi x2, vi v5] (S0, m4) (none, (S0, m6)) ∧
    (∃ m7, cal 19 [vr 9, vi x2] (S0, m6) (none, (S0, m7)) ∧
    K 36 [(0, vr 0), (1, vi x1), (2, vi (w32 (x2 + 1)))] [] (S0, m7)))))))) :
  K 36 [(0, vr 0), (1, vi x1), (2, vi x2)] [] (S0, M) := by
  exact mQ hK [9, 79] 3 2 36 b_L_turn_36 rfl _ _ _ h
set_option maxRecDepth 40000 in
theorem q_L_leave_0 {cal : mCal} {lim : Nat × Nat} {scr : Nat × (Nat → Int)} {ret : Option mVal → mHp → Prop} {K : Nat → mLV → List mVal → mHp → Prop} (hK : mClo m_L_leave cal lim scr ret K) (x1 : Int) (M : mMem) (h :
  (∃ v2 m1, cal 89 [vi x1] (S0, M) (some (vi v2), (S0, m1)) ∧
  ((v2 ≠ 0 →
    (∃ m3, cal 96 [vr 0, vi (-4)] (S0, m1) (none, (S0, m3)) ∧
    (∃ v5 m4, cal 13 [vr 9] (S0, m3) (some (vi v5), (S0, m4)) ∧
    (∃ m6, cal 21 [vr 37, vi v5] (S0, m4) (none, (S0, m6)) ∧
    K 31 [(0, vr 0), (1, vi x1), (2, vi 0)] [] (S0, m6))))) ∧ (¬ (v2 ≠ 0) →
    ret (some (vi (-1))) (S0, m1))))) :
  K 0 [(0, vr 0), (1, vi x1)] [] (S0, M) := by
  exact mQ hK [9, 68] 3 0 0 b_L_leave_0 rfl _ _ _ h
set_option maxRecDepth 40000 in
theorem q_L_leave_31 {cal : mCal} {lim : Nat × Nat} {scr : Nat × (Nat → Int)} {ret : Option mVal → mHp → Prop} {K : Nat → mLV → List mVal → mHp → Prop} (hK : mClo m_L_leave cal lim scr ret K) (x1 : Int) (x2 : Int) (M : mMem) (h :
  (((M 1 6) ≤ x2 →
    (∃ v2 m1, cal 23 [vr 37, vi x1] (S0, M) (some (vi v2), (S0, m1)) ∧
    ret (some (vi v2)) (S0, m1))) ∧ (¬ ((M 1 6) ≤ x2) →
    (∃ m3, cal 96 [vr 0, vi x2] (S0, M) (none, (S0, m3)) ∧
    (∃ v5 m4, cal 13 [vr 9] (S0, m3) (some (vi v5), (S0, m4)) ∧
    (∃ m6, cal 22 [vr 37, vi x2, vi v5] (S0, m4) (none, (S0, m6)) ∧
    K 31 [(0, vr 0), (1, vi x1), (2, vi (w32 (x2 + 1)))] [] (S0, m6))))))) :
  K 31 [(0, vr 0), (1, vi x1), (2, vi x2)] [] (S0, M) := by
  exact mQ hK [9, 68] 3 2 31 b_L_leave_31 rfl _ _ _ h
set_option maxRecDepth 40000 in
theorem q_L_luck_0 {cal : mCal} {lim : Nat × Nat} {scr : Nat × (Nat → Int)} {ret : Option mVal → mHp → Prop} {K : Nat → mLV → List mVal → mHp → Prop} (hK : mClo m_L_luck cal lim scr ret K) (x1 : Int) (x2 : Int) (x3 : Int) (M : mMem) (h :
  ((x1 < 0 →
    ret (some (vl (-1))) (S0, M)) ∧ (¬ (x1 < 0) →
    ((10 < x1 →
      ret (some (vl (-1))) (S0, M)) ∧ (¬ (10 < x1) →
      (∃ v2 m1, cal 92 [vr 0, vi x2] (S0, M) (some (vi v2), (S0, m1)) ∧
      ((v2 = 0 →
        ret (some (vl (-1))) (S0, m1)) ∧ (¬ (v2 = 0) →
        (∃ v4 m3, cal 89 [vi x3] (S0, m1) (some (vi v4), (S0, m3)) ∧
        ((v4 ≠ 0 →
          (∃ v6 m5, cal 104 [vr 0] (S0, m3) (some (vi v6), (S0, m5)) ∧
          ((v6 ≠ 0 →
            K 54 [(0, vr 0), (1, vi x1), (2, vi x2), (3, vi x3), (4, vl (0 : Nat)), (6, vi (jshl 1 (m5 0 15))), (7, vi 0)] [] (S0, m5)) ∧ (¬ (v6 ≠ 0) →
            ret (some (vl (-2))) (S0, m5))))) ∧ (¬ (v4 ≠ 0) →
          ret (some (vl (-1))) (S0, m3)))))))))))) :
  K 0 [(0, vr 0), (1, vi x1), (2, vi x2), (3, vi x3)] [] (S0, M) := by
  exact mQ hK [25, 29, 40, 90, 96] 6 0 0 b_L_luck_0 rfl _ _ _ h
set_option maxRecDepth 40000 in
theorem q_L_luck_54 {cal : mCal} {lim : Nat × Nat} {scr : Nat × (Nat → Int)} {ret : Option mVal → mHp → Prop} {K : Nat → mLV → List mVal → mHp → Prop} (hK : mClo m_L_luck cal lim scr ret K) (x1 : Int) (x2 : Int) (x3 : Int) (y4 : Int) (x6 : Int) (x7 : Int) (M : mMem) (h :
  ((x6 ≤ x7 →
    (∃ v2 m1, cal 107 [vr 0, vl y4, vi x3] (S0, M) (some (vl v2), (S0, m1)) ∧
    ret (some (vl v2)) (S0, m1))) ∧ (¬ (x6 ≤ x7) →
    (∃ m3, cal 105 [vr 0, vi x7] (S0, M) (none, (S0, m3)) ∧
    (∃ v5 m4, cal 10 [vr 9, vi x2] (S0, m3) (some (vi v5), (S0, m4)) ∧
    ((v5 ≤ 0 →
      K 54 [(0, vr 0), (1, vi x1), (2, vi x2), (3, vi x3), (4, vl y4), (6, vi x6), (7, vi (w32 (x7 + 1)))] [] (S0, m4)) ∧ (¬ (v5 ≤ 0) →
      (∃ v7 m6, cal 106 [vr 0, vi x7, vi x1] (S0, m4) (some (vl v7), (S0, m6)) ∧
      K 54 [(0, vr 0), (1, vi x1), (2, vi x2), (3, vi x3), (4, vl (w64 (y4 + v7))), (6, vi x6), (7, vi (w32 (x7 + 1)))] [] (S0, m6))))))))) :
  K 54 [(0, vr 0), (1, vi x1), (2, vi x2), (3, vi x3), (4, vl y4), (6, vi x6), (7, vi x7)] [] (S0, M) := by
  exact mQ hK [25, 29, 40, 90, 96] 6 4 54 b_L_luck_54 rfl _ _ _ h
set_option maxRecDepth 40000 in
theorem q_L_mean_0 {cal : mCal} {lim : Nat × Nat} {scr : Nat × (Nat → Int)} {ret : Option mVal → mHp → Prop} {K : Nat → mLV → List mVal → mHp → Prop} (hK : mClo m_L_mean cal lim scr ret K) (x1 : Int) (x2 : Int) (M : mMem) (h :
  ((x1 < 0 →
    ret (some (vl (-1))) (S0, M)) ∧ (¬ (x1 < 0) →
    ((10 < x1 →
      ret (some (vl (-1))) (S0, M)) ∧ (¬ (10 < x1) →
      (∃ v2 m1, cal 89 [vi x2] (S0, M) (some (vi v2), (S0, m1)) ∧
      ((v2 ≠ 0 →
        (∃ v4 m3, cal 104 [vr 0] (S0, m1) (some (vi v4), (S0, m3)) ∧
        ((v4 ≠ 0 →
          K 45 [(0, vr 0), (1, vi x1), (2, vi x2), (3, vl (0 : Nat)), (5, vi (jshl 1 (m3 0 15))), (6, vi 0)] [] (S0, m3)) ∧ (¬ (v4 ≠ 0) →
          ret (some (vl (-2))) (S0, m3))))) ∧ (¬ (v2 ≠ 0) →
        ret (some (vl (-1))) (S0, m1))))))))) :
  K 0 [(0, vr 0), (1, vi x1), (2, vi x2)] [] (S0, M) := by
  exact mQ hK [17, 21, 32, 83] 5 0 0 b_L_mean_0 rfl _ _ _ h
set_option maxRecDepth 40000 in
theorem q_L_mean_45 {cal : mCal} {lim : Nat × Nat} {scr : Nat × (Nat → Int)} {ret : Option mVal → mHp → Prop} {K : Nat → mLV → List mVal → mHp → Prop} (hK : mClo m_L_mean cal lim scr ret K) (x1 : Int) (x2 : Int) (y3 : Int) (x5 : Int) (x6 : Int) (M : mMem) (h :
  ((x5 ≤ x6 →
    (∃ v2 m1, cal 107 [vr 0, vl y3, vi x2] (S0, M) (some (vl v2), (S0, m1)) ∧
    ret (some (vl v2)) (S0, m1))) ∧ (¬ (x5 ≤ x6) →
    (∃ m3, cal 105 [vr 0, vi x6] (S0, M) (none, (S0, m3)) ∧
    (∃ v5 m4, cal 106 [vr 0, vi x6, vi x1] (S0, m3) (some (vl v5), (S0, m4)) ∧
    (∃ v7 m6, cal 13 [vr 9] (S0, m4) (some (vi v7), (S0, m6)) ∧
    K 45 [(0, vr 0), (1, vi x1), (2, vi x2), (3, vl (w64 (y3 + (w64 (v5 * v7))))), (5, vi x5), (6, vi (w32 (x6 + 1)))] [] (S0, m6))))))) :
  K 45 [(0, vr 0), (1, vi x1), (2, vi x2), (3, vl y3), (5, vi x5), (6, vi x6)] [] (S0, M) := by
  exact mQ hK [17, 21, 32, 83] 5 4 45 b_L_mean_45 rfl _ _ _ h
set_option maxRecDepth 40000 in
theorem q_L_see_0 {cal : mCal} {lim : Nat × Nat} {scr : Nat × (Nat → Int)} {ret : Option mVal → mHp → Prop} {K : Nat → mLV → List mVal → mHp → Prop} (hK : mClo m_L_see cal lim scr ret K) (x1 : Int) (x2 : Int) (M : mMem) (h :
  (∃ v2 m1, cal 92 [vr 0, vi x1] (S0, M) (some (vi v2), (S0, m1)) ∧
  ((v2 = 0 →
    ret (some (vi (-1))) (S0, m1)) ∧ (¬ (v2 = 0) →
    ((x2 < 0 →
      ret (some (vi (-1))) (S0, m1)) ∧ (¬ (x2 < 0) →
      ((x2 ≤ 60 →
        (((m1 0 13) < 6 →
          mIn (m1 0 13) 6 (mIn ((mupd m1 40 (m1 0 13) x1) 0 13) 6 (ret (some (vi ((mupd (mupd (mupd m1 40 (m1 0 13) x1) 41 ((mupd m1 40 (m1 0 13) x1) 0 13) x2) 0 13 (w32 (((mupd (mupd m1 40 (m1 0 13) x1) 41 ((mupd m1 40 (m1 0 13) x1) 0 13) x2) 0 13) + 1))) 0 13))) (S0, mupd (mupd (mupd m1 40 (m1 0 13) x1) 41 ((mupd m1 40 (m1 0 13) x1) 0 13) x2) 0 13 (w32 (((mupd (mupd m1 40 (m1 0 13) x1) 41 ((mupd m1 40 (m1 0 13) x1) 0 13) x2) 0 13) + 1)))))) ∧ (¬ ((m1 0 13) < 6) →
          ret (some (vi (-3))) (S0, m1)))) ∧ (¬ (x2 ≤ 60) →
        ret (some (vi (-1))) (S0, m1))))))))) :
  K 0 [(0, vr 0), (1, vi x1), (2, vi x2)] [] (S0, M) := by
  exact mQ hK [18, 20, 32] 4 0 0 b_L_see_0 rfl _ _ _ h
set_option maxRecDepth 40000 in
theorem q_L_forget_0 {cal : mCal} {lim : Nat × Nat} {scr : Nat × (Nat → Int)} {ret : Option mVal → mHp → Prop} {K : Nat → mLV → List mVal → mHp → Prop} (hK : mClo m_L_forget cal lim scr ret K) (x1 : Int) (M : mMem) (h :
  ((x1 < 0 →
    ret (some (vi (-1))) (S0, M)) ∧ (¬ (x1 < 0) →
    ((x1 ≤ (M 0 13) →
      ret (some (vi (M 0 13))) (S0, mupd M 0 13 x1)) ∧ (¬ (x1 ≤ (M 0 13)) →
      ret (some (vi (-1))) (S0, M)))))) :
  K 0 [(0, vr 0), (1, vi x1)] [] (S0, M) := by
  exact mQ hK [12, 14] 3 0 0 b_L_forget_0 rfl _ _ _ h
set_option maxRecDepth 40000 in
theorem q_L_fills_0 {cal : mCal} {lim : Nat × Nat} {scr : Nat × (Nat → Int)} {ret : Option mVal → mHp → Prop} {K : Nat → mLV → List mVal → mHp → Prop} (hK : mClo m_L_fills cal lim scr ret K)  (M : mMem) (h :
  (∃ v2 m1, cal 109 [vr 0] (S0, M) (some (vi v2), (S0, m1)) ∧
  ((v2 ≠ 0 →
    (∃ v4 m3, cal 110 [vr 0] (S0, m1) (some (vi v4), (S0, m3)) ∧
    K 19 [(0, vr 0), (1, vi 0), (2, vi v4), (3, vi 0)] [] (S0, m3))) ∧ (¬ (v2 ≠ 0) →
    ret (some (vi (-2))) (S0, m1))))) :
  K 0 [(0, vr 0)] [] (S0, M) := by
  exact mQ hK [10, 35, 41] 4 0 0 b_L_fills_0 rfl _ _ _ h
set_option maxRecDepth 40000 in
theorem q_L_fills_19 {cal : mCal} {lim : Nat × Nat} {scr : Nat × (Nat → Int)} {ret : Option mVal → mHp → Prop} {K : Nat → mLV → List mVal → mHp → Prop} (hK : mClo m_L_fills cal lim scr ret K) (x1 : Int) (x2 : Int) (x3 : Int) (M : mMem) (h :
  ((x2 ≤ x3 →
    ret (some (vi x1)) (S0, M)) ∧ (¬ (x2 ≤ x3) →
    (∃ v2 m1, cal 111 [vr 0, vi x3] (S0, M) (some (vi v2), (S0, m1)) ∧
    ((v2 = 0 →
      K 19 [(0, vr 0), (1, vi x1), (2, vi x2), (3, vi (w32 (x3 + 1)))] [] (S0, m1)) ∧ (¬ (v2 = 0) →
      K 19 [(0, vr 0), (1, vi (w32 (x1 + 1))), (2, vi x2), (3, vi (w32 (x3 + 1)))] [] (S0, m1))))))) :
  K 19 [(0, vr 0), (1, vi x1), (2, vi x2), (3, vi x3)] [] (S0, M) := by
  exact mQ hK [10, 35, 41] 4 2 19 b_L_fills_19 rfl _ _ _ h
set_option maxRecDepth 40000 in
theorem q_L_shades_0 {cal : mCal} {lim : Nat × Nat} {scr : Nat × (Nat → Int)} {ret : Option mVal → mHp → Prop} {K : Nat → mLV → List mVal → mHp → Prop} (hK : mClo m_L_shades cal lim scr ret K) (x1 : Int) (x2 : Int) (M : mMem) (h :
  (∃ v2 m1, cal 87 [vi x1, vi x2] (S0, M) (some (vi v2), (S0, m1)) ∧
  ((v2 ≠ 0 →
    (∃ v4 m3, cal 94 [vi x1, vi x2] (S0, m1) (some (vi v4), (S0, m3)) ∧
    mIn v4 36 ((((m3 2 v4) ≠ 4 →
      ret (some (vi (-2))) (S0, m3)) ∧ (¬ ((m3 2 v4) ≠ 4) →
      (∃ v6 m5, cal 109 [vr 0] (S0, m3) (some (vi v6), (S0, m5)) ∧
      ((v6 ≠ 0 →
        (∃ v8 m7, cal 110 [vr 0] (S0, m5) (some (vi v8), (S0, m7)) ∧
        K 51 [(0, vr 0), (3, vi v4), (4, vi 0), (5, vi v8), (6, vi 0)] [] (S0, m7))) ∧ (¬ (v6 ≠ 0) →
        ret (some (vi (-2))) (S0, m5))))))))) ∧ (¬ (v2 ≠ 0) →
    ret (some (vi (-1))) (S0, m1))))) :
  K 0 [(0, vr 0), (1, vi x1), (2, vi x2)] [] (S0, M) := by
  exact mQ hK [10, 36, 39, 83, 89] 6 0 0 b_L_shades_0 rfl _ _ _ h
set_option maxRecDepth 40000 in
theorem q_L_shades_51 {cal : mCal} {lim : Nat × Nat} {scr : Nat × (Nat → Int)} {ret : Option mVal → mHp → Prop} {K : Nat → mLV → List mVal → mHp → Prop} (hK : mClo m_L_shades cal lim scr ret K) (x3 : Int) (x4 : Int) (x5 : Int) (x6 : Int) (M : mMem) (h :
  ((x5 ≤ x6 →
    ret (some (vi x4)) (S0, M)) ∧ (¬ (x5 ≤ x6) →
    (∃ v2 m1, cal 111 [vr 0, vi x6] (S0, M) (some (vi v2), (S0, m1)) ∧
    ((v2 = 0 →
      K 51 [(0, vr 0), (3, vi x3), (4, vi x4), (5, vi x5), (6, vi (w32 (x6 + 1)))] [] (S0, m1)) ∧ (¬ (v2 = 0) →
      mIn x3 36 (K 51 [(0, vr 0), (3, vi x3), (4, vi (jor x4 (jshl 1 (m1 10 x3)))), (5, vi x5), (6, vi (w32 (x6 + 1)))] [] (S0, m1)))))))) :
  K 51 [(0, vr 0), (3, vi x3), (4, vi x4), (5, vi x5), (6, vi x6)] [] (S0, M) := by
  exact mQ hK [10, 36, 39, 83, 89] 6 4 51 b_L_shades_51 rfl _ _ _ h
set_option maxRecDepth 40000 in
theorem q_L_span_0 {cal : mCal} {lim : Nat × Nat} {scr : Nat × (Nat → Int)} {ret : Option mVal → mHp → Prop} {K : Nat → mLV → List mVal → mHp → Prop} (hK : mClo m_L_span cal lim scr ret K) (x1 : Int) (M : mMem) (h :
  (∃ v2 m1, cal 89 [vi x1] (S0, M) (some (vi v2), (S0, m1)) ∧
  ((v2 ≠ 0 →
    (∃ v4 m3, cal 109 [vr 0] (S0, m1) (some (vi v4), (S0, m3)) ∧
    ((v4 ≠ 0 →
      (∃ v6 m5, cal 110 [vr 0] (S0, m3) (some (vi v6), (S0, m5)) ∧
      K 30 [(0, vr 0), (1, vi x1), (2, vi (-4)), (3, vi v6), (4, vi 0)] [] (S0, m5))) ∧ (¬ (v4 ≠ 0) →
      ret (some (vi (-2))) (S0, m3))))) ∧ (¬ (v2 ≠ 0) →
    ret (some (vi (-1))) (S0, m1))))) :
  K 0 [(0, vr 0), (1, vi x1)] [] (S0, M) := by
  exact mQ hK [9, 19, 76, 82, 83, 89] 7 0 0 b_L_span_0 rfl _ _ _ h
set_option maxRecDepth 40000 in
theorem q_L_span_30 {cal : mCal} {lim : Nat × Nat} {scr : Nat × (Nat → Int)} {ret : Option mVal → mHp → Prop} {K : Nat → mLV → List mVal → mHp → Prop} (hK : mClo m_L_span cal lim scr ret K) (x1 : Int) (x2 : Int) (x3 : Int) (x4 : Int) (M : mMem) (h :
  ((x3 ≤ x4 →
    ret (some (vi x2)) (S0, M)) ∧ (¬ (x3 ≤ x4) →
    (∃ v2 m1, cal 111 [vr 0, vi x4] (S0, M) (some (vi v2), (S0, m1)) ∧
    ((v2 = 0 →
      K 30 [(0, vr 0), (1, vi x1), (2, vi x2), (3, vi x3), (4, vi (w32 (x4 + 1)))] [] (S0, m1)) ∧ (¬ (v2 = 0) →
      (∃ v4 m3, cal 13 [vr 9] (S0, m1) (some (vi v4), (S0, m3)) ∧
      ((x2 ≠ (-4) →
        K 63 [(0, vr 0), (1, vi x1), (2, vi x2), (3, vi x3), (4, vi x4), (5, vi v4)] [] (S0, m3)) ∧ (¬ (x2 ≠ (-4)) →
        K 63 [(0, vr 0), (1, vi x1), (2, vi v4), (3, vi x3), (4, vi x4), (5, vi v4)] [] (S0, m3)))))))))) :
  K 30 [(0, vr 0), (1, vi x1), (2, vi x2), (3, vi x3), (4, vi x4)] [] (S0, M) := by
  exact mQ hK [9, 19, 76, 82, 83, 89] 7 3 30 b_L_span_30 rfl _ _ _ h
set_option maxRecDepth 40000 in
theorem q_L_span_63 {cal : mCal} {lim : Nat × Nat} {scr : Nat × (Nat → Int)} {ret : Option mVal → mHp → Prop} {K : Nat → mLV → List mVal → mHp → Prop} (hK : mClo m_L_span cal lim scr ret K) (x1 : Int) (x2 : Int) (x3 : Int) (x4 : Int) (x5 : Int) (M : mMem) (h :
  ((x1 ≠ 0 →
    K 30 [(0, vr 0), (1, vi x1), (2, vi (if x2 ≤ x5 then x5 else x2)), (3, vi x3), (4, vi (w32 (x4 + 1)))] [] (S0, M)) ∧ (¬ (x1 ≠ 0) →
    K 30 [(0, vr 0), (1, vi x1), (2, vi (if x2 ≤ x5 then x2 else x5)), (3, vi x3), (4, vi (w32 (x4 + 1)))] [] (S0, M)))) :
  K 63 [(0, vr 0), (1, vi x1), (2, vi x2), (3, vi x3), (4, vi x4), (5, vi x5)] [] (S0, M) := by
  exact mQ hK [9, 19, 76, 82, 83, 89] 7 4 63 b_L_span_63 rfl _ _ _ h
set_option maxRecDepth 40000 in
theorem q_L_ask_0 {cal : mCal} {lim : Nat × Nat} {scr : Nat × (Nat → Int)} {ret : Option mVal → mHp → Prop} {K : Nat → mLV → List mVal → mHp → Prop} (hK : mClo m_L_ask cal lim scr ret K) (x1 : Int) (M : mMem) (h :
  (∃ v2 m1, cal 89 [vi x1] (S0, M) (some (vi v2), (S0, m1)) ∧
  ((v2 ≠ 0 →
    (∃ v4 m3, cal 109 [vr 0] (S0, m1) (some (vi v4), (S0, m3)) ∧
    ((v4 ≠ 0 →
      (∃ v6 m5, cal 112 [vr 0] (S0, m3) (some (vi v6), (S0, m5)) ∧
      (∃ m7, cal 21 [vr 37, vi (w32 (-v6))] (S0, m5) (none, (S0, m7)) ∧
      K 35 [(0, vr 0), (1, vi x1), (3, vi 0)] [] (S0, m7)))) ∧ (¬ (v4 ≠ 0) →
      ret (some (vi (-2))) (S0, m3))))) ∧ (¬ (v2 ≠ 0) →
    ret (some (vi (-1))) (S0, m1))))) :
  K 0 [(0, vr 0), (1, vi x1)] [] (S0, M) := by
  exact mQ hK [9, 19, 66, 82, 90] 6 0 0 b_L_ask_0 rfl _ _ _ h
set_option maxRecDepth 40000 in
theorem q_L_ask_35 {cal : mCal} {lim : Nat × Nat} {scr : Nat × (Nat → Int)} {ret : Option mVal → mHp → Prop} {K : Nat → mLV → List mVal → mHp → Prop} (hK : mClo m_L_ask cal lim scr ret K) (x1 : Int) (x3 : Int) (M : mMem) (h :
  (((M 1 5) ≤ x3 →
    (((M 37 0) = (-4) →
      ret (some (vi (M 37 0))) (S0, M)) ∧ (¬ ((M 37 0) = (-4)) →
      ((x1 ≠ 0 →
        ret (some (vi (w32 (-(M 37 1))))) (S0, M)) ∧ (¬ (x1 ≠ 0) →
        ret (some (vi (M 37 0))) (S0, M)))))) ∧ (¬ ((M 1 5) ≤ x3) →
    (∃ v2 m1, cal 113 [vr 0, vi x3] (S0, M) (some (vi v2), (S0, m1)) ∧
    (∃ m3, cal 22 [vr 37, vi x3, vi (w32 (-v2))] (S0, m1) (none, (S0, m3)) ∧
    K 35 [(0, vr 0), (1, vi x1), (3, vi (w32 (x3 + 1)))] [] (S0, m3)))))) :
  K 35 [(0, vr 0), (1, vi x1), (3, vi x3)] [] (S0, M) := by
  exact mQ hK [9, 19, 66, 82, 90] 6 3 35 b_L_ask_35 rfl _ _ _ h
set_option maxRecDepth 40000 in
theorem q_L_drift_0 {cal : mCal} {lim : Nat × Nat} {scr : Nat × (Nat → Int)} {ret : Option mVal → mHp → Prop} {K : Nat → mLV → List mVal → mHp → Prop} (hK : mClo m_L_drift cal lim scr ret K) (x1 : Int) (x2 : Int) (x3 : Int) (M : mMem) (h :
  ((x2 < 1 →
    ret (some (vi (-1))) (S0, M)) ∧ (¬ (x2 < 1) →
    ((60 < x2 →
      ret (some (vi (-1))) (S0, M)) ∧ (¬ (60 < x2) →
      (∃ v2 m1, cal 89 [vi x3] (S0, M) (some (vi v2), (S0, m1)) ∧
      ((v2 ≠ 0 →
        (∃ m3, cal 2 [vr 9, vr 1] (S0, m1) (none, (S0, m3)) ∧
        K 37 [(0, vr 0), (2, vi x2), (3, vi x3), (4, vi x1), (5, vi 0)] [] (S0, m3))) ∧ (¬ (v2 ≠ 0) →
        ret (some (vi (-1))) (S0, m1))))))))) :
  K 0 [(0, vr 0), (1, vi x1), (2, vi x2), (3, vi x3)] [] (S0, M) := by
  exact mQ hK [18, 20, 73, 87, 95] 6 0 0 b_L_drift_0 rfl _ _ _ h
set_option maxRecDepth 40000 in
theorem q_L_drift_37 {cal : mCal} {lim : Nat × Nat} {scr : Nat × (Nat → Int)} {ret : Option mVal → mHp → Prop} {K : Nat → mLV → List mVal → mHp → Prop} (hK : mClo m_L_drift cal lim scr ret K) (x2 : Int) (x3 : Int) (x4 : Int) (x5 : Int) (M : mMem) (h :
  ((x2 ≤ x5 →
    ((x3 ≠ 0 →
      (∃ v2 m1, cal 15 [vr 9, vi 4] (S0, M) (some (vi v2), (S0, m1)) ∧
      ret (some (vi v2)) (S0, m1))) ∧ (¬ (x3 ≠ 0) →
      (∃ v4 m3, cal 13 [vr 9] (S0, M) (some (vi v4), (S0, m3)) ∧
      ret (some (vi v4)) (S0, m3))))) ∧ (¬ (x2 ≤ x5) →
    (∃ m5, cal 103 [vr 0, vi (jand (jushr (w32 ((w32 (x4 * 1103515245)) + 12345)) 16) 32767)] (S0, M) (none, (S0, m5)) ∧
    K 37 [(0, vr 0), (2, vi x2), (3, vi x3), (4, vi (w32 ((w32 (x4 * 1103515245)) + 12345))), (5, vi (w32 (x5 + 1)))] [] (S0, m5))))) :
  K 37 [(0, vr 0), (2, vi x2), (3, vi x3), (4, vi x4), (5, vi x5)] [] (S0, M) := by
  exact mQ hK [18, 20, 73, 87, 95] 6 3 37 b_L_drift_37 rfl _ _ _ h
set_option maxRecDepth 40000 in
theorem q_L_keep_0 {cal : mCal} {lim : Nat × Nat} {scr : Nat × (Nat → Int)} {ret : Option mVal → mHp → Prop} {K : Nat → mLV → List mVal → mHp → Prop} (hK : mClo m_L_keep cal lim scr ret K) (x1 : Int) (M : mMem) (h :
  ((x1 = 0 →
    K 11 [(0, vr 0), (1, vi x1)] [] (S0, M)) ∧ (¬ (x1 = 0) →
    ((x1 = 1 →
      K 11 [(0, vr 0), (1, vi x1)] [] (S0, M)) ∧ (¬ (x1 = 1) →
      ret (some (vi (-1))) (S0, M)))))) :
  K 0 [(0, vr 0), (1, vi x1)] [] (S0, M) := by
  exact mQ hK [22, 26, 38] 4 0 0 b_L_keep_0 rfl _ _ _ h
set_option maxRecDepth 40000 in
theorem q_L_keep_11 {cal : mCal} {lim : Nat × Nat} {scr : Nat × (Nat → Int)} {ret : Option mVal → mHp → Prop} {K : Nat → mLV → List mVal → mHp → Prop} (hK : mClo m_L_keep cal lim scr ret K) (x1 : Int) (M : mMem) (h :
  ((x1 ≠ 0 →
    (((M 26 1) = 0 →
      K 39 [(0, vr 0), (2, vr 26)] [vi 0] (S0, M)) ∧ (¬ ((M 26 1) = 0) →
      K 39 [(0, vr 0), (2, vr 26)] [vi 1] (S0, M)))) ∧ (¬ (x1 ≠ 0) →
    (((M 17 1) = 0 →
      K 39 [(0, vr 0), (2, vr 17)] [vi 0] (S0, M)) ∧ (¬ ((M 17 1) = 0) →
      K 39 [(0, vr 0), (2, vr 17)] [vi 1] (S0, M)))))) :
  K 11 [(0, vr 0), (1, vi x1)] [] (S0, M) := by
  exact mQ hK [22, 26, 38] 4 1 11 b_L_keep_11 rfl _ _ _ h
set_option maxRecDepth 40000 in
theorem q_L_keep_39 {cal : mCal} {lim : Nat × Nat} {scr : Nat × (Nat → Int)} {ret : Option mVal → mHp → Prop} {K : Nat → mLV → List mVal → mHp → Prop} (hK : mClo m_L_keep cal lim scr ret K) (c2 : Nat) (s0 : Int) (M : mMem) (hc2 : c2 = 17 ∨ c2 = 26) (h :
  (∃ m1, cal 2 [vr (c2 + 1), vr 1] (S0, M) (none, (S0, m1)) ∧
  ret (some (vi s0)) (S0, mupd m1 c2 1 1))) :
  K 39 [(0, vr 0), (2, vr c2)] [vi s0] (S0, M) := by
  rcases hc2 with rfl | rfl <;> exact mQ hK [22, 26, 38] 4 5 39 b_L_keep_39 rfl _ _ _ h
set_option maxRecDepth 40000 in
theorem q_L_back_0 {cal : mCal} {lim : Nat × Nat} {scr : Nat × (Nat → Int)} {ret : Option mVal → mHp → Prop} {K : Nat → mLV → List mVal → mHp → Prop} (hK : mClo m_L_back cal lim scr ret K) (x1 : Int) (M : mMem) (h :
  ((x1 = 0 →
    ((x1 ≠ 0 →
      K 26 [(0, vr 0)] [vr 26] (S0, M)) ∧ (¬ (x1 ≠ 0) →
      K 26 [(0, vr 0)] [vr 17] (S0, M)))) ∧ (¬ (x1 = 0) →
    ((x1 = 1 →
      ((x1 ≠ 0 →
        K 26 [(0, vr 0)] [vr 26] (S0, M)) ∧ (¬ (x1 ≠ 0) →
        K 26 [(0, vr 0)] [vr 17] (S0, M)))) ∧ (¬ (x1 = 1) →
      ret (some (vi (-1))) (S0, M)))))) :
  K 0 [(0, vr 0), (1, vi x1)] [] (S0, M) := by
  exact mQ hK [11, 22, 37] 4 0 0 b_L_back_0 rfl _ _ _ h
set_option maxRecDepth 40000 in
theorem q_L_back_26 {cal : mCal} {lim : Nat × Nat} {scr : Nat × (Nat → Int)} {ret : Option mVal → mHp → Prop} {K : Nat → mLV → List mVal → mHp → Prop} (hK : mClo m_L_back cal lim scr ret K) (e0 : Nat) (M : mMem) (he0 : e0 = 17 ∨ e0 = 26) (h :
  (((M e0 1) ≠ 0 →
    (∃ m1, cal 2 [vr 1, vr (e0 + 1)] (S0, M) (none, (S0, m1)) ∧
    (∃ v3 m2, cal 13 [vr 1] (S0, m1) (some (vi v3), (S0, m2)) ∧
    ret (some (vi v3)) (S0, m2)))) ∧ (¬ ((M e0 1) ≠ 0) →
    ret (some (vi (-2))) (S0, M)))) :
  K 26 [(0, vr 0)] [vr e0] (S0, M) := by
  rcases he0 with rfl | rfl <;> exact mQ hK [11, 22, 37] 4 3 26 b_L_back_26 rfl _ _ _ h
set_option maxRecDepth 40000 in
theorem q_L_sheet_0 {cal : mCal} {lim : Nat × Nat} {scr : Nat × (Nat → Int)} {ret : Option mVal → mHp → Prop} {K : Nat → mLV → List mVal → mHp → Prop} (hK : mClo m_L_sheet cal lim scr ret K) (x1 : Int) (x2 : Int) (x3 : Int) (M : mMem) (h :
  (∃ v2 m1, cal 90 [vi x1] (S0, M) (some (vi v2), (S0, m1)) ∧
  ((v2 = 0 →
    ret (some (vi (-1))) (S0, m1)) ∧ (¬ (v2 = 0) →
    (∃ v4 m3, cal 91 [vi x2] (S0, m1) (some (vi v4), (S0, m3)) ∧
    ((v4 = 0 →
      ret (some (vi (-1))) (S0, m3)) ∧ (¬ (v4 = 0) →
      ((x3 ≤ 40 →
        ((0 ≤ x3 →
          mIn x1 4 ((∃ t5, S0.2.lookup (38, (x1 : Int).toNat) = some t5 ∧ K 35 [(2, vi x2), (3, vi x3)] [vr t5] (S0, m3)))) ∧ (¬ (0 ≤ x3) →
          ret (some (vi (-14))) (S0, m3)))) ∧ (¬ (x3 ≤ 40) →
        ret (some (vi (-1))) (S0, m3)))))))))) :
  K 0 [(0, vr 0), (1, vi x1), (2, vi x2), (3, vi x3)] [] (S0, M) := by
  exact mQ hK [20, 22, 29] 4 0 0 b_L_sheet_0 rfl _ _ _ h
set_option maxRecDepth 40000 in
theorem q_L_sheet_35 {cal : mCal} {lim : Nat × Nat} {scr : Nat × (Nat → Int)} {ret : Option mVal → mHp → Prop} {K : Nat → mLV → List mVal → mHp → Prop} (hK : mClo m_L_sheet cal lim scr ret K) (x2 : Int) (x3 : Int) (e0 : Nat) (M : mMem) (he0 : e0 = 45 ∨ e0 = 47 ∨ e0 = 49 ∨ e0 = 51) (h :
  (∃ m1, cal 26 [vr e0, vi x2, vi x3] (S0, M) (none, (S0, m1)) ∧
  ret (some (vi 1)) (S0, m1))) :
  K 35 [(2, vi x2), (3, vi x3)] [vr e0] (S0, M) := by
  rcases he0 with rfl | rfl | rfl | rfl <;> exact mQ hK [20, 22, 29] 4 4 35 b_L_sheet_35 rfl _ _ _ h
set_option maxRecDepth 40000 in
theorem q_L_lay_0 {cal : mCal} {lim : Nat × Nat} {scr : Nat × (Nat → Int)} {ret : Option mVal → mHp → Prop} {K : Nat → mLV → List mVal → mHp → Prop} (hK : mClo m_L_lay cal lim scr ret K) (x1 : Int) (x2 : Int) (x3 : Int) (M : mMem) (h :
  (∃ v2 m1, cal 90 [vi x1] (S0, M) (some (vi v2), (S0, m1)) ∧
  ((v2 ≠ 0 →
    mIn x1 4 ((∃ t3, S0.2.lookup (38, (x1 : Int).toNat) = some t3 ∧ K 15 [(2, vi x2), (3, vi x3)] [vr t3] (S0, m1)))) ∧ (¬ (v2 ≠ 0) →
    ret (some (vi (-1))) (S0, m1))))) :
  K 0 [(0, vr 0), (1, vi x1), (2, vi x2), (3, vi x3)] [] (S0, M) := by
  exact mQ hK [9, 37] 3 0 0 b_L_lay_0 rfl _ _ _ h
set_option maxRecDepth 40000 in
theorem q_L_lay_15 {cal : mCal} {lim : Nat × Nat} {scr : Nat × (Nat → Int)} {ret : Option mVal → mHp → Prop} {K : Nat → mLV → List mVal → mHp → Prop} (hK : mClo m_L_lay cal lim scr ret K) (x2 : Int) (x3 : Int) (e0 : Nat) (M : mMem) (he0 : e0 = 45 ∨ e0 = 47 ∨ e0 = 49 ∨ e0 = 51) (h :
  (∃ v2 m1, cal 29 [vr e0, vi x2, vi 1] (S0, M) (some (vi v2), (S0, m1)) ∧
  ((v2 = 0 →
    (∃ m3, cal 27 [vr e0, vi x2, vi x3] (S0, m1) (none, (S0, m3)) ∧
    ret (some (vi 1)) (S0, m3))) ∧ (¬ (v2 = 0) →
    ret (some (vi (w32 ((-10) - v2)))) (S0, m1))))) :
  K 15 [(2, vi x2), (3, vi x3)] [vr e0] (S0, M) := by
  rcases he0 with rfl | rfl | rfl | rfl <;> exact mQ hK [9, 37] 3 2 15 b_L_lay_15 rfl _ _ _ h
set_option maxRecDepth 40000 in
theorem q_L_read_0 {cal : mCal} {lim : Nat × Nat} {scr : Nat × (Nat → Int)} {ret : Option mVal → mHp → Prop} {K : Nat → mLV → List mVal → mHp → Prop} (hK : mClo m_L_read cal lim scr ret K) (x1 : Int) (x2 : Int) (x3 : Int) (x4 : Int) (M : mMem) (h :
  (∃ v2 m1, cal 90 [vi x1] (S0, M) (some (vi v2), (S0, m1)) ∧
  ((v2 = 0 →
    ret (some (vi (-1))) (S0, m1)) ∧ (¬ (v2 = 0) →
    (∃ v4 m3, cal 91 [vi x2] (S0, m1) (some (vi v4), (S0, m3)) ∧
    ((v4 = 0 →
      ret (some (vi (-1))) (S0, m3)) ∧ (¬ (v4 = 0) →
      ((x4 < 0 →
        ret (some (vi (-1))) (S0, m3)) ∧ (¬ (x4 < 0) →
        ((x4 ≤ 13 →
          mIn x1 4 ((∃ t5, S0.2.lookup (38, (x1 : Int).toNat) = some t5 ∧ K 34 [(0, vr 0), (2, vi x2), (3, vi x3), (4, vi x4)] [vr t5] (S0, m3)))) ∧ (¬ (x4 ≤ 13) →
          ret (some (vi (-1))) (S0, m3)))))))))))) :
  K 0 [(0, vr 0), (1, vi x1), (2, vi x2), (3, vi x3), (4, vi x4)] [] (S0, M) := by
  exact mQ hK [26, 28, 109, 112] 5 0 0 b_L_read_0 rfl _ _ _ h
set_option maxRecDepth 40000 in
theorem q_L_read_34 {cal : mCal} {lim : Nat × Nat} {scr : Nat × (Nat → Int)} {ret : Option mVal → mHp → Prop} {K : Nat → mLV → List mVal → mHp → Prop} (hK : mClo m_L_read cal lim scr ret K) (x2 : Int) (x3 : Int) (x4 : Int) (e0 : Nat) (M : mMem) (he0 : e0 = 45 ∨ e0 = 47 ∨ e0 = 49 ∨ e0 = 51) (h :
  (∃ m1, cal 2 [vr 9, vr 1] (S0, M) (none, (S0, m1)) ∧
  K 56 [(0, vr 0), (2, vi x2), (3, vi x3), (4, vi x4), (5, vr e0), (6, vi 0), (7, vi 0), (8, vi 0)] [] (S0, m1))) :
  K 34 [(0, vr 0), (2, vi x2), (3, vi x3), (4, vi x4)] [vr e0] (S0, M) := by
  rcases he0 with rfl | rfl | rfl | rfl <;> exact mQ hK [26, 28, 109, 112] 5 3 34 b_L_read_34 rfl _ _ _ h
set_option maxRecDepth 40000 in
theorem q_L_read_56 {cal : mCal} {lim : Nat × Nat} {scr : Nat × (Nat → Int)} {ret : Option mVal → mHp → Prop} {K : Nat → mLV → List mVal → mHp → Prop} (hK : mClo m_L_read cal lim scr ret K) (x2 : Int) (x3 : Int) (x4 : Int) (c5 : Nat) (x6 : Int) (x7 : Int) (x8 : Int) (M : mMem) (hc5 : c5 = 45 ∨ c5 = 47 ∨ c5 = 49 ∨ c5 = 51) (h :
  ((x4 ≤ x8 →
    K 118 [(0, vr 0), (6, vi x6), (7, vi x7)] [] (S0, M)) ∧ (¬ (x4 ≤ x8) →
    ((x7 ≠ 0 →
      K 118 [(0, vr 0), (6, vi x6), (7, vi x7)] [] (S0, M)) ∧ (¬ (x7 ≠ 0) →
      (∃ v2 m1, cal 28 [vr c5, vi x2, vi (w32 (x3 + (w32 (3 * x8)))), vi 3] (S0, M) (some (vi v2), (S0, m1)) ∧
      ((v2 ≠ 0 →
        K 56 [(0, vr 0), (2, vi x2), (3, vi x3), (4, vi x4), (5, vr c5), (6, vi x6), (7, vi v2), (8, vi (w32 (x8 + 1)))] [] (S0, m1)) ∧ (¬ (v2 ≠ 0) →
        (∃ v4 m3, cal 102 [vr 0, vr c5, vi (w32 (x3 + (w32 (3 * x8))))] (S0, m1) (some (vi v4), (S0, m3)) ∧
        ((v4 ≠ 0 →
          K 56 [(0, vr 0), (2, vi x2), (3, vi x3), (4, vi x4), (5, vr c5), (6, vi (w32 (x6 + 1))), (7, vi v2), (8, vi (w32 (x8 + 1)))] [] (S0, m3)) ∧ (¬ (v4 ≠ 0) →
          ret (some (vi (w32 ((-20) - x8)))) (S0, m3)))))))))))) :
  K 56 [(0, vr 0), (2, vi x2), (3, vi x3), (4, vi x4), (5, vr c5), (6, vi x6), (7, vi x7), (8, vi x8)] [] (S0, M) := by
  rcases hc5 with rfl | rfl | rfl | rfl <;> exact mQ hK [26, 28, 109, 112] 5 4 56 b_L_read_56 rfl _ _ _ h
set_option maxRecDepth 40000 in
theorem q_L_read_118 {cal : mCal} {lim : Nat × Nat} {scr : Nat × (Nat → Int)} {ret : Option mVal → mHp → Prop} {K : Nat → mLV → List mVal → mHp → Prop} (hK : mClo m_L_read cal lim scr ret K) (x6 : Int) (x7 : Int) (M : mMem) (h :
  (∃ m1, cal 2 [vr 1, vr 9] (S0, M) (none, (S0, m1)) ∧
  ret (some (vi x6)) (S0, mupd m1 0 16 x7))) :
  K 118 [(0, vr 0), (6, vi x6), (7, vi x7)] [] (S0, M) := by
  exact mQ hK [26, 28, 109, 112] 5 7 118 b_L_read_118 rfl _ _ _ h
set_option maxRecDepth 40000 in
theorem q_L_torn_0 {cal : mCal} {lim : Nat × Nat} {scr : Nat × (Nat → Int)} {ret : Option mVal → mHp → Prop} {K : Nat → mLV → List mVal → mHp → Prop} (hK : mClo m_L_torn cal lim scr ret K)  (M : mMem) (h :
  ret (some (vi (M 0 16))) (S0, M)) :
  K 0 [(0, vr 0)] [] (S0, M) := by
  exact mQ hK [] 1 0 0 b_L_torn_0 rfl _ _ _ h
set_option maxRecDepth 40000 in
theorem q_L_count_0 {cal : mCal} {lim : Nat × Nat} {scr : Nat × (Nat → Int)} {ret : Option mVal → mHp → Prop} {K : Nat → mLV → List mVal → mHp → Prop} (hK : mClo m_L_count cal lim scr ret K) (x1 : Int) (M : mMem) (h :
  (((x1 = ((0 : Nat) : Int) →
    ret (some (vi (M 0 13))) (S0, M)) ∧ 
  (x1 = ((1 : Nat) : Int) →
    (((M 17 1) = 0 →
      K 60 [(0, vr 0)] [vi 0] (S0, M)) ∧ (¬ ((M 17 1) = 0) →
      K 60 [(0, vr 0)] [vi 1] (S0, M)))) ∧ 
  (x1 = ((2 : Nat) : Int) →
    ret (some (vi (M 35 1))) (S0, M)) ∧ 
  (x1 = ((3 : Nat) : Int) →
    (∃ t1, S0.2.lookup (38, (0 : Int).toNat) = some t1 ∧ K 91 [(0, vr 0)] [vr t1] (S0, M))) ∧ 
  (x1 = ((4 : Nat) : Int) →
    ret (some (vi (w32 ((w32 ((M 3 1) + (M 3 2))) + (M 3 3))))) (S0, M)) ∧ 
  (x1 = ((5 : Nat) : Int) →
    (∃ v3 m2, cal 17 [vr 1] (S0, M) (some (vi v3), (S0, m2)) ∧
    ret (some (vi v3)) (S0, m2))) ∧ True) ∧ ((x1 < 0 ∨ ((6 : Nat) : Int) ≤ x1) →
    ret (some (vi (-1))) (S0, M)))) :
  K 0 [(0, vr 0), (1, vi x1)] [] (S0, M) := by
  exact mQ hK [40, 45, 59, 74, 75, 77, 85, 102, 111, 112, 142, 150] 13 0 0 b_L_count_0 rfl _ _ _ h
set_option maxRecDepth 40000 in
theorem q_L_count_60 {cal : mCal} {lim : Nat × Nat} {scr : Nat × (Nat → Int)} {ret : Option mVal → mHp → Prop} {K : Nat → mLV → List mVal → mHp → Prop} (hK : mClo m_L_count cal lim scr ret K) (s0 : Int) (M : mMem) (h :
  (((M 26 1) = 0 →
    ret (some (vi (w32 (s0 + 0)))) (S0, M)) ∧ (¬ ((M 26 1) = 0) →
    ret (some (vi (w32 (s0 + 1)))) (S0, M)))) :
  K 60 [(0, vr 0)] [vi s0] (S0, M) := by
  exact mQ hK [40, 45, 59, 74, 75, 77, 85, 102, 111, 112, 142, 150] 13 4 60 b_L_count_60 rfl _ _ _ h
set_option maxRecDepth 40000 in
theorem q_L_count_91 {cal : mCal} {lim : Nat × Nat} {scr : Nat × (Nat → Int)} {ret : Option mVal → mHp → Prop} {K : Nat → mLV → List mVal → mHp → Prop} (hK : mClo m_L_count cal lim scr ret K) (e0 : Nat) (M : mMem) (he0 : e0 = 45 ∨ e0 = 47 ∨ e0 = 49 ∨ e0 = 51) (h :
  ((0 ≤ (M e0 2) →
    (∃ t1, S0.2.lookup (38, (0 : Int).toNat) = some t1 ∧ K 108 [] [vr t1] (S0, M))) ∧ (¬ (0 ≤ (M e0 2)) →
    ret (some (vi (-4))) (S0, M)))) :
  K 91 [(0, vr 0)] [vr e0] (S0, M) := by
  rcases he0 with rfl | rfl | rfl | rfl <;> exact mQ hK [40, 45, 59, 74, 75, 77, 85, 102, 111, 112, 142, 150] 13 9 91 b_L_count_91 rfl _ _ _ h
set_option maxRecDepth 40000 in
theorem q_L_count_108 {cal : mCal} {lim : Nat × Nat} {scr : Nat × (Nat → Int)} {ret : Option mVal → mHp → Prop} {K : Nat → mLV → List mVal → mHp → Prop} (hK : mClo m_L_count cal lim scr ret K) (e0 : Nat) (M : mMem) (he0 : e0 = 45 ∨ e0 = 47 ∨ e0 = 49 ∨ e0 = 51) (h :
  ret (some (vi (M e0 2))) (S0, M)) :
  K 108 [] [vr e0] (S0, M) := by
  rcases he0 with rfl | rfl | rfl | rfl <;> exact mQ hK [40, 45, 59, 74, 75, 77, 85, 102, 111, 112, 142, 150] 13 11 108 b_L_count_108 rfl _ _ _ h
set_option maxRecDepth 40000 in
theorem q_L_isCell_0 {cal : mCal} {lim : Nat × Nat} {scr : Nat × (Nat → Int)} {ret : Option mVal → mHp → Prop} {K : Nat → mLV → List mVal → mHp → Prop} (hK : mClo m_L_isCell cal lim scr ret K) (x0 : Int) (x1 : Int) (M : mMem) (h :
  ((x0 < 0 →
    ret (some (vi 0)) (S0, M)) ∧ (¬ (x0 < 0) →
    ((6 ≤ x0 →
      ret (some (vi 0)) (S0, M)) ∧ (¬ (6 ≤ x0) →
      ((x1 < 0 →
        ret (some (vi 0)) (S0, M)) ∧ (¬ (x1 < 0) →
        ((6 ≤ x1 →
          ret (some (vi 0)) (S0, M)) ∧ (¬ (6 ≤ x1) →
          ret (some (vi 1)) (S0, M)))))))))) :
  K 0 [(0, vi x0), (1, vi x1)] [] (S0, M) := by
  exact mQ hK [24, 25] 3 0 0 b_L_isCell_0 rfl _ _ _ h
set_option maxRecDepth 40000 in
theorem q_L_isColour_0 {cal : mCal} {lim : Nat × Nat} {scr : Nat × (Nat → Int)} {ret : Option mVal → mHp → Prop} {K : Nat → mLV → List mVal → mHp → Prop} (hK : mClo m_L_isColour cal lim scr ret K) (x0 : Int) (M : mMem) (h :
  ((x0 < 1 →
    ret (some (vi 0)) (S0, M)) ∧ (¬ (x0 < 1) →
    ((3 < x0 →
      ret (some (vi 0)) (S0, M)) ∧ (¬ (3 < x0) →
      ret (some (vi 1)) (S0, M)))))) :
  K 0 [(0, vi x0)] [] (S0, M) := by
  exact mQ hK [14, 15] 3 0 0 b_L_isColour_0 rfl _ _ _ h
set_option maxRecDepth 40000 in
theorem q_L_isPart_0 {cal : mCal} {lim : Nat × Nat} {scr : Nat × (Nat → Int)} {ret : Option mVal → mHp → Prop} {K : Nat → mLV → List mVal → mHp → Prop} (hK : mClo m_L_isPart cal lim scr ret K) (x0 : Int) (M : mMem) (h :
  ((x0 = 0 →
    ret (some (vi 1)) (S0, M)) ∧ (¬ (x0 = 0) →
    ((x0 ≠ 1 →
      ret (some (vi 0)) (S0, M)) ∧ (¬ (x0 ≠ 1) →
      ret (some (vi 1)) (S0, M)))))) :
  K 0 [(0, vi x0)] [] (S0, M) := by
  exact mQ hK [9, 13, 14] 4 0 0 b_L_isPart_0 rfl _ _ _ h
set_option maxRecDepth 40000 in
theorem q_L_isSheet_0 {cal : mCal} {lim : Nat × Nat} {scr : Nat × (Nat → Int)} {ret : Option mVal → mHp → Prop} {K : Nat → mLV → List mVal → mHp → Prop} (hK : mClo m_L_isSheet cal lim scr ret K) (x0 : Int) (M : mMem) (h :
  ((x0 < 0 →
    ret (some (vi 0)) (S0, M)) ∧ (¬ (x0 < 0) →
    ((4 ≤ x0 →
      ret (some (vi 0)) (S0, M)) ∧ (¬ (4 ≤ x0) →
      ret (some (vi 1)) (S0, M)))))) :
  K 0 [(0, vi x0)] [] (S0, M) := by
  exact mQ hK [13, 14] 3 0 0 b_L_isSheet_0 rfl _ _ _ h
set_option maxRecDepth 40000 in
theorem q_L_isLane_0 {cal : mCal} {lim : Nat × Nat} {scr : Nat × (Nat → Int)} {ret : Option mVal → mHp → Prop} {K : Nat → mLV → List mVal → mHp → Prop} (hK : mClo m_L_isLane cal lim scr ret K) (x0 : Int) (M : mMem) (h :
  ((x0 < 0 →
    ret (some (vi 0)) (S0, M)) ∧ (¬ (x0 < 0) →
    ((2 < x0 →
      ret (some (vi 0)) (S0, M)) ∧ (¬ (2 < x0) →
      ret (some (vi 1)) (S0, M)))))) :
  K 0 [(0, vi x0)] [] (S0, M) := by
  exact mQ hK [13, 14] 3 0 0 b_L_isLane_0 rfl _ _ _ h
set_option maxRecDepth 40000 in
theorem q_L_isLaw_0 {cal : mCal} {lim : Nat × Nat} {scr : Nat × (Nat → Int)} {ret : Option mVal → mHp → Prop} {K : Nat → mLV → List mVal → mHp → Prop} (hK : mClo m_L_isLaw cal lim scr ret K) (x1 : Int) (M : mMem) (h :
  ((x1 < 0 →
    ret (some (vi 0)) (S0, M)) ∧ (¬ (x1 < 0) →
    (((M 1 5) ≤ x1 →
      ret (some (vi 0)) (S0, M)) ∧ (¬ ((M 1 5) ≤ x1) →
      ret (some (vi 1)) (S0, M)))))) :
  K 0 [(0, vr 0), (1, vi x1)] [] (S0, M) := by
  exact mQ hK [19, 20] 3 0 0 b_L_isLaw_0 rfl _ _ _ h
set_option maxRecDepth 40000 in
theorem q_L_isLawPart_0 {cal : mCal} {lim : Nat × Nat} {scr : Nat × (Nat → Int)} {ret : Option mVal → mHp → Prop} {K : Nat → mLV → List mVal → mHp → Prop} (hK : mClo m_L_isLawPart cal lim scr ret K) (x0 : Int) (x1 : Int) (M : mMem) (h :
  (((x0 = ((0 : Nat) : Int) →
    ((x1 < 0 →
      ret (some (vi 0)) (S0, M)) ∧ (¬ (x1 < 0) →
      ((3 < x1 →
        ret (some (vi 0)) (S0, M)) ∧ (¬ (3 < x1) →
        ret (some (vi 1)) (S0, M)))))) ∧ 
  (x0 = ((1 : Nat) : Int) →
    (∃ v2 m1, cal 88 [vi x1] (S0, M) (some (vi v2), (S0, m1)) ∧
    mBo v2 (ret (some (vi v2)) (S0, m1)))) ∧ 
  (x0 = ((2 : Nat) : Int) →
    (∃ v4 m3, cal 88 [vi x1] (S0, M) (some (vi v4), (S0, m3)) ∧
    mBo v4 (ret (some (vi v4)) (S0, m3)))) ∧ 
  (x0 = ((3 : Nat) : Int) →
    ((x1 < 1 →
      ret (some (vi 0)) (S0, M)) ∧ (¬ (x1 < 1) →
      ((9 < x1 →
        ret (some (vi 0)) (S0, M)) ∧ (¬ (9 < x1) →
        ret (some (vi 1)) (S0, M)))))) ∧ True) ∧ ((x0 < 0 ∨ ((4 : Nat) : Int) ≤ x0) →
    ret (some (vi 0)) (S0, M)))) :
  K 0 [(0, vi x0), (1, vi x1)] [] (S0, M) := by
  exact mQ hK [32, 45, 46, 47, 52, 67, 68, 69] 9 0 0 b_L_isLawPart_0 rfl _ _ _ h
set_option maxRecDepth 40000 in
theorem q_L_place_0 {cal : mCal} {lim : Nat × Nat} {scr : Nat × (Nat → Int)} {ret : Option mVal → mHp → Prop} {K : Nat → mLV → List mVal → mHp → Prop} (hK : mClo m_L_place cal lim scr ret K) (x0 : Int) (x1 : Int) (M : mMem) (h :
  ret (some (vi (w32 ((w32 (x0 * 6)) + x1)))) (S0, M)) :
  K 0 [(0, vi x0), (1, vi x1)] [] (S0, M) := by
  exact mQ hK [] 1 0 0 b_L_place_0 rfl _ _ _ h
set_option maxRecDepth 40000 in
theorem q_L_stitchCode_0 {cal : mCal} {lim : Nat × Nat} {scr : Nat × (Nat → Int)} {ret : Option mVal → mHp → Prop} {K : Nat → mLV → List mVal → mHp → Prop} (hK : mClo m_L_stitchCode cal lim scr ret K) (x0 : Int) (x1 : Int) (M : mMem) (h :
  ret (some (vi (w32 ((w32 ((w32 (100 * (jdiv x0 6))) + (w32 (10 * (jrem x0 6))))) + x1)))) (S0, M)) :
  K 0 [(0, vi x0), (1, vi x1)] [] (S0, M) := by
  exact mQ hK [] 1 0 0 b_L_stitchCode_0 rfl _ _ _ h
set_option maxRecDepth 40000 in
theorem q_L_followPlan_0 {cal : mCal} {lim : Nat × Nat} {scr : Nat × (Nat → Int)} {ret : Option mVal → mHp → Prop} {K : Nat → mLV → List mVal → mHp → Prop} (hK : mClo m_L_followPlan cal lim scr ret K) (x1 : Int) (M : mMem) (h :
  (∃ m1, cal 2 [vr 9, vr 1] (S0, M) (none, (S0, m1)) ∧
  K 30 [(0, vr 0), (1, vi x1), (2, vi 0)] [] (S0, mupd (mupd m1 9 7 0) 9 8 (-4)))) :
  K 0 [(0, vr 0), (1, vi x1)] [] (S0, M) := by
  exact mQ hK [54, 60] 3 0 0 b_L_followPlan_0 rfl _ _ _ h
set_option maxRecDepth 40000 in
theorem q_L_followPlan_30 {cal : mCal} {lim : Nat × Nat} {scr : Nat × (Nat → Int)} {ret : Option mVal → mHp → Prop} {K : Nat → mLV → List mVal → mHp → Prop} (hK : mClo m_L_followPlan cal lim scr ret K) (x1 : Int) (x2 : Int) (M : mMem) (h :
  (((M 9 6) ≤ x2 →
    ret none (S0, M)) ∧ (¬ ((M 9 6) ≤ x2) →
    ((x2 = x1 →
      K 30 [(0, vr 0), (1, vi x1), (2, vi (w32 (x2 + 1)))] [] (S0, M)) ∧ (¬ (x2 = x1) →
      (∃ m1, cal 8 [vr 9, vi x2] (S0, M) (none, (S0, m1)) ∧
      K 30 [(0, vr 0), (1, vi x1), (2, vi (w32 (x2 + 1)))] [] (S0, m1))))))) :
  K 30 [(0, vr 0), (1, vi x1), (2, vi x2)] [] (S0, M) := by
  exact mQ hK [54, 60] 3 1 30 b_L_followPlan_30 rfl _ _ _ h
set_option maxRecDepth 40000 in
theorem q_L_fewestToHold_0 {cal : mCal} {lim : Nat × Nat} {scr : Nat × (Nat → Int)} {ret : Option mVal → mHp → Prop} {K : Nat → mLV → List mVal → mHp → Prop} (hK : mClo m_L_fewestToHold cal lim scr ret K) (x1 : Int) (M : mMem) (h :
  (∃ v2 m1, cal 10 [vr 1, vi x1] (S0, M) (some (vi v2), (S0, m1)) ∧
  ((v2 ≤ 0 →
    (∃ m3, cal 2 [vr 9, vr 1] (S0, m1) (none, (S0, m3)) ∧
    (∃ v5 m4, cal 98 [vr 0, vi x1] (S0, m3) (some (vi v5), (S0, m4)) ∧
    ((v5 = 0 →
      (∃ v7 m6, cal 99 [vr 0, vi x1] (S0, m4) (some (vi v7), (S0, m6)) ∧
      ((v7 = 0 →
        ret (some (vi (-4))) (S0, m6)) ∧ (¬ (v7 = 0) →
        ret (some (vi 2)) (S0, m6))))) ∧ (¬ (v5 = 0) →
      ret (some (vi 1)) (S0, m4)))))) ∧ (¬ (v2 ≤ 0) →
    ret (some (vi 0)) (S0, m1))))) :
  K 0 [(0, vr 0), (1, vi x1)] [] (S0, M) := by
  exact mQ hK [13, 34, 46, 48] 5 0 0 b_L_fewestToHold_0 rfl _ _ _ h
set_option maxRecDepth 40000 in
theorem q_L_holdsByOne_0 {cal : mCal} {lim : Nat × Nat} {scr : Nat × (Nat → Int)} {ret : Option mVal → mHp → Prop} {K : Nat → mLV → List mVal → mHp → Prop} (hK : mClo m_L_holdsByOne cal lim scr ret K) (x1 : Int) (M : mMem) (h :
  K 2 [(0, vr 0), (1, vi x1), (2, vi 0)] [] (S0, M)) :
  K 0 [(0, vr 0), (1, vi x1)] [] (S0, M) := by
  exact mQ hK [23, 29] 3 0 0 b_L_holdsByOne_0 rfl _ _ _ h
set_option maxRecDepth 40000 in
theorem q_L_holdsByOne_2 {cal : mCal} {lim : Nat × Nat} {scr : Nat × (Nat → Int)} {ret : Option mVal → mHp → Prop} {K : Nat → mLV → List mVal → mHp → Prop} (hK : mClo m_L_holdsByOne cal lim scr ret K) (x1 : Int) (x2 : Int) (M : mMem) (h :
  ((36 ≤ x2 →
    ret (some (vi 0)) (S0, M)) ∧ (¬ (36 ≤ x2) →
    (∃ v2 m1, cal 101 [vi x2] (S0, M) (some (vi v2), (S0, m1)) ∧
    (∃ v4 m3, cal 100 [vr 0, vi x1, vi v2, vi 0] (S0, m1) (some (vi v4), (S0, m3)) ∧
    ((v4 = 0 →
      K 2 [(0, vr 0), (1, vi x1), (2, vi (w32 (x2 + 1)))] [] (S0, m3)) ∧ (¬ (v4 = 0) →
      ret (some (vi 1)) (S0, m3)))))))) :
  K 2 [(0, vr 0), (1, vi x1), (2, vi x2)] [] (S0, M) := by
  exact mQ hK [23, 29] 3 1 2 b_L_holdsByOne_2 rfl _ _ _ h
set_option maxRecDepth 40000 in
theorem q_L_holdsByTwo_0 {cal : mCal} {lim : Nat × Nat} {scr : Nat × (Nat → Int)} {ret : Option mVal → mHp → Prop} {K : Nat → mLV → List mVal → mHp → Prop} (hK : mClo m_L_holdsByTwo cal lim scr ret K) (x1 : Int) (M : mMem) (h :
  K 2 [(0, vr 0), (1, vi x1), (2, vi 0)] [] (S0, M)) :
  K 0 [(0, vr 0), (1, vi x1)] [] (S0, M) := by
  exact mQ hK [82, 110, 120, 126, 132] 6 0 0 b_L_holdsByTwo_0 rfl _ _ _ h
set_option maxRecDepth 40000 in
theorem q_L_holdsByTwo_2 {cal : mCal} {lim : Nat × Nat} {scr : Nat × (Nat → Int)} {ret : Option mVal → mHp → Prop} {K : Nat → mLV → List mVal → mHp → Prop} (hK : mClo m_L_holdsByTwo cal lim scr ret K) (x1 : Int) (x2 : Int) (M : mMem) (h :
  ((36 ≤ x2 →
    ret (some (vi 0)) (S0, M)) ∧ (¬ (36 ≤ x2) →
    (∃ v2 m1, cal 101 [vi x2] (S0, M) (some (vi v2), (S0, m1)) ∧
    K 16 [(0, vr 0), (1, vi x1), (2, vi x2), (3, vi v2), (4, vi 1)] [] (S0, m1))))) :
  K 2 [(0, vr 0), (1, vi x1), (2, vi x2)] [] (S0, M) := by
  exact mQ hK [82, 110, 120, 126, 132] 6 1 2 b_L_holdsByTwo_2 rfl _ _ _ h
set_option maxRecDepth 40000 in
theorem q_L_holdsByTwo_16 {cal : mCal} {lim : Nat × Nat} {scr : Nat × (Nat → Int)} {ret : Option mVal → mHp → Prop} {K : Nat → mLV → List mVal → mHp → Prop} (hK : mClo m_L_holdsByTwo cal lim scr ret K) (x1 : Int) (x2 : Int) (x3 : Int) (x4 : Int) (M : mMem) (h :
  ((3 < x4 →
    K 2 [(0, vr 0), (1, vi x1), (2, vi (w32 (x2 + 1)))] [] (S0, M)) ∧ (¬ (3 < x4) →
    (∃ v2 m1, cal 5 [vr 9, vi x3, vi x4] (S0, M) (some (vi v2), (S0, m1)) ∧
    ((v2 = 0 →
      K 16 [(0, vr 0), (1, vi x1), (2, vi x2), (3, vi x3), (4, vi (w32 (x4 + 1)))] [] (S0, m1)) ∧ (¬ (v2 = 0) →
      (∃ m3, cal 6 [vr 9, vi x3, vi x4] (S0, m1) (none, (S0, m3)) ∧
      (∃ v5 m4, cal 95 [vi x3, vi x4] (S0, m3) (some (vi v5), (S0, m4)) ∧
      ((5 ≤ (jdiv x3 6) →
        K 83 [(0, vr 0), (1, vi x1), (2, vi x2), (3, vi x3), (4, vi x4)] [vi 0] (S0, mupd m4 39 0 v5)) ∧ (¬ (5 ≤ (jdiv x3 6)) →
        (∃ v7 m6, cal 100 [vr 0, vi x1, vi (w32 (x3 + 6)), vi 1] (S0, mupd m4 39 0 v5) (some (vi v7), (S0, m6)) ∧
        ((v7 = 0 →
          K 83 [(0, vr 0), (1, vi x1), (2, vi x2), (3, vi x3), (4, vi x4)] [vi 0] (S0, m6)) ∧ (¬ (v7 = 0) →
          K 83 [(0, vr 0), (1, vi x1), (2, vi x2), (3, vi x3), (4, vi x4)] [vi 1] (S0, m6)))))))))))))) :
  K 16 [(0, vr 0), (1, vi x1), (2, vi x2), (3, vi x3), (4, vi x4)] [] (S0, M) := by
  exact mQ hK [82, 110, 120, 126, 132] 6 2 16 b_L_holdsByTwo_16 rfl _ _ _ h
set_option maxRecDepth 40000 in
theorem q_L_holdsByTwo_83 {cal : mCal} {lim : Nat × Nat} {scr : Nat × (Nat → Int)} {ret : Option mVal → mHp → Prop} {K : Nat → mLV → List mVal → mHp → Prop} (hK : mClo m_L_holdsByTwo cal lim scr ret K) (x1 : Int) (x2 : Int) (x3 : Int) (x4 : Int) (s0 : Int) (M : mMem) (h :
  ((s0 ≠ 0 →
    ret (some (vi 1)) (S0, M)) ∧ (¬ (s0 ≠ 0) →
    ((5 ≤ (jrem x3 6) →
      K 112 [(0, vr 0), (1, vi x1), (2, vi x2), (3, vi x3), (4, vi x4)] [] (S0, M)) ∧ (¬ (5 ≤ (jrem x3 6)) →
      (∃ v2 m1, cal 100 [vr 0, vi x1, vi (w32 (x3 + 1)), vi 1] (S0, M) (some (vi v2), (S0, m1)) ∧
      ((v2 = 0 →
        K 112 [(0, vr 0), (1, vi x1), (2, vi x2), (3, vi x3), (4, vi x4)] [] (S0, m1)) ∧ (¬ (v2 = 0) →
        ret (some (vi 1)) (S0, m1))))))))) :
  K 83 [(0, vr 0), (1, vi x1), (2, vi x2), (3, vi x3), (4, vi x4)] [vi s0] (S0, M) := by
  exact mQ hK [82, 110, 120, 126, 132] 6 4 83 b_L_holdsByTwo_83 rfl _ _ _ h
set_option maxRecDepth 40000 in
theorem q_L_holdsByTwo_112 {cal : mCal} {lim : Nat × Nat} {scr : Nat × (Nat → Int)} {ret : Option mVal → mHp → Prop} {K : Nat → mLV → List mVal → mHp → Prop} (hK : mClo m_L_holdsByTwo cal lim scr ret K) (x1 : Int) (x2 : Int) (x3 : Int) (x4 : Int) (M : mMem) (h :
  (∃ m1, cal 7 [vr 9, vi x3] (S0, M) (none, (S0, m1)) ∧
  K 16 [(0, vr 0), (1, vi x1), (2, vi x2), (3, vi x3), (4, vi (w32 (x4 + 1)))] [] (S0, m1))) :
  K 112 [(0, vr 0), (1, vi x1), (2, vi x2), (3, vi x3), (4, vi x4)] [] (S0, M) := by
  exact mQ hK [82, 110, 120, 126, 132] 6 6 112 b_L_holdsByTwo_112 rfl _ _ _ h
set_option maxRecDepth 40000 in
theorem q_L_holdsByStitchAt_0 {cal : mCal} {lim : Nat × Nat} {scr : Nat × (Nat → Int)} {ret : Option mVal → mHp → Prop} {K : Nat → mLV → List mVal → mHp → Prop} (hK : mClo m_L_holdsByStitchAt cal lim scr ret K) (x1 : Int) (x2 : Int) (x3 : Int) (M : mMem) (h :
  K 3 [(0, vr 0), (1, vi x1), (2, vi x2), (3, vi x3), (4, vi 1)] [] (S0, M)) :
  K 0 [(0, vr 0), (1, vi x1), (2, vi x2), (3, vi x3)] [] (S0, M) := by
  exact mQ hK [47, 78, 84] 4 0 0 b_L_holdsByStitchAt_0 rfl _ _ _ h
set_option maxRecDepth 40000 in
theorem q_L_holdsByStitchAt_3 {cal : mCal} {lim : Nat × Nat} {scr : Nat × (Nat → Int)} {ret : Option mVal → mHp → Prop} {K : Nat → mLV → List mVal → mHp → Prop} (hK : mClo m_L_holdsByStitchAt cal lim scr ret K) (x1 : Int) (x2 : Int) (x3 : Int) (x4 : Int) (M : mMem) (h :
  ((3 < x4 →
    ret (some (vi 0)) (S0, M)) ∧ (¬ (3 < x4) →
    (∃ v2 m1, cal 5 [vr 9, vi x2, vi x4] (S0, M) (some (vi v2), (S0, m1)) ∧
    ((v2 = 0 →
      K 3 [(0, vr 0), (1, vi x1), (2, vi x2), (3, vi x3), (4, vi (w32 (x4 + 1)))] [] (S0, m1)) ∧ (¬ (v2 = 0) →
      (∃ m3, cal 3 [vr 9, vi x2, vi x4] (S0, m1) (none, (S0, m3)) ∧
      (∃ v5 m4, cal 10 [vr 9, vi x1] (S0, m3) (some (vi v5), (S0, m4)) ∧
      ((v5 ≤ 0 →
        K 48 [(0, vr 0), (1, vi x1), (2, vi x2), (3, vi x3), (4, vi x4)] [vi 0] (S0, m4)) ∧ (¬ (v5 ≤ 0) →
        K 48 [(0, vr 0), (1, vi x1), (2, vi x2), (3, vi x3), (4, vi x4)] [vi 1] (S0, m4))))))))))) :
  K 3 [(0, vr 0), (1, vi x1), (2, vi x2), (3, vi x3), (4, vi x4)] [] (S0, M) := by
  exact mQ hK [47, 78, 84] 4 1 3 b_L_holdsByStitchAt_3 rfl _ _ _ h
set_option maxRecDepth 40000 in
theorem q_L_holdsByStitchAt_48 {cal : mCal} {lim : Nat × Nat} {scr : Nat × (Nat → Int)} {ret : Option mVal → mHp → Prop} {K : Nat → mLV → List mVal → mHp → Prop} (hK : mClo m_L_holdsByStitchAt cal lim scr ret K) (x1 : Int) (x2 : Int) (x3 : Int) (x4 : Int) (s0 : Int) (M : mMem) (h :
  (∃ m1, cal 3 [vr 9, vi x2, vi 0] (S0, M) (none, (S0, m1)) ∧
  ((s0 = 0 →
    K 3 [(0, vr 0), (1, vi x1), (2, vi x2), (3, vi x3), (4, vi (w32 (x4 + 1)))] [] (S0, m1)) ∧ (¬ (s0 = 0) →
    (∃ v3 m2, cal 95 [vi x2, vi x4] (S0, m1) (some (vi v3), (S0, m2)) ∧
    mIn x3 2 (ret (some (vi 1)) (S0, mupd m2 39 x3 v3))))))) :
  K 48 [(0, vr 0), (1, vi x1), (2, vi x2), (3, vi x3), (4, vi x4)] [vi s0] (S0, M) := by
  exact mQ hK [47, 78, 84] 4 3 48 b_L_holdsByStitchAt_48 rfl _ _ _ h
set_option maxRecDepth 40000 in
theorem q_L_placeByRows_0 {cal : mCal} {lim : Nat × Nat} {scr : Nat × (Nat → Int)} {ret : Option mVal → mHp → Prop} {K : Nat → mLV → List mVal → mHp → Prop} (hK : mClo m_L_placeByRows cal lim scr ret K) (x0 : Int) (M : mMem) (h :
  (∃ v2 m1, cal 94 [vi (jrem x0 6), vi (jdiv x0 6)] (S0, M) (some (vi v2), (S0, m1)) ∧
  ret (some (vi v2)) (S0, m1))) :
  K 0 [(0, vi x0)] [] (S0, M) := by
  exact mQ hK [] 1 0 0 b_L_placeByRows_0 rfl _ _ _ h
set_option maxRecDepth 40000 in
theorem q_L_workFrom_0 {cal : mCal} {lim : Nat × Nat} {scr : Nat × (Nat → Int)} {ret : Option mVal → mHp → Prop} {K : Nat → mLV → List mVal → mHp → Prop} (hK : mClo m_L_workFrom cal lim scr ret K) (c1 : Nat) (x2 : Int) (M : mMem) (hc1 : c1 = 45 ∨ c1 = 47 ∨ c1 = 49 ∨ c1 = 51) (h :
  mIn x2 40 (mIn (w32 (x2 + 1)) 40 (mIn (w32 (x2 + 2)) 40 ((∃ v2 m1, cal 87 [vi (M (c1 + 1) x2), vi (M (c1 + 1) (w32 (x2 + 1)))] (S0, M) (some (vi v2), (S0, m1)) ∧
  ((v2 = 0 →
    ret (some (vi 0)) (S0, m1)) ∧ (¬ (v2 = 0) →
    (∃ v4 m3, cal 88 [vi (M (c1 + 1) (w32 (x2 + 2)))] (S0, m1) (some (vi v4), (S0, m3)) ∧
    ((v4 = 0 →
      ret (some (vi 0)) (S0, m3)) ∧ (¬ (v4 = 0) →
      (∃ v6 m5, cal 94 [vi (M (c1 + 1) x2), vi (M (c1 + 1) (w32 (x2 + 1)))] (S0, m3) (some (vi v6), (S0, m5)) ∧
      (∃ v8 m7, cal 5 [vr 9, vi v6, vi (M (c1 + 1) (w32 (x2 + 2)))] (S0, m5) (some (vi v8), (S0, m7)) ∧
      ((v8 ≠ 0 →
        (∃ v10 m9, cal 94 [vi (M (c1 + 1) x2), vi (M (c1 + 1) (w32 (x2 + 1)))] (S0, m7) (some (vi v10), (S0, m9)) ∧
        (∃ m11, cal 6 [vr 9, vi v10, vi (M (c1 + 1) (w32 (x2 + 2)))] (S0, m9) (none, (S0, m11)) ∧
        ret (some (vi 1)) (S0, m11)))) ∧ (¬ (v8 ≠ 0) →
        ret (some (vi 0)) (S0, m7))))))))))))))) :
  K 0 [(0, vr 0), (1, vr c1), (2, vi x2)] [] (S0, M) := by
  rcases hc1 with rfl | rfl | rfl | rfl <;> exact mQ hK [62, 64] 3 0 0 b_L_workFrom_0 rfl _ _ _ h
set_option maxRecDepth 40000 in
theorem q_L_driftOnce_0 {cal : mCal} {lim : Nat × Nat} {scr : Nat × (Nat → Int)} {ret : Option mVal → mHp → Prop} {K : Nat → mLV → List mVal → mHp → Prop} (hK : mClo m_L_driftOnce cal lim scr ret K) (x1 : Int) (M : mMem) (h :
  mIn (jrem x1 36) 36 ((((M 10 (jrem x1 36)) ≠ 4 →
    (((M 10 (jrem x1 36)) = 0 →
      (∃ v2 m1, cal 5 [vr 9, vi (jrem x1 36), vi (w32 (1 + (jrem (jdiv x1 64) 3)))] (S0, M) (some (vi v2), (S0, m1)) ∧
      ((v2 = 0 →
        ret none (S0, m1)) ∧ (¬ (v2 = 0) →
        (∃ m3, cal 6 [vr 9, vi (jrem x1 36), vi (w32 (1 + (jrem (jdiv x1 64) 3)))] (S0, m1) (none, (S0, m3)) ∧
        ret none (S0, m3)))))) ∧ (¬ ((M 10 (jrem x1 36)) = 0) →
      (∃ m4, cal 3 [vr 9, vi (jrem x1 36), vi 4] (S0, M) (none, (S0, m4)) ∧
      ret none (S0, m4))))) ∧ (¬ ((M 10 (jrem x1 36)) ≠ 4) →
    (∃ m5, cal 3 [vr 9, vi (jrem x1 36), vi 0] (S0, M) (none, (S0, m5)) ∧
    ret none (S0, m5)))))) :
  K 0 [(0, vr 0), (1, vi x1)] [] (S0, M) := by
  exact mQ hK [32, 48, 81] 4 0 0 b_L_driftOnce_0 rfl _ _ _ h
set_option maxRecDepth 40000 in
theorem q_L_gatherRunners_0 {cal : mCal} {lim : Nat × Nat} {scr : Nat × (Nat → Int)} {ret : Option mVal → mHp → Prop} {K : Nat → mLV → List mVal → mHp → Prop} (hK : mClo m_L_gatherRunners cal lim scr ret K)  (M : mMem) (h :
  (∃ v2 m1, cal 17 [vr 1] (S0, M) (some (vi v2), (S0, m1)) ∧
  ((v2 ≤ 8 →
    (∃ m3, cal 2 [vr 9, vr 1] (S0, m1) (none, (S0, m3)) ∧
    K 32 [(0, vr 0), (1, vi 0)] [] (S0, mupd m3 0 15 0))) ∧ (¬ (v2 ≤ 8) →
    ret (some (vi 0)) (S0, m1))))) :
  K 0 [(0, vr 0)] [] (S0, M) := by
  exact mQ hK [14, 78, 84] 4 0 0 b_L_gatherRunners_0 rfl _ _ _ h
set_option maxRecDepth 40000 in
theorem q_L_gatherRunners_32 {cal : mCal} {lim : Nat × Nat} {scr : Nat × (Nat → Int)} {ret : Option mVal → mHp → Prop} {K : Nat → mLV → List mVal → mHp → Prop} (hK : mClo m_L_gatherRunners cal lim scr ret K) (x1 : Int) (M : mMem) (h :
  ((36 ≤ x1 →
    ret (some (vi 1)) (S0, M)) ∧ (¬ (36 ≤ x1) →
    (∃ v2 m1, cal 16 [vr 1, vi x1] (S0, M) (some (vi v2), (S0, m1)) ∧
    ((v2 = 0 →
      K 32 [(0, vr 0), (1, vi (w32 (x1 + 1)))] [] (S0, m1)) ∧ (¬ (v2 = 0) →
      ((8 ≤ (m1 0 15) →
        K 32 [(0, vr 0), (1, vi (w32 (x1 + 1)))] [] (S0, m1)) ∧ (¬ (8 ≤ (m1 0 15)) →
        mIn (m1 0 15) 8 (K 32 [(0, vr 0), (1, vi (w32 (x1 + 1)))] [] (S0, mupd (mupd m1 44 (m1 0 15) x1) 0 15 (w32 (((mupd m1 44 (m1 0 15) x1) 0 15) + 1)))))))))))) :
  K 32 [(0, vr 0), (1, vi x1)] [] (S0, M) := by
  exact mQ hK [14, 78, 84] 4 2 32 b_L_gatherRunners_32 rfl _ _ _ h
set_option maxRecDepth 40000 in
theorem q_L_letRun_0 {cal : mCal} {lim : Nat × Nat} {scr : Nat × (Nat → Int)} {ret : Option mVal → mHp → Prop} {K : Nat → mLV → List mVal → mHp → Prop} (hK : mClo m_L_letRun cal lim scr ret K) (x1 : Int) (M : mMem) (h :
  K 2 [(0, vr 0), (1, vi x1), (2, vi 0)] [] (S0, M)) :
  K 0 [(0, vr 0), (1, vi x1)] [] (S0, M) := by
  exact mQ hK [36, 37, 46] 4 0 0 b_L_letRun_0 rfl _ _ _ h
set_option maxRecDepth 40000 in
theorem q_L_letRun_2 {cal : mCal} {lim : Nat × Nat} {scr : Nat × (Nat → Int)} {ret : Option mVal → mHp → Prop} {K : Nat → mLV → List mVal → mHp → Prop} (hK : mClo m_L_letRun cal lim scr ret K) (x1 : Int) (x2 : Int) (M : mMem) (h :
  (((M 0 15) ≤ x2 →
    ret none (S0, M)) ∧ (¬ ((M 0 15) ≤ x2) →
    mIn x2 8 ((((jand (jshr x1 x2) 1) ≠ 1 →
      (∃ m1, cal 3 [vr 9, vi (w32 ((M 44 x2) + 6)), vi 0] (S0, M) (none, (S0, m1)) ∧
      K 2 [(0, vr 0), (1, vi x1), (2, vi (w32 (x2 + 1)))] [] (S0, m1))) ∧ (¬ ((jand (jshr x1 x2) 1) ≠ 1) →
      (∃ m2, cal 3 [vr 9, vi (w32 ((M 44 x2) + 6)), vi 1] (S0, M) (none, (S0, m2)) ∧
      K 2 [(0, vr 0), (1, vi x1), (2, vi (w32 (x2 + 1)))] [] (S0, m2)))))))) :
  K 2 [(0, vr 0), (1, vi x1), (2, vi x2)] [] (S0, M) := by
  exact mQ hK [36, 37, 46] 4 1 2 b_L_letRun_2 rfl _ _ _ h
set_option maxRecDepth 40000 in
theorem q_L_weight_0 {cal : mCal} {lim : Nat × Nat} {scr : Nat × (Nat → Int)} {ret : Option mVal → mHp → Prop} {K : Nat → mLV → List mVal → mHp → Prop} (hK : mClo m_L_weight cal lim scr ret K) (x1 : Int) (x2 : Int) (M : mMem) (h :
  K 5 [(0, vr 0), (1, vi x1), (2, vi x2), (3, vl (1 : Nat)), (5, vi 0)] [] (S0, M)) :
  K 0 [(0, vr 0), (1, vi x1), (2, vi x2)] [] (S0, M) := by
  exact mQ hK [30, 35, 43] 4 0 0 b_L_weight_0 rfl _ _ _ h
set_option maxRecDepth 40000 in
theorem q_L_weight_5 {cal : mCal} {lim : Nat × Nat} {scr : Nat × (Nat → Int)} {ret : Option mVal → mHp → Prop} {K : Nat → mLV → List mVal → mHp → Prop} (hK : mClo m_L_weight cal lim scr ret K) (x1 : Int) (x2 : Int) (y3 : Int) (x5 : Int) (M : mMem) (h :
  (((M 0 15) ≤ x5 →
    ret (some (vl y3)) (S0, M)) ∧ (¬ ((M 0 15) ≤ x5) →
    (((jand (jshr x1 x5) 1) ≠ 1 →
      K 5 [(0, vr 0), (1, vi x1), (2, vi x2), (3, vl (w64 (y3 * (w32 (10 - x2))))), (5, vi (w32 (x5 + 1)))] [] (S0, M)) ∧ (¬ ((jand (jshr x1 x5) 1) ≠ 1) →
      K 5 [(0, vr 0), (1, vi x1), (2, vi x2), (3, vl (w64 (y3 * x2))), (5, vi (w32 (x5 + 1)))] [] (S0, M)))))) :
  K 5 [(0, vr 0), (1, vi x1), (2, vi x2), (3, vl y3), (5, vi x5)] [] (S0, M) := by
  exact mQ hK [30, 35, 43] 4 1 5 b_L_weight_5 rfl _ _ _ h
set_option maxRecDepth 40000 in
theorem q_L_fractionPart_0 {cal : mCal} {lim : Nat × Nat} {scr : Nat × (Nat → Int)} {ret : Option mVal → mHp → Prop} {K : Nat → mLV → List mVal → mHp → Prop} (hK : mClo m_L_fractionPart cal lim scr ret K) (y1 : Int) (x3 : Int) (M : mMem) (h :
  K 6 [(0, vr 0), (1, vl y1), (3, vi x3), (4, vl (1 : Nat)), (6, vi 0)] [] (S0, M)) :
  K 0 [(0, vr 0), (1, vl y1), (3, vi x3)] [] (S0, M) := by
  exact mQ hK [29, 45, 47] 4 0 0 b_L_fractionPart_0 rfl _ _ _ h
set_option maxRecDepth 40000 in
theorem q_L_fractionPart_6 {cal : mCal} {lim : Nat × Nat} {scr : Nat × (Nat → Int)} {ret : Option mVal → mHp → Prop} {K : Nat → mLV → List mVal → mHp → Prop} (hK : mClo m_L_fractionPart cal lim scr ret K) (y1 : Int) (x3 : Int) (y4 : Int) (x6 : Int) (M : mMem) (h :
  (((M 0 15) ≤ x6 →
    (∃ v2 m1, cal 108 [vl y1, vl y4] (S0, M) (some (vl v2), (S0, m1)) ∧
    ((x3 ≠ 0 →
      (v2 ≠ 0 ∧ ret (some (vl (jldiv y4 v2))) (S0, m1))) ∧ (¬ (x3 ≠ 0) →
      (v2 ≠ 0 ∧ ret (some (vl (jldiv y1 v2))) (S0, m1)))))) ∧ (¬ ((M 0 15) ≤ x6) →
    K 6 [(0, vr 0), (1, vl y1), (3, vi x3), (4, vl (w64 (y4 * 10))), (6, vi (w32 (x6 + 1)))] [] (S0, M)))) :
  K 6 [(0, vr 0), (1, vl y1), (3, vi x3), (4, vl y4), (6, vi x6)] [] (S0, M) := by
  exact mQ hK [29, 45, 47] 4 1 6 b_L_fractionPart_6 rfl _ _ _ h
set_option maxRecDepth 40000 in
theorem q_L_greatestDivisor_0 {cal : mCal} {lim : Nat × Nat} {scr : Nat × (Nat → Int)} {ret : Option mVal → mHp → Prop} {K : Nat → mLV → List mVal → mHp → Prop} (hK : mClo m_L_greatestDivisor cal lim scr ret K) (y0 : Int) (y2 : Int) (M : mMem) (h :
  K 9 [(4, vl y2), (6, vl y0), (8, vi 0)] [] (S0, M)) :
  K 0 [(0, vl y0), (2, vl y2)] [] (S0, M) := by
  exact mQ hK [45] 2 0 0 b_L_greatestDivisor_0 rfl _ _ _ h
set_option maxRecDepth 40000 in
theorem q_L_greatestDivisor_9 {cal : mCal} {lim : Nat × Nat} {scr : Nat × (Nat → Int)} {ret : Option mVal → mHp → Prop} {K : Nat → mLV → List mVal → mHp → Prop} (hK : mClo m_L_greatestDivisor cal lim scr ret K) (y4 : Int) (y6 : Int) (x8 : Int) (M : mMem) (h :
  ((200 ≤ x8 →
    ret (some (vl (if y4 ≤ (1 : Nat) then (1 : Nat) else y4))) (S0, M)) ∧ (¬ (200 ≤ x8) →
    (((jlcmp y6 (0 : Nat)) ≤ 0 →
      ret (some (vl (if y4 ≤ (1 : Nat) then (1 : Nat) else y4))) (S0, M)) ∧ (¬ ((jlcmp y6 (0 : Nat)) ≤ 0) →
      (y6 ≠ 0 ∧ K 9 [(4, vl y6), (6, vl (jlrem y4 y6)), (8, vi (w32 (x8 + 1)))] [] (S0, M))))))) :
  K 9 [(4, vl y4), (6, vl y6), (8, vi x8)] [] (S0, M) := by
  exact mQ hK [45] 2 1 9 b_L_greatestDivisor_9 rfl _ _ _ h
set_option maxRecDepth 40000 in
theorem q_L_gatherHoles_0 {cal : mCal} {lim : Nat × Nat} {scr : Nat × (Nat → Int)} {ret : Option mVal → mHp → Prop} {K : Nat → mLV → List mVal → mHp → Prop} (hK : mClo m_L_gatherHoles cal lim scr ret K)  (M : mMem) (h :
  (∃ v2 m1, cal 15 [vr 1, vi 4] (S0, M) (some (vi v2), (S0, m1)) ∧
  ((v2 ≤ 4 →
    (∃ m3, cal 2 [vr 9, vr 1] (S0, m1) (none, (S0, m3)) ∧
    K 32 [(0, vr 0), (1, vi 0)] [] (S0, mupd m3 0 14 0))) ∧ (¬ (v2 ≤ 4) →
    ret (some (vi 0)) (S0, m1))))) :
  K 0 [(0, vr 0)] [] (S0, M) := by
  exact mQ hK [14, 79, 85] 4 0 0 b_L_gatherHoles_0 rfl _ _ _ h
set_option maxRecDepth 40000 in
theorem q_L_gatherHoles_32 {cal : mCal} {lim : Nat × Nat} {scr : Nat × (Nat → Int)} {ret : Option mVal → mHp → Prop} {K : Nat → mLV → List mVal → mHp → Prop} (hK : mClo m_L_gatherHoles cal lim scr ret K) (x1 : Int) (M : mMem) (h :
  ((36 ≤ x1 →
    ret (some (vi 1)) (S0, M)) ∧ (¬ (36 ≤ x1) →
    mIn x1 36 ((((M 2 x1) ≠ 4 →
      K 32 [(0, vr 0), (1, vi (w32 (x1 + 1)))] [] (S0, M)) ∧ (¬ ((M 2 x1) ≠ 4) →
      ((4 ≤ (M 0 14) →
        K 32 [(0, vr 0), (1, vi (w32 (x1 + 1)))] [] (S0, M)) ∧ (¬ (4 ≤ (M 0 14)) →
        mIn (M 0 14) 4 (K 32 [(0, vr 0), (1, vi (w32 (x1 + 1)))] [] (S0, mupd (mupd M 42 (M 0 14) x1) 0 14 (w32 (((mupd M 42 (M 0 14) x1) 0 14) + 1)))))))))))) :
  K 32 [(0, vr 0), (1, vi x1)] [] (S0, M) := by
  exact mQ hK [14, 79, 85] 4 2 32 b_L_gatherHoles_32 rfl _ _ _ h
set_option maxRecDepth 40000 in
theorem q_L_fillCount_0 {cal : mCal} {lim : Nat × Nat} {scr : Nat × (Nat → Int)} {ret : Option mVal → mHp → Prop} {K : Nat → mLV → List mVal → mHp → Prop} (hK : mClo m_L_fillCount cal lim scr ret K)  (M : mMem) (h :
  ret (some (vi (jshl 1 (w32 (2 * (M 0 14)))))) (S0, M)) :
  K 0 [(0, vr 0)] [] (S0, M) := by
  exact mQ hK [] 1 0 0 b_L_fillCount_0 rfl _ _ _ h
set_option maxRecDepth 40000 in
theorem q_L_fits_0 {cal : mCal} {lim : Nat × Nat} {scr : Nat × (Nat → Int)} {ret : Option mVal → mHp → Prop} {K : Nat → mLV → List mVal → mHp → Prop} (hK : mClo m_L_fits cal lim scr ret K) (x1 : Int) (M : mMem) (h :
  K 2 [(0, vr 0), (1, vi x1), (2, vi 0)] [] (S0, M)) :
  K 0 [(0, vr 0), (1, vi x1)] [] (S0, M) := by
  exact mQ hK [36, 84, 86, 92] 5 0 0 b_L_fits_0 rfl _ _ _ h
set_option maxRecDepth 40000 in
theorem q_L_fits_2 {cal : mCal} {lim : Nat × Nat} {scr : Nat × (Nat → Int)} {ret : Option mVal → mHp → Prop} {K : Nat → mLV → List mVal → mHp → Prop} (hK : mClo m_L_fits cal lim scr ret K) (x1 : Int) (x2 : Int) (M : mMem) (h :
  (((M 0 14) ≤ x2 →
    K 38 [(0, vr 0), (2, vi 0)] [] (S0, M)) ∧ (¬ ((M 0 14) ≤ x2) →
    mIn x2 4 ((∃ m1, cal 3 [vr 9, vi (M 42 x2), vi (jand (jshr x1 (w32 (2 * x2))) 3)] (S0, M) (none, (S0, m1)) ∧
    K 2 [(0, vr 0), (1, vi x1), (2, vi (w32 (x2 + 1)))] [] (S0, m1)))))) :
  K 2 [(0, vr 0), (1, vi x1), (2, vi x2)] [] (S0, M) := by
  exact mQ hK [36, 84, 86, 92] 5 1 2 b_L_fits_2 rfl _ _ _ h
set_option maxRecDepth 40000 in
theorem q_L_fits_38 {cal : mCal} {lim : Nat × Nat} {scr : Nat × (Nat → Int)} {ret : Option mVal → mHp → Prop} {K : Nat → mLV → List mVal → mHp → Prop} (hK : mClo m_L_fits cal lim scr ret K) (x2 : Int) (M : mMem) (h :
  (((M 0 13) ≤ x2 →
    ret (some (vi 1)) (S0, M)) ∧ (¬ ((M 0 13) ≤ x2) →
    mIn x2 6 ((((M 9 5) ≤ (M 40 x2) →
      ret (some (vi 0)) (S0, M)) ∧ (¬ ((M 9 5) ≤ (M 40 x2)) →
      mIn x2 6 ((∃ v2 m1, cal 10 [vr 9, vi (M 40 x2)] (S0, M) (some (vi v2), (S0, m1)) ∧
      mIn x2 6 (((v2 = (m1 41 x2) →
        K 38 [(0, vr 0), (2, vi (w32 (x2 + 1)))] [] (S0, m1)) ∧ (¬ (v2 = (m1 41 x2)) →
        ret (some (vi 0)) (S0, m1)))))))))))) :
  K 38 [(0, vr 0), (2, vi x2)] [] (S0, M) := by
  exact mQ hK [36, 84, 86, 92] 5 3 38 b_L_fits_38 rfl _ _ _ h
set_option maxRecDepth 40000 in
theorem q_L_groupByReads_0 {cal : mCal} {lim : Nat × Nat} {scr : Nat × (Nat → Int)} {ret : Option mVal → mHp → Prop} {K : Nat → mLV → List mVal → mHp → Prop} (hK : mClo m_L_groupByReads cal lim scr ret K)  (M : mMem) (h :
  (∃ m1, cal 190 [vr 43, vi 0] (S0, M) (none, (S0, m1)) ∧
  (∃ v3 m2, cal 110 [vr 0] (S0, m1) (some (vi v3), (S0, m2)) ∧
  K 17 [(0, vr 0), (1, vi 0), (2, vi v3), (3, vi 0)] [] (S0, m2)))) :
  K 0 [(0, vr 0)] [] (S0, M) := by
  exact mQ hK [78, 84] 3 0 0 b_L_groupByReads_0 rfl _ _ _ h
set_option maxRecDepth 40000 in
theorem q_L_groupByReads_17 {cal : mCal} {lim : Nat × Nat} {scr : Nat × (Nat → Int)} {ret : Option mVal → mHp → Prop} {K : Nat → mLV → List mVal → mHp → Prop} (hK : mClo m_L_groupByReads cal lim scr ret K) (x1 : Int) (x2 : Int) (x3 : Int) (M : mMem) (h :
  ((x2 ≤ x3 →
    ret (some (vi x1)) (S0, M)) ∧ (¬ (x2 ≤ x3) →
    (∃ v2 m1, cal 111 [vr 0, vi x3] (S0, M) (some (vi v2), (S0, m1)) ∧
    ((v2 = 0 →
      K 17 [(0, vr 0), (1, vi x1), (2, vi x2), (3, vi (w32 (x3 + 1)))] [] (S0, m1)) ∧ (¬ (v2 = 0) →
      K 36 [(0, vr 0), (1, vi (w32 (x1 + 1))), (2, vi x2), (3, vi x3), (4, vi 0)] [] (S0, m1))))))) :
  K 17 [(0, vr 0), (1, vi x1), (2, vi x2), (3, vi x3)] [] (S0, M) := by
  exact mQ hK [78, 84] 3 1 17 b_L_groupByReads_17 rfl _ _ _ h
set_option maxRecDepth 40000 in
theorem q_L_groupByReads_36 {cal : mCal} {lim : Nat × Nat} {scr : Nat × (Nat → Int)} {ret : Option mVal → mHp → Prop} {K : Nat → mLV → List mVal → mHp → Prop} (hK : mClo m_L_groupByReads cal lim scr ret K) (x1 : Int) (x2 : Int) (x3 : Int) (x4 : Int) (M : mMem) (h :
  (((M 9 5) ≤ x4 →
    K 17 [(0, vr 0), (1, vi x1), (2, vi x2), (3, vi (w32 (x3 + 1)))] [] (S0, M)) ∧ (¬ ((M 9 5) ≤ x4) →
    (∃ v2 m1, cal 10 [vr 9, vi x4] (S0, M) (some (vi v2), (S0, m1)) ∧
    mIn (w32 ((w32 (x4 * 61)) + v2)) 305 (mIn (w32 ((w32 (x4 * 61)) + v2)) 305 (K 36 [(0, vr 0), (1, vi x1), (2, vi x2), (3, vi x3), (4, vi (w32 (x4 + 1)))] [] (S0, mupd m1 43 (w32 ((w32 (x4 * 61)) + v2)) (w32 ((m1 43 (w32 ((w32 (x4 * 61)) + v2))) + 1))))))))) :
  K 36 [(0, vr 0), (1, vi x1), (2, vi x2), (3, vi x3), (4, vi x4)] [] (S0, M) := by
  exact mQ hK [78, 84] 3 2 36 b_L_groupByReads_36 rfl _ _ _ h
set_option maxRecDepth 40000 in
theorem q_L_largestGroup_0 {cal : mCal} {lim : Nat × Nat} {scr : Nat × (Nat → Int)} {ret : Option mVal → mHp → Prop} {K : Nat → mLV → List mVal → mHp → Prop} (hK : mClo m_L_largestGroup cal lim scr ret K) (x1 : Int) (M : mMem) (h :
  K 4 [(0, vr 0), (1, vi x1), (2, vi 0), (3, vi 0)] [] (S0, M)) :
  K 0 [(0, vr 0), (1, vi x1)] [] (S0, M) := by
  exact mQ hK [32] 2 0 0 b_L_largestGroup_0 rfl _ _ _ h
set_option maxRecDepth 40000 in
theorem q_L_largestGroup_4 {cal : mCal} {lim : Nat × Nat} {scr : Nat × (Nat → Int)} {ret : Option mVal → mHp → Prop} {K : Nat → mLV → List mVal → mHp → Prop} (hK : mClo m_L_largestGroup cal lim scr ret K) (x1 : Int) (x2 : Int) (x3 : Int) (M : mMem) (h :
  ((60 < x3 →
    ret (some (vi x2)) (S0, M)) ∧ (¬ (60 < x3) →
    mIn (w32 ((w32 (x1 * 61)) + x3)) 305 (K 4 [(0, vr 0), (1, vi x1), (2, vi (if x2 ≤ (M 43 (w32 ((w32 (x1 * 61)) + x3))) then M 43 (w32 ((w32 (x1 * 61)) + x3)) else x2)), (3, vi (w32 (x3 + 1)))] [] (S0, M))))) :
  K 4 [(0, vr 0), (1, vi x1), (2, vi x2), (3, vi x3)] [] (S0, M) := by
  exact mQ hK [32] 2 1 4 b_L_largestGroup_4 rfl _ _ _ h
end
section
set_option maxRecDepth 40000 in
theorem q_M_in_0 {cal : mCal} {lim : Nat × Nat} {scr : Nat × (Nat → Int)} {ret : Option mVal → mHp → Prop} {K : Nat → mLV → List mVal → mHp → Prop} (hK : mClo m_M_in cal lim scr ret K) (y0 : Int) (y2 : Int) (y4 : Int) (M : mMem) (h :
  (((jlcmp y0 y2) < 0 →
    ret (some (vi 0)) (S0, M)) ∧ (¬ ((jlcmp y0 y2) < 0) →
    ((0 < (jlcmp y0 y4) →
      ret (some (vi 0)) (S0, M)) ∧ (¬ (0 < (jlcmp y0 y4)) →
      ret (some (vi 1)) (S0, M)))))) :
  K 0 [(0, vl y0), (2, vl y2), (4, vl y4)] [] (S0, M) := by
  exact mQ hK [17, 18] 3 0 0 b_M_in_0 rfl _ _ _ h
set_option maxRecDepth 40000 in
theorem q_M_feed_0 {cal : mCal} {lim : Nat × Nat} {scr : Nat × (Nat → Int)} {ret : Option mVal → mHp → Prop} {K : Nat → mLV → List mVal → mHp → Prop} (hK : mClo m_M_feed cal lim scr ret K) (x1 : Int) (M : mMem) (h :
  (∃ v2 m1, cal 115 [vl x1, vl (0 : Nat), vl 127] (S0, M) (some (vi v2), (S0, m1)) ∧
  ((v2 ≠ 0 →
    (((m1 53 5) ≠ 160 →
      mIn (m1 53 5) 160 (ret (some (vi ((mupd (mupd m1 56 (m1 53 5) x1) 53 5 (w32 (((mupd m1 56 (m1 53 5) x1) 53 5) + 1))) 53 5))) (S0, mupd (mupd m1 56 (m1 53 5) x1) 53 5 (w32 (((mupd m1 56 (m1 53 5) x1) 53 5) + 1))))) ∧ (¬ ((m1 53 5) ≠ 160) →
      ret (some (vi (-3))) (S0, m1)))) ∧ (¬ (v2 ≠ 0) →
    ret (some (vi (-1))) (S0, m1))))) :
  K 0 [(0, vr 53), (1, vi x1)] [] (S0, M) := by
  exact mQ hK [14, 27] 3 0 0 b_M_feed_0 rfl _ _ _ h
set_option maxRecDepth 40000 in
theorem q_M_end_0 {cal : mCal} {lim : Nat × Nat} {scr : Nat × (Nat → Int)} {ret : Option mVal → mHp → Prop} {K : Nat → mLV → List mVal → mHp → Prop} (hK : mClo m_M_end cal lim scr ret K) (x1 : Int) (M : mMem) (h :
  (∃ v2 m1, cal 115 [vl x1, vl (0 : Nat), vl (M 53 5)] (S0, M) (some (vi v2), (S0, m1)) ∧
  ((v2 ≠ 0 →
    ret (some (vi (m1 53 5))) (S0, mupd m1 53 5 x1)) ∧ (¬ (v2 ≠ 0) →
    ret (some (vi (-1))) (S0, m1))))) :
  K 0 [(0, vr 53), (1, vi x1)] [] (S0, M) := by
  exact mQ hK [16] 2 0 0 b_M_end_0 rfl _ _ _ h
set_option maxRecDepth 40000 in
theorem q_M_byteAt_0 {cal : mCal} {lim : Nat × Nat} {scr : Nat × (Nat → Int)} {ret : Option mVal → mHp → Prop} {K : Nat → mLV → List mVal → mHp → Prop} (hK : mClo m_M_byteAt cal lim scr ret K) (x1 : Int) (M : mMem) (h :
  (((M 53 5) ≤ x1 →
    ret (some (vi (-4))) (S0, M)) ∧ (¬ ((M 53 5) ≤ x1) →
    mIn x1 160 (ret (some (vi (M 56 x1))) (S0, M))))) :
  K 0 [(0, vr 53), (1, vi x1)] [] (S0, M) := by
  exact mQ hK [17, 19] 3 0 0 b_M_byteAt_0 rfl _ _ _ h
set_option maxRecDepth 40000 in
theorem q_M_fails_0 {cal : mCal} {lim : Nat × Nat} {scr : Nat × (Nat → Int)} {ret : Option mVal → mHp → Prop} {K : Nat → mLV → List mVal → mHp → Prop} (hK : mClo m_M_fails cal lim scr ret K) (x1 : Int) (M : mMem) (h :
  (((M 53 7) ≠ 0 →
    ret none (S0, M)) ∧ (¬ ((M 53 7) ≠ 0) →
    ret none (S0, mupd (mupd M 53 7 x1) 53 8 ((mupd M 53 7 x1) 53 10))))) :
  K 0 [(0, vr 53), (1, vi x1)] [] (S0, M) := by
  exact mQ hK [20] 2 0 0 b_M_fails_0 rfl _ _ _ h
set_option maxRecDepth 40000 in
theorem q_M_nameHere_0 {cal : mCal} {lim : Nat × Nat} {scr : Nat × (Nat → Int)} {ret : Option mVal → mHp → Prop} {K : Nat → mLV → List mVal → mHp → Prop} (hK : mClo m_M_nameHere cal lim scr ret K)  (M : mMem) (h :
  K 2 [(0, vr 53), (1, vi 0)] [] (S0, M)) :
  K 0 [(0, vr 53)] [] (S0, M) := by
  exact mQ hK [47, 48, 98, 99, 106, 112, 118] 8 0 0 b_M_nameHere_0 rfl _ _ _ h
set_option maxRecDepth 40000 in
theorem q_M_nameHere_2 {cal : mCal} {lim : Nat × Nat} {scr : Nat × (Nat → Int)} {ret : Option mVal → mHp → Prop} {K : Nat → mLV → List mVal → mHp → Prop} (hK : mClo m_M_nameHere cal lim scr ret K) (x1 : Int) (M : mMem) (h :
  ((6 ≤ x1 →
    ret (some (vi (-4))) (S0, M)) ∧ (¬ (6 ≤ x1) →
    (((M 53 11) ≠ 1 →
      ret (some (vi (-4))) (S0, M)) ∧ (¬ ((M 53 11) ≠ 1) →
      mIn (w32 (x1 + 1)) 7 (mIn x1 7 ((((w32 ((M 53 9) - (M 53 10))) ≠ (w32 ((M 57 (w32 (x1 + 1))) - (M 57 x1))) →
        K 51 [(0, vr 53), (1, vi x1), (2, vi 0), (3, vi 0)] [] (S0, M)) ∧ (¬ ((w32 ((M 53 9) - (M 53 10))) ≠ (w32 ((M 57 (w32 (x1 + 1))) - (M 57 x1)))) →
        K 51 [(0, vr 53), (1, vi x1), (2, vi 1), (3, vi 0)] [] (S0, M)))))))))) :
  K 2 [(0, vr 53), (1, vi x1)] [] (S0, M) := by
  exact mQ hK [47, 48, 98, 99, 106, 112, 118] 8 1 2 b_M_nameHere_2 rfl _ _ _ h
set_option maxRecDepth 40000 in
theorem q_M_nameHere_51 {cal : mCal} {lim : Nat × Nat} {scr : Nat × (Nat → Int)} {ret : Option mVal → mHp → Prop} {K : Nat → mLV → List mVal → mHp → Prop} (hK : mClo m_M_nameHere cal lim scr ret K) (x1 : Int) (x2 : Int) (x3 : Int) (M : mMem) (h :
  ((x2 = 0 →
    ((x2 = 0 →
      K 2 [(0, vr 53), (1, vi (w32 (x1 + 1)))] [] (S0, M)) ∧ (¬ (x2 = 0) →
      ret (some (vi x1)) (S0, M)))) ∧ (¬ (x2 = 0) →
    (((w32 ((M 53 9) - (M 53 10))) ≤ x3 →
      ((x2 = 0 →
        K 2 [(0, vr 53), (1, vi (w32 (x1 + 1)))] [] (S0, M)) ∧ (¬ (x2 = 0) →
        ret (some (vi x1)) (S0, M)))) ∧ (¬ ((w32 ((M 53 9) - (M 53 10))) ≤ x3) →
      (∃ v2 m1, cal 118 [vr 53, vi (w32 ((M 53 10) + x3))] (S0, M) (some (vi v2), (S0, m1)) ∧
      mIn x1 7 (mIn (w32 ((m1 57 x1) + x3)) 31 (((v2 ≠ (m1 58 (w32 ((m1 57 x1) + x3))) →
        K 51 [(0, vr 53), (1, vi x1), (2, vi 0), (3, vi (w32 (x3 + 1)))] [] (S0, m1)) ∧ (¬ (v2 ≠ (m1 58 (w32 ((m1 57 x1) + x3)))) →
        K 51 [(0, vr 53), (1, vi x1), (2, vi 1), (3, vi (w32 (x3 + 1)))] [] (S0, m1))))))))))) :
  K 51 [(0, vr 53), (1, vi x1), (2, vi x2), (3, vi x3)] [] (S0, M) := by
  exact mQ hK [47, 48, 98, 99, 106, 112, 118] 8 4 51 b_M_nameHere_51 rfl _ _ _ h
set_option maxRecDepth 40000 in
theorem q_M_step_0 {cal : mCal} {lim : Nat × Nat} {scr : Nat × (Nat → Int)} {ret : Option mVal → mHp → Prop} {K : Nat → mLV → List mVal → mHp → Prop} (hK : mClo m_M_step cal lim scr ret K)  (M : mMem) (h :
  (((M 53 7) ≤ 0 →
    K 8 [(0, vr 53)] [] (S0, M)) ∧ (¬ ((M 53 7) ≤ 0) →
    ret none (S0, M)))) :
  K 0 [(0, vr 53)] [] (S0, M) := by
  exact mQ hK [34, 70, 118, 126, 197, 201, 217, 243, 269] 10 0 0 b_M_step_0 rfl _ _ _ h
set_option maxRecDepth 40000 in
theorem q_M_step_8 {cal : mCal} {lim : Nat × Nat} {scr : Nat × (Nat → Int)} {ret : Option mVal → mHp → Prop} {K : Nat → mLV → List mVal → mHp → Prop} (hK : mClo m_M_step cal lim scr ret K)  (M : mMem) (h :
  (∃ v2 m1, cal 118 [vr 53, vi (M 53 9)] (S0, M) (some (vi v2), (S0, m1)) ∧
  ((v2 ≠ 32 →
    (∃ v4 m3, cal 118 [vr 53, vi ((mupd m1 53 10 (m1 53 9)) 53 9)] (S0, mupd m1 53 10 (m1 53 9)) (some (vi v4), (S0, m3)) ∧
    ((v4 ≠ (-4) →
      (∃ v6 m5, cal 115 [vl v4, vl 97, vl 122] (S0, mupd m3 53 12 0) (some (vi v6), (S0, m5)) ∧
      ((v6 = 0 →
        (∃ v8 m7, cal 115 [vl v4, vl 48, vl 57] (S0, m5) (some (vi v8), (S0, m7)) ∧
        ((v8 = 0 →
          ((v4 = 59 →
            ret none (S0, mupd (mupd m7 53 11 3) 53 9 (w32 (((mupd m7 53 11 3) 53 9) + 1)))) ∧ (¬ (v4 = 59) →
            (∃ m9, cal 119 [vr 53, vi 1] (S0, mupd (mupd m7 53 11 3) 53 9 (w32 (((mupd m7 53 11 3) 53 9) + 1))) (none, (S0, m9)) ∧
            ret none (S0, m9))))) ∧ (¬ (v8 = 0) →
          K 140 [(0, vr 53)] [] (S0, m7))))) ∧ (¬ (v6 = 0) →
        K 84 [(0, vr 53)] [] (S0, m5))))) ∧ (¬ (v4 ≠ (-4)) →
      ret none (S0, mupd (mupd m3 53 12 0) 53 11 0))))) ∧ (¬ (v2 ≠ 32) →
    K 8 [(0, vr 53)] [] (S0, mupd m1 53 9 (w32 ((m1 53 9) + 1))))))) :
  K 8 [(0, vr 53)] [] (S0, M) := by
  exact mQ hK [34, 70, 118, 126, 197, 201, 217, 243, 269] 10 1 8 b_M_step_8 rfl _ _ _ h
set_option maxRecDepth 40000 in
theorem q_M_step_84 {cal : mCal} {lim : Nat × Nat} {scr : Nat × (Nat → Int)} {ret : Option mVal → mHp → Prop} {K : Nat → mLV → List mVal → mHp → Prop} (hK : mClo m_M_step cal lim scr ret K)  (M : mMem) (h :
  (∃ v2 m1, cal 118 [vr 53, vi (M 53 9)] (S0, M) (some (vi v2), (S0, m1)) ∧
  (∃ v4 m3, cal 115 [vl v2, vl 97, vl 122] (S0, m1) (some (vi v4), (S0, m3)) ∧
  ((v4 = 0 →
    ret none (S0, mupd m3 53 11 1)) ∧ (¬ (v4 = 0) →
    K 84 [(0, vr 53)] [] (S0, mupd m3 53 9 (w32 ((m3 53 9) + 1)))))))) :
  K 84 [(0, vr 53)] [] (S0, M) := by
  exact mQ hK [34, 70, 118, 126, 197, 201, 217, 243, 269] 10 4 84 b_M_step_84 rfl _ _ _ h
set_option maxRecDepth 40000 in
theorem q_M_step_140 {cal : mCal} {lim : Nat × Nat} {scr : Nat × (Nat → Int)} {ret : Option mVal → mHp → Prop} {K : Nat → mLV → List mVal → mHp → Prop} (hK : mClo m_M_step cal lim scr ret K)  (M : mMem) (h :
  (∃ v2 m1, cal 118 [vr 53, vi (M 53 9)] (S0, M) (some (vi v2), (S0, m1)) ∧
  (∃ v4 m3, cal 115 [vl v2, vl 48, vl 57] (S0, m1) (some (vi v4), (S0, m3)) ∧
  ((v4 = 0 →
    (((w32 (((mupd m3 53 11 2) 53 9) - ((mupd m3 53 11 2) 53 10))) ≤ 2 →
      ret none (S0, mupd m3 53 11 2)) ∧ (¬ ((w32 (((mupd m3 53 11 2) 53 9) - ((mupd m3 53 11 2) 53 10))) ≤ 2) →
      (∃ m5, cal 119 [vr 53, vi 1] (S0, mupd m3 53 11 2) (none, (S0, m5)) ∧
      ret none (S0, m5))))) ∧ (¬ (v4 = 0) →
    ((2 ≤ (w32 ((m3 53 9) - (m3 53 10))) →
      K 140 [(0, vr 53)] [] (S0, mupd (mupd m3 53 12 (m3 53 12)) 53 9 (w32 (((mupd m3 53 12 (m3 53 12)) 53 9) + 1)))) ∧ (¬ (2 ≤ (w32 ((m3 53 9) - (m3 53 10)))) →
      (∃ v7 m6, cal 118 [vr 53, vi (m3 53 9)] (S0, m3) (some (vi v7), (S0, m6)) ∧
      K 140 [(0, vr 53)] [] (S0, mupd (mupd m6 53 12 (w32 ((w32 ((w32 (10 * (m3 53 12))) + v7)) - 48))) 53 9 (w32 (((mupd m6 53 12 (w32 ((w32 ((w32 (10 * (m3 53 12))) + v7)) - 48))) 53 9) + 1))))))))))) :
  K 140 [(0, vr 53)] [] (S0, M) := by
  exact mQ hK [34, 70, 118, 126, 197, 201, 217, 243, 269] 10 7 140 b_M_step_140 rfl _ _ _ h
set_option maxRecDepth 40000 in
theorem q_M_other_0 {cal : mCal} {lim : Nat × Nat} {scr : Nat × (Nat → Int)} {ret : Option mVal → mHp → Prop} {K : Nat → mLV → List mVal → mHp → Prop} (hK : mClo m_M_other cal lim scr ret K) (x1 : Int) (x2 : Int) (x3 : Int) (M : mMem) (h :
  (((M 53 7) ≠ 0 →
    K 20 [(0, vr 53), (1, vi x1), (2, vi x2), (3, vi x3)] [] (S0, M)) ∧ (¬ ((M 53 7) ≠ 0) →
    (((M 53 11) = 2 →
      K 20 [(0, vr 53), (1, vi x1), (2, vi x2), (3, vi x3)] [] (S0, M)) ∧ (¬ ((M 53 11) = 2) →
      (∃ m1, cal 119 [vr 53, vi 2] (S0, M) (none, (S0, m1)) ∧
      K 20 [(0, vr 53), (1, vi x1), (2, vi x2), (3, vi x3)] [] (S0, m1))))))) :
  K 0 [(0, vr 53), (1, vi x1), (2, vi x2), (3, vi x3)] [] (S0, M) := by
  exact mQ hK [89, 90] 3 0 0 b_M_other_0 rfl _ _ _ h
set_option maxRecDepth 40000 in
theorem q_M_other_20 {cal : mCal} {lim : Nat × Nat} {scr : Nat × (Nat → Int)} {ret : Option mVal → mHp → Prop} {K : Nat → mLV → List mVal → mHp → Prop} (hK : mClo m_M_other cal lim scr ret K) (x1 : Int) (x2 : Int) (x3 : Int) (M : mMem) (h :
  (((M 53 7) ≠ 0 →
    K 47 [(0, vr 53), (1, vi x1), (3, vi x3)] [] (S0, M)) ∧ (¬ ((M 53 7) ≠ 0) →
    (∃ v2 m1, cal 115 [vl (M 53 12), vl x1, vl x2] (S0, M) (some (vi v2), (S0, m1)) ∧
    ((v2 ≠ 0 →
      K 47 [(0, vr 53), (1, vi x1), (3, vi x3)] [] (S0, m1)) ∧ (¬ (v2 ≠ 0) →
      (∃ m3, cal 119 [vr 53, vi 3] (S0, m1) (none, (S0, m3)) ∧
      K 47 [(0, vr 53), (1, vi x1), (3, vi x3)] [] (S0, m3)))))))) :
  K 20 [(0, vr 53), (1, vi x1), (2, vi x2), (3, vi x3)] [] (S0, M) := by
  exact mQ hK [89, 90] 3 1 20 b_M_other_20 rfl _ _ _ h
set_option maxRecDepth 40000 in
theorem q_M_other_47 {cal : mCal} {lim : Nat × Nat} {scr : Nat × (Nat → Int)} {ret : Option mVal → mHp → Prop} {K : Nat → mLV → List mVal → mHp → Prop} (hK : mClo m_M_other cal lim scr ret K) (x1 : Int) (x3 : Int) (M : mMem) (h :
  (((M 53 7) ≠ 0 →
    K 75 [(0, vr 53), (1, vi x1)] [] (S0, M)) ∧ (¬ ((M 53 7) ≠ 0) →
    ((x3 = 0 →
      K 75 [(0, vr 53), (1, vi x1)] [] (S0, M)) ∧ (¬ (x3 = 0) →
      (((jand (jshr x3 (M 53 12)) 1) ≠ 1 →
        K 75 [(0, vr 53), (1, vi x1)] [] (S0, M)) ∧ (¬ ((jand (jshr x3 (M 53 12)) 1) ≠ 1) →
        (∃ m1, cal 119 [vr 53, vi 4] (S0, M) (none, (S0, m1)) ∧
        K 75 [(0, vr 53), (1, vi x1)] [] (S0, m1))))))))) :
  K 47 [(0, vr 53), (1, vi x1), (3, vi x3)] [] (S0, M) := by
  exact mQ hK [89, 90] 3 2 47 b_M_other_47 rfl _ _ _ h
set_option maxRecDepth 40000 in
theorem q_M_other_75 {cal : mCal} {lim : Nat × Nat} {scr : Nat × (Nat → Int)} {ret : Option mVal → mHp → Prop} {K : Nat → mLV → List mVal → mHp → Prop} (hK : mClo m_M_other cal lim scr ret K) (x1 : Int) (M : mMem) (h :
  (((M 53 7) ≠ 0 →
    (∃ m1, cal 121 [vr 53] (S0, M) (none, (S0, m1)) ∧
    ret (some (vi x1)) (S0, m1))) ∧ (¬ ((M 53 7) ≠ 0) →
    (∃ m2, cal 121 [vr 53] (S0, M) (none, (S0, m2)) ∧
    ret (some (vi (M 53 12))) (S0, m2))))) :
  K 75 [(0, vr 53), (1, vi x1)] [] (S0, M) := by
  exact mQ hK [89, 90] 3 3 75 b_M_other_75 rfl _ _ _ h
set_option maxRecDepth 40000 in
theorem q_M_readRow_0 {cal : mCal} {lim : Nat × Nat} {scr : Nat × (Nat → Int)} {ret : Option mVal → mHp → Prop} {K : Nat → mLV → List mVal → mHp → Prop} (hK : mClo m_M_readRow cal lim scr ret K)  (M : mMem) (h :
  (∃ v2 m1, cal 122 [vr 53, vi 0, vi 5, vi (M 53 2)] (S0, M) (some (vi v2), (S0, m1)) ∧
  K 25 [(0, vr 53), (1, vi v2), (2, vi 0)] [] (S0, mupd m1 53 2 (jor (m1 53 2) (jshl 1 v2))))) :
  K 0 [(0, vr 53)] [] (S0, M) := by
  exact mQ hK [54, 78] 3 0 0 b_M_readRow_0 rfl _ _ _ h
set_option maxRecDepth 40000 in
theorem q_M_readRow_25 {cal : mCal} {lim : Nat × Nat} {scr : Nat × (Nat → Int)} {ret : Option mVal → mHp → Prop} {K : Nat → mLV → List mVal → mHp → Prop} (hK : mClo m_M_readRow cal lim scr ret K) (x1 : Int) (x2 : Int) (M : mMem) (h :
  (((M 53 7) ≠ 0 →
    ret none (S0, M)) ∧ (¬ ((M 53 7) ≠ 0) →
    (((M 53 11) ≠ 2 →
      ret none (S0, M)) ∧ (¬ ((M 53 11) ≠ 2) →
      ((x2 ≠ 6 →
        (∃ v2 m1, cal 122 [vr 53, vi 0, vi 4, vi 0] (S0, M) (some (vi v2), (S0, m1)) ∧
        mIn (w32 ((w32 (6 * x2)) + x1)) 85 (K 25 [(0, vr 53), (1, vi x1), (2, vi (w32 (x2 + 1)))] [] (S0, mupd m1 55 (w32 ((w32 (6 * x2)) + x1)) v2)))) ∧ (¬ (x2 ≠ 6) →
        (∃ m3, cal 119 [vr 53, vi 5] (S0, M) (none, (S0, m3)) ∧
        K 25 [(0, vr 53), (1, vi x1), (2, vi x2)] [] (S0, m3))))))))) :
  K 25 [(0, vr 53), (1, vi x1), (2, vi x2)] [] (S0, M) := by
  exact mQ hK [54, 78] 3 1 25 b_M_readRow_25 rfl _ _ _ h
set_option maxRecDepth 40000 in
theorem q_M_readMore_0 {cal : mCal} {lim : Nat × Nat} {scr : Nat × (Nat → Int)} {ret : Option mVal → mHp → Prop} {K : Nat → mLV → List mVal → mHp → Prop} (hK : mClo m_M_readMore cal lim scr ret K) (x1 : Int) (M : mMem) (h :
  ((3 < x1 →
    ((x1 ≠ 4 →
      (∃ v2 m1, cal 122 [vr 53, vi 1, vi 3, vi (M 53 3)] (S0, M) (some (vi v2), (S0, m1)) ∧
      (∃ v4 m3, cal 122 [vr 53, vi 0, vi 99, vi 0] (S0, mupd m1 53 3 (jor (m1 53 3) (jshl 1 v2))) (some (vi v4), (S0, m3)) ∧
      mIn (w32 ((w32 (36 + v2)) - 1)) 85 (ret none (S0, mupd m3 55 (w32 ((w32 (36 + v2)) - 1)) (w32 (v4 - 20))))))) ∧ (¬ (x1 ≠ 4) →
      (∃ m5, cal 123 [vr 53] (S0, M) (none, (S0, m5)) ∧
      ret none (S0, m5))))) ∧ (¬ (3 < x1) →
    mIn (w32 (40 + (M 55 39))) 85 ((∃ v7 m6, cal 122 [vr 53, vi 1, vi 3, vi 0] (S0, mupd M 55 (w32 (40 + (M 55 39))) x1) (some (vi v7), (S0, m6)) ∧
    mIn (w32 (45 + (M 55 39))) 85 ((∃ v9 m8, cal 122 [vr 53, vi 1, vi 3, vi 0] (S0, mupd m6 55 (w32 (45 + (M 55 39))) v7) (some (vi v9), (S0, m8)) ∧
    mIn (w32 (50 + (M 55 39))) 85 ((∃ v11 m10, cal 122 [vr 53, vi 1, vi 9, vi 0] (S0, mupd m8 55 (w32 (50 + (M 55 39))) v9) (some (vi v11), (S0, m10)) ∧
    mIn (w32 (55 + (M 55 39))) 85 (ret none (S0, mupd (mupd m10 55 (w32 (55 + (M 55 39))) v11) 55 39 (w32 (((mupd m10 55 (w32 (55 + (M 55 39))) v11) 55 39) + 1))))))))))))) :
  K 0 [(0, vr 53), (1, vi x1)] [] (S0, M) := by
  exact mQ hK [86, 98, 143] 4 0 0 b_M_readMore_0 rfl _ _ _ h
set_option maxRecDepth 40000 in
theorem q_M_readLine_0 {cal : mCal} {lim : Nat × Nat} {scr : Nat × (Nat → Int)} {ret : Option mVal → mHp → Prop} {K : Nat → mLV → List mVal → mHp → Prop} (hK : mClo m_M_readLine cal lim scr ret K)  (M : mMem) (h :
  (∃ v2 m1, cal 120 [vr 53] (S0, M) (some (vi v2), (S0, m1)) ∧
  (∃ v4 m3, cal 115 [vl v2, vl (0 : Nat), vl 5] (S0, m1) (some (vi v4), (S0, m3)) ∧
  ((v4 ≠ 0 →
    ((3 < v2 →
      K 44 [(0, vr 53), (1, vi v2)] [] (S0, m3)) ∧ (¬ (3 < v2) →
      (((m3 55 39) ≠ 5 →
        K 44 [(0, vr 53), (1, vi v2)] [] (S0, m3)) ∧ (¬ ((m3 55 39) ≠ 5) →
        (∃ m5, cal 119 [vr 53, vi 5] (S0, m3) (none, (S0, m5)) ∧
        K 44 [(0, vr 53), (1, vi v2)] [] (S0, m5))))))) ∧ (¬ (v4 ≠ 0) →
    (∃ m6, cal 119 [vr 53, vi 2] (S0, m3) (none, (S0, m6)) ∧
    ret none (S0, m6))))))) :
  K 0 [(0, vr 53)] [] (S0, M) := by
  exact mQ hK [23, 56, 81] 4 0 0 b_M_readLine_0 rfl _ _ _ h
set_option maxRecDepth 40000 in
theorem q_M_readLine_44 {cal : mCal} {lim : Nat × Nat} {scr : Nat × (Nat → Int)} {ret : Option mVal → mHp → Prop} {K : Nat → mLV → List mVal → mHp → Prop} (hK : mClo m_M_readLine cal lim scr ret K) (x1 : Int) (M : mMem) (h :
  (∃ m1, cal 121 [vr 53] (S0, M) (none, (S0, m1)) ∧
  (((m1 53 7) ≤ 0 →
    (∃ m2, cal 124 [vr 53, vi x1] (S0, m1) (none, (S0, m2)) ∧
    (((m2 53 7) ≠ 0 →
      (∃ m3, cal 121 [vr 53] (S0, m2) (none, (S0, m3)) ∧
      ret none (S0, m3))) ∧ (¬ ((m2 53 7) ≠ 0) →
      (((m2 53 11) = 3 →
        (∃ m4, cal 121 [vr 53] (S0, m2) (none, (S0, m4)) ∧
        ret none (S0, m4))) ∧ (¬ ((m2 53 11) = 3) →
        (∃ m5, cal 119 [vr 53, vi 2] (S0, m2) (none, (S0, m5)) ∧
        (∃ m6, cal 121 [vr 53] (S0, m5) (none, (S0, m6)) ∧
        ret none (S0, m6))))))))) ∧ (¬ ((m1 53 7) ≤ 0) →
    ret none (S0, m1))))) :
  K 44 [(0, vr 53), (1, vi x1)] [] (S0, M) := by
  exact mQ hK [23, 56, 81] 4 2 44 b_M_readLine_44 rfl _ _ _ h
set_option maxRecDepth 40000 in
theorem q_M_text_0 {cal : mCal} {lim : Nat × Nat} {scr : Nat × (Nat → Int)} {ret : Option mVal → mHp → Prop} {K : Nat → mLV → List mVal → mHp → Prop} (hK : mClo m_M_text cal lim scr ret K)  (M : mMem) (h :
  K 24 [(0, vr 53), (1, vi 0), (2, vi 0)] [] (S0, mupd (mupd (mupd (mupd M 53 7 0) 53 9 0) 53 2 0) 53 3 0)) :
  K 0 [(0, vr 53)] [] (S0, M) := by
  exact mQ hK [43, 99, 125] 4 0 0 b_M_text_0 rfl _ _ _ h
set_option maxRecDepth 40000 in
theorem q_M_text_24 {cal : mCal} {lim : Nat × Nat} {scr : Nat × (Nat → Int)} {ret : Option mVal → mHp → Prop} {K : Nat → mLV → List mVal → mHp → Prop} (hK : mClo m_M_text cal lim scr ret K) (x1 : Int) (x2 : Int) (M : mMem) (h :
  ((85 ≤ x2 →
    (∃ m1, cal 121 [vr 53] (S0, M) (none, (S0, m1)) ∧
    K 47 [(0, vr 53), (1, vi x1)] [] (S0, m1))) ∧ (¬ (85 ≤ x2) →
    mIn x2 85 (K 24 [(0, vr 53), (1, vi x1), (2, vi (w32 (x2 + 1)))] [] (S0, mupd M 55 x2 0))))) :
  K 24 [(0, vr 53), (1, vi x1), (2, vi x2)] [] (S0, M) := by
  exact mQ hK [43, 99, 125] 4 1 24 b_M_text_24 rfl _ _ _ h
set_option maxRecDepth 40000 in
theorem q_M_text_47 {cal : mCal} {lim : Nat × Nat} {scr : Nat × (Nat → Int)} {ret : Option mVal → mHp → Prop} {K : Nat → mLV → List mVal → mHp → Prop} (hK : mClo m_M_text cal lim scr ret K) (x1 : Int) (M : mMem) (h :
  (((M 53 7) ≠ 0 →
    K 71 [(0, vr 53), (1, vi x1)] [] (S0, M)) ∧ (¬ ((M 53 7) ≠ 0) →
    (((M 53 11) = 0 →
      K 71 [(0, vr 53), (1, vi x1)] [] (S0, M)) ∧ (¬ ((M 53 11) = 0) →
      (∃ m1, cal 125 [vr 53] (S0, M) (none, (S0, m1)) ∧
      K 47 [(0, vr 53), (1, vi (w32 (x1 + 1)))] [] (S0, m1))))))) :
  K 47 [(0, vr 53), (1, vi x1)] [] (S0, M) := by
  exact mQ hK [43, 99, 125] 4 3 47 b_M_text_47 rfl _ _ _ h
set_option maxRecDepth 40000 in
theorem q_M_text_71 {cal : mCal} {lim : Nat × Nat} {scr : Nat × (Nat → Int)} {ret : Option mVal → mHp → Prop} {K : Nat → mLV → List mVal → mHp → Prop} (hK : mClo m_M_text cal lim scr ret K) (x1 : Int) (M : mMem) (h :
  ((((mupd (mupd M 53 5 0) 53 6 ((mupd M 53 5 0) 53 7)) 53 7) ≤ 0 →
    K 101 [(0, vr 53), (1, vi x1), (2, vi 0)] [] (S0, mupd (mupd M 53 5 0) 53 6 ((mupd M 53 5 0) 53 7))) ∧ (¬ (((mupd (mupd M 53 5 0) 53 6 ((mupd M 53 5 0) 53 7)) 53 7) ≤ 0) →
    ret (some (vi (w32 ((-10) - ((mupd (mupd M 53 5 0) 53 6 ((mupd M 53 5 0) 53 7)) 53 8))))) (S0, mupd (mupd M 53 5 0) 53 6 ((mupd M 53 5 0) 53 7))))) :
  K 71 [(0, vr 53), (1, vi x1)] [] (S0, M) := by
  exact mQ hK [43, 99, 125] 4 4 71 b_M_text_71 rfl _ _ _ h
set_option maxRecDepth 40000 in
theorem q_M_text_101 {cal : mCal} {lim : Nat × Nat} {scr : Nat × (Nat → Int)} {ret : Option mVal → mHp → Prop} {K : Nat → mLV → List mVal → mHp → Prop} (hK : mClo m_M_text cal lim scr ret K) (x1 : Int) (x2 : Int) (M : mMem) (h :
  ((85 ≤ x2 →
    ret (some (vi x1)) (S0, mupd (mupd (mupd M 53 22 0) 63 0 0) 63 1 0)) ∧ (¬ (85 ≤ x2) →
    mIn x2 85 (mIn x2 510 (K 101 [(0, vr 53), (1, vi x1), (2, vi (w32 (x2 + 1)))] [] (S0, mupd M 54 x2 (M 55 x2))))))) :
  K 101 [(0, vr 53), (1, vi x1), (2, vi x2)] [] (S0, M) := by
  exact mQ hK [43, 99, 125] 4 6 101 b_M_text_101 rfl _ _ _ h
set_option maxRecDepth 40000 in
theorem q_M_fault_0 {cal : mCal} {lim : Nat × Nat} {scr : Nat × (Nat → Int)} {ret : Option mVal → mHp → Prop} {K : Nat → mLV → List mVal → mHp → Prop} (hK : mClo m_M_fault cal lim scr ret K)  (M : mMem) (h :
  ret (some (vi (M 53 6))) (S0, M)) :
  K 0 [(0, vr 53)] [] (S0, M) := by
  exact mQ hK [] 1 0 0 b_M_fault_0 rfl _ _ _ h
set_option maxRecDepth 40000 in
theorem q_M_isLaw_0 {cal : mCal} {lim : Nat × Nat} {scr : Nat × (Nat → Int)} {ret : Option mVal → mHp → Prop} {K : Nat → mLV → List mVal → mHp → Prop} (hK : mClo m_M_isLaw cal lim scr ret K) (x1 : Int) (M : mMem) (h :
  (∃ v2 m1, cal 115 [vl x1, vl (0 : Nat), vl (w32 ((M 54 39) - 1))] (S0, M) (some (vi v2), (S0, m1)) ∧
  mBo v2 (ret (some (vi v2)) (S0, m1)))) :
  K 0 [(0, vr 53), (1, vi x1)] [] (S0, M) := by
  exact mQ hK [] 1 0 0 b_M_isLaw_0 rfl _ _ _ h
set_option maxRecDepth 40000 in
theorem q_M_isCell_0 {cal : mCal} {lim : Nat × Nat} {scr : Nat × (Nat → Int)} {ret : Option mVal → mHp → Prop} {K : Nat → mLV → List mVal → mHp → Prop} (hK : mClo m_M_isCell cal lim scr ret K) (x0 : Int) (x1 : Int) (M : mMem) (h :
  (∃ v2 m1, cal 115 [vl x0, vl (0 : Nat), vl 5] (S0, M) (some (vi v2), (S0, m1)) ∧
  ((v2 = 0 →
    ret (some (vi 0)) (S0, m1)) ∧ (¬ (v2 = 0) →
    (∃ v4 m3, cal 115 [vl x1, vl (0 : Nat), vl 5] (S0, m1) (some (vi v4), (S0, m3)) ∧
    ((v4 = 0 →
      ret (some (vi 0)) (S0, m3)) ∧ (¬ (v4 = 0) →
      ret (some (vi 1)) (S0, m3)))))))) :
  K 0 [(0, vi x0), (1, vi x1)] [] (S0, M) := by
  exact mQ hK [28, 29] 3 0 0 b_M_isCell_0 rfl _ _ _ h
set_option maxRecDepth 40000 in
theorem q_M_isColour_0 {cal : mCal} {lim : Nat × Nat} {scr : Nat × (Nat → Int)} {ret : Option mVal → mHp → Prop} {K : Nat → mLV → List mVal → mHp → Prop} (hK : mClo m_M_isColour cal lim scr ret K) (x0 : Int) (M : mMem) (h :
  (∃ v2 m1, cal 115 [vl x0, vl (1 : Nat), vl 3] (S0, M) (some (vi v2), (S0, m1)) ∧
  mBo v2 (ret (some (vi v2)) (S0, m1)))) :
  K 0 [(0, vi x0)] [] (S0, M) := by
  exact mQ hK [] 1 0 0 b_M_isColour_0 rfl _ _ _ h
set_option maxRecDepth 40000 in
theorem q_M_besideOn_0 {cal : mCal} {lim : Nat × Nat} {scr : Nat × (Nat → Int)} {ret : Option mVal → mHp → Prop} {K : Nat → mLV → List mVal → mHp → Prop} (hK : mClo m_M_besideOn cal lim scr ret K) (x1 : Int) (x2 : Int) (x3 : Int) (M : mMem) (h :
  K 6 [(0, vr 53), (1, vi x1), (2, vi x2), (3, vi x3), (4, vi 0), (5, vi 0)] [] (S0, M)) :
  K 0 [(0, vr 53), (1, vi x1), (2, vi x2), (3, vi x3)] [] (S0, M) := by
  exact mQ hK [48, 49, 58] 4 0 0 b_M_besideOn_0 rfl _ _ _ h
set_option maxRecDepth 40000 in
theorem q_M_besideOn_6 {cal : mCal} {lim : Nat × Nat} {scr : Nat × (Nat → Int)} {ret : Option mVal → mHp → Prop} {K : Nat → mLV → List mVal → mHp → Prop} (hK : mClo m_M_besideOn cal lim scr ret K) (x1 : Int) (x2 : Int) (x3 : Int) (x4 : Int) (x5 : Int) (M : mMem) (h :
  ((30 ≤ x5 →
    ret (some (vi x4)) (S0, M)) ∧ (¬ (30 ≤ x5) →
    mIn (w32 (x1 + x5)) 510 ((((M 54 (w32 (x1 + x5))) ≠ x2 →
      K 6 [(0, vr 53), (1, vi x1), (2, vi x2), (3, vi x3), (4, vi (w32 (x4 + 0))), (5, vi (w32 (x5 + 1)))] [] (S0, M)) ∧ (¬ ((M 54 (w32 (x1 + x5))) ≠ x2) →
      mIn (w32 ((w32 (x1 + x5)) + 6)) 510 ((((M 54 (w32 ((w32 (x1 + x5)) + 6))) ≠ x3 →
        K 6 [(0, vr 53), (1, vi x1), (2, vi x2), (3, vi x3), (4, vi (w32 (x4 + 0))), (5, vi (w32 (x5 + 1)))] [] (S0, M)) ∧ (¬ ((M 54 (w32 ((w32 (x1 + x5)) + 6))) ≠ x3) →
        K 6 [(0, vr 53), (1, vi x1), (2, vi x2), (3, vi x3), (4, vi (w32 (x4 + 1))), (5, vi (w32 (x5 + 1)))] [] (S0, M)))))))))) :
  K 6 [(0, vr 53), (1, vi x1), (2, vi x2), (3, vi x3), (4, vi x4), (5, vi x5)] [] (S0, M) := by
  exact mQ hK [48, 49, 58] 4 1 6 b_M_besideOn_6 rfl _ _ _ h
set_option maxRecDepth 40000 in
theorem q_M_aboveOn_0 {cal : mCal} {lim : Nat × Nat} {scr : Nat × (Nat → Int)} {ret : Option mVal → mHp → Prop} {K : Nat → mLV → List mVal → mHp → Prop} (hK : mClo m_M_aboveOn cal lim scr ret K) (x1 : Int) (x2 : Int) (x3 : Int) (M : mMem) (h :
  K 6 [(0, vr 53), (1, vi x1), (2, vi x2), (3, vi x3), (4, vi 0), (5, vi 0)] [] (S0, M)) :
  K 0 [(0, vr 53), (1, vi x1), (2, vi x2), (3, vi x3)] [] (S0, M) := by
  exact mQ hK [56, 57, 66] 4 0 0 b_M_aboveOn_0 rfl _ _ _ h
set_option maxRecDepth 40000 in
theorem q_M_aboveOn_6 {cal : mCal} {lim : Nat × Nat} {scr : Nat × (Nat → Int)} {ret : Option mVal → mHp → Prop} {K : Nat → mLV → List mVal → mHp → Prop} (hK : mClo m_M_aboveOn cal lim scr ret K) (x1 : Int) (x2 : Int) (x3 : Int) (x4 : Int) (x5 : Int) (M : mMem) (h :
  ((36 ≤ x5 →
    ret (some (vi x4)) (S0, M)) ∧ (¬ (36 ≤ x5) →
    ((5 ≤ (jrem x5 6) →
      K 6 [(0, vr 53), (1, vi x1), (2, vi x2), (3, vi x3), (4, vi (w32 (x4 + 0))), (5, vi (w32 (x5 + 1)))] [] (S0, M)) ∧ (¬ (5 ≤ (jrem x5 6)) →
      mIn (w32 (x1 + x5)) 510 ((((M 54 (w32 (x1 + x5))) ≠ x2 →
        K 6 [(0, vr 53), (1, vi x1), (2, vi x2), (3, vi x3), (4, vi (w32 (x4 + 0))), (5, vi (w32 (x5 + 1)))] [] (S0, M)) ∧ (¬ ((M 54 (w32 (x1 + x5))) ≠ x2) →
        mIn (w32 ((w32 (x1 + x5)) + 1)) 510 ((((M 54 (w32 ((w32 (x1 + x5)) + 1))) ≠ x3 →
          K 6 [(0, vr 53), (1, vi x1), (2, vi x2), (3, vi x3), (4, vi (w32 (x4 + 0))), (5, vi (w32 (x5 + 1)))] [] (S0, M)) ∧ (¬ ((M 54 (w32 ((w32 (x1 + x5)) + 1))) ≠ x3) →
          K 6 [(0, vr 53), (1, vi x1), (2, vi x2), (3, vi x3), (4, vi (w32 (x4 + 1))), (5, vi (w32 (x5 + 1)))] [] (S0, M)))))))))))) :
  K 6 [(0, vr 53), (1, vi x1), (2, vi x2), (3, vi x3), (4, vi x4), (5, vi x5)] [] (S0, M) := by
  exact mQ hK [56, 57, 66] 4 1 6 b_M_aboveOn_6 rfl _ _ _ h
set_option maxRecDepth 40000 in
theorem q_M_readsOn_0 {cal : mCal} {lim : Nat × Nat} {scr : Nat × (Nat → Int)} {ret : Option mVal → mHp → Prop} {K : Nat → mLV → List mVal → mHp → Prop} (hK : mClo m_M_readsOn cal lim scr ret K) (x1 : Int) (x2 : Int) (x3 : Int) (M : mMem) (h :
  mIn (w32 ((w32 (x1 + 40)) + x2)) 510 (mIn (w32 ((w32 (x1 + 45)) + x2)) 510 (mIn (w32 ((w32 (x1 + 50)) + x2)) 510 ((((M 54 (w32 ((w32 (x1 + 40)) + x2))) ≠ 1 →
    (((0 : Int) = x3 →
      K 59 [(0, vr 53), (1, vi x1), (4, vi (M 54 (w32 ((w32 (x1 + 40)) + x2)))), (5, vi (M 54 (w32 ((w32 (x1 + 45)) + x2)))), (6, vi (M 54 (w32 ((w32 (x1 + 50)) + x2))))] [vi 0] (S0, M)) ∧ (¬ ((0 : Int) = x3) →
      K 59 [(0, vr 53), (1, vi x1), (4, vi (M 54 (w32 ((w32 (x1 + 40)) + x2)))), (5, vi (M 54 (w32 ((w32 (x1 + 45)) + x2)))), (6, vi (M 54 (w32 ((w32 (x1 + 50)) + x2))))] [vi 1] (S0, M)))) ∧ (¬ ((M 54 (w32 ((w32 (x1 + 40)) + x2))) ≠ 1) →
    (((1 : Int) = x3 →
      K 59 [(0, vr 53), (1, vi x1), (4, vi (M 54 (w32 ((w32 (x1 + 40)) + x2)))), (5, vi (M 54 (w32 ((w32 (x1 + 45)) + x2)))), (6, vi (M 54 (w32 ((w32 (x1 + 50)) + x2))))] [vi 0] (S0, M)) ∧ (¬ ((1 : Int) = x3) →
      K 59 [(0, vr 53), (1, vi x1), (4, vi (M 54 (w32 ((w32 (x1 + 40)) + x2)))), (5, vi (M 54 (w32 ((w32 (x1 + 45)) + x2)))), (6, vi (M 54 (w32 ((w32 (x1 + 50)) + x2))))] [vi 1] (S0, M))))))))) :
  K 0 [(0, vr 53), (1, vi x1), (2, vi x2), (3, vi x3)] [] (S0, M) := by
  exact mQ hK [49, 50, 58, 71, 88, 119, 120] 8 0 0 b_M_readsOn_0 rfl _ _ _ h
set_option maxRecDepth 40000 in
theorem q_M_readsOn_59 {cal : mCal} {lim : Nat × Nat} {scr : Nat × (Nat → Int)} {ret : Option mVal → mHp → Prop} {K : Nat → mLV → List mVal → mHp → Prop} (hK : mClo m_M_readsOn cal lim scr ret K) (x1 : Int) (x4 : Int) (x5 : Int) (x6 : Int) (s0 : Int) (M : mMem) (h :
  ((x4 ≠ 2 →
    ((s0 = 0 →
      (∃ v2 m1, cal 131 [vr 53, vi x1, vi x5, vi x6] (S0, M) (some (vi v2), (S0, m1)) ∧
      K 97 [(0, vr 53), (1, vi x1), (4, vi x4), (5, vi x5), (6, vi x6)] [vi v2] (S0, m1))) ∧ (¬ (s0 = 0) →
      (∃ v4 m3, cal 131 [vr 53, vi x1, vi x6, vi x5] (S0, M) (some (vi v4), (S0, m3)) ∧
      K 97 [(0, vr 53), (1, vi x1), (4, vi x4), (5, vi x5), (6, vi x6)] [vi v4] (S0, m3))))) ∧ (¬ (x4 ≠ 2) →
    K 97 [(0, vr 53), (1, vi x1), (4, vi x4), (5, vi x5), (6, vi x6)] [vi 0] (S0, M)))) :
  K 59 [(0, vr 53), (1, vi x1), (4, vi x4), (5, vi x5), (6, vi x6)] [vi s0] (S0, M) := by
  exact mQ hK [49, 50, 58, 71, 88, 119, 120] 8 4 59 b_M_readsOn_59 rfl _ _ _ h
set_option maxRecDepth 40000 in
theorem q_M_readsOn_97 {cal : mCal} {lim : Nat × Nat} {scr : Nat × (Nat → Int)} {ret : Option mVal → mHp → Prop} {K : Nat → mLV → List mVal → mHp → Prop} (hK : mClo m_M_readsOn cal lim scr ret K) (x1 : Int) (x4 : Int) (x5 : Int) (x6 : Int) (s0 : Int) (M : mMem) (h :
  ((x4 ≤ 1 →
    ret (some (vi (w32 (s0 + 0)))) (S0, M)) ∧ (¬ (x4 ≤ 1) →
    (∃ v2 m1, cal 132 [vr 53, vi x1, vi x5, vi x6] (S0, M) (some (vi v2), (S0, m1)) ∧
    ret (some (vi (w32 (s0 + v2)))) (S0, m1))))) :
  K 97 [(0, vr 53), (1, vi x1), (4, vi x4), (5, vi x5), (6, vi x6)] [vi s0] (S0, M) := by
  exact mQ hK [49, 50, 58, 71, 88, 119, 120] 8 7 97 b_M_readsOn_97 rfl _ _ _ h
set_option maxRecDepth 40000 in
theorem q_M_worthOn_0 {cal : mCal} {lim : Nat × Nat} {scr : Nat × (Nat → Int)} {ret : Option mVal → mHp → Prop} {K : Nat → mLV → List mVal → mHp → Prop} (hK : mClo m_M_worthOn cal lim scr ret K) (x1 : Int) (M : mMem) (h :
  K 4 [(0, vr 53), (1, vi x1), (2, vi 0), (3, vi 0)] [] (S0, M)) :
  K 0 [(0, vr 53), (1, vi x1)] [] (S0, M) := by
  exact mQ hK [45] 2 0 0 b_M_worthOn_0 rfl _ _ _ h
set_option maxRecDepth 40000 in
theorem q_M_worthOn_4 {cal : mCal} {lim : Nat × Nat} {scr : Nat × (Nat → Int)} {ret : Option mVal → mHp → Prop} {K : Nat → mLV → List mVal → mHp → Prop} (hK : mClo m_M_worthOn cal lim scr ret K) (x1 : Int) (x2 : Int) (x3 : Int) (M : mMem) (h :
  mIn (w32 (x1 + 39)) 510 ((((M 54 (w32 (x1 + 39))) ≤ x3 →
    ret (some (vi x2)) (S0, M)) ∧ (¬ ((M 54 (w32 (x1 + 39))) ≤ x3) →
    mIn (w32 ((w32 (x1 + 55)) + x3)) 510 ((∃ v2 m1, cal 133 [vr 53, vi x1, vi x3, vi 0] (S0, M) (some (vi v2), (S0, m1)) ∧
    K 4 [(0, vr 53), (1, vi x1), (2, vi (w32 (x2 + (w32 ((M 54 (w32 ((w32 (x1 + 55)) + x3))) * v2))))), (3, vi (w32 (x3 + 1)))] [] (S0, m1))))))) :
  K 4 [(0, vr 53), (1, vi x1), (2, vi x2), (3, vi x3)] [] (S0, M) := by
  exact mQ hK [45] 2 1 4 b_M_worthOn_4 rfl _ _ _ h
set_option maxRecDepth 40000 in
theorem q_M_heldOn_0 {cal : mCal} {lim : Nat × Nat} {scr : Nat × (Nat → Int)} {ret : Option mVal → mHp → Prop} {K : Nat → mLV → List mVal → mHp → Prop} (hK : mClo m_M_heldOn cal lim scr ret K) (x1 : Int) (M : mMem) (h :
  K 4 [(0, vr 53), (1, vi x1), (2, vi 0), (3, vi 0)] [] (S0, M)) :
  K 0 [(0, vr 53), (1, vi x1)] [] (S0, M) := by
  exact mQ hK [34, 35, 43] 4 0 0 b_M_heldOn_0 rfl _ _ _ h
set_option maxRecDepth 40000 in
theorem q_M_heldOn_4 {cal : mCal} {lim : Nat × Nat} {scr : Nat × (Nat → Int)} {ret : Option mVal → mHp → Prop} {K : Nat → mLV → List mVal → mHp → Prop} (hK : mClo m_M_heldOn cal lim scr ret K) (x1 : Int) (x2 : Int) (x3 : Int) (M : mMem) (h :
  mIn (w32 (x1 + 39)) 510 ((((M 54 (w32 (x1 + 39))) ≤ x3 →
    ret (some (vi x2)) (S0, M)) ∧ (¬ ((M 54 (w32 (x1 + 39))) ≤ x3) →
    (∃ v2 m1, cal 133 [vr 53, vi x1, vi x3, vi 0] (S0, M) (some (vi v2), (S0, m1)) ∧
    ((v2 ≤ 0 →
      K 4 [(0, vr 53), (1, vi x1), (2, vi (jor x2 0)), (3, vi (w32 (x3 + 1)))] [] (S0, m1)) ∧ (¬ (v2 ≤ 0) →
      K 4 [(0, vr 53), (1, vi x1), (2, vi (jor x2 (jshl 1 x3))), (3, vi (w32 (x3 + 1)))] [] (S0, m1)))))))) :
  K 4 [(0, vr 53), (1, vi x1), (2, vi x2), (3, vi x3)] [] (S0, M) := by
  exact mQ hK [34, 35, 43] 4 1 4 b_M_heldOn_4 rfl _ _ _ h
set_option maxRecDepth 40000 in
theorem q_M_holesOn_0 {cal : mCal} {lim : Nat × Nat} {scr : Nat × (Nat → Int)} {ret : Option mVal → mHp → Prop} {K : Nat → mLV → List mVal → mHp → Prop} (hK : mClo m_M_holesOn cal lim scr ret K) (x1 : Int) (M : mMem) (h :
  K 4 [(0, vr 53), (1, vi x1), (2, vi 0), (3, vi 0)] [] (S0, M)) :
  K 0 [(0, vr 53), (1, vi x1)] [] (S0, M) := by
  exact mQ hK [27, 28, 36] 4 0 0 b_M_holesOn_0 rfl _ _ _ h
set_option maxRecDepth 40000 in
theorem q_M_holesOn_4 {cal : mCal} {lim : Nat × Nat} {scr : Nat × (Nat → Int)} {ret : Option mVal → mHp → Prop} {K : Nat → mLV → List mVal → mHp → Prop} (hK : mClo m_M_holesOn cal lim scr ret K) (x1 : Int) (x2 : Int) (x3 : Int) (M : mMem) (h :
  ((36 ≤ x3 →
    ret (some (vi x2)) (S0, M)) ∧ (¬ (36 ≤ x3) →
    mIn (w32 (x1 + x3)) 510 ((((M 54 (w32 (x1 + x3))) ≠ 4 →
      K 4 [(0, vr 53), (1, vi x1), (2, vi (w32 (x2 + 0))), (3, vi (w32 (x3 + 1)))] [] (S0, M)) ∧ (¬ ((M 54 (w32 (x1 + x3))) ≠ 4) →
      K 4 [(0, vr 53), (1, vi x1), (2, vi (w32 (x2 + 1))), (3, vi (w32 (x3 + 1)))] [] (S0, M))))))) :
  K 4 [(0, vr 53), (1, vi x1), (2, vi x2), (3, vi x3)] [] (S0, M) := by
  exact mQ hK [27, 28, 36] 4 1 4 b_M_holesOn_4 rfl _ _ _ h
set_option maxRecDepth 40000 in
theorem q_M_rule_0 {cal : mCal} {lim : Nat × Nat} {scr : Nat × (Nat → Int)} {ret : Option mVal → mHp → Prop} {K : Nat → mLV → List mVal → mHp → Prop} (hK : mClo m_M_rule cal lim scr ret K) (x1 : Int) (M : mMem) (h :
  K 4 [(0, vr 53), (1, vi x1), (2, vi 0), (3, vi 0)] [] (S0, M)) :
  K 0 [(0, vr 53), (1, vi x1)] [] (S0, M) := by
  exact mQ hK [27, 28, 36, 76, 84, 86, 92, 100, 106, 112] 11 0 0 b_M_rule_0 rfl _ _ _ h
set_option maxRecDepth 40000 in
theorem q_M_rule_4 {cal : mCal} {lim : Nat × Nat} {scr : Nat × (Nat → Int)} {ret : Option mVal → mHp → Prop} {K : Nat → mLV → List mVal → mHp → Prop} (hK : mClo m_M_rule cal lim scr ret K) (x1 : Int) (x2 : Int) (x3 : Int) (M : mMem) (h :
  ((36 ≤ x3 →
    (((x1 = ((0 : Nat) : Int) →
      ret (some (vi (M 54 39))) (S0, M)) ∧ 
    (x1 = ((1 : Nat) : Int) →
      ret (some (vi x2)) (S0, M)) ∧ 
    (x1 = ((2 : Nat) : Int) →
      (∃ v2 m1, cal 136 [vr 53, vi 0] (S0, M) (some (vi v2), (S0, m1)) ∧
      ret (some (vi v2)) (S0, m1))) ∧ 
    (x1 = ((3 : Nat) : Int) →
      ret (some (vi (M 54 60))) (S0, M)) ∧ 
    (x1 = ((4 : Nat) : Int) →
      (∃ v4 m3, cal 135 [vr 53, vi 0] (S0, M) (some (vi v4), (S0, m3)) ∧
      ret (some (vi v4)) (S0, m3))) ∧ 
    (x1 = ((5 : Nat) : Int) →
      (∃ v6 m5, cal 134 [vr 53, vi 0] (S0, M) (some (vi v6), (S0, m5)) ∧
      ret (some (vi v6)) (S0, m5))) ∧ True) ∧ ((x1 < 0 ∨ ((6 : Nat) : Int) ≤ x1) →
      ret (some (vi (-1))) (S0, M)))) ∧ (¬ (36 ≤ x3) →
    mIn x3 510 ((∃ v8 m7, cal 130 [vi (M 54 x3)] (S0, M) (some (vi v8), (S0, m7)) ∧
    ((v8 = 0 →
      K 4 [(0, vr 53), (1, vi x1), (2, vi (w32 (x2 + 0))), (3, vi (w32 (x3 + 1)))] [] (S0, m7)) ∧ (¬ (v8 = 0) →
      K 4 [(0, vr 53), (1, vi x1), (2, vi (w32 (x2 + 1))), (3, vi (w32 (x3 + 1)))] [] (S0, m7)))))))) :
  K 4 [(0, vr 53), (1, vi x1), (2, vi x2), (3, vi x3)] [] (S0, M) := by
  exact mQ hK [27, 28, 36, 76, 84, 86, 92, 100, 106, 112] 11 1 4 b_M_rule_4 rfl _ _ _ h
set_option maxRecDepth 40000 in
theorem q_M_cell_0 {cal : mCal} {lim : Nat × Nat} {scr : Nat × (Nat → Int)} {ret : Option mVal → mHp → Prop} {K : Nat → mLV → List mVal → mHp → Prop} (hK : mClo m_M_cell cal lim scr ret K) (x1 : Int) (x2 : Int) (M : mMem) (h :
  (∃ v2 m1, cal 129 [vi x1, vi x2] (S0, M) (some (vi v2), (S0, m1)) ∧
  ((v2 = 0 →
    ret (some (vi (-1))) (S0, m1)) ∧ (¬ (v2 = 0) →
    mIn (w32 ((w32 (6 * x1)) + x2)) 510 (ret (some (vi (m1 54 (w32 ((w32 (6 * x1)) + x2))))) (S0, m1)))))) :
  K 0 [(0, vr 53), (1, vi x1), (2, vi x2)] [] (S0, M) := by
  exact mQ hK [22, 23] 3 0 0 b_M_cell_0 rfl _ _ _ h
set_option maxRecDepth 40000 in
theorem q_M_thread_0 {cal : mCal} {lim : Nat × Nat} {scr : Nat × (Nat → Int)} {ret : Option mVal → mHp → Prop} {K : Nat → mLV → List mVal → mHp → Prop} (hK : mClo m_M_thread cal lim scr ret K) (x1 : Int) (M : mMem) (h :
  (∃ v2 m1, cal 130 [vi x1] (S0, M) (some (vi v2), (S0, m1)) ∧
  ((v2 = 0 →
    ret (some (vi (-1))) (S0, m1)) ∧ (¬ (v2 = 0) →
    mIn (w32 ((w32 (36 + x1)) - 1)) 510 (ret (some (vi (w32 ((m1 54 (w32 ((w32 (36 + x1)) - 1))) + 20)))) (S0, m1)))))) :
  K 0 [(0, vr 53), (1, vi x1)] [] (S0, M) := by
  exact mQ hK [24, 25] 3 0 0 b_M_thread_0 rfl _ _ _ h
set_option maxRecDepth 40000 in
theorem q_M_law_0 {cal : mCal} {lim : Nat × Nat} {scr : Nat × (Nat → Int)} {ret : Option mVal → mHp → Prop} {K : Nat → mLV → List mVal → mHp → Prop} (hK : mClo m_M_law cal lim scr ret K) (x1 : Int) (x2 : Int) (M : mMem) (h :
  (∃ v2 m1, cal 128 [vr 53, vi x1] (S0, M) (some (vi v2), (S0, m1)) ∧
  ((v2 = 0 →
    ret (some (vi (-1))) (S0, m1)) ∧ (¬ (v2 = 0) →
    (∃ v4 m3, cal 115 [vl x2, vl (0 : Nat), vl 5] (S0, m1) (some (vi v4), (S0, m3)) ∧
    ((v4 ≠ 0 →
      ((4 ≤ x2 →
        ((x2 ≠ 5 →
          (∃ v6 m5, cal 133 [vr 53, vi 0, vi x1, vi 0] (S0, m3) (some (vi v6), (S0, m5)) ∧
          ret (some (vi v6)) (S0, m5))) ∧ (¬ (x2 ≠ 5) →
          (∃ v8 m7, cal 133 [vr 53, vi 0, vi x1, vi 1] (S0, m3) (some (vi v8), (S0, m7)) ∧
          ret (some (vi v8)) (S0, m7))))) ∧ (¬ (4 ≤ x2) →
        mIn (w32 ((w32 (40 + (w32 (5 * x2)))) + x1)) 510 (ret (some (vi (m3 54 (w32 ((w32 (40 + (w32 (5 * x2)))) + x1))))) (S0, m3))))) ∧ (¬ (v4 ≠ 0) →
      ret (some (vi (-1))) (S0, m3)))))))) :
  K 0 [(0, vr 53), (1, vi x1), (2, vi x2)] [] (S0, M) := by
  exact mQ hK [20, 22, 43, 55, 56, 59] 7 0 0 b_M_law_0 rfl _ _ _ h
set_option maxRecDepth 40000 in
theorem q_M_stitch_0 {cal : mCal} {lim : Nat × Nat} {scr : Nat × (Nat → Int)} {ret : Option mVal → mHp → Prop} {K : Nat → mLV → List mVal → mHp → Prop} (hK : mClo m_M_stitch cal lim scr ret K) (x1 : Int) (x2 : Int) (M : mMem) (h :
  (∃ v2 m1, cal 115 [vl x1, vl (0 : Nat), vl (w32 ((M 54 60) - 1))] (S0, M) (some (vi v2), (S0, m1)) ∧
  ((v2 = 0 →
    ret (some (vi (-1))) (S0, m1)) ∧ (¬ (v2 = 0) →
    (∃ v4 m3, cal 115 [vl x2, vl (0 : Nat), vl 2] (S0, m1) (some (vi v4), (S0, m3)) ∧
    ((v4 = 0 →
      ret (some (vi (-1))) (S0, m3)) ∧ (¬ (v4 = 0) →
      mIn (w32 ((w32 (61 + (w32 (3 * x1)))) + x2)) 510 (ret (some (vi (m3 54 (w32 ((w32 (61 + (w32 (3 * x1)))) + x2))))) (S0, m3))))))))) :
  K 0 [(0, vr 53), (1, vi x1), (2, vi x2)] [] (S0, M) := by
  exact mQ hK [47, 48] 3 0 0 b_M_stitch_0 rfl _ _ _ h
set_option maxRecDepth 40000 in
theorem q_M_puts_0 {cal : mCal} {lim : Nat × Nat} {scr : Nat × (Nat → Int)} {ret : Option mVal → mHp → Prop} {K : Nat → mLV → List mVal → mHp → Prop} (hK : mClo m_M_puts cal lim scr ret K) (x1 : Int) (x2 : Int) (x3 : Int) (x4 : Int) (M : mMem) (h :
  ((x1 ≠ 0 →
    mIn x2 510 (mIn x2 510 (ret (some (vi (w32 ((M 54 x2) + x4)))) (S0, mupd M 54 x2 (w32 (x3 - x4)))))) ∧ (¬ (x1 ≠ 0) →
    ret (some (vi (-1))) (S0, M)))) :
  K 0 [(0, vr 53), (1, vi x1), (2, vi x2), (3, vi x3), (4, vi x4)] [] (S0, M) := by
  exact mQ hK [6] 2 0 0 b_M_puts_0 rfl _ _ _ h
set_option maxRecDepth 40000 in
theorem q_M_amend_0 {cal : mCal} {lim : Nat × Nat} {scr : Nat × (Nat → Int)} {ret : Option mVal → mHp → Prop} {K : Nat → mLV → List mVal → mHp → Prop} (hK : mClo m_M_amend cal lim scr ret K) (x1 : Int) (x2 : Int) (x3 : Int) (M : mMem) (h :
  ((x2 ≠ 0 →
    ((x2 ≠ 3 →
      (∃ v2 m1, cal 130 [vi x3] (S0, M) (some (vi v2), (S0, m1)) ∧
      K 37 [(0, vr 53), (1, vi x1), (2, vi x2), (3, vi x3)] [vi v2] (S0, m1))) ∧ (¬ (x2 ≠ 3) →
      (∃ v4 m3, cal 115 [vl x3, vl (1 : Nat), vl 9] (S0, M) (some (vi v4), (S0, m3)) ∧
      K 37 [(0, vr 53), (1, vi x1), (2, vi x2), (3, vi x3)] [vi v4] (S0, m3))))) ∧ (¬ (x2 ≠ 0) →
    (∃ v6 m5, cal 115 [vl x3, vl (0 : Nat), vl 3] (S0, M) (some (vi v6), (S0, m5)) ∧
    K 37 [(0, vr 53), (1, vi x1), (2, vi x2), (3, vi x3)] [vi v6] (S0, m5))))) :
  K 0 [(0, vr 53), (1, vi x1), (2, vi x2), (3, vi x3)] [] (S0, M) := by
  exact mQ hK [16, 33, 69] 4 0 0 b_M_amend_0 rfl _ _ _ h
set_option maxRecDepth 40000 in
theorem q_M_amend_37 {cal : mCal} {lim : Nat × Nat} {scr : Nat × (Nat → Int)} {ret : Option mVal → mHp → Prop} {K : Nat → mLV → List mVal → mHp → Prop} (hK : mClo m_M_amend cal lim scr ret K) (x1 : Int) (x2 : Int) (x3 : Int) (s0 : Int) (M : mMem) (h :
  (∃ v2 m1, cal 128 [vr 53, vi x1] (S0, M) (some (vi v2), (S0, m1)) ∧
  ((v2 = 0 →
    K 70 [(1, vi x1), (2, vi x2), (3, vi x3)] [vi 0, vr 53] (S0, m1)) ∧ (¬ (v2 = 0) →
    (∃ v4 m3, cal 115 [vl x2, vl (0 : Nat), vl 3] (S0, m1) (some (vi v4), (S0, m3)) ∧
    ((v4 = 0 →
      K 70 [(1, vi x1), (2, vi x2), (3, vi x3)] [vi 0, vr 53] (S0, m3)) ∧ (¬ (v4 = 0) →
      ((s0 = 0 →
        K 70 [(1, vi x1), (2, vi x2), (3, vi x3)] [vi 0, vr 53] (S0, m3)) ∧ (¬ (s0 = 0) →
        K 70 [(1, vi x1), (2, vi x2), (3, vi x3)] [vi 1, vr 53] (S0, m3)))))))))) :
  K 37 [(0, vr 53), (1, vi x1), (2, vi x2), (3, vi x3)] [vi s0] (S0, M) := by
  exact mQ hK [16, 33, 69] 4 3 37 b_M_amend_37 rfl _ _ _ h
set_option maxRecDepth 40000 in
theorem q_M_amend_70 {cal : mCal} {lim : Nat × Nat} {scr : Nat × (Nat → Int)} {ret : Option mVal → mHp → Prop} {K : Nat → mLV → List mVal → mHp → Prop} (hK : mClo m_M_amend cal lim scr ret K) (x1 : Int) (x2 : Int) (x3 : Int) (s0 : Int) (M : mMem) (h :
  (∃ v2 m1, cal 142 [vr 53, vi s0, vi (w32 ((w32 (40 + (w32 (5 * x2)))) + x1)), vi x3, vi 0] (S0, M) (some (vi v2), (S0, m1)) ∧
  ret (some (vi v2)) (S0, m1))) :
  K 70 [(1, vi x1), (2, vi x2), (3, vi x3)] [vi s0, vr 53] (S0, M) := by
  exact mQ hK [16, 33, 69] 4 5 70 b_M_amend_70 rfl _ _ _ h
set_option maxRecDepth 40000 in
theorem q_M_spool_0 {cal : mCal} {lim : Nat × Nat} {scr : Nat × (Nat → Int)} {ret : Option mVal → mHp → Prop} {K : Nat → mLV → List mVal → mHp → Prop} (hK : mClo m_M_spool cal lim scr ret K) (x1 : Int) (x2 : Int) (M : mMem) (h :
  (∃ v2 m1, cal 130 [vi x1] (S0, M) (some (vi v2), (S0, m1)) ∧
  ((v2 = 0 →
    K 25 [(1, vi x1), (2, vi x2)] [vi 0, vr 53] (S0, m1)) ∧ (¬ (v2 = 0) →
    (∃ v4 m3, cal 115 [vl x2, vl (0 : Nat), vl 99] (S0, m1) (some (vi v4), (S0, m3)) ∧
    ((v4 = 0 →
      K 25 [(1, vi x1), (2, vi x2)] [vi 0, vr 53] (S0, m3)) ∧ (¬ (v4 = 0) →
      K 25 [(1, vi x1), (2, vi x2)] [vi 1, vr 53] (S0, m3)))))))) :
  K 0 [(0, vr 53), (1, vi x1), (2, vi x2)] [] (S0, M) := by
  exact mQ hK [24] 2 0 0 b_M_spool_0 rfl _ _ _ h
set_option maxRecDepth 40000 in
theorem q_M_spool_25 {cal : mCal} {lim : Nat × Nat} {scr : Nat × (Nat → Int)} {ret : Option mVal → mHp → Prop} {K : Nat → mLV → List mVal → mHp → Prop} (hK : mClo m_M_spool cal lim scr ret K) (x1 : Int) (x2 : Int) (s0 : Int) (M : mMem) (h :
  (∃ v2 m1, cal 142 [vr 53, vi s0, vi (w32 ((w32 (36 + x1)) - 1)), vi x2, vi 20] (S0, M) (some (vi v2), (S0, m1)) ∧
  ret (some (vi v2)) (S0, m1))) :
  K 25 [(1, vi x1), (2, vi x2)] [vi s0, vr 53] (S0, M) := by
  exact mQ hK [24] 2 2 25 b_M_spool_25 rfl _ _ _ h
set_option maxRecDepth 40000 in
theorem q_M_plan_0 {cal : mCal} {lim : Nat × Nat} {scr : Nat × (Nat → Int)} {ret : Option mVal → mHp → Prop} {K : Nat → mLV → List mVal → mHp → Prop} (hK : mClo m_M_plan cal lim scr ret K) (x1 : Int) (x2 : Int) (x3 : Int) (M : mMem) (h :
  (∃ v2 m1, cal 129 [vi x1, vi x2] (S0, M) (some (vi v2), (S0, m1)) ∧
  ((v2 = 0 →
    ret (some (vi (-1))) (S0, m1)) ∧ (¬ (v2 = 0) →
    (∃ v4 m3, cal 130 [vi x3] (S0, m1) (some (vi v4), (S0, m3)) ∧
    ((v4 ≠ 0 →
      (((m3 54 60) ≠ 8 →
        mIn (w32 (61 + (w32 (3 * (m3 54 60))))) 510 (mIn (w32 ((w32 (61 + (w32 (3 * (m3 54 60))))) + 1)) 510 (mIn (w32 ((w32 (61 + (w32 (3 * (m3 54 60))))) + 2)) 510 (ret (some (vi ((mupd (mupd (mupd (mupd m3 54 (w32 (61 + (w32 (3 * (m3 54 60))))) x1) 54 (w32 ((w32 (61 + (w32 (3 * (m3 54 60))))) + 1)) x2) 54 (w32 ((w32 (61 + (w32 (3 * (m3 54 60))))) + 2)) x3) 54 60 (w32 (((mupd (mupd (mupd m3 54 (w32 (61 + (w32 (3 * (m3 54 60))))) x1) 54 (w32 ((w32 (61 + (w32 (3 * (m3 54 60))))) + 1)) x2) 54 (w32 ((w32 (61 + (w32 (3 * (m3 54 60))))) + 2)) x3) 54 60) + 1))) 54 60))) (S0, mupd (mupd (mupd (mupd m3 54 (w32 (61 + (w32 (3 * (m3 54 60))))) x1) 54 (w32 ((w32 (61 + (w32 (3 * (m3 54 60))))) + 1)) x2) 54 (w32 ((w32 (61 + (w32 (3 * (m3 54 60))))) + 2)) x3) 54 60 (w32 (((mupd (mupd (mupd m3 54 (w32 (61 + (w32 (3 * (m3 54 60))))) x1) 54 (w32 ((w32 (61 + (w32 (3 * (m3 54 60))))) + 1)) x2) 54 (w32 ((w32 (61 + (w32 (3 * (m3 54 60))))) + 2)) x3) 54 60) + 1))))))) ∧ (¬ ((m3 54 60) ≠ 8) →
        ret (some (vi (-3))) (S0, m3)))) ∧ (¬ (v4 ≠ 0) →
      ret (some (vi (-1))) (S0, m3)))))))) :
  K 0 [(0, vr 53), (1, vi x1), (2, vi x2), (3, vi x3)] [] (S0, M) := by
  exact mQ hK [15, 17, 32] 4 0 0 b_M_plan_0 rfl _ _ _ h
set_option maxRecDepth 40000 in
theorem q_M_cut_0 {cal : mCal} {lim : Nat × Nat} {scr : Nat × (Nat → Int)} {ret : Option mVal → mHp → Prop} {K : Nat → mLV → List mVal → mHp → Prop} (hK : mClo m_M_cut cal lim scr ret K) (x1 : Int) (M : mMem) (h :
  (∃ v2 m1, cal 115 [vl x1, vl (0 : Nat), vl (M 54 60)] (S0, M) (some (vi v2), (S0, m1)) ∧
  (∃ v4 m3, cal 142 [vr 53, vi v2, vi 60, vi x1, vi 0] (S0, m1) (some (vi v4), (S0, m3)) ∧
  ret (some (vi v4)) (S0, m3)))) :
  K 0 [(0, vr 53), (1, vi x1)] [] (S0, M) := by
  exact mQ hK [] 1 0 0 b_M_cut_0 rfl _ _ _ h
set_option maxRecDepth 40000 in
theorem q_M_enact_0 {cal : mCal} {lim : Nat × Nat} {scr : Nat × (Nat → Int)} {ret : Option mVal → mHp → Prop} {K : Nat → mLV → List mVal → mHp → Prop} (hK : mClo m_M_enact cal lim scr ret K) (x1 : Int) (x2 : Int) (x3 : Int) (x4 : Int) (M : mMem) (h :
  (∃ v2 m1, cal 115 [vl x1, vl (0 : Nat), vl 3] (S0, M) (some (vi v2), (S0, m1)) ∧
  ((v2 = 0 →
    ret (some (vi (-1))) (S0, m1)) ∧ (¬ (v2 = 0) →
    (∃ v4 m3, cal 130 [vi x2] (S0, m1) (some (vi v4), (S0, m3)) ∧
    ((v4 = 0 →
      ret (some (vi (-1))) (S0, m3)) ∧ (¬ (v4 = 0) →
      (∃ v6 m5, cal 130 [vi x3] (S0, m3) (some (vi v6), (S0, m5)) ∧
      ((v6 = 0 →
        ret (some (vi (-1))) (S0, m5)) ∧ (¬ (v6 = 0) →
        (∃ v8 m7, cal 115 [vl x4, vl (1 : Nat), vl 9] (S0, m5) (some (vi v8), (S0, m7)) ∧
        ((v8 ≠ 0 →
          (((m7 54 39) ≠ 5 →
            mIn (w32 (40 + (m7 54 39))) 510 (mIn (w32 (45 + (m7 54 39))) 510 (mIn (w32 (50 + (m7 54 39))) 510 (mIn (w32 (55 + (m7 54 39))) 510 (ret (some (vi ((mupd (mupd (mupd (mupd (mupd m7 54 (w32 (40 + (m7 54 39))) x1) 54 (w32 (45 + (m7 54 39))) x2) 54 (w32 (50 + (m7 54 39))) x3) 54 (w32 (55 + (m7 54 39))) x4) 54 39 (w32 (((mupd (mupd (mupd (mupd m7 54 (w32 (40 + (m7 54 39))) x1) 54 (w32 (45 + (m7 54 39))) x2) 54 (w32 (50 + (m7 54 39))) x3) 54 (w32 (55 + (m7 54 39))) x4) 54 39) + 1))) 54 39))) (S0, mupd (mupd (mupd (mupd (mupd m7 54 (w32 (40 + (m7 54 39))) x1) 54 (w32 (45 + (m7 54 39))) x2) 54 (w32 (50 + (m7 54 39))) x3) 54 (w32 (55 + (m7 54 39))) x4) 54 39 (w32 (((mupd (mupd (mupd (mupd m7 54 (w32 (40 + (m7 54 39))) x1) 54 (w32 (45 + (m7 54 39))) x2) 54 (w32 (50 + (m7 54 39))) x3) 54 (w32 (55 + (m7 54 39))) x4) 54 39) + 1)))))))) ∧ (¬ ((m7 54 39) ≠ 5) →
            ret (some (vi (-3))) (S0, m7)))) ∧ (¬ (v8 ≠ 0) →
          ret (some (vi (-1))) (S0, m7)))))))))))))) :
  K 0 [(0, vr 53), (1, vi x1), (2, vi x2), (3, vi x3), (4, vi x4)] [] (S0, M) := by
  exact mQ hK [39, 41, 59] 4 0 0 b_M_enact_0 rfl _ _ _ h
set_option maxRecDepth 40000 in
theorem q_M_stitchesOn_0 {cal : mCal} {lim : Nat × Nat} {scr : Nat × (Nat → Int)} {ret : Option mVal → mHp → Prop} {K : Nat → mLV → List mVal → mHp → Prop} (hK : mClo m_M_stitchesOn cal lim scr ret K) (x1 : Int) (x2 : Int) (x3 : Int) (M : mMem) (h :
  mIn (w32 (x1 + x2)) 510 ((((M 54 (w32 (x1 + x2))) ≠ 0 →
    K 35 [(0, vr 53), (1, vi x1), (2, vi x2), (3, vi x3)] [vi 0] (S0, M)) ∧ (¬ ((M 54 (w32 (x1 + x2))) ≠ 0) →
    mIn (w32 ((w32 ((w32 (x1 + 36)) + x3)) - 1)) 510 ((((w32 ((M 54 (w32 ((w32 ((w32 (x1 + 36)) + x3)) - 1))) + 20)) ≤ 0 →
      K 35 [(0, vr 53), (1, vi x1), (2, vi x2), (3, vi x3)] [vi 0] (S0, M)) ∧ (¬ ((w32 ((M 54 (w32 ((w32 ((w32 (x1 + 36)) + x3)) - 1))) + 20)) ≤ 0) →
      K 35 [(0, vr 53), (1, vi x1), (2, vi x2), (3, vi x3)] [vi 1] (S0, M)))))))) :
  K 0 [(0, vr 53), (1, vi x1), (2, vi x2), (3, vi x3)] [] (S0, M) := by
  exact mQ hK [34, 68] 3 0 0 b_M_stitchesOn_0 rfl _ _ _ h
set_option maxRecDepth 40000 in
theorem q_M_stitchesOn_35 {cal : mCal} {lim : Nat × Nat} {scr : Nat × (Nat → Int)} {ret : Option mVal → mHp → Prop} {K : Nat → mLV → List mVal → mHp → Prop} (hK : mClo m_M_stitchesOn cal lim scr ret K) (x1 : Int) (x2 : Int) (x3 : Int) (s0 : Int) (M : mMem) (h :
  ((s0 = 0 →
    mBo s0 (ret (some (vi s0)) (S0, M))) ∧ (¬ (s0 = 0) →
    mIn (w32 (x1 + x2)) 510 (mIn (w32 ((w32 ((w32 (x1 + 36)) + x3)) - 1)) 510 (mIn (w32 ((w32 ((w32 (x1 + 36)) + x3)) - 1)) 510 (mBo s0 (ret (some (vi s0)) (S0, mupd (mupd M 54 (w32 (x1 + x2)) x3) 54 (w32 ((w32 ((w32 (x1 + 36)) + x3)) - 1)) (w32 (((mupd M 54 (w32 (x1 + x2)) x3) 54 (w32 ((w32 ((w32 (x1 + 36)) + x3)) - 1))) - 1)))))))))) :
  K 35 [(0, vr 53), (1, vi x1), (2, vi x2), (3, vi x3)] [vi s0] (S0, M) := by
  exact mQ hK [34, 68] 3 2 35 b_M_stitchesOn_35 rfl _ _ _ h
set_option maxRecDepth 40000 in
theorem q_M_works_0 {cal : mCal} {lim : Nat × Nat} {scr : Nat × (Nat → Int)} {ret : Option mVal → mHp → Prop} {K : Nat → mLV → List mVal → mHp → Prop} (hK : mClo m_M_works cal lim scr ret K) (x1 : Int) (x2 : Int) (x3 : Int) (M : mMem) (h :
  (∃ v2 m1, cal 129 [vi x1, vi x2] (S0, M) (some (vi v2), (S0, m1)) ∧
  ((v2 = 0 →
    ret (some (vi (-1))) (S0, m1)) ∧ (¬ (v2 = 0) →
    (∃ v4 m3, cal 130 [vi x3] (S0, m1) (some (vi v4), (S0, m3)) ∧
    ((v4 ≠ 0 →
      (∃ v6 m5, cal 148 [vr 53, vi 0, vi (w32 ((w32 (6 * x1)) + x2)), vi x3] (S0, m3) (some (vi v6), (S0, m5)) ∧
      ((v6 = 0 →
        ret (some (vi (-2))) (S0, m5)) ∧ (¬ (v6 = 0) →
        (∃ v8 m7, cal 134 [vr 53, vi 0] (S0, m5) (some (vi v8), (S0, m7)) ∧
        ret (some (vi v8)) (S0, m7)))))) ∧ (¬ (v4 ≠ 0) →
      ret (some (vi (-1))) (S0, m3)))))))) :
  K 0 [(0, vr 53), (1, vi x1), (2, vi x2), (3, vi x3)] [] (S0, M) := by
  exact mQ hK [15, 17, 40, 42] 5 0 0 b_M_works_0 rfl _ _ _ h
set_option maxRecDepth 40000 in
theorem q_M_work_0 {cal : mCal} {lim : Nat × Nat} {scr : Nat × (Nat → Int)} {ret : Option mVal → mHp → Prop} {K : Nat → mLV → List mVal → mHp → Prop} (hK : mClo m_M_work cal lim scr ret K) (x1 : Int) (x2 : Int) (x3 : Int) (M : mMem) (h :
  (∃ v2 m1, cal 149 [vr 53, vi x1, vi x2, vi x3] (S0, M) (some (vi v2), (S0, m1)) ∧
  ret (some (vi v2)) (S0, m1))) :
  K 0 [(0, vr 53), (1, vi x1), (2, vi x2), (3, vi x3)] [] (S0, M) := by
  exact mQ hK [] 1 0 0 b_M_work_0 rfl _ _ _ h
set_option maxRecDepth 40000 in
theorem q_M_unpick_0 {cal : mCal} {lim : Nat × Nat} {scr : Nat × (Nat → Int)} {ret : Option mVal → mHp → Prop} {K : Nat → mLV → List mVal → mHp → Prop} (hK : mClo m_M_unpick cal lim scr ret K) (x1 : Int) (x2 : Int) (M : mMem) (h :
  (∃ v2 m1, cal 129 [vi x1, vi x2] (S0, M) (some (vi v2), (S0, m1)) ∧
  ((v2 ≠ 0 →
    mIn (w32 ((w32 (6 * x1)) + x2)) 510 ((∃ v4 m3, cal 130 [vi (m1 54 (w32 ((w32 (6 * x1)) + x2)))] (S0, m1) (some (vi v4), (S0, m3)) ∧
    ((v4 = 0 →
      ret (some (vi (-2))) (S0, m3)) ∧ (¬ (v4 = 0) →
      (∃ v6 m5, cal 142 [vr 53, vi 1, vi (w32 ((w32 (6 * x1)) + x2)), vi 0, vi 0] (S0, m3) (some (vi v6), (S0, m5)) ∧
      ret (some (vi v6)) (S0, m5))))))) ∧ (¬ (v2 ≠ 0) →
    ret (some (vi (-1))) (S0, m1))))) :
  K 0 [(0, vr 53), (1, vi x1), (2, vi x2)] [] (S0, M) := by
  exact mQ hK [10, 43, 45] 4 0 0 b_M_unpick_0 rfl _ _ _ h
set_option maxRecDepth 40000 in
theorem q_M_moth_0 {cal : mCal} {lim : Nat × Nat} {scr : Nat × (Nat → Int)} {ret : Option mVal → mHp → Prop} {K : Nat → mLV → List mVal → mHp → Prop} (hK : mClo m_M_moth cal lim scr ret K) (x1 : Int) (x2 : Int) (M : mMem) (h :
  (∃ v2 m1, cal 129 [vi x1, vi x2] (S0, M) (some (vi v2), (S0, m1)) ∧
  ((v2 ≠ 0 →
    mIn (w32 ((w32 (6 * x1)) + x2)) 510 ((((m1 54 (w32 ((w32 (6 * x1)) + x2))) = 4 →
      ret (some (vi (-2))) (S0, m1)) ∧ (¬ ((m1 54 (w32 ((w32 (6 * x1)) + x2))) = 4) →
      (∃ v4 m3, cal 142 [vr 53, vi 1, vi (w32 ((w32 (6 * x1)) + x2)), vi 4, vi 0] (S0, m1) (some (vi v4), (S0, m3)) ∧
      ret (some (vi v4)) (S0, m3)))))) ∧ (¬ (v2 ≠ 0) →
    ret (some (vi (-1))) (S0, m1))))) :
  K 0 [(0, vr 53), (1, vi x1), (2, vi x2)] [] (S0, M) := by
  exact mQ hK [10, 41, 43] 4 0 0 b_M_moth_0 rfl _ _ _ h
set_option maxRecDepth 40000 in
theorem q_M_mend_0 {cal : mCal} {lim : Nat × Nat} {scr : Nat × (Nat → Int)} {ret : Option mVal → mHp → Prop} {K : Nat → mLV → List mVal → mHp → Prop} (hK : mClo m_M_mend cal lim scr ret K) (x1 : Int) (x2 : Int) (M : mMem) (h :
  (∃ v2 m1, cal 129 [vi x1, vi x2] (S0, M) (some (vi v2), (S0, m1)) ∧
  ((v2 ≠ 0 →
    mIn (w32 ((w32 (6 * x1)) + x2)) 510 ((((m1 54 (w32 ((w32 (6 * x1)) + x2))) = 4 →
      mIn (w32 ((w32 (6 * x1)) + x2)) 510 ((∃ v4 m3, cal 136 [vr 53, vi 0] (S0, mupd m1 54 (w32 ((w32 (6 * x1)) + x2)) 0) (some (vi v4), (S0, m3)) ∧
      ret (some (vi v4)) (S0, m3)))) ∧ (¬ ((m1 54 (w32 ((w32 (6 * x1)) + x2))) = 4) →
      ret (some (vi (-2))) (S0, m1))))) ∧ (¬ (v2 ≠ 0) →
    ret (some (vi (-1))) (S0, m1))))) :
  K 0 [(0, vr 53), (1, vi x1), (2, vi x2)] [] (S0, M) := by
  exact mQ hK [10, 28] 3 0 0 b_M_mend_0 rfl _ _ _ h
set_option maxRecDepth 40000 in
theorem q_M_copies_0 {cal : mCal} {lim : Nat × Nat} {scr : Nat × (Nat → Int)} {ret : Option mVal → mHp → Prop} {K : Nat → mLV → List mVal → mHp → Prop} (hK : mClo m_M_copies cal lim scr ret K) (x1 : Int) (x2 : Int) (M : mMem) (h :
  K 2 [(0, vr 53), (1, vi x1), (2, vi x2), (3, vi 0)] [] (S0, M)) :
  K 0 [(0, vr 53), (1, vi x1), (2, vi x2)] [] (S0, M) := by
  exact mQ hK [30] 2 0 0 b_M_copies_0 rfl _ _ _ h
set_option maxRecDepth 40000 in
theorem q_M_copies_2 {cal : mCal} {lim : Nat × Nat} {scr : Nat × (Nat → Int)} {ret : Option mVal → mHp → Prop} {K : Nat → mLV → List mVal → mHp → Prop} (hK : mClo m_M_copies cal lim scr ret K) (x1 : Int) (x2 : Int) (x3 : Int) (M : mMem) (h :
  ((85 ≤ x3 →
    ret none (S0, M)) ∧ (¬ (85 ≤ x3) →
    mIn (w32 (x1 + x3)) 510 (mIn (w32 (x2 + x3)) 510 (K 2 [(0, vr 53), (1, vi x1), (2, vi x2), (3, vi (w32 (x3 + 1)))] [] (S0, mupd M 54 (w32 (x2 + x3)) (M 54 (w32 (x1 + x3))))))))) :
  K 2 [(0, vr 53), (1, vi x1), (2, vi x2), (3, vi x3)] [] (S0, M) := by
  exact mQ hK [30] 2 1 2 b_M_copies_2 rfl _ _ _ h
set_option maxRecDepth 40000 in
theorem q_M_planGoes_0 {cal : mCal} {lim : Nat × Nat} {scr : Nat × (Nat → Int)} {ret : Option mVal → mHp → Prop} {K : Nat → mLV → List mVal → mHp → Prop} (hK : mClo m_M_planGoes cal lim scr ret K) (x1 : Int) (M : mMem) (h :
  (∃ m1, cal 154 [vr 53, vi 0, vi 340] (S0, M) (none, (S0, m1)) ∧
  K 21 [(0, vr 53), (1, vi x1), (2, vi 0)] [] (S0, mupd (mupd m1 53 15 0) 53 16 (-4)))) :
  K 0 [(0, vr 53), (1, vi x1)] [] (S0, M) := by
  exact mQ hK [93, 107, 111, 114, 120] 6 0 0 b_M_planGoes_0 rfl _ _ _ h
set_option maxRecDepth 40000 in
theorem q_M_planGoes_21 {cal : mCal} {lim : Nat × Nat} {scr : Nat × (Nat → Int)} {ret : Option mVal → mHp → Prop} {K : Nat → mLV → List mVal → mHp → Prop} (hK : mClo m_M_planGoes cal lim scr ret K) (x1 : Int) (x2 : Int) (M : mMem) (h :
  (((M 54 60) ≤ x2 →
    ret none (S0, M)) ∧ (¬ ((M 54 60) ≤ x2) →
    ((x2 = x1 →
      K 21 [(0, vr 53), (1, vi x1), (2, vi (w32 (x2 + 1)))] [] (S0, M)) ∧ (¬ (x2 = x1) →
      mIn (w32 (61 + (w32 (3 * x2)))) 510 (mIn (w32 ((w32 (61 + (w32 (3 * x2)))) + 1)) 510 (mIn (w32 ((w32 (61 + (w32 (3 * x2)))) + 2)) 510 ((∃ v2 m1, cal 148 [vr 53, vi 340, vi (w32 ((w32 (6 * (M 54 (w32 (61 + (w32 (3 * x2))))))) + (M 54 (w32 ((w32 (61 + (w32 (3 * x2)))) + 1))))), vi (M 54 (w32 ((w32 (61 + (w32 (3 * x2)))) + 2)))] (S0, M) (some (vi v2), (S0, m1)) ∧
      ((v2 = 0 →
        (((m1 53 16) ≠ (-4) →
          K 21 [(0, vr 53), (1, vi x1), (2, vi (w32 (x2 + 1)))] [] (S0, mupd m1 53 16 (m1 53 16))) ∧ (¬ ((m1 53 16) ≠ (-4)) →
          K 21 [(0, vr 53), (1, vi x1), (2, vi (w32 (x2 + 1)))] [] (S0, mupd m1 53 16 x2)))) ∧ (¬ (v2 = 0) →
        K 21 [(0, vr 53), (1, vi x1), (2, vi (w32 (x2 + 1)))] [] (S0, mupd m1 53 15 (w32 ((m1 53 15) + 1)))))))))))))) :
  K 21 [(0, vr 53), (1, vi x1), (2, vi x2)] [] (S0, M) := by
  exact mQ hK [93, 107, 111, 114, 120] 6 1 21 b_M_planGoes_21 rfl _ _ _ h
set_option maxRecDepth 40000 in
theorem q_M_runs_0 {cal : mCal} {lim : Nat × Nat} {scr : Nat × (Nat → Int)} {ret : Option mVal → mHp → Prop} {K : Nat → mLV → List mVal → mHp → Prop} (hK : mClo m_M_runs cal lim scr ret K) (x1 : Int) (M : mMem) (h :
  (∃ v2 m1, cal 115 [vl x1, vl (0 : Nat), vl 3] (S0, M) (some (vi v2), (S0, m1)) ∧
  ((v2 ≠ 0 →
    (∃ m3, cal 155 [vr 53, vi (-4)] (S0, m1) (none, (S0, m3)) ∧
    ((x1 ≠ 0 →
      ((x1 ≠ 1 →
        ((x1 ≠ 2 →
          ret (some (vi (m3 53 16))) (S0, m3)) ∧ (¬ (x1 ≠ 2) →
          ret (some (vi (m3 53 15))) (S0, m3)))) ∧ (¬ (x1 ≠ 1) →
        (∃ v5 m4, cal 135 [vr 53, vi 340] (S0, m3) (some (vi v5), (S0, m4)) ∧
        ret (some (vi v5)) (S0, m4))))) ∧ (¬ (x1 ≠ 0) →
      (∃ v7 m6, cal 134 [vr 53, vi 340] (S0, m3) (some (vi v7), (S0, m6)) ∧
      ret (some (vi v7)) (S0, m6)))))) ∧ (¬ (v2 ≠ 0) →
    ret (some (vi (-1))) (S0, m1))))) :
  K 0 [(0, vr 53), (1, vi x1)] [] (S0, M) := by
  exact mQ hK [14, 34, 49, 61, 65] 6 0 0 b_M_runs_0 rfl _ _ _ h
set_option maxRecDepth 40000 in
theorem q_M_ahead_0 {cal : mCal} {lim : Nat × Nat} {scr : Nat × (Nat → Int)} {ret : Option mVal → mHp → Prop} {K : Nat → mLV → List mVal → mHp → Prop} (hK : mClo m_M_ahead cal lim scr ret K) (x1 : Int) (x2 : Int) (M : mMem) (h :
  (∃ v2 m1, cal 129 [vi x1, vi x2] (S0, M) (some (vi v2), (S0, m1)) ∧
  ((v2 ≠ 0 →
    (∃ m3, cal 155 [vr 53, vi (-4)] (S0, m1) (none, (S0, m3)) ∧
    mIn (w32 ((w32 (340 + (w32 (6 * x1)))) + x2)) 510 (ret (some (vi (m3 54 (w32 ((w32 (340 + (w32 (6 * x1)))) + x2))))) (S0, m3)))) ∧ (¬ (v2 ≠ 0) →
    ret (some (vi (-1))) (S0, m1))))) :
  K 0 [(0, vr 53), (1, vi x1), (2, vi x2)] [] (S0, M) := by
  exact mQ hK [10] 2 0 0 b_M_ahead_0 rfl _ _ _ h
set_option maxRecDepth 40000 in
theorem q_M_isMore_0 {cal : mCal} {lim : Nat × Nat} {scr : Nat × (Nat → Int)} {ret : Option mVal → mHp → Prop} {K : Nat → mLV → List mVal → mHp → Prop} (hK : mClo m_M_isMore cal lim scr ret K) (x1 : Int) (M : mMem) (h :
  ((x1 ≤ (M 53 17) →
    K 13 [(0, vr 53), (1, vi x1)] [vi 0] (S0, M)) ∧ (¬ (x1 ≤ (M 53 17)) →
    K 13 [(0, vr 53), (1, vi x1)] [vi 1] (S0, M)))) :
  K 0 [(0, vr 53), (1, vi x1)] [] (S0, M) := by
  exact mQ hK [12, 23, 27] 4 0 0 b_M_isMore_0 rfl _ _ _ h
set_option maxRecDepth 40000 in
theorem q_M_isMore_13 {cal : mCal} {lim : Nat × Nat} {scr : Nat × (Nat → Int)} {ret : Option mVal → mHp → Prop} {K : Nat → mLV → List mVal → mHp → Prop} (hK : mClo m_M_isMore cal lim scr ret K) (x1 : Int) (s0 : Int) (M : mMem) (h :
  ((s0 = 0 →
    mBo s0 (ret (some (vi s0)) (S0, mupd M 53 17 (M 53 17)))) ∧ (¬ (s0 = 0) →
    mBo s0 (ret (some (vi s0)) (S0, mupd M 53 17 x1))))) :
  K 13 [(0, vr 53), (1, vi x1)] [vi s0] (S0, M) := by
  exact mQ hK [12, 23, 27] 4 2 13 b_M_isMore_13 rfl _ _ _ h
set_option maxRecDepth 40000 in
theorem q_M_stitchesBy_0 {cal : mCal} {lim : Nat × Nat} {scr : Nat × (Nat → Int)} {ret : Option mVal → mHp → Prop} {K : Nat → mLV → List mVal → mHp → Prop} (hK : mClo m_M_stitchesBy cal lim scr ret K) (x1 : Int) (x2 : Int) (M : mMem) (h :
  (∃ v2 m1, cal 129 [vi (jdiv x2 100), vi (jrem (jdiv x2 10) 10)] (S0, M) (some (vi v2), (S0, m1)) ∧
  ((v2 = 0 →
    ret (some (vi 0)) (S0, m1)) ∧ (¬ (v2 = 0) →
    (∃ v4 m3, cal 130 [vi (jrem x2 10)] (S0, m1) (some (vi v4), (S0, m3)) ∧
    ((v4 = 0 →
      ret (some (vi 0)) (S0, m3)) ∧ (¬ (v4 = 0) →
      (∃ v6 m5, cal 148 [vr 53, vi x1, vi (w32 ((w32 (6 * (jdiv x2 100))) + (jrem (jdiv x2 10) 10))), vi (jrem x2 10)] (S0, m3) (some (vi v6), (S0, m5)) ∧
      ((v6 = 0 →
        ret (some (vi 0)) (S0, m5)) ∧ (¬ (v6 = 0) →
        ret (some (vi 1)) (S0, m5))))))))))) :
  K 0 [(0, vr 53), (1, vi x1), (2, vi x2)] [] (S0, M) := by
  exact mQ hK [58, 59] 3 0 0 b_M_stitchesBy_0 rfl _ _ _ h
set_option maxRecDepth 40000 in
theorem q_M_best_0 {cal : mCal} {lim : Nat × Nat} {scr : Nat × (Nat → Int)} {ret : Option mVal → mHp → Prop} {K : Nat → mLV → List mVal → mHp → Prop} (hK : mClo m_M_best cal lim scr ret K) (x1 : Int) (M : mMem) (h :
  (∃ v2 m1, cal 115 [vl x1, vl (0 : Nat), vl (1 : Nat)] (S0, M) (some (vi v2), (S0, m1)) ∧
  ((v2 ≠ 0 →
    (∃ v4 m3, cal 134 [vr 53, vi 0] (S0, m1) (some (vi v4), (S0, m3)) ∧
    K 26 [(0, vr 53), (1, vi x1), (2, vi (-4)), (3, vi 0)] [] (S0, mupd m3 53 17 v4))) ∧ (¬ (v2 ≠ 0) →
    ret (some (vi (-1))) (S0, m1))))) :
  K 0 [(0, vr 53), (1, vi x1)] [] (S0, M) := by
  exact mQ hK [12, 70, 71, 72, 78, 88, 92, 96] 9 0 0 b_M_best_0 rfl _ _ _ h
set_option maxRecDepth 40000 in
theorem q_M_best_26 {cal : mCal} {lim : Nat × Nat} {scr : Nat × (Nat → Int)} {ret : Option mVal → mHp → Prop} {K : Nat → mLV → List mVal → mHp → Prop} (hK : mClo m_M_best cal lim scr ret K) (x1 : Int) (x2 : Int) (x3 : Int) (M : mMem) (h :
  ((600 ≤ x3 →
    ((x2 = (-4) →
      ret (some (vi x2)) (S0, M)) ∧ (¬ (x2 = (-4)) →
      ((x1 ≠ 0 →
        ret (some (vi (M 53 17))) (S0, M)) ∧ (¬ (x1 ≠ 0) →
        ret (some (vi x2)) (S0, M)))))) ∧ (¬ (600 ≤ x3) →
    (∃ m1, cal 154 [vr 53, vi 0, vi 340] (S0, M) (none, (S0, m1)) ∧
    (∃ v3 m2, cal 159 [vr 53, vi 340, vi x3] (S0, m1) (some (vi v3), (S0, m2)) ∧
    ((v3 = 0 →
      K 26 [(0, vr 53), (1, vi x1), (2, vi x2), (3, vi (w32 (x3 + 1)))] [] (S0, m2)) ∧ (¬ (v3 = 0) →
      (∃ v5 m4, cal 134 [vr 53, vi 340] (S0, m2) (some (vi v5), (S0, m4)) ∧
      (∃ v7 m6, cal 158 [vr 53, vi v5] (S0, m4) (some (vi v7), (S0, m6)) ∧
      ((v7 = 0 →
        K 26 [(0, vr 53), (1, vi x1), (2, vi x2), (3, vi (w32 (x3 + 1)))] [] (S0, m6)) ∧ (¬ (v7 = 0) →
        K 26 [(0, vr 53), (1, vi x1), (2, vi x3), (3, vi (w32 (x3 + 1)))] [] (S0, m6)))))))))))) :
  K 26 [(0, vr 53), (1, vi x1), (2, vi x2), (3, vi x3)] [] (S0, M) := by
  exact mQ hK [12, 70, 71, 72, 78, 88, 92, 96] 9 2 26 b_M_best_26 rfl _ _ _ h
set_option maxRecDepth 40000 in
theorem q_M_isHeldBy_0 {cal : mCal} {lim : Nat × Nat} {scr : Nat × (Nat → Int)} {ret : Option mVal → mHp → Prop} {K : Nat → mLV → List mVal → mHp → Prop} (hK : mClo m_M_isHeldBy cal lim scr ret K) (x1 : Int) (x2 : Int) (M : mMem) (h :
  K 2 [(0, vr 53), (1, vi x1), (2, vi x2), (3, vi 0)] [] (S0, M)) :
  K 0 [(0, vr 53), (1, vi x1), (2, vi x2)] [] (S0, M) := by
  exact mQ hK [52, 129, 171, 177, 183] 6 0 0 b_M_isHeldBy_0 rfl _ _ _ h
set_option maxRecDepth 40000 in
theorem q_M_isHeldBy_2 {cal : mCal} {lim : Nat × Nat} {scr : Nat × (Nat → Int)} {ret : Option mVal → mHp → Prop} {K : Nat → mLV → List mVal → mHp → Prop} (hK : mClo m_M_isHeldBy cal lim scr ret K) (x1 : Int) (x2 : Int) (x3 : Int) (M : mMem) (h :
  ((600 ≤ x3 →
    ret (some (vi 0)) (S0, M)) ∧ (¬ (600 ≤ x3) →
    (∃ m1, cal 154 [vr 53, vi 0, vi 425] (S0, M) (none, (S0, m1)) ∧
    (∃ v3 m2, cal 159 [vr 53, vi 425, vi x3] (S0, m1) (some (vi v3), (S0, m2)) ∧
    ((v3 = 0 →
      K 2 [(0, vr 53), (1, vi x1), (2, vi x2), (3, vi (w32 (x3 + 1)))] [] (S0, m2)) ∧ (¬ (v3 = 0) →
      ((x2 ≠ 1 →
        K 55 [(0, vr 53), (1, vi x1), (2, vi x2), (3, vi x3), (4, vi 0)] [] (S0, mupd m2 53 18 x3)) ∧ (¬ (x2 ≠ 1) →
        (∃ v5 m4, cal 133 [vr 53, vi 425, vi x1, vi 0] (S0, mupd m2 53 18 x3) (some (vi v5), (S0, m4)) ∧
        ((v5 ≤ 0 →
          K 55 [(0, vr 53), (1, vi x1), (2, vi x2), (3, vi x3), (4, vi 0)] [] (S0, m4)) ∧ (¬ (v5 ≤ 0) →
          ret (some (vi 1)) (S0, m4))))))))))))) :
  K 2 [(0, vr 53), (1, vi x1), (2, vi x2), (3, vi x3)] [] (S0, M) := by
  exact mQ hK [52, 129, 171, 177, 183] 6 1 2 b_M_isHeldBy_2 rfl _ _ _ h
set_option maxRecDepth 40000 in
theorem q_M_isHeldBy_55 {cal : mCal} {lim : Nat × Nat} {scr : Nat × (Nat → Int)} {ret : Option mVal → mHp → Prop} {K : Nat → mLV → List mVal → mHp → Prop} (hK : mClo m_M_isHeldBy cal lim scr ret K) (x1 : Int) (x2 : Int) (x3 : Int) (x4 : Int) (M : mMem) (h :
  ((600 ≤ x4 →
    K 2 [(0, vr 53), (1, vi x1), (2, vi x2), (3, vi (w32 (x3 + 1)))] [] (S0, M)) ∧ (¬ (600 ≤ x4) →
    ((x2 ≠ 2 →
      K 2 [(0, vr 53), (1, vi x1), (2, vi x2), (3, vi (w32 (x3 + 1)))] [] (S0, M)) ∧ (¬ (x2 ≠ 2) →
      (∃ v2 m1, cal 159 [vr 53, vi 425, vi x4] (S0, M) (some (vi v2), (S0, m1)) ∧
      ((v2 = 0 →
        K 55 [(0, vr 53), (1, vi x1), (2, vi x2), (3, vi x3), (4, vi (w32 (x4 + 1)))] [] (S0, m1)) ∧ (¬ (v2 = 0) →
        (∃ v4 m3, cal 133 [vr 53, vi 425, vi x1, vi 0] (S0, mupd m1 53 19 x4) (some (vi v4), (S0, m3)) ∧
        ((v4 ≤ 0 →
          K 130 [(0, vr 53), (1, vi x1), (2, vi x2), (3, vi x3), (4, vi x4), (7, vi (w32 ((w32 (6 * (jdiv x4 100))) + (jrem (jdiv x4 10) 10))))] [vi 0] (S0, m3)) ∧ (¬ (v4 ≤ 0) →
          K 130 [(0, vr 53), (1, vi x1), (2, vi x2), (3, vi x3), (4, vi x4), (7, vi (w32 ((w32 (6 * (jdiv x4 100))) + (jrem (jdiv x4 10) 10))))] [vi 1] (S0, m3)))))))))))) :
  K 55 [(0, vr 53), (1, vi x1), (2, vi x2), (3, vi x3), (4, vi x4)] [] (S0, M) := by
  exact mQ hK [52, 129, 171, 177, 183] 6 3 55 b_M_isHeldBy_55 rfl _ _ _ h
set_option maxRecDepth 40000 in
theorem q_M_isHeldBy_130 {cal : mCal} {lim : Nat × Nat} {scr : Nat × (Nat → Int)} {ret : Option mVal → mHp → Prop} {K : Nat → mLV → List mVal → mHp → Prop} (hK : mClo m_M_isHeldBy cal lim scr ret K) (x1 : Int) (x2 : Int) (x3 : Int) (x4 : Int) (x7 : Int) (s0 : Int) (M : mMem) (h :
  mIn (w32 (425 + x7)) 510 (mIn (w32 ((w32 (461 + (jrem x4 10))) - 1)) 510 (mIn (w32 ((w32 (461 + (jrem x4 10))) - 1)) 510 (((s0 = 0 →
    K 55 [(0, vr 53), (1, vi x1), (2, vi x2), (3, vi x3), (4, vi (w32 (x4 + 1)))] [] (S0, mupd (mupd M 54 (w32 (425 + x7)) 0) 54 (w32 ((w32 (461 + (jrem x4 10))) - 1)) (w32 (((mupd M 54 (w32 (425 + x7)) 0) 54 (w32 ((w32 (461 + (jrem x4 10))) - 1))) + 1)))) ∧ (¬ (s0 = 0) →
    ret (some (vi 1)) (S0, mupd (mupd M 54 (w32 (425 + x7)) 0) 54 (w32 ((w32 (461 + (jrem x4 10))) - 1)) (w32 (((mupd M 54 (w32 (425 + x7)) 0) 54 (w32 ((w32 (461 + (jrem x4 10))) - 1))) + 1))))))))) :
  K 130 [(0, vr 53), (1, vi x1), (2, vi x2), (3, vi x3), (4, vi x4), (7, vi x7)] [vi s0] (S0, M) := by
  exact mQ hK [52, 129, 171, 177, 183] 6 5 130 b_M_isHeldBy_130 rfl _ _ _ h
set_option maxRecDepth 40000 in
theorem q_M_need_0 {cal : mCal} {lim : Nat × Nat} {scr : Nat × (Nat → Int)} {ret : Option mVal → mHp → Prop} {K : Nat → mLV → List mVal → mHp → Prop} (hK : mClo m_M_need cal lim scr ret K) (x1 : Int) (x2 : Int) (M : mMem) (h :
  (∃ v2 m1, cal 128 [vr 53, vi x1] (S0, M) (some (vi v2), (S0, m1)) ∧
  ((v2 = 0 →
    ret (some (vi (-1))) (S0, m1)) ∧ (¬ (v2 = 0) →
    ((x2 = 0 →
      K 28 [(0, vr 53), (1, vi x1), (2, vi x2)] [] (S0, m1)) ∧ (¬ (x2 = 0) →
      (∃ v4 m3, cal 115 [vl x2, vl 10, vl 11] (S0, m1) (some (vi v4), (S0, m3)) ∧
      ((v4 ≠ 0 →
        K 28 [(0, vr 53), (1, vi x1), (2, vi x2)] [] (S0, m3)) ∧ (¬ (v4 ≠ 0) →
        ret (some (vi (-1))) (S0, m3)))))))))) :
  K 0 [(0, vr 53), (1, vi x1), (2, vi x2)] [] (S0, M) := by
  exact mQ hK [26, 42, 55, 68, 81, 85, 98, 111, 115] 10 0 0 b_M_need_0 rfl _ _ _ h
set_option maxRecDepth 40000 in
theorem q_M_need_28 {cal : mCal} {lim : Nat × Nat} {scr : Nat × (Nat → Int)} {ret : Option mVal → mHp → Prop} {K : Nat → mLV → List mVal → mHp → Prop} (hK : mClo m_M_need cal lim scr ret K) (x1 : Int) (x2 : Int) (M : mMem) (h :
  (∃ v2 m1, cal 133 [vr 53, vi 0, vi x1, vi 0] (S0, M) (some (vi v2), (S0, m1)) ∧
  ((v2 ≤ 0 →
    (∃ v4 m3, cal 161 [vr 53, vi x1, vi 1] (S0, m1) (some (vi v4), (S0, m3)) ∧
    ((v4 = 0 →
      (∃ v6 m5, cal 161 [vr 53, vi x1, vi 2] (S0, m3) (some (vi v6), (S0, m5)) ∧
      ((v6 = 0 →
        K 70 [(0, vr 53), (2, vi x2)] [vi (-4)] (S0, m5)) ∧ (¬ (v6 = 0) →
        K 70 [(0, vr 53), (2, vi x2)] [vi 2] (S0, m5))))) ∧ (¬ (v4 = 0) →
      K 70 [(0, vr 53), (2, vi x2)] [vi 1] (S0, m3))))) ∧ (¬ (v2 ≤ 0) →
    K 70 [(0, vr 53), (2, vi x2)] [vi 0] (S0, m1))))) :
  K 28 [(0, vr 53), (1, vi x1), (2, vi x2)] [] (S0, M) := by
  exact mQ hK [26, 42, 55, 68, 81, 85, 98, 111, 115] 10 2 28 b_M_need_28 rfl _ _ _ h
set_option maxRecDepth 40000 in
theorem q_M_need_70 {cal : mCal} {lim : Nat × Nat} {scr : Nat × (Nat → Int)} {ret : Option mVal → mHp → Prop} {K : Nat → mLV → List mVal → mHp → Prop} (hK : mClo m_M_need cal lim scr ret K) (x2 : Int) (s0 : Int) (M : mMem) (h :
  ((x2 = 0 →
    ret (some (vi s0)) (S0, M)) ∧ (¬ (x2 = 0) →
    ((s0 ≠ (-4) →
      (((w32 (x2 - 10)) < s0 →
        ((x2 ≠ 10 →
          ret (some (vi (M 53 19))) (S0, M)) ∧ (¬ (x2 ≠ 10) →
          ret (some (vi (M 53 18))) (S0, M)))) ∧ (¬ ((w32 (x2 - 10)) < s0) →
        ret (some (vi (-4))) (S0, M)))) ∧ (¬ (s0 ≠ (-4)) →
      ret (some (vi s0)) (S0, M)))))) :
  K 70 [(0, vr 53), (2, vi x2)] [vi s0] (S0, M) := by
  exact mQ hK [26, 42, 55, 68, 81, 85, 98, 111, 115] 10 6 70 b_M_need_70 rfl _ _ _ h
set_option maxRecDepth 40000 in
theorem q_M_loose_0 {cal : mCal} {lim : Nat × Nat} {scr : Nat × (Nat → Int)} {ret : Option mVal → mHp → Prop} {K : Nat → mLV → List mVal → mHp → Prop} (hK : mClo m_M_loose cal lim scr ret K) (x1 : Int) (x2 : Int) (M : mMem) (h :
  (∃ v2 m1, cal 128 [vr 53, vi x1] (S0, M) (some (vi v2), (S0, m1)) ∧
  ((v2 = 0 →
    ret (some (vi (-1))) (S0, m1)) ∧ (¬ (v2 = 0) →
    (∃ v4 m3, cal 115 [vl x2, vl (0 : Nat), vl (1 : Nat)] (S0, m1) (some (vi v4), (S0, m3)) ∧
    ((v4 ≠ 0 →
      (∃ v6 m5, cal 133 [vr 53, vi 0, vi x1, vi 0] (S0, m3) (some (vi v6), (S0, m5)) ∧
      K 35 [(0, vr 53), (1, vi x1), (2, vi x2), (3, vi v6), (4, vi (-4)), (5, vi 0)] [] (S0, m5))) ∧ (¬ (v4 ≠ 0) →
      ret (some (vi (-1))) (S0, m3)))))))) :
  K 0 [(0, vr 53), (1, vi x1), (2, vi x2)] [] (S0, M) := by
  exact mQ hK [18, 20, 108, 123, 124, 125, 131, 142, 147, 148] 11 0 0 b_M_loose_0 rfl _ _ _ h
set_option maxRecDepth 40000 in
theorem q_M_loose_35 {cal : mCal} {lim : Nat × Nat} {scr : Nat × (Nat → Int)} {ret : Option mVal → mHp → Prop} {K : Nat → mLV → List mVal → mHp → Prop} (hK : mClo m_M_loose cal lim scr ret K) (x1 : Int) (x2 : Int) (x3 : Int) (x4 : Int) (x5 : Int) (M : mMem) (h :
  ((36 ≤ x5 →
    ((x4 = (-4) →
      ret (some (vi x4)) (S0, M)) ∧ (¬ (x4 = (-4)) →
      ((x2 ≠ 0 →
        ret (some (vi x3)) (S0, M)) ∧ (¬ (x2 ≠ 0) →
        ret (some (vi x4)) (S0, M)))))) ∧ (¬ (36 ≤ x5) →
    mIn x5 510 ((∃ v2 m1, cal 130 [vi (M 54 x5)] (S0, M) (some (vi v2), (S0, m1)) ∧
    ((v2 = 0 →
      K 35 [(0, vr 53), (1, vi x1), (2, vi x2), (3, vi x3), (4, vi x4), (5, vi (w32 (x5 + 1)))] [] (S0, m1)) ∧ (¬ (v2 = 0) →
      mIn x5 510 ((∃ v4 m3, cal 133 [vr 53, vi 0, vi x1, vi 0] (S0, mupd m1 54 x5 0) (some (vi v4), (S0, m3)) ∧
      mIn x5 510 (((x3 ≤ v4 →
        K 110 [(0, vr 53), (1, vi x1), (2, vi x2), (3, vi x3), (5, vi x5), (7, vi v4)] [vi x4] (S0, mupd m3 54 x5 (M 54 x5))) ∧ (¬ (x3 ≤ v4) →
        K 110 [(0, vr 53), (1, vi x1), (2, vi x2), (3, vi x3), (5, vi x5), (7, vi v4)] [vi (w32 ((w32 (10 * (jdiv x5 6))) + (jrem x5 6)))] (S0, mupd m3 54 x5 (M 54 x5)))))))))))))) :
  K 35 [(0, vr 53), (1, vi x1), (2, vi x2), (3, vi x3), (4, vi x4), (5, vi x5)] [] (S0, M) := by
  exact mQ hK [18, 20, 108, 123, 124, 125, 131, 142, 147, 148] 11 3 35 b_M_loose_35 rfl _ _ _ h
set_option maxRecDepth 40000 in
theorem q_M_loose_110 {cal : mCal} {lim : Nat × Nat} {scr : Nat × (Nat → Int)} {ret : Option mVal → mHp → Prop} {K : Nat → mLV → List mVal → mHp → Prop} (hK : mClo m_M_loose cal lim scr ret K) (x1 : Int) (x2 : Int) (x3 : Int) (x5 : Int) (x7 : Int) (s0 : Int) (M : mMem) (h :
  ((x3 ≤ x7 →
    K 35 [(0, vr 53), (1, vi x1), (2, vi x2), (3, vi x3), (4, vi s0), (5, vi (w32 (x5 + 1)))] [] (S0, M)) ∧ (¬ (x3 ≤ x7) →
    K 35 [(0, vr 53), (1, vi x1), (2, vi x2), (3, vi x7), (4, vi s0), (5, vi (w32 (x5 + 1)))] [] (S0, M)))) :
  K 110 [(0, vr 53), (1, vi x1), (2, vi x2), (3, vi x3), (5, vi x5), (7, vi x7)] [vi s0] (S0, M) := by
  exact mQ hK [18, 20, 108, 123, 124, 125, 131, 142, 147, 148] 11 5 110 b_M_loose_110 rfl _ _ _ h
set_option maxRecDepth 40000 in
theorem q_M_dye_0 {cal : mCal} {lim : Nat × Nat} {scr : Nat × (Nat → Int)} {ret : Option mVal → mHp → Prop} {K : Nat → mLV → List mVal → mHp → Prop} (hK : mClo m_M_dye cal lim scr ret K) (x1 : Int) (M : mMem) (h :
  (∃ v2 m1, cal 115 [vl x1, vl (0 : Nat), vl (1 : Nat)] (S0, M) (some (vi v2), (S0, m1)) ∧
  ((v2 ≠ 0 →
    (∃ v4 m3, cal 134 [vr 53, vi 0] (S0, m1) (some (vi v4), (S0, m3)) ∧
    K 26 [(0, vr 53), (1, vi x1), (2, vi (-4)), (3, vi 1)] [] (S0, mupd m3 53 17 v4))) ∧ (¬ (v2 ≠ 0) →
    ret (some (vi (-1))) (S0, m1))))) :
  K 0 [(0, vr 53), (1, vi x1)] [] (S0, M) := by
  exact mQ hK [12, 86, 102, 109, 116, 140, 141, 148, 154, 164, 168, 172] 13 0 0 b_M_dye_0 rfl _ _ _ h
set_option maxRecDepth 40000 in
theorem q_M_dye_26 {cal : mCal} {lim : Nat × Nat} {scr : Nat × (Nat → Int)} {ret : Option mVal → mHp → Prop} {K : Nat → mLV → List mVal → mHp → Prop} (hK : mClo m_M_dye cal lim scr ret K) (x1 : Int) (x2 : Int) (x3 : Int) (M : mMem) (h :
  ((3 < x3 →
    ((x2 = (-4) →
      ret (some (vi x2)) (S0, M)) ∧ (¬ (x2 = (-4)) →
      ((x1 ≠ 0 →
        ret (some (vi (M 53 17))) (S0, M)) ∧ (¬ (x1 ≠ 0) →
        ret (some (vi x2)) (S0, M)))))) ∧ (¬ (3 < x3) →
    K 36 [(0, vr 53), (1, vi x1), (2, vi x2), (3, vi x3), (4, vi (w32 (x3 + 1)))] [] (S0, M)))) :
  K 26 [(0, vr 53), (1, vi x1), (2, vi x2), (3, vi x3)] [] (S0, M) := by
  exact mQ hK [12, 86, 102, 109, 116, 140, 141, 148, 154, 164, 168, 172] 13 2 26 b_M_dye_26 rfl _ _ _ h
set_option maxRecDepth 40000 in
theorem q_M_dye_36 {cal : mCal} {lim : Nat × Nat} {scr : Nat × (Nat → Int)} {ret : Option mVal → mHp → Prop} {K : Nat → mLV → List mVal → mHp → Prop} (hK : mClo m_M_dye cal lim scr ret K) (x1 : Int) (x2 : Int) (x3 : Int) (x4 : Int) (M : mMem) (h :
  ((3 < x4 →
    K 26 [(0, vr 53), (1, vi x1), (2, vi x2), (3, vi (w32 (x3 + 1)))] [] (S0, M)) ∧ (¬ (3 < x4) →
    (∃ m1, cal 154 [vr 53, vi 0, vi 340] (S0, M) (none, (S0, m1)) ∧
    K 53 [(0, vr 53), (1, vi x1), (2, vi x2), (3, vi x3), (4, vi x4), (5, vi 0)] [] (S0, m1))))) :
  K 36 [(0, vr 53), (1, vi x1), (2, vi x2), (3, vi x3), (4, vi x4)] [] (S0, M) := by
  exact mQ hK [12, 86, 102, 109, 116, 140, 141, 148, 154, 164, 168, 172] 13 3 36 b_M_dye_36 rfl _ _ _ h
set_option maxRecDepth 40000 in
theorem q_M_dye_53 {cal : mCal} {lim : Nat × Nat} {scr : Nat × (Nat → Int)} {ret : Option mVal → mHp → Prop} {K : Nat → mLV → List mVal → mHp → Prop} (hK : mClo m_M_dye cal lim scr ret K) (x1 : Int) (x2 : Int) (x3 : Int) (x4 : Int) (x5 : Int) (M : mMem) (h :
  ((36 ≤ x5 →
    (∃ v2 m1, cal 134 [vr 53, vi 340] (S0, M) (some (vi v2), (S0, m1)) ∧
    (∃ v4 m3, cal 158 [vr 53, vi v2] (S0, m1) (some (vi v4), (S0, m3)) ∧
    ((v4 = 0 →
      K 36 [(0, vr 53), (1, vi x1), (2, vi x2), (3, vi x3), (4, vi (w32 (x4 + 1)))] [] (S0, m3)) ∧ (¬ (v4 = 0) →
      K 36 [(0, vr 53), (1, vi x1), (2, vi (w32 ((w32 (10 * x3)) + x4))), (3, vi x3), (4, vi (w32 (x4 + 1)))] [] (S0, m3)))))) ∧ (¬ (36 ≤ x5) →
    mIn x5 510 ((((M 54 x5) ≠ x3 →
      mIn x5 510 ((((M 54 x5) ≠ x4 →
        mIn x5 510 (mIn (w32 (340 + x5)) 510 (K 53 [(0, vr 53), (1, vi x1), (2, vi x2), (3, vi x3), (4, vi x4), (5, vi (w32 (x5 + 1)))] [] (S0, mupd M 54 (w32 (340 + x5)) (M 54 x5))))) ∧ (¬ ((M 54 x5) ≠ x4) →
        mIn (w32 (340 + x5)) 510 (K 53 [(0, vr 53), (1, vi x1), (2, vi x2), (3, vi x3), (4, vi x4), (5, vi (w32 (x5 + 1)))] [] (S0, mupd M 54 (w32 (340 + x5)) x3)))))) ∧ (¬ ((M 54 x5) ≠ x3) →
      mIn (w32 (340 + x5)) 510 (K 53 [(0, vr 53), (1, vi x1), (2, vi x2), (3, vi x3), (4, vi x4), (5, vi (w32 (x5 + 1)))] [] (S0, mupd M 54 (w32 (340 + x5)) x4)))))))) :
  K 53 [(0, vr 53), (1, vi x1), (2, vi x2), (3, vi x3), (4, vi x4), (5, vi x5)] [] (S0, M) := by
  exact mQ hK [12, 86, 102, 109, 116, 140, 141, 148, 154, 164, 168, 172] 13 4 53 b_M_dye_53 rfl _ _ _ h
set_option maxRecDepth 40000 in
theorem q_M_turn_0 {cal : mCal} {lim : Nat × Nat} {scr : Nat × (Nat → Int)} {ret : Option mVal → mHp → Prop} {K : Nat → mLV → List mVal → mHp → Prop} (hK : mClo m_M_turn cal lim scr ret K) (x1 : Int) (M : mMem) (h :
  (∃ v2 m1, cal 115 [vl x1, vl (0 : Nat), vl (1 : Nat)] (S0, M) (some (vi v2), (S0, m1)) ∧
  ((v2 ≠ 0 →
    (∃ v4 m3, cal 134 [vr 53, vi 0] (S0, m1) (some (vi v4), (S0, m3)) ∧
    K 26 [(0, vr 53), (1, vi x1), (2, vi (-4)), (3, vi 0)] [] (S0, mupd m3 53 17 v4))) ∧ (¬ (v2 ≠ 0) →
    ret (some (vi (-1))) (S0, m1))))) :
  K 0 [(0, vr 53), (1, vi x1)] [] (S0, M) := by
  exact mQ hK [12, 86, 104, 105, 112, 122, 126, 130] 9 0 0 b_M_turn_0 rfl _ _ _ h
set_option maxRecDepth 40000 in
theorem q_M_turn_26 {cal : mCal} {lim : Nat × Nat} {scr : Nat × (Nat → Int)} {ret : Option mVal → mHp → Prop} {K : Nat → mLV → List mVal → mHp → Prop} (hK : mClo m_M_turn cal lim scr ret K) (x1 : Int) (x2 : Int) (x3 : Int) (M : mMem) (h :
  ((6 ≤ x3 →
    ((x2 = (-4) →
      ret (some (vi x2)) (S0, M)) ∧ (¬ (x2 = (-4)) →
      ((x1 ≠ 0 →
        ret (some (vi (M 53 17))) (S0, M)) ∧ (¬ (x1 ≠ 0) →
        ret (some (vi x2)) (S0, M)))))) ∧ (¬ (6 ≤ x3) →
    (∃ m1, cal 154 [vr 53, vi 0, vi 340] (S0, M) (none, (S0, m1)) ∧
    K 43 [(0, vr 53), (1, vi x1), (2, vi x2), (3, vi x3), (4, vi 0)] [] (S0, m1))))) :
  K 26 [(0, vr 53), (1, vi x1), (2, vi x2), (3, vi x3)] [] (S0, M) := by
  exact mQ hK [12, 86, 104, 105, 112, 122, 126, 130] 9 2 26 b_M_turn_26 rfl _ _ _ h
set_option maxRecDepth 40000 in
theorem q_M_turn_43 {cal : mCal} {lim : Nat × Nat} {scr : Nat × (Nat → Int)} {ret : Option mVal → mHp → Prop} {K : Nat → mLV → List mVal → mHp → Prop} (hK : mClo m_M_turn cal lim scr ret K) (x1 : Int) (x2 : Int) (x3 : Int) (x4 : Int) (M : mMem) (h :
  ((6 ≤ x4 →
    (∃ v2 m1, cal 134 [vr 53, vi 340] (S0, M) (some (vi v2), (S0, m1)) ∧
    (∃ v4 m3, cal 158 [vr 53, vi v2] (S0, m1) (some (vi v4), (S0, m3)) ∧
    ((v4 = 0 →
      K 26 [(0, vr 53), (1, vi x1), (2, vi x2), (3, vi (w32 (x3 + 1)))] [] (S0, m3)) ∧ (¬ (v4 = 0) →
      K 26 [(0, vr 53), (1, vi x1), (2, vi x3), (3, vi (w32 (x3 + 1)))] [] (S0, m3)))))) ∧ (¬ (6 ≤ x4) →
    mIn (w32 ((w32 (6 * (w32 (5 - x4)))) + x3)) 510 (mIn (w32 ((w32 (340 + (w32 (6 * x4)))) + x3)) 510 (K 43 [(0, vr 53), (1, vi x1), (2, vi x2), (3, vi x3), (4, vi (w32 (x4 + 1)))] [] (S0, mupd M 54 (w32 ((w32 (340 + (w32 (6 * x4)))) + x3)) (M 54 (w32 ((w32 (6 * (w32 (5 - x4)))) + x3))))))))) :
  K 43 [(0, vr 53), (1, vi x1), (2, vi x2), (3, vi x3), (4, vi x4)] [] (S0, M) := by
  exact mQ hK [12, 86, 104, 105, 112, 122, 126, 130] 9 3 43 b_M_turn_43 rfl _ _ _ h
set_option maxRecDepth 40000 in
theorem q_M_leave_0 {cal : mCal} {lim : Nat × Nat} {scr : Nat × (Nat → Int)} {ret : Option mVal → mHp → Prop} {K : Nat → mLV → List mVal → mHp → Prop} (hK : mClo m_M_leave cal lim scr ret K) (x1 : Int) (M : mMem) (h :
  (∃ v2 m1, cal 115 [vl x1, vl (0 : Nat), vl (1 : Nat)] (S0, M) (some (vi v2), (S0, m1)) ∧
  ((v2 ≠ 0 →
    (∃ m3, cal 155 [vr 53, vi (-4)] (S0, m1) (none, (S0, m3)) ∧
    (∃ v5 m4, cal 134 [vr 53, vi 340] (S0, m3) (some (vi v5), (S0, m4)) ∧
    K 34 [(0, vr 53), (1, vi x1), (2, vi (-4)), (3, vi 0)] [] (S0, mupd m4 53 17 v5)))) ∧ (¬ (v2 ≠ 0) →
    ret (some (vi (-1))) (S0, m1))))) :
  K 0 [(0, vr 53), (1, vi x1)] [] (S0, M) := by
  exact mQ hK [12, 68, 69, 76, 86, 90, 94] 8 0 0 b_M_leave_0 rfl _ _ _ h
set_option maxRecDepth 40000 in
theorem q_M_leave_34 {cal : mCal} {lim : Nat × Nat} {scr : Nat × (Nat → Int)} {ret : Option mVal → mHp → Prop} {K : Nat → mLV → List mVal → mHp → Prop} (hK : mClo m_M_leave cal lim scr ret K) (x1 : Int) (x2 : Int) (x3 : Int) (M : mMem) (h :
  (((M 54 60) ≤ x3 →
    ((x2 = (-4) →
      ret (some (vi x2)) (S0, M)) ∧ (¬ (x2 = (-4)) →
      ((x1 ≠ 0 →
        ret (some (vi (M 53 17))) (S0, M)) ∧ (¬ (x1 ≠ 0) →
        ret (some (vi x2)) (S0, M)))))) ∧ (¬ ((M 54 60) ≤ x3) →
    (∃ m1, cal 155 [vr 53, vi x3] (S0, M) (none, (S0, m1)) ∧
    (∃ v3 m2, cal 134 [vr 53, vi 340] (S0, m1) (some (vi v3), (S0, m2)) ∧
    (∃ v5 m4, cal 158 [vr 53, vi v3] (S0, m2) (some (vi v5), (S0, m4)) ∧
    ((v5 = 0 →
      K 34 [(0, vr 53), (1, vi x1), (2, vi x2), (3, vi (w32 (x3 + 1)))] [] (S0, m4)) ∧ (¬ (v5 = 0) →
      K 34 [(0, vr 53), (1, vi x1), (2, vi x3), (3, vi (w32 (x3 + 1)))] [] (S0, m4))))))))) :
  K 34 [(0, vr 53), (1, vi x1), (2, vi x2), (3, vi x3)] [] (S0, M) := by
  exact mQ hK [12, 68, 69, 76, 86, 90, 94] 8 2 34 b_M_leave_34 rfl _ _ _ h
set_option maxRecDepth 40000 in
theorem q_M_lowest_0 {cal : mCal} {lim : Nat × Nat} {scr : Nat × (Nat → Int)} {ret : Option mVal → mHp → Prop} {K : Nat → mLV → List mVal → mHp → Prop} (hK : mClo m_M_lowest cal lim scr ret K) (y0 : Int) (y2 : Int) (x4 : Int) (M : mMem) (h :
  K 6 [(0, vl y0), (2, vl y2), (4, vi x4), (5, vl y0), (7, vl y2)] [] (S0, M)) :
  K 0 [(0, vl y0), (2, vl y2), (4, vi x4)] [] (S0, M) := by
  exact mQ hK [31, 40, 41] 4 0 0 b_M_lowest_0 rfl _ _ _ h
set_option maxRecDepth 40000 in
theorem q_M_lowest_6 {cal : mCal} {lim : Nat × Nat} {scr : Nat × (Nat → Int)} {ret : Option mVal → mHp → Prop} {K : Nat → mLV → List mVal → mHp → Prop} (hK : mClo m_M_lowest cal lim scr ret K) (y0 : Int) (y2 : Int) (x4 : Int) (y5 : Int) (y7 : Int) (M : mMem) (h :
  (((jlcmp y7 (0 : Nat)) = 0 →
    ((x4 ≠ 0 →
      (y5 ≠ 0 ∧ ret (some (vl (jldiv y2 y5))) (S0, M))) ∧ (¬ (x4 ≠ 0) →
      (y5 ≠ 0 ∧ ret (some (vl (jldiv y0 y5))) (S0, M))))) ∧ (¬ ((jlcmp y7 (0 : Nat)) = 0) →
    (y7 ≠ 0 ∧ K 6 [(0, vl y0), (2, vl y2), (4, vi x4), (5, vl y7), (7, vl (jlrem y5 y7))] [] (S0, M))))) :
  K 6 [(0, vl y0), (2, vl y2), (4, vi x4), (5, vl y5), (7, vl y7)] [] (S0, M) := by
  exact mQ hK [31, 40, 41] 4 1 6 b_M_lowest_6 rfl _ _ _ h
set_option maxRecDepth 40000 in
theorem q_M_laysRunning_0 {cal : mCal} {lim : Nat × Nat} {scr : Nat × (Nat → Int)} {ret : Option mVal → mHp → Prop} {K : Nat → mLV → List mVal → mHp → Prop} (hK : mClo m_M_laysRunning cal lim scr ret K)  (M : mMem) (h :
  K 4 [(0, vr 53), (1, vi 0), (2, vi 0)] [] (S0, M)) :
  K 0 [(0, vr 53)] [] (S0, M) := by
  exact mQ hK [42, 48] 3 0 0 b_M_laysRunning_0 rfl _ _ _ h
set_option maxRecDepth 40000 in
theorem q_M_laysRunning_4 {cal : mCal} {lim : Nat × Nat} {scr : Nat × (Nat → Int)} {ret : Option mVal → mHp → Prop} {K : Nat → mLV → List mVal → mHp → Prop} (hK : mClo m_M_laysRunning cal lim scr ret K) (x1 : Int) (x2 : Int) (M : mMem) (h :
  ((30 ≤ x2 →
    ret (some (vi x1)) (S0, M)) ∧ (¬ (30 ≤ x2) →
    mIn x2 510 ((((M 54 x2) ≠ 1 →
      K 4 [(0, vr 53), (1, vi x1), (2, vi (w32 (x2 + 1)))] [] (S0, M)) ∧ (¬ ((M 54 x2) ≠ 1) →
      mIn (w32 (x2 + 6)) 510 ((((M 54 (w32 (x2 + 6))) ≠ 0 →
        K 4 [(0, vr 53), (1, vi x1), (2, vi (w32 (x2 + 1)))] [] (S0, M)) ∧ (¬ ((M 54 (w32 (x2 + 6))) ≠ 0) →
        mIn x1 36 (K 4 [(0, vr 53), (1, vi (w32 (x1 + 1))), (2, vi (w32 (x2 + 1)))] [] (S0, mupd M 59 x1 x2))))))))))) :
  K 4 [(0, vr 53), (1, vi x1), (2, vi x2)] [] (S0, M) := by
  exact mQ hK [42, 48] 3 1 4 b_M_laysRunning_4 rfl _ _ _ h
set_option maxRecDepth 40000 in
theorem q_M_byRuns_0 {cal : mCal} {lim : Nat × Nat} {scr : Nat × (Nat → Int)} {ret : Option mVal → mHp → Prop} {K : Nat → mLV → List mVal → mHp → Prop} (hK : mClo m_M_byRuns cal lim scr ret K) (x1 : Int) (x2 : Int) (x3 : Int) (M : mMem) (h :
  (∃ v2 m1, cal 168 [vr 53] (S0, M) (some (vi v2), (S0, m1)) ∧
  K 15 [(0, vr 53), (1, vi x1), (2, vi x2), (3, vi x3), (4, vi v2), (5, vl (0 : Nat)), (7, vl (1 : Nat)), (9, vi 0)] [] (S0, m1))) :
  K 0 [(0, vr 53), (1, vi x1), (2, vi x2), (3, vi x3)] [] (S0, M) := by
  exact mQ hK [36, 84, 99, 132, 138, 158, 174, 175, 186] 10 0 0 b_M_byRuns_0 rfl _ _ _ h
set_option maxRecDepth 40000 in
theorem q_M_byRuns_15 {cal : mCal} {lim : Nat × Nat} {scr : Nat × (Nat → Int)} {ret : Option mVal → mHp → Prop} {K : Nat → mLV → List mVal → mHp → Prop} (hK : mClo m_M_byRuns cal lim scr ret K) (x1 : Int) (x2 : Int) (x3 : Int) (x4 : Int) (y5 : Int) (y7 : Int) (x9 : Int) (M : mMem) (h :
  ((x4 ≤ x9 →
    K 39 [(0, vr 53), (1, vi x1), (2, vi x2), (3, vi x3), (4, vi x4), (5, vl y5), (7, vl y7), (9, vi 0)] [] (S0, M)) ∧ (¬ (x4 ≤ x9) →
    K 15 [(0, vr 53), (1, vi x1), (2, vi x2), (3, vi x3), (4, vi x4), (5, vl y5), (7, vl (w64 (y7 * 10))), (9, vi (w32 (x9 + 1)))] [] (S0, M)))) :
  K 15 [(0, vr 53), (1, vi x1), (2, vi x2), (3, vi x3), (4, vi x4), (5, vl y5), (7, vl y7), (9, vi x9)] [] (S0, M) := by
  exact mQ hK [36, 84, 99, 132, 138, 158, 174, 175, 186] 10 1 15 b_M_byRuns_15 rfl _ _ _ h
set_option maxRecDepth 40000 in
theorem q_M_byRuns_39 {cal : mCal} {lim : Nat × Nat} {scr : Nat × (Nat → Int)} {ret : Option mVal → mHp → Prop} {K : Nat → mLV → List mVal → mHp → Prop} (hK : mClo m_M_byRuns cal lim scr ret K) (x1 : Int) (x2 : Int) (x3 : Int) (x4 : Int) (y5 : Int) (y7 : Int) (x9 : Int) (M : mMem) (h :
  (((jshl 1 x4) ≤ x9 →
    (∃ v2 m1, cal 167 [vl y5, vl y7, vi x3] (S0, M) (some (vl v2), (S0, m1)) ∧
    ret (some (vl v2)) (S0, m1))) ∧ (¬ ((jshl 1 x4) ≤ x9) →
    (∃ m3, cal 154 [vr 53, vi 0, vi 340] (S0, M) (none, (S0, m3)) ∧
    K 62 [(0, vr 53), (1, vi x1), (2, vi x2), (3, vi x3), (4, vi x4), (5, vl y5), (7, vl y7), (9, vi x9), (10, vl (1 : Nat)), (12, vi 0)] [] (S0, m3))))) :
  K 39 [(0, vr 53), (1, vi x1), (2, vi x2), (3, vi x3), (4, vi x4), (5, vl y5), (7, vl y7), (9, vi x9)] [] (S0, M) := by
  exact mQ hK [36, 84, 99, 132, 138, 158, 174, 175, 186] 10 3 39 b_M_byRuns_39 rfl _ _ _ h
set_option maxRecDepth 40000 in
theorem q_M_byRuns_62 {cal : mCal} {lim : Nat × Nat} {scr : Nat × (Nat → Int)} {ret : Option mVal → mHp → Prop} {K : Nat → mLV → List mVal → mHp → Prop} (hK : mClo m_M_byRuns cal lim scr ret K) (x1 : Int) (x2 : Int) (x3 : Int) (x4 : Int) (y5 : Int) (y7 : Int) (x9 : Int) (y10 : Int) (x12 : Int) (M : mMem) (h :
  ((x4 ≤ x12 →
    ((x2 ≠ (-4) →
      (∃ v2 m1, cal 133 [vr 53, vi 340, vi x2, vi 0] (S0, M) (some (vi v2), (S0, m1)) ∧
      ((v2 ≤ 0 →
        K 39 [(0, vr 53), (1, vi x1), (2, vi x2), (3, vi x3), (4, vi x4), (5, vl (w64 (y5 + (w64 (y10 * 0))))), (7, vl y7), (9, vi (w32 (x9 + 1)))] [] (S0, m1)) ∧ (¬ (v2 ≤ 0) →
        K 39 [(0, vr 53), (1, vi x1), (2, vi x2), (3, vi x3), (4, vi x4), (5, vl (w64 (y5 + (w64 (y10 * 1))))), (7, vl y7), (9, vi (w32 (x9 + 1)))] [] (S0, m1))))) ∧ (¬ (x2 ≠ (-4)) →
      (∃ v4 m3, cal 134 [vr 53, vi 340] (S0, M) (some (vi v4), (S0, m3)) ∧
      K 39 [(0, vr 53), (1, vi x1), (2, vi x2), (3, vi x3), (4, vi x4), (5, vl (w64 (y5 + (w64 (y10 * v4))))), (7, vl y7), (9, vi (w32 (x9 + 1)))] [] (S0, m3))))) ∧ (¬ (x4 ≤ x12) →
    (((jand (jshr x9 x12) 1) ≠ 1 →
      K 85 [(0, vr 53), (1, vi x1), (2, vi x2), (3, vi x3), (4, vi x4), (5, vl y5), (7, vl y7), (9, vi x9), (10, vl y10), (12, vi x12)] [vi 0] (S0, M)) ∧ (¬ ((jand (jshr x9 x12) 1) ≠ 1) →
      K 85 [(0, vr 53), (1, vi x1), (2, vi x2), (3, vi x3), (4, vi x4), (5, vl y5), (7, vl y7), (9, vi x9), (10, vl y10), (12, vi x12)] [vi 1] (S0, M)))))) :
  K 62 [(0, vr 53), (1, vi x1), (2, vi x2), (3, vi x3), (4, vi x4), (5, vl y5), (7, vl y7), (9, vi x9), (10, vl y10), (12, vi x12)] [] (S0, M) := by
  exact mQ hK [36, 84, 99, 132, 138, 158, 174, 175, 186] 10 4 62 b_M_byRuns_62 rfl _ _ _ h
set_option maxRecDepth 40000 in
theorem q_M_byRuns_85 {cal : mCal} {lim : Nat × Nat} {scr : Nat × (Nat → Int)} {ret : Option mVal → mHp → Prop} {K : Nat → mLV → List mVal → mHp → Prop} (hK : mClo m_M_byRuns cal lim scr ret K) (x1 : Int) (x2 : Int) (x3 : Int) (x4 : Int) (y5 : Int) (y7 : Int) (x9 : Int) (y10 : Int) (x12 : Int) (s0 : Int) (M : mMem) (h :
  ((s0 = 0 →
    K 104 [(0, vr 53), (1, vi x1), (2, vi x2), (3, vi x3), (4, vi x4), (5, vl y5), (7, vl y7), (9, vi x9), (12, vi x12), (13, vi s0)] [vl (w32 (10 - x1)), vl y10] (S0, M)) ∧ (¬ (s0 = 0) →
    K 104 [(0, vr 53), (1, vi x1), (2, vi x2), (3, vi x3), (4, vi x4), (5, vl y5), (7, vl y7), (9, vi x9), (12, vi x12), (13, vi s0)] [vl x1, vl y10] (S0, M)))) :
  K 85 [(0, vr 53), (1, vi x1), (2, vi x2), (3, vi x3), (4, vi x4), (5, vl y5), (7, vl y7), (9, vi x9), (10, vl y10), (12, vi x12)] [vi s0] (S0, M) := by
  exact mQ hK [36, 84, 99, 132, 138, 158, 174, 175, 186] 10 6 85 b_M_byRuns_85 rfl _ _ _ h
set_option maxRecDepth 40000 in
theorem q_M_byRuns_104 {cal : mCal} {lim : Nat × Nat} {scr : Nat × (Nat → Int)} {ret : Option mVal → mHp → Prop} {K : Nat → mLV → List mVal → mHp → Prop} (hK : mClo m_M_byRuns cal lim scr ret K) (x1 : Int) (x2 : Int) (x3 : Int) (x4 : Int) (y5 : Int) (y7 : Int) (x9 : Int) (x12 : Int) (x13 : Int) (z0 : Int) (z1 : Int) (M : mMem) (h :
  ((x13 = 0 →
    K 62 [(0, vr 53), (1, vi x1), (2, vi x2), (3, vi x3), (4, vi x4), (5, vl y5), (7, vl y7), (9, vi x9), (10, vl (w64 (z1 * z0))), (12, vi (w32 (x12 + 1)))] [] (S0, M)) ∧ (¬ (x13 = 0) →
    mIn x12 36 (mIn (w32 ((w32 (340 + (M 59 x12))) + 6)) 510 (K 62 [(0, vr 53), (1, vi x1), (2, vi x2), (3, vi x3), (4, vi x4), (5, vl y5), (7, vl y7), (9, vi x9), (10, vl (w64 (z1 * z0))), (12, vi (w32 (x12 + 1)))] [] (S0, mupd M 54 (w32 ((w32 (340 + (M 59 x12))) + 6)) 1)))))) :
  K 104 [(0, vr 53), (1, vi x1), (2, vi x2), (3, vi x3), (4, vi x4), (5, vl y5), (7, vl y7), (9, vi x9), (12, vi x12), (13, vi x13)] [vl z0, vl z1] (S0, M) := by
  exact mQ hK [36, 84, 99, 132, 138, 158, 174, 175, 186] 10 8 104 b_M_byRuns_104 rfl _ _ _ h
set_option maxRecDepth 40000 in
theorem q_M_luck_0 {cal : mCal} {lim : Nat × Nat} {scr : Nat × (Nat → Int)} {ret : Option mVal → mHp → Prop} {K : Nat → mLV → List mVal → mHp → Prop} (hK : mClo m_M_luck cal lim scr ret K) (x1 : Int) (x2 : Int) (x3 : Int) (M : mMem) (h :
  (∃ v2 m1, cal 115 [vl x1, vl (0 : Nat), vl 10] (S0, M) (some (vi v2), (S0, m1)) ∧
  ((v2 = 0 →
    ret (some (vl (-1))) (S0, m1)) ∧ (¬ (v2 = 0) →
    (∃ v4 m3, cal 128 [vr 53, vi x2] (S0, m1) (some (vi v4), (S0, m3)) ∧
    ((v4 = 0 →
      ret (some (vl (-1))) (S0, m3)) ∧ (¬ (v4 = 0) →
      (∃ v6 m5, cal 115 [vl x3, vl (0 : Nat), vl (1 : Nat)] (S0, m3) (some (vi v6), (S0, m5)) ∧
      ((v6 ≠ 0 →
        (∃ v8 m7, cal 168 [vr 53] (S0, m5) (some (vi v8), (S0, m7)) ∧
        ((v8 ≤ 8 →
          (∃ v10 m9, cal 169 [vr 53, vi x1, vi x2, vi x3] (S0, m7) (some (vl v10), (S0, m9)) ∧
          ret (some (vl v10)) (S0, m9))) ∧ (¬ (v8 ≤ 8) →
          ret (some (vl (-2))) (S0, m7))))) ∧ (¬ (v6 ≠ 0) →
        ret (some (vl (-1))) (S0, m5))))))))))) :
  K 0 [(0, vr 53), (1, vi x1), (2, vi x2), (3, vi x3)] [] (S0, M) := by
  exact mQ hK [30, 34, 49, 56] 5 0 0 b_M_luck_0 rfl _ _ _ h
set_option maxRecDepth 40000 in
theorem q_M_mean_0 {cal : mCal} {lim : Nat × Nat} {scr : Nat × (Nat → Int)} {ret : Option mVal → mHp → Prop} {K : Nat → mLV → List mVal → mHp → Prop} (hK : mClo m_M_mean cal lim scr ret K) (x1 : Int) (x2 : Int) (M : mMem) (h :
  (∃ v2 m1, cal 115 [vl x1, vl (0 : Nat), vl 10] (S0, M) (some (vi v2), (S0, m1)) ∧
  ((v2 = 0 →
    ret (some (vl (-1))) (S0, m1)) ∧ (¬ (v2 = 0) →
    (∃ v4 m3, cal 115 [vl x2, vl (0 : Nat), vl (1 : Nat)] (S0, m1) (some (vi v4), (S0, m3)) ∧
    ((v4 ≠ 0 →
      (∃ v6 m5, cal 168 [vr 53] (S0, m3) (some (vi v6), (S0, m5)) ∧
      ((v6 ≤ 8 →
        (∃ v8 m7, cal 169 [vr 53, vi x1, vi (-4), vi x2] (S0, m5) (some (vl v8), (S0, m7)) ∧
        ret (some (vl v8)) (S0, m7))) ∧ (¬ (v6 ≤ 8) →
        ret (some (vl (-2))) (S0, m5))))) ∧ (¬ (v4 ≠ 0) →
      ret (some (vl (-1))) (S0, m3)))))))) :
  K 0 [(0, vr 53), (1, vi x1), (2, vi x2)] [] (S0, M) := by
  exact mQ hK [22, 26, 41, 49] 5 0 0 b_M_mean_0 rfl _ _ _ h
set_option maxRecDepth 40000 in
theorem q_M_see_0 {cal : mCal} {lim : Nat × Nat} {scr : Nat × (Nat → Int)} {ret : Option mVal → mHp → Prop} {K : Nat → mLV → List mVal → mHp → Prop} (hK : mClo m_M_see cal lim scr ret K) (x1 : Int) (x2 : Int) (M : mMem) (h :
  (∃ v2 m1, cal 128 [vr 53, vi x1] (S0, M) (some (vi v2), (S0, m1)) ∧
  ((v2 = 0 →
    ret (some (vi (-1))) (S0, m1)) ∧ (¬ (v2 = 0) →
    (∃ v4 m3, cal 115 [vl x2, vl (0 : Nat), vl 60] (S0, m1) (some (vi v4), (S0, m3)) ∧
    ((v4 ≠ 0 →
      (((m3 53 22) ≠ 6 →
        mIn (w32 (2 * (m3 53 22))) 12 (mIn (w32 ((w32 (2 * ((mupd m3 60 (w32 (2 * (m3 53 22))) x1) 53 22))) + 1)) 12 (ret (some (vi ((mupd (mupd (mupd m3 60 (w32 (2 * (m3 53 22))) x1) 60 (w32 ((w32 (2 * ((mupd m3 60 (w32 (2 * (m3 53 22))) x1) 53 22))) + 1)) x2) 53 22 (w32 (((mupd (mupd m3 60 (w32 (2 * (m3 53 22))) x1) 60 (w32 ((w32 (2 * ((mupd m3 60 (w32 (2 * (m3 53 22))) x1) 53 22))) + 1)) x2) 53 22) + 1))) 53 22))) (S0, mupd (mupd (mupd m3 60 (w32 (2 * (m3 53 22))) x1) 60 (w32 ((w32 (2 * ((mupd m3 60 (w32 (2 * (m3 53 22))) x1) 53 22))) + 1)) x2) 53 22 (w32 (((mupd (mupd m3 60 (w32 (2 * (m3 53 22))) x1) 60 (w32 ((w32 (2 * ((mupd m3 60 (w32 (2 * (m3 53 22))) x1) 53 22))) + 1)) x2) 53 22) + 1)))))) ∧ (¬ ((m3 53 22) ≠ 6) →
        ret (some (vi (-3))) (S0, m3)))) ∧ (¬ (v4 ≠ 0) →
      ret (some (vi (-1))) (S0, m3)))))))) :
  K 0 [(0, vr 53), (1, vi x1), (2, vi x2)] [] (S0, M) := by
  exact mQ hK [20, 22, 34] 4 0 0 b_M_see_0 rfl _ _ _ h
set_option maxRecDepth 40000 in
theorem q_M_forget_0 {cal : mCal} {lim : Nat × Nat} {scr : Nat × (Nat → Int)} {ret : Option mVal → mHp → Prop} {K : Nat → mLV → List mVal → mHp → Prop} (hK : mClo m_M_forget cal lim scr ret K) (x1 : Int) (M : mMem) (h :
  (∃ v2 m1, cal 115 [vl x1, vl (0 : Nat), vl (M 53 22)] (S0, M) (some (vi v2), (S0, m1)) ∧
  ((v2 ≠ 0 →
    ret (some (vi (m1 53 22))) (S0, mupd m1 53 22 x1)) ∧ (¬ (v2 ≠ 0) →
    ret (some (vi (-1))) (S0, m1))))) :
  K 0 [(0, vr 53), (1, vi x1)] [] (S0, M) := by
  exact mQ hK [16] 2 0 0 b_M_forget_0 rfl _ _ _ h
set_option maxRecDepth 40000 in
theorem q_M_isTooMany_0 {cal : mCal} {lim : Nat × Nat} {scr : Nat × (Nat → Int)} {ret : Option mVal → mHp → Prop} {K : Nat → mLV → List mVal → mHp → Prop} (hK : mClo m_M_isTooMany cal lim scr ret K)  (M : mMem) (h :
  K 7 [(0, vr 53), (1, vi 0)] [] (S0, mupd M 53 24 0)) :
  K 0 [(0, vr 53)] [] (S0, M) := by
  exact mQ hK [43, 49, 61, 62] 5 0 0 b_M_isTooMany_0 rfl _ _ _ h
set_option maxRecDepth 40000 in
theorem q_M_isTooMany_7 {cal : mCal} {lim : Nat × Nat} {scr : Nat × (Nat → Int)} {ret : Option mVal → mHp → Prop} {K : Nat → mLV → List mVal → mHp → Prop} (hK : mClo m_M_isTooMany cal lim scr ret K) (x1 : Int) (M : mMem) (h :
  ((36 ≤ x1 →
    (((M 53 24) ≤ 4 →
      ret (some (vi 0)) (S0, M)) ∧ (¬ ((M 53 24) ≤ 4) →
      ret (some (vi 1)) (S0, M)))) ∧ (¬ (36 ≤ x1) →
    mIn x1 510 ((((M 54 x1) ≠ 4 →
      K 7 [(0, vr 53), (1, vi (w32 (x1 + 1)))] [] (S0, M)) ∧ (¬ ((M 54 x1) ≠ 4) →
      mIn (M 53 24) 36 (K 7 [(0, vr 53), (1, vi (w32 (x1 + 1)))] [] (S0, mupd (mupd M 61 (M 53 24) x1) 53 24 (w32 (((mupd M 61 (M 53 24) x1) 53 24) + 1)))))))))) :
  K 7 [(0, vr 53), (1, vi x1)] [] (S0, M) := by
  exact mQ hK [43, 49, 61, 62] 5 1 7 b_M_isTooMany_7 rfl _ _ _ h
set_option maxRecDepth 40000 in
theorem q_M_fillMany_0 {cal : mCal} {lim : Nat × Nat} {scr : Nat × (Nat → Int)} {ret : Option mVal → mHp → Prop} {K : Nat → mLV → List mVal → mHp → Prop} (hK : mClo m_M_fillMany cal lim scr ret K)  (M : mMem) (h :
  ret (some (vi (jshl 1 (w32 (2 * (M 53 24)))))) (S0, M)) :
  K 0 [(0, vr 53)] [] (S0, M) := by
  exact mQ hK [] 1 0 0 b_M_fillMany_0 rfl _ _ _ h
set_option maxRecDepth 40000 in
theorem q_M_isFit_0 {cal : mCal} {lim : Nat × Nat} {scr : Nat × (Nat → Int)} {ret : Option mVal → mHp → Prop} {K : Nat → mLV → List mVal → mHp → Prop} (hK : mClo m_M_isFit cal lim scr ret K) (x1 : Int) (M : mMem) (h :
  (∃ m1, cal 154 [vr 53, vi 0, vi 340] (S0, M) (none, (S0, m1)) ∧
  K 10 [(0, vr 53), (1, vi x1), (2, vi 0)] [] (S0, m1))) :
  K 0 [(0, vr 53), (1, vi x1)] [] (S0, M) := by
  exact mQ hK [46, 110, 111, 118] 5 0 0 b_M_isFit_0 rfl _ _ _ h
set_option maxRecDepth 40000 in
theorem q_M_isFit_10 {cal : mCal} {lim : Nat × Nat} {scr : Nat × (Nat → Int)} {ret : Option mVal → mHp → Prop} {K : Nat → mLV → List mVal → mHp → Prop} (hK : mClo m_M_isFit cal lim scr ret K) (x1 : Int) (x2 : Int) (M : mMem) (h :
  (((M 53 24) ≤ x2 →
    K 50 [(0, vr 53), (2, vi 1), (3, vi 0)] [] (S0, M)) ∧ (¬ ((M 53 24) ≤ x2) →
    mIn x2 36 (mIn (w32 (340 + (M 61 x2))) 510 (K 10 [(0, vr 53), (1, vi x1), (2, vi (w32 (x2 + 1)))] [] (S0, mupd M 54 (w32 (340 + (M 61 x2))) (jand (jshr x1 (w32 (2 * x2))) 3))))))) :
  K 10 [(0, vr 53), (1, vi x1), (2, vi x2)] [] (S0, M) := by
  exact mQ hK [46, 110, 111, 118] 5 1 10 b_M_isFit_10 rfl _ _ _ h
set_option maxRecDepth 40000 in
theorem q_M_isFit_50 {cal : mCal} {lim : Nat × Nat} {scr : Nat × (Nat → Int)} {ret : Option mVal → mHp → Prop} {K : Nat → mLV → List mVal → mHp → Prop} (hK : mClo m_M_isFit cal lim scr ret K) (x2 : Int) (x3 : Int) (M : mMem) (h :
  (((M 53 22) ≤ x3 →
    mBo x2 (ret (some (vi x2)) (S0, M))) ∧ (¬ ((M 53 22) ≤ x3) →
    ((x2 = 0 →
      K 50 [(0, vr 53), (2, vi 0), (3, vi (w32 (x3 + 1)))] [] (S0, M)) ∧ (¬ (x2 = 0) →
      mIn (w32 (2 * x3)) 12 ((∃ v2 m1, cal 128 [vr 53, vi (M 60 (w32 (2 * x3)))] (S0, M) (some (vi v2), (S0, m1)) ∧
      ((v2 = 0 →
        K 50 [(0, vr 53), (2, vi 0), (3, vi (w32 (x3 + 1)))] [] (S0, m1)) ∧ (¬ (v2 = 0) →
        mIn (w32 (2 * x3)) 12 ((∃ v4 m3, cal 133 [vr 53, vi 340, vi (m1 60 (w32 (2 * x3))), vi 0] (S0, m1) (some (vi v4), (S0, m3)) ∧
        mIn (w32 ((w32 (2 * x3)) + 1)) 12 (((v4 ≠ (m3 60 (w32 ((w32 (2 * x3)) + 1))) →
          K 50 [(0, vr 53), (2, vi 0), (3, vi (w32 (x3 + 1)))] [] (S0, m3)) ∧ (¬ (v4 ≠ (m3 60 (w32 ((w32 (2 * x3)) + 1)))) →
          K 50 [(0, vr 53), (2, vi 1), (3, vi (w32 (x3 + 1)))] [] (S0, m3))))))))))))))) :
  K 50 [(0, vr 53), (2, vi x2), (3, vi x3)] [] (S0, M) := by
  exact mQ hK [46, 110, 111, 118] 5 3 50 b_M_isFit_50 rfl _ _ _ h
set_option maxRecDepth 40000 in
theorem q_M_fills_0 {cal : mCal} {lim : Nat × Nat} {scr : Nat × (Nat → Int)} {ret : Option mVal → mHp → Prop} {K : Nat → mLV → List mVal → mHp → Prop} (hK : mClo m_M_fills cal lim scr ret K)  (M : mMem) (h :
  (∃ v2 m1, cal 174 [vr 53] (S0, M) (some (vi v2), (S0, m1)) ∧
  ((v2 = 0 →
    K 14 [(0, vr 53), (1, vi 0), (2, vi 0)] [] (S0, m1)) ∧ (¬ (v2 = 0) →
    ret (some (vi (-2))) (S0, m1))))) :
  K 0 [(0, vr 53)] [] (S0, M) := by
  exact mQ hK [10, 35, 36, 44] 5 0 0 b_M_fills_0 rfl _ _ _ h
set_option maxRecDepth 40000 in
theorem q_M_fills_14 {cal : mCal} {lim : Nat × Nat} {scr : Nat × (Nat → Int)} {ret : Option mVal → mHp → Prop} {K : Nat → mLV → List mVal → mHp → Prop} (hK : mClo m_M_fills cal lim scr ret K) (x1 : Int) (x2 : Int) (M : mMem) (h :
  (∃ v2 m1, cal 175 [vr 53] (S0, M) (some (vi v2), (S0, m1)) ∧
  ((v2 ≤ x2 →
    ret (some (vi x1)) (S0, m1)) ∧ (¬ (v2 ≤ x2) →
    (∃ v4 m3, cal 176 [vr 53, vi x2] (S0, m1) (some (vi v4), (S0, m3)) ∧
    ((v4 = 0 →
      K 14 [(0, vr 53), (1, vi (w32 (x1 + 0))), (2, vi (w32 (x2 + 1)))] [] (S0, m3)) ∧ (¬ (v4 = 0) →
      K 14 [(0, vr 53), (1, vi (w32 (x1 + 1))), (2, vi (w32 (x2 + 1)))] [] (S0, m3)))))))) :
  K 14 [(0, vr 53), (1, vi x1), (2, vi x2)] [] (S0, M) := by
  exact mQ hK [10, 35, 36, 44] 5 2 14 b_M_fills_14 rfl _ _ _ h
set_option maxRecDepth 40000 in
theorem q_M_shades_0 {cal : mCal} {lim : Nat × Nat} {scr : Nat × (Nat → Int)} {ret : Option mVal → mHp → Prop} {K : Nat → mLV → List mVal → mHp → Prop} (hK : mClo m_M_shades cal lim scr ret K) (x1 : Int) (x2 : Int) (M : mMem) (h :
  (∃ v2 m1, cal 129 [vi x1, vi x2] (S0, M) (some (vi v2), (S0, m1)) ∧
  ((v2 ≠ 0 →
    (∃ v4 m3, cal 174 [vr 53] (S0, m1) (some (vi v4), (S0, m3)) ∧
    ((v4 ≠ 0 →
      ret (some (vi (-2))) (S0, m3)) ∧ (¬ (v4 ≠ 0) →
      mIn (w32 ((w32 (6 * x1)) + x2)) 510 ((((m3 54 (w32 ((w32 (6 * x1)) + x2))) = 4 →
        K 40 [(0, vr 53), (1, vi x1), (2, vi x2), (3, vi 0), (4, vi 0)] [] (S0, m3)) ∧ (¬ ((m3 54 (w32 ((w32 (6 * x1)) + x2))) = 4) →
        ret (some (vi (-2))) (S0, m3)))))))) ∧ (¬ (v2 ≠ 0) →
    ret (some (vi (-1))) (S0, m1))))) :
  K 0 [(0, vr 53), (1, vi x1), (2, vi x2)] [] (S0, M) := by
  exact mQ hK [10, 32, 35, 79, 80, 88] 7 0 0 b_M_shades_0 rfl _ _ _ h
set_option maxRecDepth 40000 in
theorem q_M_shades_40 {cal : mCal} {lim : Nat × Nat} {scr : Nat × (Nat → Int)} {ret : Option mVal → mHp → Prop} {K : Nat → mLV → List mVal → mHp → Prop} (hK : mClo m_M_shades cal lim scr ret K) (x1 : Int) (x2 : Int) (x3 : Int) (x4 : Int) (M : mMem) (h :
  (∃ v2 m1, cal 175 [vr 53] (S0, M) (some (vi v2), (S0, m1)) ∧
  ((v2 ≤ x4 →
    ret (some (vi x3)) (S0, m1)) ∧ (¬ (v2 ≤ x4) →
    (∃ v4 m3, cal 176 [vr 53, vi x4] (S0, m1) (some (vi v4), (S0, m3)) ∧
    ((v4 = 0 →
      K 40 [(0, vr 53), (1, vi x1), (2, vi x2), (3, vi (jor x3 0)), (4, vi (w32 (x4 + 1)))] [] (S0, m3)) ∧ (¬ (v4 = 0) →
      mIn (w32 ((w32 (340 + (w32 (6 * x1)))) + x2)) 510 (K 40 [(0, vr 53), (1, vi x1), (2, vi x2), (3, vi (jor x3 (jshl 1 (m3 54 (w32 ((w32 (340 + (w32 (6 * x1)))) + x2)))))), (4, vi (w32 (x4 + 1)))] [] (S0, m3))))))))) :
  K 40 [(0, vr 53), (1, vi x1), (2, vi x2), (3, vi x3), (4, vi x4)] [] (S0, M) := by
  exact mQ hK [10, 32, 35, 79, 80, 88] 7 4 40 b_M_shades_40 rfl _ _ _ h
set_option maxRecDepth 40000 in
theorem q_M_span_0 {cal : mCal} {lim : Nat × Nat} {scr : Nat × (Nat → Int)} {ret : Option mVal → mHp → Prop} {K : Nat → mLV → List mVal → mHp → Prop} (hK : mClo m_M_span cal lim scr ret K) (x1 : Int) (M : mMem) (h :
  (∃ v2 m1, cal 115 [vl x1, vl (0 : Nat), vl (1 : Nat)] (S0, M) (some (vi v2), (S0, m1)) ∧
  ((v2 ≠ 0 →
    (∃ v4 m3, cal 174 [vr 53] (S0, m1) (some (vi v4), (S0, m3)) ∧
    ((v4 = 0 →
      K 31 [(0, vr 53), (1, vi x1), (2, vi (-4)), (3, vi (-4)), (4, vi 0)] [] (S0, m3)) ∧ (¬ (v4 = 0) →
      ret (some (vi (-2))) (S0, m3))))) ∧ (¬ (v2 ≠ 0) →
    ret (some (vi (-1))) (S0, m1))))) :
  K 0 [(0, vr 53), (1, vi x1)] [] (S0, M) := by
  exact mQ hK [12, 22, 70, 75, 88, 89, 90, 96, 104, 105] 11 0 0 b_M_span_0 rfl _ _ _ h
set_option maxRecDepth 40000 in
theorem q_M_span_31 {cal : mCal} {lim : Nat × Nat} {scr : Nat × (Nat → Int)} {ret : Option mVal → mHp → Prop} {K : Nat → mLV → List mVal → mHp → Prop} (hK : mClo m_M_span cal lim scr ret K) (x1 : Int) (x2 : Int) (x3 : Int) (x4 : Int) (M : mMem) (h :
  (∃ v2 m1, cal 175 [vr 53] (S0, M) (some (vi v2), (S0, m1)) ∧
  ((v2 ≤ x4 →
    ((x1 ≠ 0 →
      ret (some (vi x3)) (S0, m1)) ∧ (¬ (x1 ≠ 0) →
      ret (some (vi x2)) (S0, m1)))) ∧ (¬ (v2 ≤ x4) →
    (∃ v4 m3, cal 176 [vr 53, vi x4] (S0, m1) (some (vi v4), (S0, m3)) ∧
    ((v4 = 0 →
      K 31 [(0, vr 53), (1, vi x1), (2, vi x2), (3, vi x3), (4, vi (w32 (x4 + 1)))] [] (S0, m3)) ∧ (¬ (v4 = 0) →
      (∃ v6 m5, cal 134 [vr 53, vi 340] (S0, m3) (some (vi v6), (S0, m5)) ∧
      ((x2 = (-4) →
        K 76 [(0, vr 53), (1, vi x1), (3, vi x3), (4, vi x4), (5, vi v6)] [vi v6] (S0, m5)) ∧ (¬ (x2 = (-4)) →
        ((x2 ≤ v6 →
          K 76 [(0, vr 53), (1, vi x1), (3, vi x3), (4, vi x4), (5, vi v6)] [vi x2] (S0, m5)) ∧ (¬ (x2 ≤ v6) →
          K 76 [(0, vr 53), (1, vi x1), (3, vi x3), (4, vi x4), (5, vi v6)] [vi v6] (S0, m5))))))))))))) :
  K 31 [(0, vr 53), (1, vi x1), (2, vi x2), (3, vi x3), (4, vi x4)] [] (S0, M) := by
  exact mQ hK [12, 22, 70, 75, 88, 89, 90, 96, 104, 105] 11 3 31 b_M_span_31 rfl _ _ _ h
set_option maxRecDepth 40000 in
theorem q_M_span_76 {cal : mCal} {lim : Nat × Nat} {scr : Nat × (Nat → Int)} {ret : Option mVal → mHp → Prop} {K : Nat → mLV → List mVal → mHp → Prop} (hK : mClo m_M_span cal lim scr ret K) (x1 : Int) (x3 : Int) (x4 : Int) (x5 : Int) (s0 : Int) (M : mMem) (h :
  ((x5 ≤ x3 →
    K 31 [(0, vr 53), (1, vi x1), (2, vi s0), (3, vi x3), (4, vi (w32 (x4 + 1)))] [] (S0, M)) ∧ (¬ (x5 ≤ x3) →
    K 31 [(0, vr 53), (1, vi x1), (2, vi s0), (3, vi x5), (4, vi (w32 (x4 + 1)))] [] (S0, M)))) :
  K 76 [(0, vr 53), (1, vi x1), (3, vi x3), (4, vi x4), (5, vi x5)] [vi s0] (S0, M) := by
  exact mQ hK [12, 22, 70, 75, 88, 89, 90, 96, 104, 105] 11 6 76 b_M_span_76 rfl _ _ _ h
set_option maxRecDepth 40000 in
theorem q_M_worstOf_0 {cal : mCal} {lim : Nat × Nat} {scr : Nat × (Nat → Int)} {ret : Option mVal → mHp → Prop} {K : Nat → mLV → List mVal → mHp → Prop} (hK : mClo m_M_worstOf cal lim scr ret K) (x1 : Int) (M : mMem) (h :
  K 4 [(0, vr 53), (1, vi x1), (2, vi 0), (3, vi 0)] [] (S0, M)) :
  K 0 [(0, vr 53), (1, vi x1)] [] (S0, M) := by
  exact mQ hK [23, 84, 85, 86, 92] 6 0 0 b_M_worstOf_0 rfl _ _ _ h
set_option maxRecDepth 40000 in
theorem q_M_worstOf_4 {cal : mCal} {lim : Nat × Nat} {scr : Nat × (Nat → Int)} {ret : Option mVal → mHp → Prop} {K : Nat → mLV → List mVal → mHp → Prop} (hK : mClo m_M_worstOf cal lim scr ret K) (x1 : Int) (x2 : Int) (x3 : Int) (M : mMem) (h :
  ((60 < x3 →
    K 25 [(0, vr 53), (1, vi x1), (2, vi x2), (3, vi 0)] [] (S0, M)) ∧ (¬ (60 < x3) →
    mIn x3 61 (K 4 [(0, vr 53), (1, vi x1), (2, vi x2), (3, vi (w32 (x3 + 1)))] [] (S0, mupd M 62 x3 0))))) :
  K 4 [(0, vr 53), (1, vi x1), (2, vi x2), (3, vi x3)] [] (S0, M) := by
  exact mQ hK [23, 84, 85, 86, 92] 6 1 4 b_M_worstOf_4 rfl _ _ _ h
set_option maxRecDepth 40000 in
theorem q_M_worstOf_25 {cal : mCal} {lim : Nat × Nat} {scr : Nat × (Nat → Int)} {ret : Option mVal → mHp → Prop} {K : Nat → mLV → List mVal → mHp → Prop} (hK : mClo m_M_worstOf cal lim scr ret K) (x1 : Int) (x2 : Int) (x3 : Int) (M : mMem) (h :
  (∃ v2 m1, cal 175 [vr 53] (S0, M) (some (vi v2), (S0, m1)) ∧
  ((v2 ≤ x3 →
    ret (some (vi x2)) (S0, m1)) ∧ (¬ (v2 ≤ x3) →
    (∃ v4 m3, cal 176 [vr 53, vi x3] (S0, m1) (some (vi v4), (S0, m3)) ∧
    ((v4 = 0 →
      K 25 [(0, vr 53), (1, vi x1), (2, vi x2), (3, vi (w32 (x3 + 1)))] [] (S0, m3)) ∧ (¬ (v4 = 0) →
      (∃ v6 m5, cal 133 [vr 53, vi 340, vi x1, vi 0] (S0, m3) (some (vi v6), (S0, m5)) ∧
      mIn v6 61 (mIn v6 61 (mIn v6 61 (((((mupd m5 62 v6 (w32 ((m5 62 v6) + 1))) 62 v6) ≤ x2 →
        K 25 [(0, vr 53), (1, vi x1), (2, vi x2), (3, vi (w32 (x3 + 1)))] [] (S0, mupd m5 62 v6 (w32 ((m5 62 v6) + 1)))) ∧ (¬ (((mupd m5 62 v6 (w32 ((m5 62 v6) + 1))) 62 v6) ≤ x2) →
        mIn v6 61 (K 25 [(0, vr 53), (1, vi x1), (2, vi ((mupd m5 62 v6 (w32 ((m5 62 v6) + 1))) 62 v6)), (3, vi (w32 (x3 + 1)))] [] (S0, mupd m5 62 v6 (w32 ((m5 62 v6) + 1))))))))))))))))) :
  K 25 [(0, vr 53), (1, vi x1), (2, vi x2), (3, vi x3)] [] (S0, M) := by
  exact mQ hK [23, 84, 85, 86, 92] 6 3 25 b_M_worstOf_25 rfl _ _ _ h
set_option maxRecDepth 40000 in
theorem q_M_ask_0 {cal : mCal} {lim : Nat × Nat} {scr : Nat × (Nat → Int)} {ret : Option mVal → mHp → Prop} {K : Nat → mLV → List mVal → mHp → Prop} (hK : mClo m_M_ask cal lim scr ret K) (x1 : Int) (M : mMem) (h :
  (∃ v2 m1, cal 115 [vl x1, vl (0 : Nat), vl (1 : Nat)] (S0, M) (some (vi v2), (S0, m1)) ∧
  ((v2 ≠ 0 →
    (∃ v4 m3, cal 174 [vr 53] (S0, m1) (some (vi v4), (S0, m3)) ∧
    ((v4 = 0 →
      (∃ v6 m5, cal 177 [vr 53] (S0, m3) (some (vi v6), (S0, m5)) ∧
      K 33 [(0, vr 53), (1, vi x1), (2, vi v6), (3, vi (-4)), (4, vi 0)] [] (S0, m5))) ∧ (¬ (v4 = 0) →
      ret (some (vi (-2))) (S0, m3))))) ∧ (¬ (v2 ≠ 0) →
    ret (some (vi (-1))) (S0, m1))))) :
  K 0 [(0, vr 53), (1, vi x1)] [] (S0, M) := by
  exact mQ hK [12, 22, 64, 77, 78, 85, 95, 99, 100] 10 0 0 b_M_ask_0 rfl _ _ _ h
set_option maxRecDepth 40000 in
theorem q_M_ask_33 {cal : mCal} {lim : Nat × Nat} {scr : Nat × (Nat → Int)} {ret : Option mVal → mHp → Prop} {K : Nat → mLV → List mVal → mHp → Prop} (hK : mClo m_M_ask cal lim scr ret K) (x1 : Int) (x2 : Int) (x3 : Int) (x4 : Int) (M : mMem) (h :
  (((M 54 39) ≤ x4 →
    ((x3 = (-4) →
      ret (some (vi x3)) (S0, M)) ∧ (¬ (x3 = (-4)) →
      ((x1 ≠ 0 →
        ret (some (vi x2)) (S0, M)) ∧ (¬ (x1 ≠ 0) →
        ret (some (vi x3)) (S0, M)))))) ∧ (¬ ((M 54 39) ≤ x4) →
    (∃ v2 m1, cal 180 [vr 53, vi x4] (S0, M) (some (vi v2), (S0, m1)) ∧
    ((x2 ≤ v2 →
      K 65 [(0, vr 53), (1, vi x1), (2, vi x2), (4, vi x4), (5, vi v2)] [vi x3] (S0, m1)) ∧ (¬ (x2 ≤ v2) →
      K 65 [(0, vr 53), (1, vi x1), (2, vi x2), (4, vi x4), (5, vi v2)] [vi x4] (S0, m1))))))) :
  K 33 [(0, vr 53), (1, vi x1), (2, vi x2), (3, vi x3), (4, vi x4)] [] (S0, M) := by
  exact mQ hK [12, 22, 64, 77, 78, 85, 95, 99, 100] 10 3 33 b_M_ask_33 rfl _ _ _ h
set_option maxRecDepth 40000 in
theorem q_M_ask_65 {cal : mCal} {lim : Nat × Nat} {scr : Nat × (Nat → Int)} {ret : Option mVal → mHp → Prop} {K : Nat → mLV → List mVal → mHp → Prop} (hK : mClo m_M_ask cal lim scr ret K) (x1 : Int) (x2 : Int) (x4 : Int) (x5 : Int) (s0 : Int) (M : mMem) (h :
  ((x2 ≤ x5 →
    K 33 [(0, vr 53), (1, vi x1), (2, vi x2), (3, vi s0), (4, vi (w32 (x4 + 1)))] [] (S0, M)) ∧ (¬ (x2 ≤ x5) →
    K 33 [(0, vr 53), (1, vi x1), (2, vi x5), (3, vi s0), (4, vi (w32 (x4 + 1)))] [] (S0, M)))) :
  K 65 [(0, vr 53), (1, vi x1), (2, vi x2), (4, vi x4), (5, vi x5)] [vi s0] (S0, M) := by
  exact mQ hK [12, 22, 64, 77, 78, 85, 95, 99, 100] 10 5 65 b_M_ask_65 rfl _ _ _ h
set_option maxRecDepth 40000 in
theorem q_M_drift_0 {cal : mCal} {lim : Nat × Nat} {scr : Nat × (Nat → Int)} {ret : Option mVal → mHp → Prop} {K : Nat → mLV → List mVal → mHp → Prop} (hK : mClo m_M_drift cal lim scr ret K) (x1 : Int) (x2 : Int) (x3 : Int) (M : mMem) (h :
  (∃ v2 m1, cal 115 [vl x2, vl (1 : Nat), vl 60] (S0, M) (some (vi v2), (S0, m1)) ∧
  ((v2 = 0 →
    ret (some (vi (-1))) (S0, m1)) ∧ (¬ (v2 = 0) →
    (∃ v4 m3, cal 115 [vl x3, vl (0 : Nat), vl (1 : Nat)] (S0, m1) (some (vi v4), (S0, m3)) ∧
    ((v4 ≠ 0 →
      (∃ m5, cal 154 [vr 53, vi 0, vi 340] (S0, m3) (none, (S0, m5)) ∧
      K 38 [(0, vr 53), (2, vi x2), (3, vi x3), (4, vi x1), (5, vi 0)] [] (S0, m5))) ∧ (¬ (v4 ≠ 0) →
      ret (some (vi (-1))) (S0, m3)))))))) :
  K 0 [(0, vr 53), (1, vi x1), (2, vi x2), (3, vi x3)] [] (S0, M) := by
  exact mQ hK [22, 24, 113, 133, 134, 135, 141, 155, 162] 10 0 0 b_M_drift_0 rfl _ _ _ h
set_option maxRecDepth 40000 in
theorem q_M_drift_38 {cal : mCal} {lim : Nat × Nat} {scr : Nat × (Nat → Int)} {ret : Option mVal → mHp → Prop} {K : Nat → mLV → List mVal → mHp → Prop} (hK : mClo m_M_drift cal lim scr ret K) (x2 : Int) (x3 : Int) (x4 : Int) (x5 : Int) (M : mMem) (h :
  ((x2 ≤ x5 →
    ((x3 ≠ 0 →
      (∃ v2 m1, cal 136 [vr 53, vi 340] (S0, M) (some (vi v2), (S0, m1)) ∧
      ret (some (vi v2)) (S0, m1))) ∧ (¬ (x3 ≠ 0) →
      (∃ v4 m3, cal 134 [vr 53, vi 340] (S0, M) (some (vi v4), (S0, m3)) ∧
      ret (some (vi v4)) (S0, m3))))) ∧ (¬ (x2 ≤ x5) →
    K 66 [(0, vr 53), (2, vi x2), (3, vi x3), (4, vi (w32 ((w32 (x4 * 1103515245)) + 12345))), (5, vi x5), (6, vi (jand (jshr (w32 ((w32 (x4 * 1103515245)) + 12345)) 16) 32767))] [] (S0, M)))) :
  K 38 [(0, vr 53), (2, vi x2), (3, vi x3), (4, vi x4), (5, vi x5)] [] (S0, M) := by
  exact mQ hK [22, 24, 113, 133, 134, 135, 141, 155, 162] 10 3 38 b_M_drift_38 rfl _ _ _ h
set_option maxRecDepth 40000 in
theorem q_M_drift_66 {cal : mCal} {lim : Nat × Nat} {scr : Nat × (Nat → Int)} {ret : Option mVal → mHp → Prop} {K : Nat → mLV → List mVal → mHp → Prop} (hK : mClo m_M_drift cal lim scr ret K) (x2 : Int) (x3 : Int) (x4 : Int) (x5 : Int) (x6 : Int) (M : mMem) (h :
  mIn (w32 (340 + (jrem x6 36))) 510 (K 86 [(0, vr 53), (2, vi x2), (3, vi x3), (4, vi x4), (5, vi x5), (6, vi x6), (7, vi (jrem x6 36)), (8, vi (M 54 (w32 (340 + (jrem x6 36)))))] [] (S0, M))) :
  K 66 [(0, vr 53), (2, vi x2), (3, vi x3), (4, vi x4), (5, vi x5), (6, vi x6)] [] (S0, M) := by
  exact mQ hK [22, 24, 113, 133, 134, 135, 141, 155, 162] 10 4 66 b_M_drift_66 rfl _ _ _ h
set_option maxRecDepth 40000 in
theorem q_M_drift_86 {cal : mCal} {lim : Nat × Nat} {scr : Nat × (Nat → Int)} {ret : Option mVal → mHp → Prop} {K : Nat → mLV → List mVal → mHp → Prop} (hK : mClo m_M_drift cal lim scr ret K) (x2 : Int) (x3 : Int) (x4 : Int) (x5 : Int) (x6 : Int) (x7 : Int) (x8 : Int) (M : mMem) (h :
  ((x8 ≠ 0 →
    ((x8 ≠ 4 →
      mIn (w32 (340 + x7)) 510 (K 38 [(0, vr 53), (2, vi x2), (3, vi x3), (4, vi x4), (5, vi (w32 (x5 + 1)))] [] (S0, mupd M 54 (w32 (340 + x7)) 4))) ∧ (¬ (x8 ≠ 4) →
      mIn (w32 (340 + x7)) 510 (K 38 [(0, vr 53), (2, vi x2), (3, vi x3), (4, vi x4), (5, vi (w32 (x5 + 1)))] [] (S0, mupd M 54 (w32 (340 + x7)) 0))))) ∧ (¬ (x8 ≠ 0) →
    (∃ v2 m1, cal 148 [vr 53, vi 340, vi x7, vi (w32 (1 + (jrem (jdiv x6 64) 3)))] (S0, M) (some (vi v2), (S0, m1)) ∧
    K 38 [(0, vr 53), (2, vi x2), (3, vi x3), (4, vi x4), (5, vi (w32 (x5 + 1)))] [] (S0, m1))))) :
  K 86 [(0, vr 53), (2, vi x2), (3, vi x3), (4, vi x4), (5, vi x5), (6, vi x6), (7, vi x7), (8, vi x8)] [] (S0, M) := by
  exact mQ hK [22, 24, 113, 133, 134, 135, 141, 155, 162] 10 5 86 b_M_drift_86 rfl _ _ _ h
set_option maxRecDepth 40000 in
theorem q_M_keep_0 {cal : mCal} {lim : Nat × Nat} {scr : Nat × (Nat → Int)} {ret : Option mVal → mHp → Prop} {K : Nat → mLV → List mVal → mHp → Prop} (hK : mClo m_M_keep cal lim scr ret K) (x1 : Int) (M : mMem) (h :
  (∃ v2 m1, cal 115 [vl x1, vl (0 : Nat), vl (1 : Nat)] (S0, M) (some (vi v2), (S0, m1)) ∧
  ((v2 ≠ 0 →
    (∃ m3, cal 154 [vr 53, vi 0, vi (w32 (85 * (w32 (x1 + 1))))] (S0, m1) (none, (S0, m3)) ∧
    mIn x1 2 ((((m3 63 x1) = 0 →
      mIn x1 2 (ret (some (vi 0)) (S0, mupd m3 63 x1 1))) ∧ (¬ ((m3 63 x1) = 0) →
      mIn x1 2 (ret (some (vi 1)) (S0, mupd m3 63 x1 1))))))) ∧ (¬ (v2 ≠ 0) →
    ret (some (vi (-1))) (S0, m1))))) :
  K 0 [(0, vr 53), (1, vi x1)] [] (S0, M) := by
  exact mQ hK [12, 36, 37] 4 0 0 b_M_keep_0 rfl _ _ _ h
set_option maxRecDepth 40000 in
theorem q_M_back_0 {cal : mCal} {lim : Nat × Nat} {scr : Nat × (Nat → Int)} {ret : Option mVal → mHp → Prop} {K : Nat → mLV → List mVal → mHp → Prop} (hK : mClo m_M_back cal lim scr ret K) (x1 : Int) (M : mMem) (h :
  (∃ v2 m1, cal 115 [vl x1, vl (0 : Nat), vl (1 : Nat)] (S0, M) (some (vi v2), (S0, m1)) ∧
  ((v2 ≠ 0 →
    mIn x1 2 ((((m1 63 x1) ≠ 0 →
      (∃ m3, cal 154 [vr 53, vi (w32 (85 * (w32 (x1 + 1)))), vi 0] (S0, m1) (none, (S0, m3)) ∧
      (∃ v5 m4, cal 134 [vr 53, vi 0] (S0, m3) (some (vi v5), (S0, m4)) ∧
      ret (some (vi v5)) (S0, m4)))) ∧ (¬ ((m1 63 x1) ≠ 0) →
      ret (some (vi (-2))) (S0, m1))))) ∧ (¬ (v2 ≠ 0) →
    ret (some (vi (-1))) (S0, m1))))) :
  K 0 [(0, vr 53), (1, vi x1)] [] (S0, M) := by
  exact mQ hK [12, 24] 3 0 0 b_M_back_0 rfl _ _ _ h
set_option maxRecDepth 40000 in
theorem q_M_sheet_0 {cal : mCal} {lim : Nat × Nat} {scr : Nat × (Nat → Int)} {ret : Option mVal → mHp → Prop} {K : Nat → mLV → List mVal → mHp → Prop} (hK : mClo m_M_sheet cal lim scr ret K) (x1 : Int) (x2 : Int) (x3 : Int) (M : mMem) (h :
  (∃ v2 m1, cal 115 [vl x1, vl (0 : Nat), vl 3] (S0, M) (some (vi v2), (S0, m1)) ∧
  ((v2 = 0 →
    ret (some (vi (-1))) (S0, m1)) ∧ (¬ (v2 = 0) →
    (∃ v4 m3, cal 115 [vl x2, vl (0 : Nat), vl 2] (S0, m1) (some (vi v4), (S0, m3)) ∧
    ((v4 = 0 →
      ret (some (vi (-1))) (S0, m3)) ∧ (¬ (v4 = 0) →
      ((x3 ≤ 40 →
        ((0 ≤ x3 →
          mIn x1 4 (mIn x1 4 (K 56 [(0, vr 53), (1, vi x1), (4, vi 0)] [] (S0, mupd (mupd m3 64 x1 x2) 65 x1 x3)))) ∧ (¬ (0 ≤ x3) →
          ret (some (vi (-14))) (S0, m3)))) ∧ (¬ (x3 ≤ 40) →
        ret (some (vi (-1))) (S0, m3)))))))))) :
  K 0 [(0, vr 53), (1, vi x1), (2, vi x2), (3, vi x3)] [] (S0, M) := by
  exact mQ hK [30, 32, 39, 82] 5 0 0 b_M_sheet_0 rfl _ _ _ h
set_option maxRecDepth 40000 in
theorem q_M_sheet_56 {cal : mCal} {lim : Nat × Nat} {scr : Nat × (Nat → Int)} {ret : Option mVal → mHp → Prop} {K : Nat → mLV → List mVal → mHp → Prop} (hK : mClo m_M_sheet cal lim scr ret K) (x1 : Int) (x4 : Int) (M : mMem) (h :
  ((40 ≤ x4 →
    ret (some (vi 1)) (S0, M)) ∧ (¬ (40 ≤ x4) →
    mIn (w32 ((w32 (40 * x1)) + x4)) 160 (K 56 [(0, vr 53), (1, vi x1), (4, vi (w32 (x4 + 1)))] [] (S0, mupd M 66 (w32 ((w32 (40 * x1)) + x4)) 0))))) :
  K 56 [(0, vr 53), (1, vi x1), (4, vi x4)] [] (S0, M) := by
  exact mQ hK [30, 32, 39, 82] 5 4 56 b_M_sheet_56 rfl _ _ _ h
set_option maxRecDepth 40000 in
theorem q_M_lay_0 {cal : mCal} {lim : Nat × Nat} {scr : Nat × (Nat → Int)} {ret : Option mVal → mHp → Prop} {K : Nat → mLV → List mVal → mHp → Prop} (hK : mClo m_M_lay cal lim scr ret K) (x1 : Int) (x2 : Int) (x3 : Int) (M : mMem) (h :
  (∃ v2 m1, cal 115 [vl x1, vl (0 : Nat), vl 3] (S0, M) (some (vi v2), (S0, m1)) ∧
  ((v2 ≠ 0 →
    mIn x1 4 ((((m1 64 x1) ≠ (-4) →
      mIn x1 4 ((∃ v4 m3, cal 115 [vl x2, vl (0 : Nat), vl (w32 ((m1 65 x1) - 1))] (S0, m1) (some (vi v4), (S0, m3)) ∧
      ((v4 ≠ 0 →
        mIn x1 4 ((((m3 64 x1) ≠ 0 →
          mIn x1 4 ((((m3 64 x1) ≠ 1 →
            mIn (w32 ((w32 (40 * x1)) + x2)) 160 (ret (some (vi 1)) (S0, mupd m3 66 (w32 ((w32 (40 * x1)) + x2)) x3))) ∧ (¬ ((m3 64 x1) ≠ 1) →
            mIn (w32 ((w32 (40 * x1)) + x2)) 160 (ret (some (vi 1)) (S0, mupd m3 66 (w32 ((w32 (40 * x1)) + x2)) (jshr (jshl x3 16) 16))))))) ∧ (¬ ((m3 64 x1) ≠ 0) →
          mIn (w32 ((w32 (40 * x1)) + x2)) 160 (ret (some (vi 1)) (S0, mupd m3 66 (w32 ((w32 (40 * x1)) + x2)) (jshr (jshl x3 24) 24))))))) ∧ (¬ (v4 ≠ 0) →
        ret (some (vi (-12))) (S0, m3)))))) ∧ (¬ ((m1 64 x1) ≠ (-4)) →
      ret (some (vi (-11))) (S0, m1))))) ∧ (¬ (v2 ≠ 0) →
    ret (some (vi (-1))) (S0, m1))))) :
  K 0 [(0, vr 53), (1, vi x1), (2, vi x2), (3, vi x3)] [] (S0, M) := by
  exact mQ hK [14, 28, 49, 78, 98, 99] 7 0 0 b_M_lay_0 rfl _ _ _ h
set_option maxRecDepth 40000 in
theorem q_M_read_0 {cal : mCal} {lim : Nat × Nat} {scr : Nat × (Nat → Int)} {ret : Option mVal → mHp → Prop} {K : Nat → mLV → List mVal → mHp → Prop} (hK : mClo m_M_read cal lim scr ret K) (x1 : Int) (x2 : Int) (x3 : Int) (x4 : Int) (M : mMem) (h :
  (∃ v2 m1, cal 115 [vl x1, vl (0 : Nat), vl 3] (S0, M) (some (vi v2), (S0, m1)) ∧
  ((v2 = 0 →
    ret (some (vi (-1))) (S0, m1)) ∧ (¬ (v2 = 0) →
    (∃ v4 m3, cal 115 [vl x2, vl (0 : Nat), vl 2] (S0, m1) (some (vi v4), (S0, m3)) ∧
    ((v4 = 0 →
      ret (some (vi (-1))) (S0, m3)) ∧ (¬ (v4 = 0) →
      (∃ v6 m5, cal 115 [vl x4, vl (0 : Nat), vl 13] (S0, m3) (some (vi v6), (S0, m5)) ∧
      ((v6 ≠ 0 →
        (∃ m7, cal 154 [vr 53, vi 0, vi 255] (S0, m5) (none, (S0, m7)) ∧
        K 56 [(0, vr 53), (1, vi x1), (2, vi x2), (3, vi x3), (4, vi x4), (5, vi 0), (6, vi 0), (7, vi 0)] [] (S0, m7))) ∧ (¬ (v6 ≠ 0) →
        ret (some (vi (-1))) (S0, m5))))))))))) :
  K 0 [(0, vr 53), (1, vi x1), (2, vi x2), (3, vi x3), (4, vi x4)] [] (S0, M) := by
  exact mQ hK [37, 39, 85, 99, 125, 198, 201, 207] 9 0 0 b_M_read_0 rfl _ _ _ h
set_option maxRecDepth 40000 in
theorem q_M_read_56 {cal : mCal} {lim : Nat × Nat} {scr : Nat × (Nat → Int)} {ret : Option mVal → mHp → Prop} {K : Nat → mLV → List mVal → mHp → Prop} (hK : mClo m_M_read cal lim scr ret K) (x1 : Int) (x2 : Int) (x3 : Int) (x4 : Int) (x5 : Int) (x6 : Int) (x7 : Int) (M : mMem) (h :
  (((w32 (3 * x4)) ≤ x7 →
    ret (some (vi x6)) (S0, mupd M 53 30 x5)) ∧ (¬ ((w32 (3 * x4)) ≤ x7) →
    ((x5 ≠ 0 →
      ret (some (vi x6)) (S0, mupd M 53 30 x5)) ∧ (¬ (x5 ≠ 0) →
      mIn x1 4 ((((M 64 x1) ≠ (-4) →
        mIn x1 4 ((((M 64 x1) = x2 →
          mIn x1 4 ((∃ v2 m1, cal 115 [vl (w64 (x3 + x7)), vl (0 : Nat), vl (w32 ((M 65 x1) - 1))] (S0, M) (some (vi v2), (S0, m1)) ∧
          ((v2 ≠ 0 →
            K 126 [(0, vr 53), (1, vi x1), (2, vi x2), (3, vi x3), (4, vi x4), (6, vi x6), (7, vi x7)] [vi 0] (S0, m1)) ∧ (¬ (v2 ≠ 0) →
            K 126 [(0, vr 53), (1, vi x1), (2, vi x2), (3, vi x3), (4, vi x4), (6, vi x6), (7, vi x7)] [vi 2] (S0, m1)))))) ∧ (¬ ((M 64 x1) = x2) →
          K 126 [(0, vr 53), (1, vi x1), (2, vi x2), (3, vi x3), (4, vi x4), (6, vi x6), (7, vi x7)] [vi 3] (S0, M))))) ∧ (¬ ((M 64 x1) ≠ (-4)) →
        K 126 [(0, vr 53), (1, vi x1), (2, vi x2), (3, vi x3), (4, vi x4), (6, vi x6), (7, vi x7)] [vi 1] (S0, M))))))))) :
  K 56 [(0, vr 53), (1, vi x1), (2, vi x2), (3, vi x3), (4, vi x4), (5, vi x5), (6, vi x6), (7, vi x7)] [] (S0, M) := by
  exact mQ hK [37, 39, 85, 99, 125, 198, 201, 207] 9 3 56 b_M_read_56 rfl _ _ _ h
set_option maxRecDepth 40000 in
theorem q_M_read_126 {cal : mCal} {lim : Nat × Nat} {scr : Nat × (Nat → Int)} {ret : Option mVal → mHp → Prop} {K : Nat → mLV → List mVal → mHp → Prop} (hK : mClo m_M_read cal lim scr ret K) (x1 : Int) (x2 : Int) (x3 : Int) (x4 : Int) (x6 : Int) (x7 : Int) (s0 : Int) (M : mMem) (h :
  ((s0 ≠ 0 →
    K 56 [(0, vr 53), (1, vi x1), (2, vi x2), (3, vi x3), (4, vi x4), (5, vi s0), (6, vi x6), (7, vi (w32 (x7 + 1)))] [] (S0, M)) ∧ (¬ (s0 ≠ 0) →
    (((jrem x7 3) ≠ 2 →
      K 56 [(0, vr 53), (1, vi x1), (2, vi x2), (3, vi x3), (4, vi x4), (5, vi s0), (6, vi x6), (7, vi (w32 (x7 + 1)))] [] (S0, M)) ∧ (¬ ((jrem x7 3) ≠ 2) →
      mIn (w32 ((w32 ((w32 ((w32 (40 * x1)) + x3)) + x7)) - 2)) 160 (mIn (w32 ((w32 ((w32 ((w32 (40 * x1)) + x3)) + x7)) - 1)) 160 (mIn (w32 ((w32 ((w32 (40 * x1)) + x3)) + x7)) 160 ((∃ v2 m1, cal 149 [vr 53, vi (M 66 (w32 ((w32 ((w32 ((w32 (40 * x1)) + x3)) + x7)) - 2))), vi (M 66 (w32 ((w32 ((w32 ((w32 (40 * x1)) + x3)) + x7)) - 1))), vi (M 66 (w32 ((w32 ((w32 (40 * x1)) + x3)) + x7)))] (S0, M) (some (vi v2), (S0, m1)) ∧
      ((0 ≤ v2 →
        K 56 [(0, vr 53), (1, vi x1), (2, vi x2), (3, vi x3), (4, vi x4), (5, vi s0), (6, vi (w32 (x6 + 1))), (7, vi (w32 (x7 + 1)))] [] (S0, m1)) ∧ (¬ (0 ≤ v2) →
        (∃ m3, cal 154 [vr 53, vi 255, vi 0] (S0, m1) (none, (S0, m3)) ∧
        ret (some (vi (w32 ((-20) - x6)))) (S0, m3))))))))))))) :
  K 126 [(0, vr 53), (1, vi x1), (2, vi x2), (3, vi x3), (4, vi x4), (6, vi x6), (7, vi x7)] [vi s0] (S0, M) := by
  exact mQ hK [37, 39, 85, 99, 125, 198, 201, 207] 9 7 126 b_M_read_126 rfl _ _ _ h
set_option maxRecDepth 40000 in
theorem q_M_torn_0 {cal : mCal} {lim : Nat × Nat} {scr : Nat × (Nat → Int)} {ret : Option mVal → mHp → Prop} {K : Nat → mLV → List mVal → mHp → Prop} (hK : mClo m_M_torn cal lim scr ret K)  (M : mMem) (h :
  ret (some (vi (M 53 30))) (S0, M)) :
  K 0 [(0, vr 53)] [] (S0, M) := by
  exact mQ hK [] 1 0 0 b_M_torn_0 rfl _ _ _ h
set_option maxRecDepth 40000 in
theorem q_M_count_0 {cal : mCal} {lim : Nat × Nat} {scr : Nat × (Nat → Int)} {ret : Option mVal → mHp → Prop} {K : Nat → mLV → List mVal → mHp → Prop} (hK : mClo m_M_count cal lim scr ret K) (x1 : Int) (M : mMem) (h :
  K 4 [(0, vr 53), (1, vi x1), (2, vi 0), (3, vi 0)] [] (S0, M)) :
  K 0 [(0, vr 53), (1, vi x1)] [] (S0, M) := by
  exact mQ hK [30, 68, 73, 86, 100, 101, 103, 108, 124, 130, 131, 133, 138] 14 0 0 b_M_count_0 rfl _ _ _ h
set_option maxRecDepth 40000 in
theorem q_M_count_4 {cal : mCal} {lim : Nat × Nat} {scr : Nat × (Nat → Int)} {ret : Option mVal → mHp → Prop} {K : Nat → mLV → List mVal → mHp → Prop} (hK : mClo m_M_count cal lim scr ret K) (x1 : Int) (x2 : Int) (x3 : Int) (M : mMem) (h :
  ((3 ≤ x3 →
    (((x1 = ((0 : Nat) : Int) →
      ret (some (vi (M 53 22))) (S0, M)) ∧ 
    (x1 = ((1 : Nat) : Int) →
      (((M 63 0) = 0 →
        K 87 [(0, vr 53)] [vi 0] (S0, M)) ∧ (¬ ((M 63 0) = 0) →
        K 87 [(0, vr 53)] [vi 1] (S0, M)))) ∧ 
    (x1 = ((2 : Nat) : Int) →
      ret (some (vi (M 53 5))) (S0, M)) ∧ 
    (x1 = ((3 : Nat) : Int) →
      (((M 64 0) ≠ (-4) →
        ret (some (vi (M 65 0))) (S0, M)) ∧ (¬ ((M 64 0) ≠ (-4)) →
        ret (some (vi (-4))) (S0, M)))) ∧ 
    (x1 = ((4 : Nat) : Int) →
      ret (some (vi x2)) (S0, M)) ∧ 
    (x1 = ((5 : Nat) : Int) →
      (∃ v2 m1, cal 168 [vr 53] (S0, M) (some (vi v2), (S0, m1)) ∧
      ret (some (vi v2)) (S0, m1))) ∧ True) ∧ ((x1 < 0 ∨ ((6 : Nat) : Int) ≤ x1) →
      ret (some (vi (-1))) (S0, M)))) ∧ (¬ (3 ≤ x3) →
    mIn (w32 (36 + x3)) 510 (K 4 [(0, vr 53), (1, vi x1), (2, vi (w32 (x2 + (w32 ((M 54 (w32 (36 + x3))) + 20))))), (3, vi (w32 (x3 + 1)))] [] (S0, M))))) :
  K 4 [(0, vr 53), (1, vi x1), (2, vi x2), (3, vi x3)] [] (S0, M) := by
  exact mQ hK [30, 68, 73, 86, 100, 101, 103, 108, 124, 130, 131, 133, 138] 14 1 4 b_M_count_4 rfl _ _ _ h
set_option maxRecDepth 40000 in
theorem q_M_count_87 {cal : mCal} {lim : Nat × Nat} {scr : Nat × (Nat → Int)} {ret : Option mVal → mHp → Prop} {K : Nat → mLV → List mVal → mHp → Prop} (hK : mClo m_M_count cal lim scr ret K) (s0 : Int) (M : mMem) (h :
  (((M 63 1) = 0 →
    ret (some (vi (w32 (s0 + 0)))) (S0, M)) ∧ (¬ ((M 63 1) = 0) →
    ret (some (vi (w32 (s0 + 1)))) (S0, M)))) :
  K 87 [(0, vr 53)] [vi s0] (S0, M) := by
  exact mQ hK [30, 68, 73, 86, 100, 101, 103, 108, 124, 130, 131, 133, 138] 14 6 87 b_M_count_87 rfl _ _ _ h
end
section
/-! numbers: the machine's words and Int -/
def inR (z : Int) : Prop := -2147483648 ≤ z ∧ z < 2147483648
def inL (z : Int) : Prop := -9223372036854775808 ≤ z ∧ z < 9223372036854775808
theorem w32_bm (z : Int) : z.bmod 4294967296 = w32 z := by rw [Int.bmod_def]; unfold w32; split <;> omega
theorem w64_bm (z : Int) : z.bmod 18446744073709551616 = w64 z := by rw [Int.bmod_def]; unfold w64; split <;> omega
theorem w8_bm (z : Int) : z.bmod 256 = w8 z := by rw [Int.bmod_def]; unfold w8; split <;> omega
theorem w16_bm (z : Int) : z.bmod 65536 = w16 z := by rw [Int.bmod_def]; unfold w16; split <;> omega
theorem w32_in (z : Int) : inR (w32 z) := by unfold inR w32; omega
theorem w64_in (z : Int) : inL (w64 z) := by unfold inL w64; omega
theorem w8_in (z : Int) : inR (w8 z) := by unfold inR w8; omega
theorem w16_in (z : Int) : inR (w16 z) := by unfold inR w16; omega
theorem w32_id {z : Int} (h : inR z) : w32 z = z := by unfold inR at h; unfold w32; omega
theorem w64_id {z : Int} (h : inL z) : w64 z = z := by unfold inL at h; unfold w64; omega
theorem i_ti (x : Int32) : inR x.toInt := ⟨by have := x.le_toInt; omega, by have := x.toInt_lt; omega⟩
theorem i_tl (x : Int64) : inL x.toInt := ⟨by have := x.le_toInt; omega, by have := x.toInt_lt; omega⟩
theorem i_to {z : Int} (h : inR z) : (Int32.ofInt z).toInt = z := Int32.toInt_ofInt_of_le (by have := h.1; omega) (by have := h.2; omega)
theorem l_to {z : Int} (h : inL z) : (Int64.ofInt z).toInt = z := Int64.toInt_ofInt_of_le (by have := h.1; omega) (by have := h.2; omega)
theorem i_tw (z : Int) : (Int32.ofInt z).toInt = w32 z := by rw [Int32.toInt_ofInt]; exact w32_bm z
theorem l_tw (z : Int) : (Int64.ofInt z).toInt = w64 z := by rw [Int64.toInt_ofInt]; exact w64_bm z
theorem i_ow (z : Int) : Int32.ofInt (w32 z) = Int32.ofInt z := by rw [← Int32.toInt_inj, i_to (w32_in z), i_tw]
theorem l_ow (z : Int) : Int64.ofInt (w64 z) = Int64.ofInt z := by rw [← Int64.toInt_inj, l_to (w64_in z), l_tw]
theorem i_add (a b : Int) : Int32.ofInt a + Int32.ofInt b = Int32.ofInt (w32 (a + b)) := by rw [i_ow]; exact (Int32.ofInt_add a b).symm
theorem i_sub (a b : Int) : Int32.ofInt a - Int32.ofInt b = Int32.ofInt (w32 (a - b)) := by rw [i_ow]; exact (Int32.ofInt_sub a b).symm
theorem i_mul (a b : Int) : Int32.ofInt a * Int32.ofInt b = Int32.ofInt (w32 (a * b)) := by rw [i_ow]; exact (Int32.ofInt_mul a b).symm
theorem i_neg (a : Int) : -Int32.ofInt a = Int32.ofInt (w32 (-a)) := by rw [i_ow]; exact (Int32.ofInt_neg a).symm
theorem l_add (a b : Int) : Int64.ofInt a + Int64.ofInt b = Int64.ofInt (w64 (a + b)) := by rw [l_ow]; exact (Int64.ofInt_add a b).symm
theorem l_mul (a b : Int) : Int64.ofInt a * Int64.ofInt b = Int64.ofInt (w64 (a * b)) := by rw [l_ow]; exact (Int64.ofInt_mul a b).symm
theorem i_div {a b : Int} (ha : inR a) (hb : inR b) : Int32.ofInt a / Int32.ofInt b = Int32.ofInt (jdiv a b) := by
  rw [← Int32.toInt_inj, Int32.toInt_div, i_to ha, i_to hb]
  unfold jdiv
  rw [i_to (w32_in _), ← w32_bm]
theorem l_div {a b : Int} (ha : inL a) (hb : inL b) : Int64.ofInt a / Int64.ofInt b = Int64.ofInt (jldiv a b) := by
  rw [← Int64.toInt_inj, Int64.toInt_div, l_to ha, l_to hb]
  unfold jldiv
  rw [l_to (w64_in _), ← w64_bm]
theorem tm_in {a b M : Int} (ha : -M ≤ a ∧ a < M) : -M ≤ a.tmod b ∧ a.tmod b < M := by
  have h0 : (a.tmod b).natAbs ≤ a.natAbs := by rw [Int.natAbs_tmod]; exact Nat.mod_le _ _
  rcases Int.lt_or_le a 0 with h | h
  · have h1 : a.tmod b = -((-a).tmod b) := by rw [Int.neg_tmod, Int.neg_neg]
    have h2 : 0 ≤ (-a).tmod b := Int.tmod_nonneg b (by omega)
    omega
  · have h2 : 0 ≤ a.tmod b := Int.tmod_nonneg b h
    omega
theorem i_rem {a b : Int} (ha : inR a) (hb : inR b) : Int32.ofInt a - Int32.ofInt a / Int32.ofInt b * Int32.ofInt b = Int32.ofInt (jrem a b) := by
  rw [i_div ha hb]
  unfold jdiv jrem
  rw [i_ow, ← Int32.ofInt_mul, ← Int32.ofInt_sub]
  congr 1
  have := Int.tmod_add_mul_tdiv a b
  rw [Int.mul_comm (a.tdiv b) b]
  omega
theorem l_rem {a b : Int} (ha : inL a) (hb : inL b) : Int64.ofInt a - Int64.ofInt a / Int64.ofInt b * Int64.ofInt b = Int64.ofInt (jlrem a b) := by
  rw [l_div ha hb]
  unfold jldiv jlrem
  rw [l_ow, ← Int64.ofInt_mul, ← Int64.ofInt_sub]
  congr 1
  have := Int.tmod_add_mul_tdiv a b
  rw [Int.mul_comm (a.tdiv b) b]
  omega
theorem jrem_in {a b : Int} (ha : inR a) : inR (jrem a b) := tm_in ha
theorem jlrem_in {a b : Int} (ha : inL a) : inL (jlrem a b) := tm_in ha
theorem i_lt {a b : Int} (ha : inR a) (hb : inR b) : Int32.ofInt a < Int32.ofInt b ↔ a < b := by rw [Int32.lt_iff_toInt_lt, i_to ha, i_to hb]
theorem i_le {a b : Int} (ha : inR a) (hb : inR b) : Int32.ofInt a ≤ Int32.ofInt b ↔ a ≤ b := by rw [Int32.le_iff_toInt_le, i_to ha, i_to hb]
theorem i_eq {a b : Int} (ha : inR a) (hb : inR b) : Int32.ofInt a = Int32.ofInt b ↔ a = b := by rw [← Int32.toInt_inj, i_to ha, i_to hb]
theorem l_lt {a b : Int} (ha : inL a) (hb : inL b) : Int64.ofInt a < Int64.ofInt b ↔ a < b := by rw [Int64.lt_iff_toInt_lt, l_to ha, l_to hb]
theorem l_le {a b : Int} (ha : inL a) (hb : inL b) : Int64.ofInt a ≤ Int64.ofInt b ↔ a ≤ b := by rw [Int64.le_iff_toInt_le, l_to ha, l_to hb]
theorem l_eq {a b : Int} (ha : inL a) (hb : inL b) : Int64.ofInt a = Int64.ofInt b ↔ a = b := by rw [← Int64.toInt_inj, l_to ha, l_to hb]
theorem i_0 : Int32.ofInt 0 = 0 := rfl
theorem inR_0 : inR 0 := by unfold inR; omega
theorem inL_0 : inL 0 := by unfold inL; omega
theorem i_clamp {z : Int} (h : inR z) : (Int32.ofInt z).toNatClampNeg = z.toNat := Int32.toNatClampNeg_ofInt_of_le (by have := h.1; omega) (by have := h.2; omega)
theorem i_in {z : Int} {n : Nat} (h : inR z) (h0 : 0 ≤ z) (h1 : z < (n : Int)) : vp_in (Int32.ofInt z) n := by
  rw [vp_in_iff, i_to h]; exact ⟨h0, h1⟩
theorem jand_in (a b : Int) : inR (jand a b) := i_ti _
theorem jor_in (a b : Int) : inR (jor a b) := i_ti _
theorem jshl_in (a b : Int) : inR (jshl a b) := i_ti _
theorem jshr_in (a b : Int) : inR (jshr a b) := i_ti _
theorem jushr_in (a b : Int) : inR (jushr a b) := i_ti _
theorem jdiv_in (a b : Int) : inR (jdiv a b) := w32_in _
theorem jldiv_in (a b : Int) : inL (jldiv a b) := w64_in _
theorem jlcmp_in (a b : Int) : inR (jlcmp a b) := by unfold jlcmp inR; split <;> (try split) <;> omega
theorem i_and (a b : Int) : Int32.ofInt a &&& Int32.ofInt b = Int32.ofInt (jand a b) := by unfold jand; rw [Int32.ofInt_toInt]
theorem i_or (a b : Int) : Int32.ofInt a ||| Int32.ofInt b = Int32.ofInt (jor a b) := by unfold jor; rw [Int32.ofInt_toInt]
theorem i_shl (a b : Int) : Int32.ofInt a <<< (Int32.ofInt b &&& 31) = Int32.ofInt (jshl a b) := by unfold jshl; rw [Int32.ofInt_toInt]
theorem i_shr (a b : Int) : Int32.ofInt a >>> (Int32.ofInt b &&& 31) = Int32.ofInt (jshr a b) := by unfold jshr; rw [Int32.ofInt_toInt]
theorem i_ushr (a b : Int) : ((Int32.ofInt a).toUInt32 >>> ((Int32.ofInt b).toUInt32 &&& Int32.toUInt32 31)).toInt32 = Int32.ofInt (jushr a b) := by unfold jushr; rw [Int32.ofInt_toInt]
theorem i_i2l {a : Int} (h : inR a) : (Int32.ofInt a).toInt64 = Int64.ofInt a := by
  rw [← Int64.toInt_inj, Int32.toInt_toInt64, i_to h, l_to ⟨by have := h.1; omega, by have := h.2; omega⟩]
theorem inR_L {a : Int} (h : inR a) : inL a := ⟨by have := h.1; omega, by have := h.2; omega⟩
theorem i_i2b {a : Int} (h : inR a) : (Int32.ofInt a).toInt8.toInt32 = Int32.ofInt (w8 a) := by
  rw [← Int32.toInt_inj, Int8.toInt_toInt32, Int32.toInt_toInt8, i_to h, i_to (w8_in a)]
  exact w8_bm a
theorem i_i2s {a : Int} (h : inR a) : (Int32.ofInt a).toInt16.toInt32 = Int32.ofInt (w16 a) := by
  rw [← Int32.toInt_inj, Int16.toInt_toInt32, Int32.toInt_toInt16, i_to h, i_to (w16_in a)]
  exact w16_bm a
end
section
/-! names and links: places among the words of lw_tbl -/
def nOwn : List String := ["SamplerLaw$Charter", "SamplerLaw$Choice", "SamplerLaw$Image", "SamplerLaw$Sheet", "SamplerLaw$Tape", "SamplerLaw", "SamplerLawModel", "java/util/Arrays", "SamplerLawLaw"]
abbrev nR (t : Nat) : String := nOwn.getD t ""
def nF : List (List (String × String × Bool)) := [[("cells", "[I", true), ("spools", "[I", true), ("laws", "[I", true), ("planCells", "[I", true), ("planColours", "[I", true), ("lawCount", "I", false), ("planCount", "I", false), ("planCame", "I", false), ("planPassed", "I", false), ("besides", "[I", true), ("aboves", "[I", true)], [("code", "I", false), ("score", "I", false)], [("charter", "LSamplerLaw$Charter;", true), ("kept", "Z", false)], [("laid", "[I", true), ("lane", "I", false), ("length", "I", false)], [("bytes", "[I", true), ("length", "I", false), ("faultKind", "I", false), ("faultPlace", "I", false), ("next", "I", false), ("token", "I", false), ("start", "I", false), ("value", "I", false), ("rowsTold", "I", false), ("threadsTold", "I", false)], [("now", "LSamplerLaw$Charter;", true), ("trial", "LSamplerLaw$Charter;", true), ("firstImage", "LSamplerLaw$Image;", true), ("secondImage", "LSamplerLaw$Image;", true), ("tape", "LSamplerLaw$Tape;", true), ("choice", "LSamplerLaw$Choice;", true), ("sheets", "[LSamplerLaw$Sheet;", true), ("needed", "[I", true), ("seenLaws", "[I", true), ("seenReads", "[I", true), ("holes", "[I", true), ("groups", "[I", true), ("runners", "[I", true), ("seenCount", "I", false), ("holeCount", "I", false), ("runnerCount", "I", false), ("tornFault", "I", false)], [("state", "[I", true), ("readPage", "[I", true), ("rowsTold", "I", false), ("threadsTold", "I", false), ("tape", "[I", true), ("taped", "I", false), ("fault", "I", false), ("broken", "I", false), ("brokenAt", "I", false), ("spot", "I", false), ("here", "I", false), ("token", "I", false), ("value", "I", false), ("cuts", "[I", true), ("letters", "[I", true), ("cameMany", "I", false), ("firstNot", "I", false), ("most", "I", false), ("needFirst", "I", false), ("needSecond", "I", false), ("running", "[I", true), ("seen", "[I", true), ("seenMany", "I", false), ("holeAt", "[I", true), ("holeMany", "I", false), ("byReads", "[I", true), ("isKept", "[Z", true), ("lanes", "[I", true), ("lengths", "[I", true), ("cells", "[I", true), ("torn", "I", false)]]
def nFk (t k : Nat) : String × String × Bool := (nF.getD t []).getD k ("", "I", false)
def nT (t : Nat) : u_T := fun k => (nR t, (nFk t k).1, (nFk t k).2.1, (nFk t k).2.2)
def nN (t : Nat) : Nat := (nF.getD t []).length
def nTy (t k : Nat) : FieldType := (parseFieldDescriptor (nFk t k).2.1).getD .int
def nRf (t k : Nat) : Bool := !((nFk t k).2.1 == "I" || (nFk t k).2.1 == "Z")
def classes : List vw_C := (List.range 7).map fun t => (nR t, nT t, nN t)
def tch (j : Nat) : List Jvm.Cond := match j with
  | 0 => k2_sels lw_privs
  | 1 => tables_1_1
  | 2 => tables_1_2
  | 3 => tables_1_3
  | 4 => tables_1_4
  | _ => tables_1_5
def nLp : List (List Nat) := [[1058, 1060, 1062, 1064, 1066, 1068, 1070, 1072, 1074, 1076, 1078], [1149, 1151], [1093, 1095], [1166, 1168, 1170], [1118, 1120, 1122, 1124, 1126, 1128, 1130, 1132, 1134, 1136], [1190, 1192, 1194, 1196, 1198, 1200, 1202, 1204, 1206, 1208, 1210, 1212, 1214, 1216, 1218, 1220, 1222], [4038, 4040, 4042, 4044, 4046, 4048, 4050, 4052, 4054, 4056, 4058, 4060, 4062, 4064, 4066, 4068, 4070, 4072, 4074, 4076, 4078, 4080, 4082, 4084, 4086, 4088, 4090, 4092, 4094, 4096, 4098]]
def nIns : List Nat := [1024, 1140, 1083, 1156, 1099, 1016, 4002]
def nIni : List Nat := [1002, 1006, 1004, 1007, 1005, 1001, 1008, 1003, 1000]
def nDs : List (String × Nat) := [("()I", 0), ("()V", 0), ("()Z", 0), ("(I)I", 1), ("(I)V", 1), ("(I)Z", 1), ("(II)I", 2), ("(II)J", 2), ("(II)V", 2), ("(II)Z", 2), ("(III)I", 3), ("(III)J", 3), ("(III)Z", 3), ("(IIII)I", 4), ("(IIII)V", 4), ("(IIZ)I", 3), ("(JI)J", 2), ("(JJ)J", 2), ("(JJI)J", 3), ("(JJJ)Z", 3), ("(LSamplerLaw$Charter;)I", 1), ("(LSamplerLaw$Charter;)V", 1), ("(LSamplerLaw$Charter;I)V", 2), ("(LSamplerLaw$Charter;II)V", 3), ("(LSamplerLaw$Sheet;I)Z", 2), ("(Ljava/lang/String;)Z", 1), ("(ZIII)I", 4), ("([II)V", 2)]
abbrev mInf : Type := (String × Nat) × ByteArray × Nat × Option FieldType × Nat × Bool
def mInfos_0 : List mInf := [(("<init>", 1), prog_2_method_1_code, 1, none, 0, false), (("clear", 1), prog_2_method_2_code, 1, none, 0, false), (("copyFrom", 21), prog_2_method_3_code, 2, none, 0, false), (("put", 8), prog_2_method_4_code, 3, none, 0, false), (("tallyAround", 8), prog_2_method_5_code, 6, none, 0, false), (("canTake", 9), prog_2_method_6_code, 3, some .boolean, 0, false), (("take", 8), prog_2_method_7_code, 3, none, 0, false), (("takeBack", 4), prog_2_method_8_code, 2, none, 0, false), (("takePlanned", 4), prog_2_method_9_code, 2, none, 0, false), (("addLaw", 14), prog_2_method_10_code, 6, none, 0, false), (("reads", 3), prog_2_method_11_code, 4, some .int, 0, false), (("readsByBack", 3), prog_2_method_12_code, 4, some .int, 0, false), (("readsAs", 13), prog_2_method_13_code, 4, some .int, 0, true), (("worth", 0), prog_2_method_14_code, 3, some .int, 0, false), (("heldBits", 0), prog_2_method_15_code, 3, some .int, 0, false), (("cellsOf", 3), prog_2_method_16_code, 4, some .int, 0, false), (("canRun", 5), prog_2_method_17_code, 2, some .boolean, 0, false), (("runningCells", 0), prog_2_method_18_code, 1, some .int, 0, false), (("exchange", 8), prog_2_method_19_code, 4, none, 0, false), (("turnRow", 4), prog_2_method_20_code, 6, none, 0, false), (("<init>", 1), prog_3_method_1_code, 1, none, 1, false), (("begin", 4), prog_3_method_2_code, 2, none, 1, false), (("offer", 8), prog_3_method_3_code, 3, none, 1, false), (("told", 3), prog_3_method_4_code, 2, some .int, 1, false), (("<init>", 1), prog_4_method_1_code, 1, none, 2, false), (("<init>", 1), prog_5_method_1_code, 1, none, 3, false), (("renew", 8), prog_5_method_2_code, 3, none, 3, false), (("set", 8), prog_5_method_3_code, 3, none, 3, false), (("faultAsOf", 10), prog_5_method_4_code, 4, some .int, 3, false), (("faultAt", 6), prog_5_method_5_code, 3, some .int, 3, false), (("<init>", 1), prog_6_method_1_code, 1, none, 4, false), (("tell", 20), prog_6_method_2_code, 4, some .int, 4, false), (("fail", 4), prog_6_method_3_code, 2, none, 4, false), (("readToken", 1), prog_6_method_4_code, 1, none, 4, false), (("isLetter", 5), prog_6_method_5_code, 1, some .boolean, 4, true), (("isFigure", 5), prog_6_method_6_code, 1, some .boolean, 4, true), (("readLine", 21), prog_6_method_7_code, 2, none, 4, false), (("isName", 25), prog_6_method_8_code, 3, some .boolean, 4, false), (("readRow", 21), prog_6_method_9_code, 4, none, 4, false), (("takeCell", 23), prog_6_method_10_code, 4, none, 4, false)]
def mInfos_1 : List mInf := [(("readThread", 21), prog_6_method_11_code, 3, none, 4, false), (("readLaw", 22), prog_6_method_12_code, 6, none, 4, false), (("takeNumber", 6), prog_6_method_13_code, 3, some .int, 4, false), (("takeStop", 1), prog_6_method_14_code, 1, none, 4, false), (("<init>", 1), prog_1_method_1_code, 2, none, 5, false), (("feed", 3), prog_1_method_2_code, 2, some .int, 5, false), (("end", 3), prog_1_method_3_code, 3, some .int, 5, false), (("text", 0), prog_1_method_4_code, 2, some .int, 5, false), (("fault", 0), prog_1_method_5_code, 1, some .int, 5, false), (("rule", 3), prog_1_method_6_code, 2, some .int, 5, false), (("cell", 6), prog_1_method_7_code, 3, some .int, 5, false), (("thread", 3), prog_1_method_8_code, 2, some .int, 5, false), (("law", 6), prog_1_method_9_code, 3, some .int, 5, false), (("stitch", 6), prog_1_method_10_code, 3, some .int, 5, false), (("amend", 10), prog_1_method_11_code, 5, some .int, 5, false), (("spool", 6), prog_1_method_12_code, 4, some .int, 5, false), (("plan", 10), prog_1_method_13_code, 4, some .int, 5, false), (("cut", 3), prog_1_method_14_code, 3, some .int, 5, false), (("enact", 13), prog_1_method_15_code, 5, some .int, 5, false), (("work", 10), prog_1_method_16_code, 5, some .int, 5, false), (("unpick", 6), prog_1_method_17_code, 5, some .int, 5, false), (("moth", 6), prog_1_method_18_code, 5, some .int, 5, false), (("mend", 6), prog_1_method_19_code, 4, some .int, 5, false), (("runs", 3), prog_1_method_20_code, 2, some .int, 5, false), (("ahead", 6), prog_1_method_21_code, 3, some .int, 5, false), (("best", 3), prog_1_method_22_code, 4, some .int, 5, false), (("need", 6), prog_1_method_23_code, 5, some .int, 5, false), (("loose", 6), prog_1_method_24_code, 5, some .int, 5, false), (("dye", 3), prog_1_method_25_code, 4, some .int, 5, false), (("turn", 3), prog_1_method_26_code, 3, some .int, 5, false), (("leave", 3), prog_1_method_27_code, 3, some .int, 5, false), (("luck", 11), prog_1_method_28_code, 8, some .long, 5, false), (("mean", 7), prog_1_method_29_code, 7, some .long, 5, false), (("see", 6), prog_1_method_30_code, 3, some .int, 5, false), (("forget", 3), prog_1_method_31_code, 3, some .int, 5, false), (("fills", 0), prog_1_method_32_code, 4, some .int, 5, false), (("shades", 6), prog_1_method_33_code, 7, some .int, 5, false), (("span", 3), prog_1_method_34_code, 6, some .int, 5, false), (("ask", 3), prog_1_method_35_code, 4, some .int, 5, false), (("drift", 10), prog_1_method_36_code, 6, some .int, 5, false)]
def mInfos_2 : List mInf := [(("keep", 3), prog_1_method_37_code, 4, some .int, 5, false), (("back", 3), prog_1_method_38_code, 3, some .int, 5, false), (("sheet", 10), prog_1_method_39_code, 4, some .int, 5, false), (("lay", 10), prog_1_method_40_code, 6, some .int, 5, false), (("read", 13), prog_1_method_41_code, 10, some .int, 5, false), (("torn", 0), prog_1_method_42_code, 1, some .int, 5, false), (("count", 3), prog_1_method_43_code, 2, some .int, 5, false), (("isCell", 9), prog_1_method_44_code, 2, some .boolean, 5, true), (("isColour", 5), prog_1_method_45_code, 1, some .boolean, 5, true), (("isPart", 5), prog_1_method_46_code, 1, some .boolean, 5, true), (("isSheet", 5), prog_1_method_47_code, 1, some .boolean, 5, true), (("isLane", 5), prog_1_method_48_code, 1, some .boolean, 5, true), (("isLaw", 5), prog_1_method_49_code, 2, some .boolean, 5, false), (("isLawPart", 9), prog_1_method_50_code, 2, some .boolean, 5, true), (("place", 6), prog_1_method_51_code, 2, some .int, 5, true), (("stitchCode", 6), prog_1_method_52_code, 2, some .int, 5, true), (("followPlan", 4), prog_1_method_53_code, 3, none, 5, false), (("fewestToHold", 3), prog_1_method_54_code, 2, some .int, 5, false), (("holdsByOne", 5), prog_1_method_55_code, 3, some .boolean, 5, false), (("holdsByTwo", 5), prog_1_method_56_code, 6, some .boolean, 5, false), (("holdsByStitchAt", 12), prog_1_method_57_code, 6, some .boolean, 5, false), (("placeByRows", 3), prog_1_method_58_code, 1, some .int, 5, true), (("workFrom", 24), prog_1_method_59_code, 6, some .boolean, 5, false), (("driftOnce", 4), prog_1_method_60_code, 5, none, 5, false), (("gatherRunners", 2), prog_1_method_61_code, 2, some .boolean, 5, false), (("letRun", 4), prog_1_method_62_code, 3, none, 5, false), (("weight", 7), prog_1_method_63_code, 6, some .long, 5, false), (("fractionPart", 16), prog_1_method_64_code, 8, some .long, 5, false), (("greatestDivisor", 17), prog_1_method_65_code, 11, some .long, 5, true), (("gatherHoles", 2), prog_1_method_66_code, 2, some .boolean, 5, false), (("fillCount", 0), prog_1_method_67_code, 1, some .int, 5, false), (("fits", 5), prog_1_method_68_code, 3, some .boolean, 5, false), (("groupByReads", 0), prog_1_method_69_code, 5, some .int, 5, false), (("largestGroup", 3), prog_1_method_70_code, 4, some .int, 5, false), (("<init>", 1), prog_8_method_1_code, 1, none, 6, false), (("in", 19), prog_8_method_3_code, 6, some .boolean, 6, true), (("feed", 3), prog_8_method_4_code, 2, some .int, 6, false), (("end", 3), prog_8_method_5_code, 3, some .int, 6, false), (("byteAt", 3), prog_8_method_6_code, 2, some .int, 6, false), (("fails", 4), prog_8_method_7_code, 2, none, 6, false)]
def mInfos_3 : List mInf := [(("nameHere", 0), prog_8_method_8_code, 4, some .int, 6, false), (("step", 1), prog_8_method_9_code, 2, none, 6, false), (("other", 10), prog_8_method_10_code, 5, some .int, 6, false), (("readRow", 1), prog_8_method_11_code, 3, none, 6, false), (("readMore", 4), prog_8_method_12_code, 3, none, 6, false), (("readLine", 1), prog_8_method_13_code, 2, none, 6, false), (("text", 0), prog_8_method_14_code, 3, some .int, 6, false), (("fault", 0), prog_8_method_15_code, 1, some .int, 6, false), (("isLaw", 5), prog_8_method_16_code, 2, some .boolean, 6, false), (("isCell", 9), prog_8_method_17_code, 2, some .boolean, 6, true), (("isColour", 5), prog_8_method_18_code, 1, some .boolean, 6, true), (("besideOn", 10), prog_8_method_19_code, 6, some .int, 6, false), (("aboveOn", 10), prog_8_method_20_code, 6, some .int, 6, false), (("readsOn", 15), prog_8_method_21_code, 9, some .int, 6, false), (("worthOn", 3), prog_8_method_22_code, 4, some .int, 6, false), (("heldOn", 3), prog_8_method_23_code, 4, some .int, 6, false), (("holesOn", 3), prog_8_method_24_code, 4, some .int, 6, false), (("rule", 3), prog_8_method_25_code, 4, some .int, 6, false), (("cell", 6), prog_8_method_26_code, 3, some .int, 6, false), (("thread", 3), prog_8_method_27_code, 2, some .int, 6, false), (("law", 6), prog_8_method_28_code, 3, some .int, 6, false), (("stitch", 6), prog_8_method_29_code, 3, some .int, 6, false), (("puts", 26), prog_8_method_30_code, 6, some .int, 6, false), (("amend", 10), prog_8_method_31_code, 5, some .int, 6, false), (("spool", 6), prog_8_method_32_code, 3, some .int, 6, false), (("plan", 10), prog_8_method_33_code, 5, some .int, 6, false), (("cut", 3), prog_8_method_34_code, 2, some .int, 6, false), (("enact", 13), prog_8_method_35_code, 6, some .int, 6, false), (("stitchesOn", 12), prog_8_method_36_code, 5, some .boolean, 6, false), (("works", 10), prog_8_method_37_code, 4, some .int, 6, false), (("work", 10), prog_8_method_38_code, 4, some .int, 6, false), (("unpick", 6), prog_8_method_39_code, 3, some .int, 6, false), (("moth", 6), prog_8_method_40_code, 3, some .int, 6, false), (("mend", 6), prog_8_method_41_code, 3, some .int, 6, false), (("copies", 8), prog_8_method_42_code, 4, none, 6, false), (("planGoes", 4), prog_8_method_43_code, 4, none, 6, false), (("runs", 3), prog_8_method_44_code, 2, some .int, 6, false), (("ahead", 6), prog_8_method_45_code, 3, some .int, 6, false), (("isMore", 5), prog_8_method_46_code, 3, some .boolean, 6, false), (("stitchesBy", 9), prog_8_method_47_code, 6, some .boolean, 6, false)]
def mInfos_4 : List mInf := [(("best", 3), prog_8_method_48_code, 4, some .int, 6, false), (("isHeldBy", 9), prog_8_method_49_code, 9, some .boolean, 6, false), (("need", 6), prog_8_method_50_code, 4, some .int, 6, false), (("loose", 6), prog_8_method_51_code, 8, some .int, 6, false), (("dye", 3), prog_8_method_52_code, 6, some .int, 6, false), (("turn", 3), prog_8_method_53_code, 5, some .int, 6, false), (("leave", 3), prog_8_method_54_code, 4, some .int, 6, false), (("lowest", 18), prog_8_method_55_code, 11, some .long, 6, true), (("laysRunning", 0), prog_8_method_56_code, 3, some .int, 6, false), (("byRuns", 11), prog_8_method_57_code, 14, some .long, 6, false), (("luck", 11), prog_8_method_58_code, 4, some .long, 6, false), (("mean", 7), prog_8_method_59_code, 3, some .long, 6, false), (("see", 6), prog_8_method_60_code, 3, some .int, 6, false), (("forget", 3), prog_8_method_61_code, 3, some .int, 6, false), (("isTooMany", 2), prog_8_method_62_code, 2, some .boolean, 6, false), (("fillMany", 0), prog_8_method_63_code, 1, some .int, 6, false), (("isFit", 5), prog_8_method_64_code, 4, some .boolean, 6, false), (("fills", 0), prog_8_method_65_code, 3, some .int, 6, false), (("shades", 6), prog_8_method_66_code, 5, some .int, 6, false), (("span", 3), prog_8_method_67_code, 6, some .int, 6, false), (("worstOf", 3), prog_8_method_68_code, 5, some .int, 6, false), (("ask", 3), prog_8_method_69_code, 6, some .int, 6, false), (("drift", 10), prog_8_method_70_code, 9, some .int, 6, false), (("keep", 3), prog_8_method_71_code, 3, some .int, 6, false), (("back", 3), prog_8_method_72_code, 2, some .int, 6, false), (("sheet", 10), prog_8_method_73_code, 5, some .int, 6, false), (("lay", 10), prog_8_method_74_code, 4, some .int, 6, false), (("read", 13), prog_8_method_75_code, 9, some .int, 6, false), (("torn", 0), prog_8_method_76_code, 1, some .int, 6, false), (("count", 3), prog_8_method_77_code, 4, some .int, 6, false), (("fill", 27), prog_14_method_103_code, 4, none, 7, true)]
def mInfos : List mInf := mInfos_0 ++ mInfos_1 ++ mInfos_2 ++ mInfos_3 ++ mInfos_4
def mPos : List (Nat × Nat × Nat) := [(1027, 1026, 0), (1032, 1030, 1031), (2117, 2115, 2116), (2088, 2086, 2087), (2092, 2091, 7), (2214, 2212, 2213), (2218, 2216, 2217), (3059, 3057, 3058), (3004, 3002, 3003), (2110, 2108, 2109), (2141, 2139, 2140), (2178, 2176, 2177), (2144, 2143, 0), (2148, 2146, 2147), (2137, 2135, 2136), (2133, 2131, 2132), (3100, 3098, 3099), (3096, 3094, 3095), (3071, 3069, 3070), (3079, 3077, 3078), (1143, 1142, 0), (3021, 3019, 3020), (3028, 3026, 3027), (3032, 3030, 3031), (1086, 1085, 0), (1159, 1158, 0), (3206, 3204, 3205), (3219, 3217, 3218), (3227, 3225, 3226), (3215, 3213, 3214), (1102, 1101, 0), (2000, 1238, 1239), (2015, 2014, 1), (2005, 2004, 0), (2008, 2007, 0), (2011, 2010, 0), (2019, 2018, 2), (2024, 2023, 3), (2076, 2075, 4), (2084, 2083, 6), (2097, 2096, 8), (2106, 2105, 10), (2080, 2079, 5), (2101, 2100, 9), (1019, 1018, 0), (1228, 1226, 1227), (1232, 1230, 1231), (1236, 1234, 1235), (2125, 2123, 2124), (2129, 2127, 2128), (2152, 2150, 2151), (2162, 2160, 2161), (2169, 2167, 2168), (2182, 2180, 2181), (2186, 2184, 2185), (2193, 2191, 2192), (2197, 2195, 2196), (2201, 2199, 2200), (2205, 2203, 2204), (2210, 2208, 2209), (2223, 2221, 2222), (2228, 2226, 2227), (2232, 2230, 2231), (2236, 2234, 2235), (3010, 3008, 3009), (3014, 3012, 3013), (3036, 3034, 3035), (3063, 3061, 3062), (3067, 3065, 3066), (3075, 3073, 3074), (3083, 3081, 3082), (3087, 3085, 3086), (3124, 3122, 3123), (3128, 3126, 3127), (3132, 3130, 3131), (3136, 3134, 3135), (3152, 3150, 3151), (3156, 3154, 3155), (3166, 3164, 3165), (3179, 3177, 3178), (3188, 3186, 3187), (3192, 3190, 3191), (3196, 3194, 3195), (3211, 3209, 3210), (3223, 3221, 3222), (3236, 3234, 3235), (4000, 3238, 3239), (2155, 2154, 0), (2165, 2164, 0), (3017, 3016, 0), (3199, 3198, 0), (3202, 3201, 0), (2173, 2172, 11), (2189, 2188, 0), (2158, 2157, 0), (3024, 3023, 0), (3000, 2239, 12), (3040, 3039, 13), (3044, 3043, 14), (3055, 3054, 16), (3051, 3050, 15), (3047, 3046, 0), (3232, 3231, 27), (3184, 3183, 26), (3092, 3091, 17), (3105, 3104, 18), (3109, 3108, 19), (3113, 3112, 20), (3117, 3116, 0), (3140, 3139, 21), (3144, 3143, 22), (3148, 3147, 23), (3170, 3169, 24), (3175, 3174, 25), (4005, 4004, 0), (4109, 4108, 0), (4105, 4103, 4104), (4113, 4111, 4112), (4125, 4124, 29), (4133, 4132, 30), (4141, 4140, 32), (4121, 4120, 28), (4150, 4149, 34), (4154, 4153, 35), (4146, 4145, 33), (4137, 4136, 31), (4117, 4115, 4116), (4158, 4156, 4157), (4209, 4208, 42), (4197, 4196, 0), (4165, 4164, 0), (4182, 4181, 39), (4186, 4185, 40), (4178, 4177, 38), (4190, 4189, 41), (4174, 4173, 37), (4170, 4169, 36), (4162, 4160, 4161), (4194, 4192, 4193), (4201, 4199, 4200), (4205, 4203, 4204), (4213, 4211, 4212), (4223, 4222, 43), (4218, 4216, 4217), (4227, 4225, 4226), (4232, 4230, 4231), (4236, 4234, 4235), (5000, 4238, 4239), (5012, 5011, 45), (5008, 5007, 44), (5004, 5002, 5003), (5016, 5014, 5015), (5020, 5018, 5019), (5024, 5022, 5023), (5036, 5035, 47), (5032, 5031, 46), (5028, 5026, 5027), (5040, 5038, 5039), (5052, 5051, 49), (5048, 5047, 48), (5044, 5042, 5043), (5062, 5061, 50), (5056, 5054, 5055), (5066, 5064, 5065), (5070, 5068, 5069), (5074, 5072, 5073), (5078, 5076, 5077), (5095, 5094, 0), (5087, 5086, 51), (5092, 5091, 52), (5082, 5080, 5081), (5099, 5097, 5098), (5103, 5101, 5102), (5108, 5106, 5107), (5116, 5115, 53), (5120, 5119, 54), (5124, 5123, 55), (5112, 5110, 5111), (5128, 5126, 5127), (5132, 5130, 5131), (5141, 5140, 56), (5136, 5134, 5135), (5145, 5143, 5144), (5150, 5148, 5149), (5154, 5152, 5153), (5158, 5156, 5157), (5162, 5160, 5161), (5166, 5164, 5165), (5171, 5169, 5170), (5175, 5173, 5174), (1035, 1034, 0)]
def lFl : List ((Nat × Nat) × (Nat × Nat × Nat)) := [((0, 9), (0, 0, 1036)), ((0, 15), (0, 1, 1038)), ((0, 18), (0, 2, 1041)), ((0, 21), (0, 3, 1043)), ((0, 24), (0, 4, 1045)), ((0, 27), (0, 9, 1056)), ((0, 30), (0, 10, 1057)), ((0, 42), (0, 5, 1047)), ((0, 46), (0, 6, 1050)), ((0, 69), (0, 7, 1052)), ((0, 72), (0, 8, 1054)), ((1, 9), (1, 0, 1145)), ((1, 15), (1, 1, 1147)), ((2, 10), (2, 0, 1090)), ((3, 9), (3, 0, 1161)), ((3, 15), (3, 2, 1164)), ((3, 25), (3, 1, 1163)), ((4, 9), (4, 0, 1104)), ((4, 20), (4, 2, 1108)), ((4, 24), (4, 3, 1110)), ((4, 27), (4, 4, 1112)), ((4, 30), (4, 8, 1116)), ((4, 33), (4, 9, 1117)), ((4, 39), (4, 5, 1113)), ((4, 46), (4, 6, 1114)), ((4, 49), (4, 1, 1107)), ((4, 59), (4, 7, 1115)), ((4, 113), (0, 1, 1040)), ((4, 119), (0, 5, 1049)), ((5, 12), (5, 0, 1173)), ((5, 16), (5, 1, 1174)), ((5, 22), (5, 2, 1175)), ((5, 26), (5, 3, 1176)), ((5, 32), (5, 4, 1177)), ((5, 39), (5, 5, 1178)), ((5, 45), (5, 6, 1179)), ((5, 49), (5, 7, 1180)), ((5, 53), (5, 8, 1181)), ((5, 56), (5, 9, 1182)), ((5, 59), (5, 10, 1183)), ((5, 62), (5, 11, 1184)), ((5, 65), (5, 12, 1185)), ((5, 69), (4, 1, 1106)), ((5, 73), (4, 0, 1105)), ((5, 80), (4, 2, 1109)), ((5, 83), (4, 3, 1111)), ((5, 90), (5, 13, 1186)), ((5, 93), (2, 1, 1092)), ((5, 97), (0, 5, 1048)), ((5, 104), (0, 6, 1051)), ((5, 118), (0, 0, 1037)), ((5, 129), (0, 1, 1039)), ((5, 135), (0, 2, 1042)), ((5, 144), (0, 3, 1044)), ((5, 147), (0, 4, 1046)), ((5, 171), (0, 7, 1053)), ((5, 174), (0, 8, 1055)), ((5, 195), (1, 0, 1146)), ((5, 198), (1, 1, 1148)), ((5, 215), (5, 15, 1188)), ((5, 256), (2, 0, 1091)), ((5, 282), (5, 16, 1189)), ((5, 285), (3, 2, 1165)), ((5, 308), (3, 0, 1162)), ((5, 322), (5, 14, 1187)), ((6, 7), (6, 0, 4007)), ((6, 13), (6, 1, 4008)), ((6, 16), (6, 4, 4011)), ((6, 19), (6, 13, 4020)), ((6, 22), (6, 14, 4021)), ((6, 25), (6, 20, 4027)), ((6, 28), (6, 21, 4028)), ((6, 31), (6, 23, 4030)), ((6, 34), (6, 25, 4032)), ((6, 37), (6, 26, 4033)), ((6, 41), (6, 27, 4034)), ((6, 44), (6, 28, 4035)), ((6, 47), (6, 29, 4036)), ((6, 56), (6, 5, 4012)), ((6, 60), (6, 7, 4014)), ((6, 63), (6, 10, 4017)), ((6, 66), (6, 8, 4015)), ((6, 69), (6, 11, 4018)), ((6, 72), (6, 9, 4016)), ((6, 79), (6, 12, 4019)), ((6, 97), (6, 2, 4009)), ((6, 107), (6, 3, 4010)), ((6, 122), (6, 6, 4013)), ((6, 125), (6, 22, 4029)), ((6, 181), (6, 15, 4022)), ((6, 184), (6, 16, 4023)), ((6, 190), (6, 17, 4024)), ((6, 199), (6, 18, 4025)), ((6, 202), (6, 19, 4026)), ((6, 229), (6, 24, 4031)), ((6, 251), (6, 30, 4037))]
def lMl : List ((Nat × Nat) × (Nat × Nat)) := [((0, 33), (1, 1029)), ((0, 36), (190, 1033)), ((0, 55), (4, 2089)), ((0, 59), (3, 2219)), ((0, 62), (5, 3005)), ((0, 66), (6, 3006)), ((0, 75), (12, 2142)), ((0, 79), (10, 2138)), ((2, 9), (0, 1089)), ((3, 19), (190, 3207)), ((3, 28), (29, 3228)), ((4, 15), (1, 2001)), ((4, 36), (33, 2002)), ((4, 42), (36, 2016)), ((4, 52), (34, 2006)), ((4, 56), (35, 2009)), ((4, 62), (32, 2012)), ((4, 68), (37, 2021)), ((4, 72), (38, 2073)), ((4, 77), (40, 2094)), ((4, 82), (41, 2103)), ((4, 101), (42, 2077)), ((4, 105), (39, 2081)), ((4, 109), (3, 2085)), ((4, 116), (43, 2098)), ((4, 122), (9, 2107)), ((5, 11), (0, 1025)), ((5, 76), (31, 1237)), ((5, 86), (2, 2114)), ((5, 100), (15, 2130)), ((5, 107), (14, 2134)), ((5, 111), (13, 2145)), ((5, 114), (87, 2153)), ((5, 121), (94, 2156)), ((5, 125), (88, 2163)), ((5, 132), (92, 2170)), ((5, 138), (10, 2174)), ((5, 141), (11, 2175)), ((5, 150), (93, 2187)), ((5, 153), (9, 2206)), ((5, 157), (5, 2211)), ((5, 160), (6, 2215)), ((5, 164), (3, 2224)), ((5, 167), (96, 2237)), ((5, 177), (89, 3015)), ((5, 180), (21, 3018)), ((5, 183), (95, 3022)), ((5, 186), (22, 3025)), ((5, 189), (23, 3029)), ((5, 192), (97, 3037)), ((5, 201), (18, 3068)), ((5, 204), (19, 3076)), ((5, 209), (104, 3089)), ((5, 218), (105, 3102)), ((5, 221), (106, 3106)), ((5, 225), (107, 3110)), ((5, 229), (109, 3137)), ((5, 232), (110, 3141)), ((5, 235), (111, 3145)), ((5, 246), (112, 3167)), ((5, 249), (113, 3172)), ((5, 253), (103, 3181)), ((5, 259), (90, 3197)), ((5, 262), (91, 3200)), ((5, 265), (26, 3203)), ((5, 268), (29, 3212)), ((5, 271), (27, 3216)), ((5, 274), (28, 3224)), ((5, 278), (102, 3229)), ((5, 286), (17, 3093)), ((5, 289), (8, 3001)), ((5, 292), (98, 3041)), ((5, 295), (99, 3052)), ((5, 298), (101, 3045)), ((5, 301), (100, 3048)), ((5, 305), (7, 3056)), ((5, 311), (16, 3097)), ((5, 316), (108, 3115)), ((5, 325), (190, 3171)), ((6, 52), (115, 4107)), ((6, 75), (118, 4122)), ((6, 90), (119, 4130)), ((6, 94), (121, 4118)), ((6, 100), (122, 4147)), ((6, 104), (123, 4151)), ((6, 110), (120, 4138)), ((6, 116), (124, 4143)), ((6, 119), (125, 4134)), ((6, 130), (131, 4179)), ((6, 133), (132, 4183)), ((6, 136), (133, 4175)), ((6, 140), (130, 4163)), ((6, 144), (136, 4167)), ((6, 147), (135, 4171)), ((6, 150), (134, 4187)), ((6, 153), (129, 4195)), ((6, 157), (128, 4206)), ((6, 164), (142, 4220)), ((6, 170), (148, 5009)), ((6, 174), (149, 5005)), ((6, 177), (154, 5033)), ((6, 187), (155, 5029)), ((6, 193), (159, 5045)), ((6, 196), (158, 5049)), ((6, 209), (161, 5059)), ((6, 212), (168, 5084)), ((6, 215), (167, 5093)), ((6, 223), (169, 5089)), ((6, 232), (174, 5113)), ((6, 236), (175, 5117)), ((6, 239), (176, 5121)), ((6, 242), (177, 5137)), ((6, 245), (180, 5138)), ((8, 9), (44, 1017)), ((8, 12), (114, 4003)), ((8, 13), (45, 1225)), ((8, 17), (116, 4102)), ((8, 18), (46, 1229)), ((8, 21), (117, 4110)), ((8, 22), (47, 1233)), ((8, 26), (126, 4114)), ((8, 27), (48, 2122)), ((8, 30), (127, 4155)), ((8, 31), (49, 2126)), ((8, 34), (137, 4159)), ((8, 35), (50, 2149)), ((8, 39), (138, 4191)), ((8, 40), (51, 2159)), ((8, 43), (139, 4198)), ((8, 44), (52, 2166)), ((8, 47), (140, 4202)), ((8, 48), (53, 2179)), ((8, 51), (141, 4210)), ((8, 52), (54, 2183)), ((8, 56), (143, 4215)), ((8, 57), (55, 2190)), ((8, 60), (144, 4224)), ((8, 61), (56, 2194)), ((8, 64), (145, 4229)), ((8, 65), (57, 2198)), ((8, 68), (146, 4233)), ((8, 69), (58, 2202)), ((8, 73), (147, 4237)), ((8, 74), (59, 2207)), ((8, 77), (150, 5001)), ((8, 78), (60, 2220)), ((8, 81), (151, 5013)), ((8, 82), (61, 2225)), ((8, 85), (152, 5017)), ((8, 86), (62, 2229)), ((8, 89), (153, 5021)), ((8, 90), (63, 2233)), ((8, 93), (156, 5025)), ((8, 94), (64, 3007)), ((8, 97), (157, 5037)), ((8, 98), (65, 3011)), ((8, 101), (160, 5041)), ((8, 102), (66, 3033)), ((8, 105), (162, 5053)), ((8, 106), (67, 3060)), ((8, 109), (163, 5063)), ((8, 110), (68, 3064)), ((8, 113), (164, 5067)), ((8, 114), (69, 3072)), ((8, 117), (165, 5071)), ((8, 118), (70, 3080)), ((8, 121), (166, 5075)), ((8, 122), (71, 3084)), ((8, 126), (170, 5079)), ((8, 127), (72, 3121)), ((8, 131), (171, 5096)), ((8, 132), (73, 3125)), ((8, 135), (172, 5100)), ((8, 136), (74, 3129)), ((8, 139), (173, 5105)), ((8, 140), (75, 3133)), ((8, 143), (177, 5109)), ((8, 144), (76, 3149)), ((8, 147), (178, 5125)), ((8, 148), (77, 3153)), ((8, 151), (179, 5129)), ((8, 152), (78, 3163)), ((8, 155), (181, 5133)), ((8, 156), (79, 3176)), ((8, 159), (182, 5142)), ((8, 160), (80, 3185)), ((8, 163), (183, 5147)), ((8, 164), (81, 3189)), ((8, 167), (184, 5151)), ((8, 168), (82, 3193)), ((8, 171), (185, 5155)), ((8, 172), (83, 3208)), ((8, 175), (186, 5159)), ((8, 176), (84, 3220)), ((8, 179), (187, 5163)), ((8, 180), (85, 3233)), ((8, 183), (188, 5168)), ((8, 184), (86, 3237)), ((8, 187), (189, 5172))]
def lNs : List ((Nat × Nat) × Nat) := [((5, 21), 24), ((5, 31), 30), ((5, 38), 20), ((5, 68), 25)]
def lOb : List ((Nat × Nat) × Nat) := [((0, 3), 1028), ((1, 3), 1144), ((2, 1), 1087), ((3, 3), 1160), ((4, 3), 1103), ((5, 3), 1020), ((6, 1), 4006)]
def lSp : List ((Nat × Nat) × (Nat × Nat)) := [((0, 49), (3, 2118)), ((4, 92), (15, 2025)), ((4, 97), (16, 2035)), ((5, 238), (4, 3157)), ((5, 243), (5, 3160)), ((5, 320), (6, 3118))]
def lCl : List ((Nat × Nat) × (Nat × Nat)) := [((2, 7), (0, 1088)), ((5, 9), (0, 1023)), ((5, 19), (2, 1082)), ((5, 29), (4, 1098)), ((5, 36), (1, 1139)), ((5, 43), (3, 1154)), ((8, 7), (5, 1015)), ((8, 10), (6, 4001))]
def lCi : List ((Nat × Nat) × (Int × Nat)) := [((5, 252), (1103515245, 3180)), ((6, 248), (1103515245, 5146))]
def lCL : List ((Nat × Nat) × (Int × Nat)) := [((5, 207), ((-1), 3088)), ((5, 213), ((-2), 3101)), ((5, 314), (10, 3114)), ((6, 50), (127, 4106)), ((6, 82), (97, 4126)), ((6, 84), (122, 4127)), ((6, 86), (48, 4128)), ((6, 88), (57, 4129)), ((6, 114), (5, 4142)), ((6, 128), (3, 4166)), ((6, 160), (2, 4214)), ((6, 162), (9, 4219)), ((6, 168), (99, 4228)), ((6, 205), (10, 5057)), ((6, 207), (11, 5058)), ((6, 219), ((-1), 5083)), ((6, 221), ((-2), 5088)), ((6, 227), (60, 5104)), ((6, 249), (13, 5167))]
def lSt : List Nat := [66, 75, 80, 86, 88, 90]
def lStT : List String := ["row", "thread", "beside", "mirror", "above", "cross"]
def pObjI : Nat := 1021
def pObjC : Nat := 1022
def pCpyS : Nat := 2119
def pCpyN : Nat := 2120
def pMinS : Nat := 3158
def pMinC : Nat := 3159
def pMaxS : Nat := 3161
def pMaxC : Nat := 3162
def pMaxLS : Nat := 3119
def pMaxLC : Nat := 3120
def pLenI : Nat := 2026
def pLenV : Nat := 2027
def pLenC : Nat := 2028
def pChrI : Nat := 2036
def pChrV : Nat := 2037
def pChrC : Nat := 2038
def pStrI : Nat := 1009
def pSysI : Nat := 1013
def pMathI : Nat := 1014
-- 1081 (Jvm.Cond.arrayClass Jvm.ClassFile.FieldType.int)
-- 2121 (Jvm.Cond.arrayClass Jvm.ClassFile.FieldType.byte)
-- 4101 (Jvm.Cond.arrayClass Jvm.ClassFile.FieldType.boolean)
def pArrI : Nat := 1081
def pArrS : Nat := 1155
def pArrZ : Nat := 4101
def mInf0 : mInf := (("", 0), ⟨#[]⟩, 0, none, 0, false)
def mIn_ (n : Nat) : mInf := mInfos.getD n mInf0
abbrev mCo (n : Nat) : ByteArray := (mIn_ n).2.1
abbrev mMx (n : Nat) : Nat := (mIn_ n).2.2.1
abbrev mRt (n : Nat) : Option FieldType := (mIn_ n).2.2.2.1
abbrev mOw (n : Nat) : Nat := (mIn_ n).2.2.2.2.1
abbrev mStc (n : Nat) : Bool := (mIn_ n).2.2.2.2.2
abbrev mDs (n : Nat) : Nat := (mIn_ n).1.2
def nDs_ (i : Nat) : String × Nat := nDs.getD i ("", 0)
abbrev mY (n : Nat) : MethodName := ⟨nR (mOw n), (mIn_ n).1.1, (nDs_ (mDs n)).1⟩
abbrev npar (n : Nat) : Nat := (nDs_ (mDs n)).2
def wAt (p : Nat) (w : Jvm.Cond) : Prop := (tch (p / 1000))[p % 1000]? = some w
def mWS : List Jvm.Cond := lw_tbl.filter goodWord
theorem wAt_in {p : Nat} {w : Jvm.Cond} (h : wAt p w) (hg : goodWord w = true) : w ∈ mWS := by
  refine List.mem_filter.mpr ⟨?_, hg⟩
  have h1 := List.mem_of_getElem? h
  have h2 : ∀ j, ∀ w ∈ tch j, w ∈ lw_tbl := by
    intro j w hw
    unfold lw_tbl tables_1
    simp only [List.mem_append]
    unfold tch at hw
    split at hw <;> simp [hw]
  exact h2 _ _ h1
theorem fmn_ {α : Type} {P : α → Prop} : ∀ x ∈ ([] : List α), P x := fun _ h => absurd h List.not_mem_nil
theorem fmc_ {α : Type} {P : α → Prop} {a : α} {l : List α} (h : P a) (hl : ∀ x ∈ l, P x) : ∀ x ∈ a :: l, P x := List.forall_mem_cons.mpr ⟨h, hl⟩
def spN (k : Nat) : MethodName := match k with
  | 3 => arraycopyName
  | 4 => Lib.Math.min.name
  | 5 => Lib.Math.max.name
  | 6 => Lib.MathLoose.max_long.x
  | 15 => ⟨"java/lang/String", "length", "()I"⟩
  | _ => ⟨"java/lang/String", "charAt", "(I)C"⟩
set_option maxRecDepth 100000 in
set_option maxHeartbeats 4000000 in
theorem lFl_w : ∀ q ∈ lFl, wAt q.2.2.2 (.fieldLink (nR q.1.1) q.1.2 (nR q.2.1) (nFk q.2.1 q.2.2.1).1 (nFk q.2.1 q.2.2.1).2.1) := fmc_ rfl (fmc_ rfl (fmc_ rfl (fmc_ rfl (fmc_ rfl (fmc_ rfl (fmc_ rfl (fmc_ rfl (fmc_ rfl (fmc_ rfl (fmc_ rfl (fmc_ rfl (fmc_ rfl (fmc_ rfl (fmc_ rfl (fmc_ rfl (fmc_ rfl (fmc_ rfl (fmc_ rfl (fmc_ rfl (fmc_ rfl (fmc_ rfl (fmc_ rfl (fmc_ rfl (fmc_ rfl (fmc_ rfl (fmc_ rfl (fmc_ rfl (fmc_ rfl (fmc_ rfl (fmc_ rfl (fmc_ rfl (fmc_ rfl (fmc_ rfl (fmc_ rfl (fmc_ rfl (fmc_ rfl (fmc_ rfl (fmc_ rfl (fmc_ rfl (fmc_ rfl (fmc_ rfl (fmc_ rfl (fmc_ rfl (fmc_ rfl (fmc_ rfl (fmc_ rfl (fmc_ rfl (fmc_ rfl (fmc_ rfl (fmc_ rfl (fmc_ rfl (fmc_ rfl (fmc_ rfl (fmc_ rfl (fmc_ rfl (fmc_ rfl (fmc_ rfl (fmc_ rfl (fmc_ rfl (fmc_ rfl (fmc_ rfl (fmc_ rfl (fmc_ rfl (fmc_ rfl (fmc_ rfl (fmc_ rfl (fmc_ rfl (fmc_ rfl (fmc_ rfl (fmc_ rfl (fmc_ rfl (fmc_ rfl (fmc_ rfl (fmc_ rfl (fmc_ rfl (fmc_ rfl (fmc_ rfl (fmc_ rfl (fmc_ rfl (fmc_ rfl (fmc_ rfl (fmc_ rfl (fmc_ rfl (fmc_ rfl (fmc_ rfl (fmc_ rfl (fmc_ rfl (fmc_ rfl (fmc_ rfl (fmc_ rfl (fmc_ rfl (fmc_ rfl (fmc_ rfl (fmc_ rfl (fmc_ rfl (fmn_))))))))))))))))))))))))))))))))))))))))))))))))))))))))))))))))))))))))))))))))))))))))))))))))
theorem lFl_b : lFl.all (fun q => decide (q.2.1 < 7) && decide (q.2.2.1 < nN q.2.1)) = true := by decide +kernel
set_option maxRecDepth 100000 in
set_option maxHeartbeats 4000000 in
theorem lMl_w : ∀ q ∈ lMl, wAt q.2.2 (.methodLink (nR q.1.1) q.1.2 (mY q.2.1)) := fmc_ rfl (fmc_ rfl (fmc_ rfl (fmc_ rfl (fmc_ rfl (fmc_ rfl (fmc_ rfl (fmc_ rfl (fmc_ rfl (fmc_ rfl (fmc_ rfl (fmc_ rfl (fmc_ rfl (fmc_ rfl (fmc_ rfl (fmc_ rfl (fmc_ rfl (fmc_ rfl (fmc_ rfl (fmc_ rfl (fmc_ rfl (fmc_ rfl (fmc_ rfl (fmc_ rfl (fmc_ rfl (fmc_ rfl (fmc_ rfl (fmc_ rfl (fmc_ rfl (fmc_ rfl (fmc_ rfl (fmc_ rfl (fmc_ rfl (fmc_ rfl (fmc_ rfl (fmc_ rfl (fmc_ rfl (fmc_ rfl (fmc_ rfl (fmc_ rfl (fmc_ rfl (fmc_ rfl (fmc_ rfl (fmc_ rfl (fmc_ rfl (fmc_ rfl (fmc_ rfl (fmc_ rfl (fmc_ rfl (fmc_ rfl (fmc_ rfl (fmc_ rfl (fmc_ rfl (fmc_ rfl (fmc_ rfl (fmc_ rfl (fmc_ rfl (fmc_ rfl (fmc_ rfl (fmc_ rfl (fmc_ rfl (fmc_ rfl (fmc_ rfl (fmc_ rfl (fmc_ rfl (fmc_ rfl (fmc_ rfl (fmc_ rfl (fmc_ rfl (fmc_ rfl (fmc_ rfl (fmc_ rfl (fmc_ rfl (fmc_ rfl (fmc_ rfl (fmc_ rfl (fmc_ rfl (fmc_ rfl (fmc_ rfl (fmc_ rfl (fmc_ rfl (fmc_ rfl (fmc_ rfl (fmc_ rfl (fmc_ rfl (fmc_ rfl (fmc_ rfl (fmc_ rfl (fmc_ rfl (fmc_ rfl (fmc_ rfl (fmc_ rfl (fmc_ rfl (fmc_ rfl (fmc_ rfl (fmc_ rfl (fmc_ rfl (fmc_ rfl (fmc_ rfl (fmc_ rfl (fmc_ rfl (fmc_ rfl (fmc_ rfl (fmc_ rfl (fmc_ rfl (fmc_ rfl (fmc_ rfl (fmc_ rfl (fmc_ rfl (fmc_ rfl (fmc_ rfl (fmc_ rfl (fmc_ rfl (fmc_ rfl (fmc_ rfl (fmc_ rfl (fmc_ rfl (fmc_ rfl (fmc_ rfl (fmc_ rfl (fmc_ rfl (fmc_ rfl (fmc_ rfl (fmc_ rfl (fmc_ rfl (fmc_ rfl (fmc_ rfl (fmc_ rfl (fmc_ rfl (fmc_ rfl (fmc_ rfl (fmc_ rfl (fmc_ rfl (fmc_ rfl (fmc_ rfl (fmc_ rfl (fmc_ rfl (fmc_ rfl (fmc_ rfl (fmc_ rfl (fmc_ rfl (fmc_ rfl (fmc_ rfl (fmc_ rfl (fmc_ rfl (fmc_ rfl (fmc_ rfl (fmc_ rfl (fmc_ rfl (fmc_ rfl (fmc_ rfl (fmc_ rfl (fmc_ rfl (fmc_ rfl (fmc_ rfl (fmc_ rfl (fmc_ rfl (fmc_ rfl (fmc_ rfl (fmc_ rfl (fmc_ rfl (fmc_ rfl (fmc_ rfl (fmc_ rfl (fmc_ rfl (fmc_ rfl (fmc_ rfl (fmc_ rfl (fmc_ rfl (fmc_ rfl (fmc_ rfl (fmc_ rfl (fmc_ rfl (fmc_ rfl (fmc_ rfl (fmc_ rfl (fmc_ rfl (fmc_ rfl (fmc_ rfl (fmc_ rfl (fmc_ rfl (fmc_ rfl (fmc_ rfl (fmc_ rfl (fmc_ rfl (fmc_ rfl (fmc_ rfl (fmc_ rfl (fmc_ rfl (fmc_ rfl (fmc_ rfl (fmc_ rfl (fmc_ rfl (fmc_ rfl (fmc_ rfl (fmc_ rfl (fmc_ rfl (fmc_ rfl (fmc_ rfl (fmn_)))))))))))))))))))))))))))))))))))))))))))))))))))))))))))))))))))))))))))))))))))))))))))))))))))))))))))))))))))))))))))))))))))))))))))))))))))))))))))))))))))))))))))))))))))))))))))))))))))))))
theorem lMl_b : lMl.all (fun q => decide (q.2.1 < 191)) = true := by decide +kernel
theorem lNs_b : lNs.all (fun q => decide (q.2 < 191)) = true := by decide +kernel
set_option maxRecDepth 100000 in
set_option maxHeartbeats 4000000 in
theorem lOb_w : ∀ q ∈ lOb, wAt q.2 (.methodLink (nR q.1.1) q.1.2 Lib.objectInit) := fmc_ rfl (fmc_ rfl (fmc_ rfl (fmc_ rfl (fmc_ rfl (fmc_ rfl (fmc_ rfl (fmn_)))))))
set_option maxRecDepth 100000 in
set_option maxHeartbeats 4000000 in
theorem lSp_w : ∀ q ∈ lSp, wAt q.2.2 (.methodLink (nR q.1.1) q.1.2 (spN q.2.1)) := fmc_ rfl (fmc_ rfl (fmc_ rfl (fmc_ rfl (fmc_ rfl (fmc_ rfl (fmn_))))))
set_option maxRecDepth 100000 in
set_option maxHeartbeats 4000000 in
theorem lCl_w : ∀ q ∈ lCl, wAt q.2.2 (.classLink (nR q.1.1) q.1.2 (nR q.2.1)) := fmc_ rfl (fmc_ rfl (fmc_ rfl (fmc_ rfl (fmc_ rfl (fmc_ rfl (fmc_ rfl (fmc_ rfl (fmn_))))))))
theorem lCl_b : lCl.all (fun q => decide (q.2.1 < 7)) = true := by decide +kernel
theorem lCi_w : ∀ q ∈ lCi, wAt q.2.2 (.constant (nR q.1.1) q.1.2 (Int32.ofInt q.2.1)) ∧ inR q.2.1 := by
  unfold lCi
  exact fmc_ ⟨by unfold wAt; decide +kernel, by unfold inR; decide⟩ (fmc_ ⟨by unfold wAt; decide +kernel, by unfold inR; decide⟩ fmn_)
set_option maxRecDepth 100000 in
set_option maxHeartbeats 4000000 in
theorem lCL_w : ∀ q ∈ lCL, ∃ v : Int64, wAt q.2.2 (.constantLong (nR q.1.1) q.1.2 v) ∧ v = Int64.ofInt q.2.1 ∧ inL q.2.1 := by
  unfold lCL
  exact fmc_ ⟨_, rfl, by decide +kernel, by unfold inL; decide⟩ (fmc_ ⟨_, rfl, by decide +kernel, by unfold inL; decide⟩ (fmc_ ⟨_, rfl, by decide +kernel, by unfold inL; decide⟩ (fmc_ ⟨_, rfl, by decide +kernel, by unfold inL; decide⟩ (fmc_ ⟨_, rfl, by decide +kernel, by unfold inL; decide⟩ (fmc_ ⟨_, rfl, by decide +kernel, by unfold inL; decide⟩ (fmc_ ⟨_, rfl, by decide +kernel, by unfold inL; decide⟩ (fmc_ ⟨_, rfl, by decide +kernel, by unfold inL; decide⟩ (fmc_ ⟨_, rfl, by decide +kernel, by unfold inL; decide⟩ (fmc_ ⟨_, rfl, by decide +kernel, by unfold inL; decide⟩ (fmc_ ⟨_, rfl, by decide +kernel, by unfold inL; decide⟩ (fmc_ ⟨_, rfl, by decide +kernel, by unfold inL; decide⟩ (fmc_ ⟨_, rfl, by decide +kernel, by unfold inL; decide⟩ (fmc_ ⟨_, rfl, by decide +kernel, by unfold inL; decide⟩ (fmc_ ⟨_, rfl, by decide +kernel, by unfold inL; decide⟩ (fmc_ ⟨_, rfl, by decide +kernel, by unfold inL; decide⟩ (fmc_ ⟨_, rfl, by decide +kernel, by unfold inL; decide⟩ (fmc_ ⟨_, rfl, by decide +kernel, by unfold inL; decide⟩ (fmc_ ⟨_, rfl, by decide +kernel, by unfold inL; decide⟩ (fmn_)))))))))))))))))))
set_option maxRecDepth 100000 in
set_option maxHeartbeats 4000000 in
theorem nL_w0 : ∀ k ∈ [0, 1, 2, 3, 4, 5, 6, 7, 8, 9, 10], wAt ((nLp.getD 0 []).getD k 0) (u_lay (nR 0) (nT 0) k) := fmc_ rfl (fmc_ rfl (fmc_ rfl (fmc_ rfl (fmc_ rfl (fmc_ rfl (fmc_ rfl (fmc_ rfl (fmc_ rfl (fmc_ rfl (fmc_ rfl (fmn_)))))))))))
set_option maxRecDepth 100000 in
set_option maxHeartbeats 4000000 in
theorem nL_w1 : ∀ k ∈ [0, 1], wAt ((nLp.getD 1 []).getD k 0) (u_lay (nR 1) (nT 1) k) := fmc_ rfl (fmc_ rfl (fmn_))
set_option maxRecDepth 100000 in
set_option maxHeartbeats 4000000 in
theorem nL_w2 : ∀ k ∈ [0, 1], wAt ((nLp.getD 2 []).getD k 0) (u_lay (nR 2) (nT 2) k) := fmc_ rfl (fmc_ rfl (fmn_))
set_option maxRecDepth 100000 in
set_option maxHeartbeats 4000000 in
theorem nL_w3 : ∀ k ∈ [0, 1, 2], wAt ((nLp.getD 3 []).getD k 0) (u_lay (nR 3) (nT 3) k) := fmc_ rfl (fmc_ rfl (fmc_ rfl (fmn_)))
set_option maxRecDepth 100000 in
set_option maxHeartbeats 4000000 in
theorem nL_w4 : ∀ k ∈ [0, 1, 2, 3, 4, 5, 6, 7, 8, 9], wAt ((nLp.getD 4 []).getD k 0) (u_lay (nR 4) (nT 4) k) := fmc_ rfl (fmc_ rfl (fmc_ rfl (fmc_ rfl (fmc_ rfl (fmc_ rfl (fmc_ rfl (fmc_ rfl (fmc_ rfl (fmc_ rfl (fmn_))))))))))
set_option maxRecDepth 100000 in
set_option maxHeartbeats 4000000 in
theorem nL_w5 : ∀ k ∈ [0, 1, 2, 3, 4, 5, 6, 7, 8, 9, 10, 11, 12, 13, 14, 15, 16], wAt ((nLp.getD 5 []).getD k 0) (u_lay (nR 5) (nT 5) k) := fmc_ rfl (fmc_ rfl (fmc_ rfl (fmc_ rfl (fmc_ rfl (fmc_ rfl (fmc_ rfl (fmc_ rfl (fmc_ rfl (fmc_ rfl (fmc_ rfl (fmc_ rfl (fmc_ rfl (fmc_ rfl (fmc_ rfl (fmc_ rfl (fmc_ rfl (fmn_)))))))))))))))))
set_option maxRecDepth 100000 in
set_option maxHeartbeats 4000000 in
theorem nL_w6 : ∀ k ∈ [0, 1, 2, 3, 4, 5, 6, 7, 8, 9, 10, 11, 12, 13, 14, 15, 16, 17, 18, 19, 20, 21, 22, 23, 24, 25, 26, 27, 28, 29, 30], wAt ((nLp.getD 6 []).getD k 0) (u_lay (nR 6) (nT 6) k) := fmc_ rfl (fmc_ rfl (fmc_ rfl (fmc_ rfl (fmc_ rfl (fmc_ rfl (fmc_ rfl (fmc_ rfl (fmc_ rfl (fmc_ rfl (fmc_ rfl (fmc_ rfl (fmc_ rfl (fmc_ rfl (fmc_ rfl (fmc_ rfl (fmc_ rfl (fmc_ rfl (fmc_ rfl (fmc_ rfl (fmc_ rfl (fmc_ rfl (fmc_ rfl (fmc_ rfl (fmc_ rfl (fmc_ rfl (fmc_ rfl (fmc_ rfl (fmc_ rfl (fmc_ rfl (fmc_ rfl (fmn_)))))))))))))))))))))))))))))))
set_option maxRecDepth 100000 in
set_option maxHeartbeats 4000000 in
theorem nIns_w : ∀ t ∈ [0, 1, 2, 3, 4, 5, 6], wAt (nIns.getD t 0) (.instantiable (nR t) (nN t)) := fmc_ rfl (fmc_ rfl (fmc_ rfl (fmc_ rfl (fmc_ rfl (fmc_ rfl (fmc_ rfl (fmn_)))))))
set_option maxRecDepth 100000 in
set_option maxHeartbeats 4000000 in
theorem nIni_w : ∀ t ∈ [0, 1, 2, 3, 4, 5, 6, 7, 8], wAt (nIni.getD t 0) (.initialized (nR t)) := fmc_ rfl (fmc_ rfl (fmc_ rfl (fmc_ rfl (fmc_ rfl (fmc_ rfl (fmc_ rfl (fmc_ rfl (fmc_ rfl (fmn_)))))))))
set_option maxRecDepth 100000 in
set_option maxHeartbeats 4000000 in
theorem mC_0 : ∀ n ∈ [0, 1, 2, 3, 4, 5, 6, 7, 8, 9, 10, 11, 12, 13, 14, 15, 16, 17, 18, 19, 20, 21, 22, 23, 24, 25, 26, 27, 28, 29, 30, 31, 32, 33, 34, 35, 36, 37, 38, 39, 40, 41, 42, 43, 44, 45, 46, 47], wAt (mPos.getD n (0, 0, 0)).1 (.code (mY n) (mCo n) (mMx n) (mRt n)) := fmc_ rfl (fmc_ rfl (fmc_ rfl (fmc_ rfl (fmc_ rfl (fmc_ rfl (fmc_ rfl (fmc_ rfl (fmc_ rfl (fmc_ rfl (fmc_ rfl (fmc_ rfl (fmc_ rfl (fmc_ rfl (fmc_ rfl (fmc_ rfl (fmc_ rfl (fmc_ rfl (fmc_ rfl (fmc_ rfl (fmc_ rfl (fmc_ rfl (fmc_ rfl (fmc_ rfl (fmc_ rfl (fmc_ rfl (fmc_ rfl (fmc_ rfl (fmc_ rfl (fmc_ rfl (fmc_ rfl (fmc_ rfl (fmc_ rfl (fmc_ rfl (fmc_ rfl (fmc_ rfl (fmc_ rfl (fmc_ rfl (fmc_ rfl (fmc_ rfl (fmc_ rfl (fmc_ rfl (fmc_ rfl (fmc_ rfl (fmc_ rfl (fmc_ rfl (fmc_ rfl (fmc_ rfl (fmn_))))))))))))))))))))))))))))))))))))))))))))))))
set_option maxRecDepth 100000 in
set_option maxHeartbeats 4000000 in
theorem mC_1 : ∀ n ∈ [48, 49, 50, 51, 52, 53, 54, 55, 56, 57, 58, 59, 60, 61, 62, 63, 64, 65, 66, 67, 68, 69, 70, 71, 72, 73, 74, 75, 76, 77, 78, 79, 80, 81, 82, 83, 84, 85, 86, 87, 88, 89, 90, 91, 92, 93, 94, 95], wAt (mPos.getD n (0, 0, 0)).1 (.code (mY n) (mCo n) (mMx n) (mRt n)) := fmc_ rfl (fmc_ rfl (fmc_ rfl (fmc_ rfl (fmc_ rfl (fmc_ rfl (fmc_ rfl (fmc_ rfl (fmc_ rfl (fmc_ rfl (fmc_ rfl (fmc_ rfl (fmc_ rfl (fmc_ rfl (fmc_ rfl (fmc_ rfl (fmc_ rfl (fmc_ rfl (fmc_ rfl (fmc_ rfl (fmc_ rfl (fmc_ rfl (fmc_ rfl (fmc_ rfl (fmc_ rfl (fmc_ rfl (fmc_ rfl (fmc_ rfl (fmc_ rfl (fmc_ rfl (fmc_ rfl (fmc_ rfl (fmc_ rfl (fmc_ rfl (fmc_ rfl (fmc_ rfl (fmc_ rfl (fmc_ rfl (fmc_ rfl (fmc_ rfl (fmc_ rfl (fmc_ rfl (fmc_ rfl (fmc_ rfl (fmc_ rfl (fmc_ rfl (fmc_ rfl (fmc_ rfl (fmn_))))))))))))))))))))))))))))))))))))))))))))))))
set_option maxRecDepth 100000 in
set_option maxHeartbeats 4000000 in
theorem mC_2 : ∀ n ∈ [96, 97, 98, 99, 100, 101, 102, 103, 104, 105, 106, 107, 108, 109, 110, 111, 112, 113, 114, 115, 116, 117, 118, 119, 120, 121, 122, 123, 124, 125, 126, 127, 128, 129, 130, 131, 132, 133, 134, 135, 136, 137, 138, 139, 140, 141, 142, 143], wAt (mPos.getD n (0, 0, 0)).1 (.code (mY n) (mCo n) (mMx n) (mRt n)) := fmc_ rfl (fmc_ rfl (fmc_ rfl (fmc_ rfl (fmc_ rfl (fmc_ rfl (fmc_ rfl (fmc_ rfl (fmc_ rfl (fmc_ rfl (fmc_ rfl (fmc_ rfl (fmc_ rfl (fmc_ rfl (fmc_ rfl (fmc_ rfl (fmc_ rfl (fmc_ rfl (fmc_ rfl (fmc_ rfl (fmc_ rfl (fmc_ rfl (fmc_ rfl (fmc_ rfl (fmc_ rfl (fmc_ rfl (fmc_ rfl (fmc_ rfl (fmc_ rfl (fmc_ rfl (fmc_ rfl (fmc_ rfl (fmc_ rfl (fmc_ rfl (fmc_ rfl (fmc_ rfl (fmc_ rfl (fmc_ rfl (fmc_ rfl (fmc_ rfl (fmc_ rfl (fmc_ rfl (fmc_ rfl (fmc_ rfl (fmc_ rfl (fmc_ rfl (fmc_ rfl (fmc_ rfl (fmn_))))))))))))))))))))))))))))))))))))))))))))))))
set_option maxRecDepth 100000 in
set_option maxHeartbeats 4000000 in
theorem mC_3 : ∀ n ∈ [144, 145, 146, 147, 148, 149, 150, 151, 152, 153, 154, 155, 156, 157, 158, 159, 160, 161, 162, 163, 164, 165, 166, 167, 168, 169, 170, 171, 172, 173, 174, 175, 176, 177, 178, 179, 180, 181, 182, 183, 184, 185, 186, 187, 188, 189, 190], wAt (mPos.getD n (0, 0, 0)).1 (.code (mY n) (mCo n) (mMx n) (mRt n)) := fmc_ rfl (fmc_ rfl (fmc_ rfl (fmc_ rfl (fmc_ rfl (fmc_ rfl (fmc_ rfl (fmc_ rfl (fmc_ rfl (fmc_ rfl (fmc_ rfl (fmc_ rfl (fmc_ rfl (fmc_ rfl (fmc_ rfl (fmc_ rfl (fmc_ rfl (fmc_ rfl (fmc_ rfl (fmc_ rfl (fmc_ rfl (fmc_ rfl (fmc_ rfl (fmc_ rfl (fmc_ rfl (fmc_ rfl (fmc_ rfl (fmc_ rfl (fmc_ rfl (fmc_ rfl (fmc_ rfl (fmc_ rfl (fmc_ rfl (fmc_ rfl (fmc_ rfl (fmc_ rfl (fmc_ rfl (fmc_ rfl (fmc_ rfl (fmc_ rfl (fmc_ rfl (fmc_ rfl (fmc_ rfl (fmc_ rfl (fmc_ rfl (fmc_ rfl (fmc_ rfl (fmn_)))))))))))))))))))))))))))))))))))))))))))))))
set_option maxRecDepth 100000 in
set_option maxHeartbeats 4000000 in
theorem mS_0 : ∀ n ∈ [12, 34, 35, 87, 88, 89, 90, 91, 93, 94, 95, 101, 108, 115, 129, 130, 167, 190], wAt (mPos.getD n (0, 0, 0)).2.1 (.static (mY n)) := fmc_ rfl (fmc_ rfl (fmc_ rfl (fmc_ rfl (fmc_ rfl (fmc_ rfl (fmc_ rfl (fmc_ rfl (fmc_ rfl (fmc_ rfl (fmc_ rfl (fmc_ rfl (fmc_ rfl (fmc_ rfl (fmc_ rfl (fmc_ rfl (fmc_ rfl (fmc_ rfl (fmn_))))))))))))))))))
set_option maxRecDepth 100000 in
set_option maxHeartbeats 4000000 in
theorem mI_0 : ∀ n ∈ [0, 1, 2, 3, 4, 5, 6, 7, 8, 9, 10, 11, 13, 14, 15, 16, 17, 18, 19, 20, 21, 22, 23, 24, 25, 26, 27, 28, 29, 30, 31, 32, 33, 36, 37, 38, 39, 40, 41, 42, 43, 44, 45, 46, 47, 48, 49, 50], wAt (mPos.getD n (0, 0, 0)).2.1 (.instanceMethod (mY n)) := fmc_ rfl (fmc_ rfl (fmc_ rfl (fmc_ rfl (fmc_ rfl (fmc_ rfl (fmc_ rfl (fmc_ rfl (fmc_ rfl (fmc_ rfl (fmc_ rfl (fmc_ rfl (fmc_ rfl (fmc_ rfl (fmc_ rfl (fmc_ rfl (fmc_ rfl (fmc_ rfl (fmc_ rfl (fmc_ rfl (fmc_ rfl (fmc_ rfl (fmc_ rfl (fmc_ rfl (fmc_ rfl (fmc_ rfl (fmc_ rfl (fmc_ rfl (fmc_ rfl (fmc_ rfl (fmc_ rfl (fmc_ rfl (fmc_ rfl (fmc_ rfl (fmc_ rfl (fmc_ rfl (fmc_ rfl (fmc_ rfl (fmc_ rfl (fmc_ rfl (fmc_ rfl (fmc_ rfl (fmc_ rfl (fmc_ rfl (fmc_ rfl (fmc_ rfl (fmc_ rfl (fmc_ rfl (fmn_))))))))))))))))))))))))))))))))))))))))))))))))
set_option maxRecDepth 100000 in
set_option maxHeartbeats 4000000 in
theorem mI_1 : ∀ n ∈ [51, 52, 53, 54, 55, 56, 57, 58, 59, 60, 61, 62, 63, 64, 65, 66, 67, 68, 69, 70, 71, 72, 73, 74, 75, 76, 77, 78, 79, 80, 81, 82, 83, 84, 85, 86, 92, 96, 97, 98, 99, 100, 102, 103, 104, 105, 106, 107], wAt (mPos.getD n (0, 0, 0)).2.1 (.instanceMethod (mY n)) := fmc_ rfl (fmc_ rfl (fmc_ rfl (fmc_ rfl (fmc_ rfl (fmc_ rfl (fmc_ rfl (fmc_ rfl (fmc_ rfl (fmc_ rfl (fmc_ rfl (fmc_ rfl (fmc_ rfl (fmc_ rfl (fmc_ rfl (fmc_ rfl (fmc_ rfl (fmc_ rfl (fmc_ rfl (fmc_ rfl (fmc_ rfl (fmc_ rfl (fmc_ rfl (fmc_ rfl (fmc_ rfl (fmc_ rfl (fmc_ rfl (fmc_ rfl (fmc_ rfl (fmc_ rfl (fmc_ rfl (fmc_ rfl (fmc_ rfl (fmc_ rfl (fmc_ rfl (fmc_ rfl (fmc_ rfl (fmc_ rfl (fmc_ rfl (fmc_ rfl (fmc_ rfl (fmc_ rfl (fmc_ rfl (fmc_ rfl (fmc_ rfl (fmc_ rfl (fmc_ rfl (fmc_ rfl (fmn_))))))))))))))))))))))))))))))))))))))))))))))))
set_option maxRecDepth 100000 in
set_option maxHeartbeats 4000000 in
theorem mI_2 : ∀ n ∈ [109, 110, 111, 112, 113, 114, 116, 117, 118, 119, 120, 121, 122, 123, 124, 125, 126, 127, 128, 131, 132, 133, 134, 135, 136, 137, 138, 139, 140, 141, 142, 143, 144, 145, 146, 147, 148, 149, 150, 151, 152, 153, 154, 155, 156, 157, 158, 159], wAt (mPos.getD n (0, 0, 0)).2.1 (.instanceMethod (mY n)) := fmc_ rfl (fmc_ rfl (fmc_ rfl (fmc_ rfl (fmc_ rfl (fmc_ rfl (fmc_ rfl (fmc_ rfl (fmc_ rfl (fmc_ rfl (fmc_ rfl (fmc_ rfl (fmc_ rfl (fmc_ rfl (fmc_ rfl (fmc_ rfl (fmc_ rfl (fmc_ rfl (fmc_ rfl (fmc_ rfl (fmc_ rfl (fmc_ rfl (fmc_ rfl (fmc_ rfl (fmc_ rfl (fmc_ rfl (fmc_ rfl (fmc_ rfl (fmc_ rfl (fmc_ rfl (fmc_ rfl (fmc_ rfl (fmc_ rfl (fmc_ rfl (fmc_ rfl (fmc_ rfl (fmc_ rfl (fmc_ rfl (fmc_ rfl (fmc_ rfl (fmc_ rfl (fmc_ rfl (fmc_ rfl (fmc_ rfl (fmc_ rfl (fmc_ rfl (fmc_ rfl (fmc_ rfl (fmn_))))))))))))))))))))))))))))))))))))))))))))))))
set_option maxRecDepth 100000 in
set_option maxHeartbeats 4000000 in
theorem mI_3 : ∀ n ∈ [160, 161, 162, 163, 164, 165, 166, 168, 169, 170, 171, 172, 173, 174, 175, 176, 177, 178, 179, 180, 181, 182, 183, 184, 185, 186, 187, 188, 189], wAt (mPos.getD n (0, 0, 0)).2.1 (.instanceMethod (mY n)) := fmc_ rfl (fmc_ rfl (fmc_ rfl (fmc_ rfl (fmc_ rfl (fmc_ rfl (fmc_ rfl (fmc_ rfl (fmc_ rfl (fmc_ rfl (fmc_ rfl (fmc_ rfl (fmc_ rfl (fmc_ rfl (fmc_ rfl (fmc_ rfl (fmc_ rfl (fmc_ rfl (fmc_ rfl (fmc_ rfl (fmc_ rfl (fmc_ rfl (fmc_ rfl (fmc_ rfl (fmc_ rfl (fmc_ rfl (fmc_ rfl (fmc_ rfl (fmc_ rfl (fmn_)))))))))))))))))))))))))))))
set_option maxRecDepth 100000 in
set_option maxHeartbeats 4000000 in
theorem mV_0 : ∀ n ∈ [1, 2, 3, 4, 5, 6, 7, 8, 9, 10, 11, 13, 14, 15, 16, 17, 18, 19, 21, 22, 23, 26, 27, 28, 29, 31, 32, 33, 36, 37, 38, 39, 40, 41, 42, 43, 45, 46, 47, 48, 49, 50, 51, 52, 53, 54, 55, 56], wAt (mPos.getD n (0, 0, 0)).2.2 (.selects (nR (mOw n)) (mY n) (mY n)) := fmc_ rfl (fmc_ rfl (fmc_ rfl (fmc_ rfl (fmc_ rfl (fmc_ rfl (fmc_ rfl (fmc_ rfl (fmc_ rfl (fmc_ rfl (fmc_ rfl (fmc_ rfl (fmc_ rfl (fmc_ rfl (fmc_ rfl (fmc_ rfl (fmc_ rfl (fmc_ rfl (fmc_ rfl (fmc_ rfl (fmc_ rfl (fmc_ rfl (fmc_ rfl (fmc_ rfl (fmc_ rfl (fmc_ rfl (fmc_ rfl (fmc_ rfl (fmc_ rfl (fmc_ rfl (fmc_ rfl (fmc_ rfl (fmc_ rfl (fmc_ rfl (fmc_ rfl (fmc_ rfl (fmc_ rfl (fmc_ rfl (fmc_ rfl (fmc_ rfl (fmc_ rfl (fmc_ rfl (fmc_ rfl (fmc_ rfl (fmc_ rfl (fmc_ rfl (fmc_ rfl (fmc_ rfl (fmn_))))))))))))))))))))))))))))))))))))))))))))))))
set_option maxRecDepth 100000 in
set_option maxHeartbeats 4000000 in
theorem mV_1 : ∀ n ∈ [57, 58, 59, 60, 61, 62, 63, 64, 65, 66, 67, 68, 69, 70, 71, 72, 73, 74, 75, 76, 77, 78, 79, 80, 81, 82, 83, 84, 85, 86, 92, 96, 97, 98, 99, 100, 102, 103, 104, 105, 106, 107, 109, 110, 111, 112, 113, 116], wAt (mPos.getD n (0, 0, 0)).2.2 (.selects (nR (mOw n)) (mY n) (mY n)) := fmc_ rfl (fmc_ rfl (fmc_ rfl (fmc_ rfl (fmc_ rfl (fmc_ rfl (fmc_ rfl (fmc_ rfl (fmc_ rfl (fmc_ rfl (fmc_ rfl (fmc_ rfl (fmc_ rfl (fmc_ rfl (fmc_ rfl (fmc_ rfl (fmc_ rfl (fmc_ rfl (fmc_ rfl (fmc_ rfl (fmc_ rfl (fmc_ rfl (fmc_ rfl (fmc_ rfl (fmc_ rfl (fmc_ rfl (fmc_ rfl (fmc_ rfl (fmc_ rfl (fmc_ rfl (fmc_ rfl (fmc_ rfl (fmc_ rfl (fmc_ rfl (fmc_ rfl (fmc_ rfl (fmc_ rfl (fmc_ rfl (fmc_ rfl (fmc_ rfl (fmc_ rfl (fmc_ rfl (fmc_ rfl (fmc_ rfl (fmc_ rfl (fmc_ rfl (fmc_ rfl (fmc_ rfl (fmn_))))))))))))))))))))))))))))))))))))))))))))))))
set_option maxRecDepth 100000 in
set_option maxHeartbeats 4000000 in
theorem mV_2 : ∀ n ∈ [117, 118, 119, 120, 121, 122, 123, 124, 125, 126, 127, 128, 131, 132, 133, 134, 135, 136, 137, 138, 139, 140, 141, 142, 143, 144, 145, 146, 147, 148, 149, 150, 151, 152, 153, 154, 155, 156, 157, 158, 159, 160, 161, 162, 163, 164, 165, 166], wAt (mPos.getD n (0, 0, 0)).2.2 (.selects (nR (mOw n)) (mY n) (mY n)) := fmc_ rfl (fmc_ rfl (fmc_ rfl (fmc_ rfl (fmc_ rfl (fmc_ rfl (fmc_ rfl (fmc_ rfl (fmc_ rfl (fmc_ rfl (fmc_ rfl (fmc_ rfl (fmc_ rfl (fmc_ rfl (fmc_ rfl (fmc_ rfl (fmc_ rfl (fmc_ rfl (fmc_ rfl (fmc_ rfl (fmc_ rfl (fmc_ rfl (fmc_ rfl (fmc_ rfl (fmc_ rfl (fmc_ rfl (fmc_ rfl (fmc_ rfl (fmc_ rfl (fmc_ rfl (fmc_ rfl (fmc_ rfl (fmc_ rfl (fmc_ rfl (fmc_ rfl (fmc_ rfl (fmc_ rfl (fmc_ rfl (fmc_ rfl (fmc_ rfl (fmc_ rfl (fmc_ rfl (fmc_ rfl (fmc_ rfl (fmc_ rfl (fmc_ rfl (fmc_ rfl (fmc_ rfl (fmn_))))))))))))))))))))))))))))))))))))))))))))))))
set_option maxRecDepth 100000 in
set_option maxHeartbeats 4000000 in
theorem mV_3 : ∀ n ∈ [168, 169, 170, 171, 172, 173, 174, 175, 176, 177, 178, 179, 180, 181, 182, 183, 184, 185, 186, 187, 188, 189], wAt (mPos.getD n (0, 0, 0)).2.2 (.selects (nR (mOw n)) (mY n) (mY n)) := fmc_ rfl (fmc_ rfl (fmc_ rfl (fmc_ rfl (fmc_ rfl (fmc_ rfl (fmc_ rfl (fmc_ rfl (fmc_ rfl (fmc_ rfl (fmc_ rfl (fmc_ rfl (fmc_ rfl (fmc_ rfl (fmc_ rfl (fmc_ rfl (fmc_ rfl (fmc_ rfl (fmc_ rfl (fmc_ rfl (fmc_ rfl (fmc_ rfl (fmn_))))))))))))))))))))))
theorem mC_m : (List.range 191).all (fun n => !(true) || [0, 1, 2, 3, 4, 5, 6, 7, 8, 9, 10, 11, 12, 13, 14, 15, 16, 17, 18, 19, 20, 21, 22, 23, 24, 25, 26, 27, 28, 29, 30, 31, 32, 33, 34, 35, 36, 37, 38, 39, 40, 41, 42, 43, 44, 45, 46, 47].contains n || [48, 49, 50, 51, 52, 53, 54, 55, 56, 57, 58, 59, 60, 61, 62, 63, 64, 65, 66, 67, 68, 69, 70, 71, 72, 73, 74, 75, 76, 77, 78, 79, 80, 81, 82, 83, 84, 85, 86, 87, 88, 89, 90, 91, 92, 93, 94, 95].contains n || [96, 97, 98, 99, 100, 101, 102, 103, 104, 105, 106, 107, 108, 109, 110, 111, 112, 113, 114, 115, 116, 117, 118, 119, 120, 121, 122, 123, 124, 125, 126, 127, 128, 129, 130, 131, 132, 133, 134, 135, 136, 137, 138, 139, 140, 141, 142, 143].contains n || [144, 145, 146, 147, 148, 149, 150, 151, 152, 153, 154, 155, 156, 157, 158, 159, 160, 161, 162, 163, 164, 165, 166, 167, 168, 169, 170, 171, 172, 173, 174, 175, 176, 177, 178, 179, 180, 181, 182, 183, 184, 185, 186, 187, 188, 189, 190].contains n) = true := by decide +kernel
theorem mC_of {n : Nat} (hn : n < 191) (hp : (true) = true) : wAt (mPos.getD n (0, 0, 0)).1 (.code (mY n) (mCo n) (mMx n) (mRt n)) := by
  have h := List.all_eq_true.mp mC_m n (List.mem_range.mpr hn)
  simp only [hp, Bool.not_true, Bool.false_or, Bool.or_eq_true] at h
  rcases h with ((h | h) | h) | h
  · exact mC_0 n (List.elem_iff.mp h)
  · exact mC_1 n (List.elem_iff.mp h)
  · exact mC_2 n (List.elem_iff.mp h)
  · exact mC_3 n (List.elem_iff.mp h)
theorem mS_m : (List.range 191).all (fun n => !(mStc n) || [12, 34, 35, 87, 88, 89, 90, 91, 93, 94, 95, 101, 108, 115, 129, 130, 167, 190].contains n) = true := by decide +kernel
theorem mS_of {n : Nat} (hn : n < 191) (hp : (mStc n) = true) : wAt (mPos.getD n (0, 0, 0)).2.1 (.static (mY n)) := by
  have h := List.all_eq_true.mp mS_m n (List.mem_range.mpr hn)
  simp only [hp, Bool.not_true, Bool.false_or, Bool.or_eq_true] at h
  exact mS_0 n (by simpa using h)
theorem mI_m : (List.range 191).all (fun n => !(!mStc n) || [0, 1, 2, 3, 4, 5, 6, 7, 8, 9, 10, 11, 13, 14, 15, 16, 17, 18, 19, 20, 21, 22, 23, 24, 25, 26, 27, 28, 29, 30, 31, 32, 33, 36, 37, 38, 39, 40, 41, 42, 43, 44, 45, 46, 47, 48, 49, 50].contains n || [51, 52, 53, 54, 55, 56, 57, 58, 59, 60, 61, 62, 63, 64, 65, 66, 67, 68, 69, 70, 71, 72, 73, 74, 75, 76, 77, 78, 79, 80, 81, 82, 83, 84, 85, 86, 92, 96, 97, 98, 99, 100, 102, 103, 104, 105, 106, 107].contains n || [109, 110, 111, 112, 113, 114, 116, 117, 118, 119, 120, 121, 122, 123, 124, 125, 126, 127, 128, 131, 132, 133, 134, 135, 136, 137, 138, 139, 140, 141, 142, 143, 144, 145, 146, 147, 148, 149, 150, 151, 152, 153, 154, 155, 156, 157, 158, 159].contains n || [160, 161, 162, 163, 164, 165, 166, 168, 169, 170, 171, 172, 173, 174, 175, 176, 177, 178, 179, 180, 181, 182, 183, 184, 185, 186, 187, 188, 189].contains n) = true := by decide +kernel
theorem mI_of {n : Nat} (hn : n < 191) (hp : (!mStc n) = true) : wAt (mPos.getD n (0, 0, 0)).2.1 (.instanceMethod (mY n)) := by
  have h := List.all_eq_true.mp mI_m n (List.mem_range.mpr hn)
  simp only [hp, Bool.not_true, Bool.false_or, Bool.or_eq_true] at h
  rcases h with ((h | h) | h) | h
  · exact mI_0 n (List.elem_iff.mp h)
  · exact mI_1 n (List.elem_iff.mp h)
  · exact mI_2 n (List.elem_iff.mp h)
  · exact mI_3 n (List.elem_iff.mp h)
def mInitL : List Nat := [0, 20, 24, 25, 30, 44, 114]
theorem mInit_w : ∀ n ∈ mInitL, (mIn_ n).1.1 = "<init>" := by decide +kernel
theorem mV_m : (List.range 191).all (fun n => !(!mStc n && !(mInitL.contains n)) || [1, 2, 3, 4, 5, 6, 7, 8, 9, 10, 11, 13, 14, 15, 16, 17, 18, 19, 21, 22, 23, 26, 27, 28, 29, 31, 32, 33, 36, 37, 38, 39, 40, 41, 42, 43, 45, 46, 47, 48, 49, 50, 51, 52, 53, 54, 55, 56].contains n || [57, 58, 59, 60, 61, 62, 63, 64, 65, 66, 67, 68, 69, 70, 71, 72, 73, 74, 75, 76, 77, 78, 79, 80, 81, 82, 83, 84, 85, 86, 92, 96, 97, 98, 99, 100, 102, 103, 104, 105, 106, 107, 109, 110, 111, 112, 113, 116].contains n || [117, 118, 119, 120, 121, 122, 123, 124, 125, 126, 127, 128, 131, 132, 133, 134, 135, 136, 137, 138, 139, 140, 141, 142, 143, 144, 145, 146, 147, 148, 149, 150, 151, 152, 153, 154, 155, 156, 157, 158, 159, 160, 161, 162, 163, 164, 165, 166].contains n || [168, 169, 170, 171, 172, 173, 174, 175, 176, 177, 178, 179, 180, 181, 182, 183, 184, 185, 186, 187, 188, 189].contains n) = true := by decide +kernel
theorem mV_of {n : Nat} (hn : n < 191) (hp : (!mStc n && !(mInitL.contains n)) = true) : wAt (mPos.getD n (0, 0, 0)).2.2 (.selects (nR (mOw n)) (mY n) (mY n)) := by
  have h := List.all_eq_true.mp mV_m n (List.mem_range.mpr hn)
  simp only [hp, Bool.not_true, Bool.false_or, Bool.or_eq_true] at h
  rcases h with ((h | h) | h) | h
  · exact mV_0 n (List.elem_iff.mp h)
  · exact mV_1 n (List.elem_iff.mp h)
  · exact mV_2 n (List.elem_iff.mp h)
  · exact mV_3 n (List.elem_iff.mp h)
theorem mB_m : (List.range 191).all (fun n => decide (mMx n ≤ 14) && decide (mOw n < 8) && decide (mDs n < nDs.length)) = true := by decide +kernel
theorem nDs_w : ∀ q ∈ nDs, (parseMethodDescriptor q.1).map (fun d => d.parameters.length) = some q.2 := by decide +kernel
theorem nOw_w : (List.range 9).all (fun t => plainName (nR t) && !(nR t == "java/lang/invoke/MethodHandle") && !(nR t == "java/lang/invoke/VarHandle")) = true := by decide +kernel
set_option maxRecDepth 100000 in
set_option maxHeartbeats 4000000 in
theorem pFix_w : (wAt pObjI (.instanceMethod Lib.objectInit) ∧ wAt pObjC (.code Lib.objectInit ⟨#[0xb1]⟩ 1 none) ∧ wAt pCpyS (.static arraycopyName) ∧ wAt pCpyN (.native arraycopyName) ∧ wAt pSysI (.initialized "java/lang/System") ∧ wAt pMathI (.initialized "java/lang/Math")) ∧ (wAt pMinS (.static Lib.Math.min.name) ∧ wAt pMinC (.code Lib.Math.min.name Lib.Math.min.code 2 (some .int)) ∧ wAt pMaxS (.static Lib.Math.max.name) ∧ wAt pMaxC (.code Lib.Math.max.name Lib.Math.max.code 2 (some .int)) ∧ wAt pMaxLS (.static Lib.MathLoose.max_long.x) ∧ wAt pMaxLC (.code Lib.MathLoose.max_long.x Lib.MathLoose.max_long.code 4 (some .long))) ∧ wAt pArrI (.arrayClass .int) ∧ wAt pArrZ (.arrayClass .boolean) := ⟨⟨rfl, rfl, rfl, rfl, rfl, rfl⟩, ⟨rfl, rfl, rfl, rfl, rfl, rfl⟩, rfl, rfl⟩
set_option maxRecDepth 100000 in
set_option maxHeartbeats 4000000 in
theorem pStr_w : wAt pLenI (.instanceMethod ⟨"java/lang/String", "length", "()I"⟩) ∧ wAt pLenV (.selects "java/lang/String" ⟨"java/lang/String", "length", "()I"⟩ ⟨"java/lang/String", "length", "()I"⟩) ∧ wAt pLenC (.code ⟨"java/lang/String", "length", "()I"⟩ prog_10_method_54_code 1 (some .int)) ∧ wAt pChrI (.instanceMethod ⟨"java/lang/String", "charAt", "(I)C"⟩) ∧ wAt pChrV (.selects "java/lang/String" ⟨"java/lang/String", "charAt", "(I)C"⟩ ⟨"java/lang/String", "charAt", "(I)C"⟩) ∧ wAt pChrC (.code ⟨"java/lang/String", "charAt", "(I)C"⟩ prog_10_method_56_code 2 (some .char)) ∧ wAt pStrI (.initialized "java/lang/String") := ⟨rfl, rfl, rfl, rfl, rfl, rfl, rfl⟩
theorem nTy_all : (List.range 7).all (fun t => (List.range (nN t)).all fun k => decide (parseFieldDescriptor (nFk t k).2.1 = some (nTy t k)) && (bif nRf t k then (nFk t k).2.2 && (match nTy t k with
  | .object _ => true
  | .array _ => true
  | _ => false) else (!(nFk t k).2.2 && (match nTy t k with
  | .int => (nFk t k).2.1 == "I"
  | .boolean => (nFk t k).2.1 == "Z"
  | _ => false)))) = true := by decide +kernel
theorem nNm_all : (List.range 7).all (fun t => (List.range (nN t)).all fun k => (List.range (nN t)).all fun j => decide (j = k) || !((nFk t j).1 == (nFk t k).1)) = true := by decide +kernel
end
section
/-! SOUNDNESS 1: the world of an abstract heap -/
abbrev mG : Type := Nat × Nat × (Nat → Nat) × va_G × ClassId × ClassId × ClassId
abbrev gSz (G : mG) : Nat := G.1
abbrev gB (G : mG) : Nat := G.2.1
abbrev gK (G : mG) : Nat → Nat := G.2.2.1
abbrev gD (G : mG) : va_G := G.2.2.2.1
abbrev gI (G : mG) : ClassId := G.2.2.2.2.1
abbrev gZ (G : mG) : ClassId := G.2.2.2.2.2.1
abbrev gS (G : mG) : ClassId := G.2.2.2.2.2.2
def gA (G : mG) : Nat → Prop := fun q => gSz G ≤ q
def mtys (G : mG) : List (ClassId × FieldType) := [(gI G, .int), (gZ G, .boolean), (gS G, .object (nR 3))]
def toV (G : mG) (v : mVal) : Value := match v with
  | .inl z => .int (Int32.ofInt z)
  | .inr (.inl z) => .long (Int64.ofInt z)
  | .inr (.inr (.inl k)) => .ref (gSz G + k)
  | .inr (.inr (.inr 0)) => .ref (gB G)
  | .inr (.inr (.inr (i + 1))) => .ref (gK G i)
def okV (v : mVal) : Prop := match v with
  | .inl z => inR z
  | .inr (.inl z) => inL z
  | .inr (.inr (.inl _)) => True
  | .inr (.inr (.inr 0)) => True
  | .inr (.inr (.inr (i + 1))) => i < 6
theorem toV_cat (G : mG) (v : mVal) : (toV G v).category = mcat v := by
  rcases v with z | z | k | i
  · rfl
  · rfl
  · rfl
  · cases i <;> rfl
def fvalF (G : mG) (m : Int → Int) (rf : Nat → Option Nat) (t j : Nat) : Value := bif nRf t j then va_rf ((rf j).map (gSz G + ·)) else .int (Int32.ofInt (m (j : Nat)))
def wentF (G : mG) (m : Int → Int) (rf : Nat → Option Nat) (q : Nat × Nat) : va_E := match q.1 with
  | 0 => .inl (gI G, q.2, .inl fun i => Int32.ofInt (m (i : Nat)))
  | 1 => .inl (gZ G, q.2, .inl fun i => Int32.ofInt (m (i : Nat)))
  | 2 => .inl (gS G, q.2, .inr (.inr (.inr (.inr fun i => (rf i).map (gSz G + ·)))))
  | t + 3 => .inr (t, (List.range q.2).map (fvalF G m rf t))
def mrf (h : mHp) (k : Nat) : Nat → Option Nat := fun j => h.1.2.lookup (k, j)
def mW (G : mG) (h : mHp) : va_W := h.1.1.mapIdx fun k q => (gSz G + k, wentF G (h.2 k) (mrf h k) q)
theorem mW_at {G : mG} {h : mHp} {k : Nat} {q : Nat × Nat} (hk : h.1.1[k]? = some q) : (mW G h)[k]? = some (gSz G + k, wentF G (h.2 k) (mrf h k) q) := by
  simp [mW, List.getElem?_mapIdx, hk]
theorem mW_key {G : mG} {h : mHp} {k : Nat} {q : Nat × va_E} (hk : (mW G h)[k]? = some q) : q.1 = gSz G + k ∧ k < h.1.1.length := by
  simp only [mW, List.getElem?_mapIdx] at hk
  cases hq : h.1.1[k]? with
  | none => rw [hq] at hk; cases hk
  | some x =>
    rw [hq] at hk
    cases hk
    exact ⟨rfl, (List.getElem?_eq_some_iff.mp hq).1⟩
theorem mW_D (G : mG) (h : mHp) : va_D (gA G) (mW G h) := by
  refine ⟨fun i j p q hi hj e => ?_, fun k q hk => ?_⟩
  · have h1 := (mW_key hi).1
    have h2 := (mW_key hj).1
    omega
  · have h1 := (mW_key hk).1
    show gSz G ≤ q.1
    omega
theorem mW_set {G : mG} {h h' : mHp} {k : Nat} {q : Nat × Nat} (hk : h.1.1[k]? = some q) (hl : h'.1.1 = h.1.1) (ho : ∀ j : Nat, j ≠ k → h'.2 j = h.2 j ∧ mrf h' j = mrf h j) : mW G h' = (mW G h).set k (gSz G + k, wentF G (h'.2 k) (mrf h' k) q) := by
  have hlen : k < (mW G h).length := by
    have := (List.getElem?_eq_some_iff.mp hk).1
    simpa [mW] using this
  refine List.ext_getElem? fun j => ?_
  by_cases hj : j = k
  · subst hj
    rw [List.getElem?_set_self hlen, mW_at (by rw [hl]; exact hk)]
  · rw [List.getElem?_set_ne (Ne.symm hj)]
    simp only [mW, List.getElem?_mapIdx, hl, (ho j hj).1, (ho j hj).2]
theorem mrf_m (h : mHp) (m : mMem) (k : Nat) : mrf (h.1, m) k = mrf h k := rfl
theorem arr_upd (m : Int → Int) {i v : Int} (hi : inR i) (h0 : 0 ≤ i) : (fun j : Nat => Int32.ofInt ((fun x : Int => if x = i then v else m x) (j : Nat))) = upd (fun j : Nat => Int32.ofInt (m (j : Nat))) (Int32.ofInt i).toNatClampNeg (Int32.ofInt v) := by
  funext j
  rw [i_clamp hi]
  unfold upd
  by_cases hj : j = i.toNat
  · have : (j : Int) = i := by omega
    rw [if_pos hj]
    show Int32.ofInt (if (j : Int) = i then v else m j) = _
    rw [if_pos this]
  · have : (j : Int) ≠ i := by omega
    rw [if_neg hj]
    show Int32.ofInt (if (j : Int) = i then v else m j) = _
    rw [if_neg this]
theorem mupd_k (m : mMem) (k : Nat) (i v : Int) : mupd m k i v k = fun x => if x = i then v else m k x := by
  funext x; simp [mupd]
theorem mupd_o (m : mMem) {k j : Nat} (i v : Int) (hj : j ≠ k) : mupd m k i v j = m j := by
  funext x; simp [mupd, hj]
theorem mupd_in {m : mMem} {k : Nat} {i v : Int} (hm : ∀ k i, inR (m k i)) (hv : inR v) : ∀ k' i', inR (mupd m k i v k' i') := by
  intro k' i'
  unfold mupd
  split
  · exact hv
  · exact hm _ _
theorem obj_upd {G : mG} {m : Int → Int} {rf : Nat → Option Nat} {t n b : Nat} {v : Int} (hr : nRf t b = false) : (List.range n).map (fvalF G (fun x => if x = (b : Nat) then v else m x) rf t) = ((List.range n).map (fvalF G m rf t)).set b (.int (Int32.ofInt v)) := by
  refine List.ext_getElem? fun j => ?_
  by_cases hj : j < n
  · by_cases hb : j = b
    · subst hb
      rw [List.getElem?_set_self (by simpa using hj)]
      simp [hj, fvalF, hr]
    · rw [List.getElem?_set_ne (Ne.symm hb)]
      have : (j : Int) ≠ (b : Int) := by omega
      simp [hj, fvalF, this]
  · rw [List.getElem?_eq_none (by simp; omega), List.getElem?_eq_none (by simp; omega)]
theorem obj_ref {G : mG} {m : Int → Int} {rf : Nat → Option Nat} {t n b v : Nat} (hr : nRf t b = true) : (List.range n).map (fvalF G m (fun j => if j = b then some v else rf j) t) = ((List.range n).map (fvalF G m rf t)).set b (.ref (gSz G + v)) := by
  refine List.ext_getElem? fun j => ?_
  by_cases hj : j < n
  · by_cases hb : j = b
    · subst hb
      rw [List.getElem?_set_self (by simpa using hj)]
      simp [hj, fvalF, hr, va_rf]
    · rw [List.getElem?_set_ne (Ne.symm hb)]
      simp [hj, fvalF, hb]
  · rw [List.getElem?_eq_none (by simp; omega), List.getElem?_eq_none (by simp; omega)]
theorem mrf_cons {sh : List (Nat × Nat)} {rf : List ((Nat × Nat) × Nat)} {m : mMem} {k b v : Nat} (j : Nat) : mrf ((sh, ((k, b), v) :: rf), m) j = if j = k then (fun i => if i = b then some v else mrf ((sh, rf), m) k i) else mrf ((sh, rf), m) j := by
  funext i
  unfold mrf
  rw [List.lookup_cons]
  by_cases hj : j = k
  · by_cases hi : i = b
    · subst hj; subst hi
      simp
    · have : ((j, i) == (k, b)) = false := by simp [hi]
      rw [this]
      simp [hj, hi]
  · have : ((j, i) == (k, b)) = false := by simp [hj]
    rw [this]
    simp [hj]
def shOK (sh : mSh) : Prop := (∀ k t n : Nat, sh.1[k]? = some (t + 3, n) → n = nN t ∧ t < 7) ∧ (∀ q ∈ sh.2, q.1.1 < sh.1.length) ∧ ∀ q ∈ sh.1, q.2 ≤ 1000
def gOK (G : mG) (h : mHp) (H : Heap) : Prop := va_P (gD G) classes (mW G h) H ∧ shOK h.1 ∧ ∀ k i, inR (h.2 k i)
theorem cls_at {t : Nat} (h : t < 7) : classes[t]? = some (nR t, nT t, nN t) := by
  unfold classes
  rw [List.getElem?_map, List.getElem?_range h]
  rfl
theorem u_in {t : Nat} (h : t < 7) : ∀ w ∈ u_ws (nR t) (nT t) (nN t), w ∈ mWS := by
  have key : ∀ t' : Nat, (∀ k ∈ List.range (nN t'), wAt ((nLp.getD t' []).getD k 0) (u_lay (nR t') (nT t') k)) → ∀ w ∈ u_ws (nR t') (nT t') (nN t'), w ∈ mWS := by
    intro t' hk w hw
    obtain ⟨k, h1, rfl⟩ := List.mem_map.mp hw
    refine wAt_in (hk k h1) ?_
    unfold u_lay
    split <;> rfl
  rcases (show t = 0 ∨ t = 1 ∨ t = 2 ∨ t = 3 ∨ t = 4 ∨ t = 5 ∨ t = 6 by omega) with rfl | rfl | rfl | rfl | rfl | rfl | rfl
  · exact key 0 nL_w0
  · exact key 1 nL_w1
  · exact key 2 nL_w2
  · exact key 3 nL_w3
  · exact key 4 nL_w4
  · exact key 5 nL_w5
  · exact key 6 nL_w6
theorem nTy_of {t k : Nat} (h : t < 7) (hk : k < nN t) : parseFieldDescriptor (nT t k).2.2.1 = some (nTy t k) ∧ (nRf t k = true → (nFk t k).2.2 = true ∧ ((∃ c, nTy t k = .object c) ∨ ∃ c, nTy t k = .array c)) ∧ (nRf t k = false → (nFk t k).2.2 = false ∧ ((nTy t k = .int ∧ (nFk t k).2.1 = "I") ∨ (nTy t k = .boolean ∧ (nFk t k).2.1 = "Z"))) := by
  have h1 := List.all_eq_true.mp (List.all_eq_true.mp nTy_all t (List.mem_range.mpr h)) k (List.mem_range.mpr hk)
  rw [Bool.and_eq_true, decide_eq_true_eq] at h1
  refine ⟨h1.1, fun hr => ?_, fun hr => ?_⟩
  · have h2 := h1.2
    rw [hr] at h2
    simp only [cond_true, Bool.and_eq_true] at h2
    refine ⟨h2.1, ?_⟩
    have h3 := h2.2
    split at h3
    · exact Or.inl ⟨_, by assumption⟩
    · exact Or.inr ⟨_, by assumption⟩
    · cases h3
  · have h2 := h1.2
    rw [hr] at h2
    simp only [cond_false, Bool.and_eq_true] at h2
    refine ⟨by simpa using h2.1, ?_⟩
    have h3 := h2.2
    split at h3
    · exact Or.inl ⟨by assumption, by simpa using h3⟩
    · exact Or.inr ⟨by assumption, by simpa using h3⟩
    · cases h3
theorem nNm_of {t : Nat} (h : t < 7) : ∀ a, a < nN t → ∀ b, b < nN t → a ≠ b → (nT t a).2.1 ≠ (nT t b).2.1 := by
  intro a ha b hb hab
  have h1 := List.all_eq_true.mp (List.all_eq_true.mp (List.all_eq_true.mp nNm_all t (List.mem_range.mpr h)) b (List.mem_range.mpr hb)) a (List.mem_range.mpr ha)
  simp only [Bool.or_eq_true, decide_eq_true_eq, Bool.not_eq_true'] at h1
  rcases h1 with h1 | h1
  · exact absurd h1 hab
  · show (nFk t a).1 ≠ (nFk t b).1
    simpa using h1
end
section
/-! SOUNDNESS 2: a frame of the machine that follows the rows -/
def ilen (i : Instr) : Nat := match i with
  | .bipush _ => 2
  | .sipush _ => 3
  | .ldc _ => 2
  | .ldc2_w _ => 3
  | .iload _ => 2
  | .aload _ => 2
  | .lload _ => 2
  | .istore _ => 2
  | .astore _ => 2
  | .lstore _ => 2
  | .iinc _ _ => 3
  | .goto _ => 3
  | .ifCond _ _ => 3
  | .if_icmp _ _ => 3
  | .getfield _ => 3
  | .putfield _ => 3
  | .new _ => 3
  | .newarray _ => 2
  | .anewarray _ => 3
  | .invokespecial _ => 3
  | .invokevirtual _ => 3
  | .invokestatic _ => 3
  | _ => 1
def lenOK (i : Instr) (len : Nat) : Bool := match i with
  | .tableswitch .. => true
  | _ => len == ilen i
def lkF (own idx a b : Nat) : Bool := match lFl.lookup (own, idx) with
  | some (ci, k, _) => ci == a && k == b
  | none => false
def lkM (own idx a : Nat) : Bool := match lMl.lookup (own, idx) with
  | some (y, _) => y == a
  | none => false
def lkN (own idx a : Nat) : Bool := match lNs.lookup (own, idx) with
  | some y => y == a
  | none => false
def lkS (own idx a : Nat) : Bool := match lSp.lookup (own, idx) with
  | some (y, _) => y == a
  | none => false
def lkC (own idx a : Nat) : Bool := match lCl.lookup (own, idx) with
  | some (y, _) => y == a
  | none => false
def lkI (own idx : Nat) (z : Int) : Bool := match lCi.lookup (own, idx) with
  | some (y, _) => y == z
  | none => false
def lkL (own idx : Nat) (z : Int) : Bool := match lCL.lookup (own, idx) with
  | some (y, _) => y == z
  | none => false
/-- how deep a method's calls go on the machine, where it reads literals -/
def nNeed (y : Nat) : Nat := bif y == 37 then 5 else bif y == 36 then 6 else bif y == 31 then 7 else bif y == 47 then 8 else 0
def xOK (own nL : Nat) (rt : Option FieldType) (ini : Bool) (nd pc : Nat) (ins : Instr) (a b : Nat) (z : Int) (ts : List Nat) : Bool := match ins with
  | .iconst n => decide (-128 ≤ n) && decide (n < 128)
  | .bipush n => decide (-128 ≤ n) && decide (n < 128)
  | .sipush n => decide (-32768 ≤ n) && decide (n < 32768)
  | .ldc idx => bif b == 0 then lkI own idx z else (own == 4 && Nat.blt a 6 && lSt.getD a 0 == idx)
  | .ldc2_w idx => lkL own idx z
  | .istore_n i => Nat.blt i.val nL
  | .istore i => Nat.blt i nL
  | .astore_n i => Nat.blt i.val nL
  | .astore i => Nat.blt i nL
  | .lstore_n i => Nat.blt (i.val + 1) nL
  | .lstore i => Nat.blt (i + 1) nL
  | .iinc i n => Nat.blt i nL && decide (-128 ≤ n) && decide (n < 128)
  | .goto off => decide ((pc : Int) + off = (a : Nat))
  | .ifCond _ off => decide ((pc : Int) + off = (a : Nat))
  | .if_icmp _ off => decide ((pc : Int) + off = (a : Nat))
  | .tableswitch d lo hi offs => decide (lo = 0) && decide (hi = (ts.length : Int) - 1) && decide ((pc : Int) + d = (a : Nat)) && decide (offs.toList.map (fun o => (pc : Int) + o) = ts.map (fun t => ((t : Nat) : Int))) && Nat.blt ts.length 100
  | .getfield idx => lkF own idx a b && ((z == 1) == nRf a b)
  | .putfield idx => lkF own idx a b && ((z == 1) == nRf a b) && (z == 1 || ((z == 2) == ((nFk a b).2.1 == "Z"))) && (!(z == 1) || (ini && own == a))
  | .new idx => lkC own idx a && b == nN a
  | .anewarray idx => lkC own idx 3
  | .newarray t => (a == 0 && decide (t = .int)) || (a == 1 && decide (t = .boolean))
  | .invokespecial idx => bif a == 9000 then (lOb.lookup (own, idx)).isSome else ((lkM own idx a || lkN own idx a) && mInitL.contains a && !mStc a && b == npar a + 1 && Nat.blt a 191 && decide (mRt a = none) && nNeed a == 0)
  | .invokevirtual idx => bif decide (z < 3) then (lkM own idx a && !mStc a && !(mInitL.contains a) && b == npar a + 1 && ts == [mOw a + 3] && Nat.blt a 191 && (nNeed a == 0 || Nat.blt (nNeed a) nd)) else bif z == 5 then (lkS own idx 15 && b == 1 && Nat.ble 5 nd) else (lkS own idx 16 && b == 2 && Nat.ble 5 nd)
  | .invokestatic idx => bif decide (z < 3) then (lkM own idx a && mStc a && b == npar a && Nat.blt a 191 && (nNeed a == 0 || Nat.blt (nNeed a) nd)) else (lkS own idx z.toNat && (b == bif z == 3 then 5 else 2))
  | .ireturn => bif z == 1 then decide (rt = some .boolean) else decide (rt = some .int)
  | .lreturn => decide (rt = some .long)
  | .return_ => decide (rt = none)
  | _ => true
def bOK (own : Nat) (cc : ByteArray) (nL : Nat) (rt : Option FieldType) (ini : Bool) (nd : Nat) : Nat → List mRow → Bool
  | _, [] => true
  | pc, (ins, len, a, b, z, ts) :: rows => decide (decode cc pc = .ok (ins, len)) && lenOK ins len && xOK own nL rt ini nd pc ins a b z ts && bOK own cc nL rt ini nd (pc + len) rows
def tLV (G : mG) (lv : mLV) : List (Nat × Value) := lv.map fun q => (q.1, toV G q.2)
theorem tLV_lset (G : mG) (i : Nat) (v : mVal) (lv : mLV) : (i, toV G v) :: (tLV G lv).filter (fun q => !(q.1 == i) && !(q.1 + 1 == i && q.2.category == 2)) = tLV G (lset i v lv) := by
  unfold lset tLV
  rw [List.map_cons, List.filter_map]
  congr 3
  funext q
  simp [toV_cat]
theorem tLV_lset2 (G : mG) (i : Nat) (v : mVal) (lv : mLV) : (i, toV G v) :: (tLV G lv).filter (fun q => !(q.1 == i) && (!(q.1 == i + 1) && !(q.1 + 1 == i && q.2.category == 2))) = tLV G (lset2 i v lv) := by
  unfold lset2 tLV
  rw [List.map_cons, List.filter_map]
  congr 3
  funext q
  simp [toV_cat]
theorem lset_ok {i : Nat} {v : mVal} {lv : mLV} (hv : okV v) (h : ∀ q ∈ lv, okV q.2) : ∀ q ∈ lset i v lv, okV q.2 := by
  intro q hq
  rcases List.mem_cons.mp hq with rfl | hq
  · exact hv
  · exact h q (List.mem_filter.mp hq).1
theorem lset2_ok {i : Nat} {v : mVal} {lv : mLV} (hv : okV v) (h : ∀ q ∈ lv, okV q.2) : ∀ q ∈ lset2 i v lv, okV q.2 := by
  intro q hq
  rcases List.mem_cons.mp hq with rfl | hq
  · exact hv
  · exact h q (List.mem_filter.mp hq).1
theorem lk_mem {α β : Type} [BEq α] [LawfulBEq α] {l : List (α × β)} {k : α} {v : β} (h : l.lookup k = some v) : (k, v) ∈ l := by
  induction l with
  | nil => simp at h
  | cons q l ih =>
    obtain ⟨a, b⟩ := q
    rw [List.lookup_cons] at h
    cases hk : (k == a) with
    | true =>
      rw [hk] at h
      cases h
      rw [eq_of_beq hk]
      exact List.mem_cons_self
    | false =>
      rw [hk] at h
      exact List.mem_cons_of_mem _ (ih h)
theorem lpick_sub (lb : List (Nat × List Nat)) (t : Nat) (lv : mLV) : ∀ q ∈ lpick lb t lv, q ∈ lv := by
  intro q hq
  obtain ⟨i, -, hi⟩ := List.mem_filterMap.mp hq
  cases h : lv.lookup i with
  | none => rw [h] at hi; cases hi
  | some v =>
    rw [h] at hi
    cases hi
    exact lk_mem h
theorem lv_tsub {G : mG} {ls : Array Slot} {nL : Nat} {lv lv' : mLV} (h : lv_has ls nL (tLV G lv)) (hs : ∀ q ∈ lv', q ∈ lv) : lv_has ls nL (tLV G lv') := by
  refine ⟨h.1, h.2.1, fun q hq => ?_⟩
  obtain ⟨x, hx, rfl⟩ := List.mem_map.mp hq
  exact h.2.2 _ (List.mem_map.mpr ⟨x, hs x hx, rfl⟩)
theorem lgetI_e {lv : mLV} {i : Nat} {k : Int → Prop} (h : lgetI lv i k) : ∃ v, (i, vi v) ∈ lv ∧ k v := by
  unfold lgetI at h
  split at h
  · exact ⟨_, lk_mem (by assumption), h⟩
  · exact h.elim
theorem lgetL_e {lv : mLV} {i : Nat} {k : Int → Prop} (h : lgetL lv i k) : ∃ v, (i, vl v) ∈ lv ∧ k v := by
  unfold lgetL at h
  split at h
  · exact ⟨_, lk_mem (by assumption), h⟩
  · exact h.elim
theorem lgetA_e {lv : mLV} {i : Nat} {k : Nat ⊕ Nat → Prop} (h : lgetA lv i k) : ∃ v, (i, .inr (.inr v)) ∈ lv ∧ k v := by
  unfold lgetA at h
  split at h
  · exact ⟨_, lk_mem (by assumption), h⟩
  · exact h.elim
theorem mI_e {st : List mVal} {k : Int → List mVal → Prop} (h : mI st k) : ∃ x r, st = vi x :: r ∧ k x r := by
  unfold mI at h
  split at h
  · exact ⟨_, _, rfl, h⟩
  · exact h.elim
theorem mL_e {st : List mVal} {k : Int → List mVal → Prop} (h : mL st k) : ∃ x r, st = vl x :: r ∧ k x r := by
  unfold mL at h
  split at h
  · exact ⟨_, _, rfl, h⟩
  · exact h.elim
theorem mR_e {st : List mVal} {k : Nat → List mVal → Prop} (h : mR st k) : ∃ x r, st = vr x :: r ∧ k x r := by
  unfold mR at h
  split at h
  · exact ⟨_, _, rfl, h⟩
  · exact h.elim
theorem mA_e {st : List mVal} {k : mVal → List mVal → Prop} (h : mA st k) : ∃ x r, st = x :: r ∧ k x r := by
  unfold mA at h
  split at h
  · exact ⟨_, _, rfl, h⟩
  · exact h.elim
theorem mTag_e {sh : mSh} {k t : Nat} {c : Nat → Prop} (h : mTag sh k t c) : ∃ n, sh.1[k]? = some (t, n) ∧ c n := by
  unfold mTag at h
  split at h
  · rename_i t' n hq
    cases ht : (t' == t) with
    | true =>
      rw [ht] at h
      rw [eq_of_beq ht] at hq
      exact ⟨n, hq, h⟩
    | false => rw [ht] at h; exact h.elim
  · exact h.elim
theorem mRef_e {sh : mSh} {k j : Nat} {c : Nat → Prop} (h : mRef sh k j c) : ∃ t, sh.2.lookup (k, j) = some t ∧ c t := by
  unfold mRef at h
  split at h
  · exact ⟨_, by assumption, h⟩
  · exact h.elim
theorem toV_A (G : mG) (v : Nat ⊕ Nat) : ∃ x, toV G (.inr (.inr v)) = .ref x := by
  rcases v with k | i
  · exact ⟨_, rfl⟩
  · cases i <;> exact ⟨_, rfl⟩
end
section
/-! SOUNDNESS 3: what a frame knows; a step of a frame -/
def slen : List Nat := [3, 6, 6, 6, 5, 5]
def sbyt : List (List Int32) := [[114, 111, 119], [116, 104, 114, 101, 97, 100], [98, 101, 115, 105, 100, 101], [109, 105, 114, 114, 111, 114], [97, 98, 111, 118, 101], [99, 114, 111, 115, 115]]
def gStr (G : mG) (U : State) (H : Heap) : Prop := (∃ adV : Nat → Nat, vk_S 6 slen sbyt (gK G) adV (gA G) U H) ∧ va_Z "java/lang/String" "COMPACT_STRINGS" "Z" (.int 1) (gA G) U H ∧ va_Zq "jdk/internal/util/Preconditions" "SIOOBE_FORMATTER" "Ljava/util/function/BiFunction;" (gA G) U H
def gW (G : mG) (U : State) (H : Heap) : Prop := va_K (gD G) classes (mtys G) U ∧ (∀ q ∈ lNs, va_Nw (.methodLinkNest (nR q.1.1) q.1.2 (mY q.2) "SamplerLaw") U) ∧ va_AO (nR 3) U ∧ (∀ i : Nat, i < 6 → vk_R (nR 4) (lSt.getD i 0) (lStT.getD i "") (gK G i) U) ∧ gStr G U H
theorem gW_call {G : mG} {U : State} {H : Heap} (g : JFrame) (mk : MethodId) (a : Array Value) (h : gW G U H) : gW G (U.calling g mk a) H := by
  obtain ⟨h1, h2, h3, h4, ⟨adV, h5⟩, h6, h7⟩ := h
  exact ⟨va_K.moved (Vm.Alike.refl U.vm) h1, fun q hq => va_Nw.same rfl rfl (h2 q hq), va_AO.moved (Vm.Alike.refl U.vm) h3, fun i hi => vk_R.same rfl (h4 i hi), ⟨adV, vk_S.moved (Vm.Alike.refl U.vm) h5⟩, va_Z.moved (Vm.Alike.refl U.vm) h6, h7.imp (fun q => va_Z.moved (Vm.Alike.refl U.vm) q) (fun ⟨f, q⟩ => ⟨f, va_Z.moved (Vm.Alike.refl U.vm) q⟩)⟩
theorem gW_warm {G : mG} {s U : State} {H0 H : Heap} (hW : s.WarmedH U.vm) (hk : ∀ q : Nat, q < H0.size → ¬ gA G q → H[q]? = H0[q]?) (h : gW G s H0) : gW G U H := by
  obtain ⟨h1, h2, h3, h4, ⟨adV, h5⟩, h6, h7⟩ := h
  exact ⟨va_K.moved hW.alike h1, fun q hq => va_Nw.warmM hW (h2 q hq), va_AO.moved hW.alike h3, fun i hi => vk_R.warm hW (h4 i hi), ⟨adV, (vk_S.moved hW.alike h5).kept hk⟩, (va_Z.moved hW.alike h6).kept hk, h7.imp (fun q => (va_Z.moved hW.alike q).kept hk) (fun ⟨f, q⟩ => ⟨f, (va_Z.moved hW.alike q).kept hk⟩)⟩
def mroom (d mc ms : Nat) : Room := { frames := d, cells := mc, slots := ms, locals := 33 * d }
def mws (y : Nat) : List Jvm.Cond := .code (mY y) (mCo y) (mMx y) (mRt y) :: mWS
def mPre (G : mG) (h : mHp) (U : State) : Prop := gW G U U.heap ∧ gOK G h U.heap ∧ gSz G ≤ U.heap.size ∧ U.heap.size ≤ gSz G + h.1.1.length
def mPost (G : mG) (r : Option mVal × mHp) : Array Value → State → Outcome → State → Prop := fun _ st oc t => (oc = .returned (r.1.map (toV G)) ∧ (∀ v ∈ r.1.toList, okV v) ∧ gOK G r.2 t.heap) ∧ va_F (gA G) st t
/-- method y, as a contract over the machine -/
def mMet (G : mG) (l : Launch) (d y : Nat) (as : List mVal) (h : mHp) (r : Option mVal × mHp) : Prop := ∀ mc ms : Nat, r.2.1.1.length = h.1.1.length + mc → mtot r.2.1.1 = mtot h.1.1 + ms → (∀ v ∈ as, okV v) → Met l (mY y) (mws y) (mroom d mc ms) (va_Pc (as.map (toV G)) (mPre G h)) (mPost G r) mc ms (gA G)
section
variable {p : Program} {l : Launch} {e : Env} {R : Room} {s : State} {m : MethodId} {args : Array Value} {below : List Frame} {meth : Method} {c : Code} {H : Heap} {locs : List Loc} {cells slots : Nat} {Q : State → Prop}
/-- what W may use of the heap's size -/
theorem W_sz {g : JFrame} (k : H.size ≤ s.heap.size + cells → W p l e R s m args below meth c H locs cells slots Q g) : W p l e R s m args below meth c H locs cells slots Q g := by
  intro T hT X
  have h1 : T.heap.size ≤ s.heap.size + cells := X.same.2.2.1
  exact k (by rw [← hT]; exact h1) T hT X
/-- behind a call -/
theorem W_call {G : mG} {pc : Nat} {ls : Array Slot} {st0 rest : List Value} {r : Option mVal × mHp} {a : Array Value} {mc ms : Nat} (hr : va_Run p l e R s m args below meth c H locs cells slots mc ms (F0 m pc ls st0) rest (mPost G r a) (gA G)) (hS : va_S (gA G) s.heap H locs)
    (kk : (∀ v ∈ r.1.toList, okV v) → ∀ (H1 : Heap) (locs1 : List Loc), gOK G r.2 H1 → va_S (gA G) s.heap H1 locs1 → W p l e R s m args below meth c H1 locs1 (cells + mc) (slots + ms) Q (F0 m (pc + 3) ls ((r.1.map (toV G)).toList ++ rest))) : W p l e R s m args below meth c H locs cells slots Q (F0 m pc ls st0) := by
  intro T hT X
  obtain ⟨v, st₀, t, T', L, h0, X', hL, e1, e2, ⟨⟨hv, hok, hg⟩, hz, hk⟩, st⟩ := hr T hT X
  cases hv
  rw [h0] at hz hk
  obtain ⟨t2, a1, b1⟩ := kk hok T'.heap (locs ++ L) (by rw [e1]; exact hg) ⟨Nat.le_trans hS.1 (by rw [e1]; exact hz), fun q h1 h2 => by rw [e1, hk q (Nat.lt_of_lt_of_le h1 hS.1) h2]; exact hS.2.1 q h1 h2, fun q hq => by
      rcases List.mem_append.mp hq with h | h
      · exact hS.2.2 q h
      · exact hL q h⟩ T' rfl X'
  exact ⟨t2, st t2 a1, b1⟩
end
/-- what a frame of a method with that code knows -/
def mXf (G : mG) (l : Launch) (own nL : Nat) (rt : Option FieldType) (ini : Bool) (cc : ByteArray) (d c0 s0 : Nat) (lim : Nat × Nat) (scr : Nat × (Nat → Int)) (p : Program) (R : Room) (s : State) (m : MethodId) (args : Array Value) (meth : Method) (c : Code) : Prop :=
  (p.tables.exec = Jvm.exec ∧ c.code = cc ∧ c.maxLocals = nL ∧ s.vm.findClass (nR own) = some m.cls ∧ (∀ w ∈ mWS, w.before args s = true)) ∧ gW G s s.heap ∧ (gSz G ≤ s.heap.size ∧ s.heap.size ≤ gSz G + c0) ∧ (ini = true → meth.name = "<init>") ∧ (d + 1 ≤ R.frames ∧ 33 * d + 33 ≤ R.locals) ∧ (lim.1 ≤ c0 + R.cells ∧ lim.2 ≤ s0 + R.slots) ∧ (scr.1 = 0 ∨ (va_X (gB G) (scr.1 - 1) (fun j => Int32.ofInt (scr.2 j)) s s.heap ∧ gB G < gSz G ∧ (∀ j, inR (scr.2 j)) ∧ scr.1 ≤ 1000))
def mV (G : mG) (p : Program) (l : Launch) (e : Env) (R : Room) (s : State) (m : MethodId) (args : Array Value) (below : List Frame) (meth : Method) (c : Code) (Q : State → Prop) (nL c0 s0 : Nat) (pc : Nat) (lv : mLV) (st : List mVal) (h : mHp) : Prop :=
  (∀ q ∈ lv, okV q.2) → (∀ v ∈ st, okV v) → ((c0 ≤ h.1.1.length ∧ s0 ≤ mtot h.1.1) ∧ h.1.1.length ≤ c0 + R.cells ∧ mtot h.1.1 ≤ s0 + R.slots) → ∀ (H : Heap) (locs : List Loc) (ls : Array Slot), gOK G h H → va_S (gA G) s.heap H locs → lv_has ls nL (tLV G lv) → W p l e R s m args below meth c H locs (h.1.1.length - c0) (mtot h.1.1 - s0) Q (F0 m pc ls (st.map (toV G)))
end
section
/-! SOUNDNESS 4: a frame follows its rows -/
section
variable {G : mG} {l : Launch} {own nL : Nat} {rt : Option FieldType} {ini : Bool} {cc : ByteArray} {d c0 s0 : Nat} {lim : Nat × Nat} {scr : Nat × (Nat → Int)} {p : Program} {e : Env} {R : Room} {s : State} {m : MethodId} {args : Array Value} {below : List Frame} {meth : Method} {c : Code} {Q : State → Prop} {pc : Nat} {lv : mLV} {st : List mVal} {h : mHp}
theorem okc {x : mVal} {r : List mVal} (h : okV x) (hr : ∀ v ∈ r, okV v) : ∀ v ∈ x :: r, okV v := List.forall_mem_cons.mpr ⟨h, hr⟩
theorem okt {x : mVal} {r : List mVal} (h : ∀ v ∈ x :: r, okV v) : okV x ∧ ∀ v ∈ r, okV v := List.forall_mem_cons.mp h
theorem cat_sum (G : mG) (r : List mVal) : ((r.map (toV G)).map fun v => v.category).sum = (r.map mcat).sum := by
  rw [List.map_map]
  congr 1
  refine List.map_congr_left fun v _ => toV_cat G v
/-- a jump: fewer locals are asked for there -/
theorem V_jump {lb : List (Nat × List Nat)} {t : Nat} {lv : mLV} {st : List mVal} {h : mHp} (k : mV G p l e R s m args below meth c Q nL c0 s0 t (lpick lb t lv) st h) : mV G p l e R s m args below meth c Q nL c0 s0 t lv st h := by
  intro h1 h2 h3 H locs ls hg hS hl
  exact k (fun q hq => h1 q (lpick_sub lb t lv q hq)) h2 h3 H locs ls hg hS (lv_tsub hl (lpick_sub lb t lv))
theorem lv_of {G : mG} {ls : Array Slot} {nL : Nat} {lv : mLV} {i : Nat} {v : mVal} (hl : lv_has ls nL (tLV G lv)) (hv : (i, v) ∈ lv) : ls[i]? = some (.val (toV G v)) := hl.2.2 (i, toV G v) (List.mem_map.mpr ⟨(i, v), hv, rfl⟩)
theorem lv_idx {G : mG} {lv : mLV} {i : Nat} {v : mVal} (hv : (i, v) ∈ lv) : ∃ k : Nat, (tLV G lv)[k]? = some (i, toV G v) := by
  obtain ⟨k, hk⟩ := List.getElem?_of_mem hv
  exact ⟨k, by unfold tLV; rw [List.getElem?_map, hk]; rfl⟩
/-- an int field is read -/
theorem V_getI (X : mXf G l own nL rt ini cc d c0 s0 lim scr p R s m args meth c) {idx a b k n : Nat} {r : List mVal} (hlk : lkF own idx a b = true) (hrf : nRf a b = false) (ht : h.1.1[k]? = some (a + 3, n)) (hd : decode cc pc = .ok (.getfield idx, 3))
    (kk : mV G p l e R s m args below meth c Q nL c0 s0 (pc + 3) lv (vi (h.2 k (b : Nat)) :: r) h) : mV G p l e R s m args below meth c Q nL c0 s0 pc lv (vr k :: r) h := by
  intro h1 h2 h3 H locs ls hg hS hl
  obtain ⟨⟨hx, hb, hml, hown, hts⟩, hG, -⟩ := X
  unfold lkF at hlk
  split at hlk
  · rename_i ci kf pos hq
    rw [Bool.and_eq_true] at hlk
    have e1 := (eq_of_beq hlk.1).symm
    have e2 := (eq_of_beq hlk.2).symm
    subst e1; subst e2
    have hm := lk_mem hq
    have hw := wAt_in (lFl_w _ hm) rfl
    have hb1 := List.all_eq_true.mp lFl_b _ hm
    simp only [Bool.and_eq_true, decide_eq_true_eq] at hb1
    obtain ⟨rfl, ha7⟩ := hg.2.1.1 k a n ht
    refine va_get (C := nR a) (T := nT a) (N := nN a) (ci := a) (own := nR own) (ref := nR a) (index := idx) hx hb hts (u_in ha7) hown hG.1 hg.1 k (mW_at ht) (cls_at ha7) b hb1.2 (hts _ hw) (fun _ h => h) (v := .int (Int32.ofInt (h.2 k (b : Nat)))) ?_ hd (kk h1 (okc (hg.2.2 _ _) (okt h2).2) h3 H locs ls hg hS hl)
    rw [List.getElem?_map, List.getElem?_range hb1.2]
    simp [fvalF, hrf]
  · cases hlk
/-- a reference is read -/
theorem V_getR (X : mXf G l own nL rt ini cc d c0 s0 lim scr p R s m args meth c) {idx a b k n t : Nat} {r : List mVal} (hlk : lkF own idx a b = true) (hrf : nRf a b = true) (ht : h.1.1[k]? = some (a + 3, n)) (hr : h.1.2.lookup (k, b) = some t) (hd : decode cc pc = .ok (.getfield idx, 3))
    (kk : mV G p l e R s m args below meth c Q nL c0 s0 (pc + 3) lv (vr t :: r) h) : mV G p l e R s m args below meth c Q nL c0 s0 pc lv (vr k :: r) h := by
  intro h1 h2 h3 H locs ls hg hS hl
  obtain ⟨⟨hx, hb, hml, hown, hts⟩, hG, -⟩ := X
  unfold lkF at hlk
  split at hlk
  · rename_i ci kf pos hq
    rw [Bool.and_eq_true] at hlk
    have e1 := (eq_of_beq hlk.1).symm
    have e2 := (eq_of_beq hlk.2).symm
    subst e1; subst e2
    have hm := lk_mem hq
    have hw := wAt_in (lFl_w _ hm) rfl
    have hb1 := List.all_eq_true.mp lFl_b _ hm
    simp only [Bool.and_eq_true, decide_eq_true_eq] at hb1
    obtain ⟨rfl, ha7⟩ := hg.2.1.1 k a n ht
    refine va_get (C := nR a) (T := nT a) (N := nN a) (ci := a) (own := nR own) (ref := nR a) (index := idx) hx hb hts (u_in ha7) hown hG.1 hg.1 k (mW_at ht) (cls_at ha7) b hb1.2 (hts _ hw) (fun _ h => h) (v := .ref (gSz G + t)) ?_ hd (kk h1 (okc trivial (okt h2).2) h3 H locs ls hg hS hl)
    rw [List.getElem?_map, List.getElem?_range hb1.2]
    simp [fvalF, hrf, mrf, hr, va_rf]
  · cases hlk
/-- an int field is written -/
theorem V_putI (X : mXf G l own nL rt ini cc d c0 s0 lim scr p R s m args meth c) {idx a b k n : Nat} {v : Int} {r : List mVal} (hlk : lkF own idx a b = true) (hrf : nRf a b = false) (hz : (nFk a b).2.1 = "Z" → v = 0 ∨ v = 1) (ht : h.1.1[k]? = some (a + 3, n)) (hd : decode cc pc = .ok (.putfield idx, 3))
    (kk : mV G p l e R s m args below meth c Q nL c0 s0 (pc + 3) lv r (h.1, mupd h.2 k (b : Nat) v)) : mV G p l e R s m args below meth c Q nL c0 s0 pc lv (vi v :: vr k :: r) h := by
  intro h1 h2 h3 H locs ls hg hS hl
  obtain ⟨⟨hx, hb, hml, hown, hts⟩, hG, -⟩ := X
  have hv : inR v := (okt h2).1
  unfold lkF at hlk
  split at hlk
  · rename_i ci kf pos hq
    rw [Bool.and_eq_true] at hlk
    have e1 := (eq_of_beq hlk.1).symm
    have e2 := (eq_of_beq hlk.2).symm
    subst e1; subst e2
    have hm := lk_mem hq
    have hw := wAt_in (lFl_w _ hm) rfl
    have hb1 := List.all_eq_true.mp lFl_b _ hm
    simp only [Bool.and_eq_true, decide_eq_true_eq] at hb1
    obtain ⟨rfl, ha7⟩ := hg.2.1.1 k a n ht
    have hty := nTy_of ha7 hb1.2
    obtain ⟨hfin, hkind⟩ := hty.2.2 hrf
    have hnf : narrow (nTy a b) (.int (Int32.ofInt v)) = .int (Int32.ofInt v) ∧ fits (nTy a b) (.int (Int32.ofInt v)) = true := by
      rcases hkind with ⟨e, -⟩ | ⟨e, e2⟩
      · rw [e]; exact ⟨rfl, rfl⟩
      · rw [e]
        rcases hz e2 with rfl | rfl <;> exact ⟨by decide, by decide⟩
    refine va_put (C := nR a) (T := nT a) (N := nN a) (ci := a) (own := nR own) (ref := nR a) (index := idx) hx hb hts (u_in ha7) (nTy a) (fun k hk => (nTy_of ha7 hk).1) (nNm_of ha7) hown hG.1 hg.1 (mW_D G h) hS k (mW_at ht) (cls_at ha7) b hb1.2 (hts _ hw) (fun _ h => h) hfin hty.1 hnf.1 hnf.2 (by simpa using hb1.2) hd (fun H1 locs1 hP1 _ hS1 => ?_)
    refine kk h1 (okt (okt h2).2).2 h3 H1 locs1 ls ⟨?_, hg.2.1, mupd_in hg.2.2 hv⟩ hS1 hl
    rw [mW_set (h := h) (h' := (h.1, mupd h.2 k (b : Nat) v)) ht rfl (fun j hj => ⟨mupd_o _ _ _ hj, rfl⟩)]
    have e3 : wentF G ((h.1, mupd h.2 k (b : Nat) v).2 k) (mrf (h.1, mupd h.2 k (b : Nat) v) k) (a + 3, nN a) = .inr (a, ((List.range (nN a)).map (fvalF G (h.2 k) (mrf h k) a)).set b (.int (Int32.ofInt v))) := by
      show Sum.inr (a, (List.range (nN a)).map (fvalF G (mupd h.2 k (b : Nat) v k) (mrf h k) a)) = _
      rw [mupd_k, obj_upd hrf]
    rw [e3]
    exact hP1
  · cases hlk
/-- a reference is written (a final field, in a constructor) -/
theorem V_putR (X : mXf G l own nL rt ini cc d c0 s0 lim scr p R s m args meth c) {idx a b k n v : Nat} {r : List mVal} (hlk : lkF own idx a b = true) (hrf : nRf a b = true) (hini : ini = true) (hoa : own = a) (ht : h.1.1[k]? = some (a + 3, n)) (hd : decode cc pc = .ok (.putfield idx, 3))
    (kk : mV G p l e R s m args below meth c Q nL c0 s0 (pc + 3) lv r ((h.1.1, ((k, b), v) :: h.1.2), h.2)) : mV G p l e R s m args below meth c Q nL c0 s0 pc lv (vr v :: vr k :: r) h := by
  intro h1 h2 h3 H locs ls hg hS hl
  obtain ⟨⟨hx, hb, hml, hown, hts⟩, hG, -, hin, -⟩ := X
  unfold lkF at hlk
  split at hlk
  · rename_i ci kf pos hq
    rw [Bool.and_eq_true] at hlk
    have e1 := (eq_of_beq hlk.1).symm
    have e2 := (eq_of_beq hlk.2).symm
    subst e1; subst e2
    have hm := lk_mem hq
    have hw := wAt_in (lFl_w _ hm) rfl
    have hb1 := List.all_eq_true.mp lFl_b _ hm
    simp only [Bool.and_eq_true, decide_eq_true_eq] at hb1
    obtain ⟨rfl, ha7⟩ := hg.2.1.1 k a n ht
    have hty := nTy_of ha7 hb1.2
    obtain ⟨hfin, hkind⟩ := hty.2.1 hrf
    have hnf : narrow (nTy a b) (.ref (gSz G + v)) = .ref (gSz G + v) ∧ fits (nTy a b) (.ref (gSz G + v)) = true := by
      rcases hkind with ⟨x, e⟩ | ⟨x, e⟩ <;> (rw [e]; exact ⟨rfl, rfl⟩)
    refine va_putF (C := nR a) (T := nT a) (N := nN a) (ci := a) (own := nR own) (ref := nR a) (index := idx) hx hb hts (u_in ha7) (nTy a) (fun k hk => (nTy_of ha7 hk).1) (nNm_of ha7) hown hG.1 hg.1 (mW_D G h) hS k (mW_at ht) (cls_at ha7) b hb1.2 (hts _ hw) (fun _ h => h) hfin (hin hini) (by show nR a = nR own; rw [hoa]) hty.1 hnf.1 hnf.2 (by simpa using hb1.2) hd (fun H1 locs1 hP1 _ hS1 => ?_)
    refine kk h1 (okt (okt h2).2).2 h3 H1 locs1 ls ⟨?_, ⟨hg.2.1.1, fun q hq => ?_, hg.2.1.2.2⟩, hg.2.2⟩ hS1 hl
    · rw [mW_set (h := h) (h' := ((h.1.1, ((k, b), v) :: h.1.2), h.2)) ht rfl (fun j hj => ⟨rfl, by first | (rw [mrf_cons, if_neg hj]; done) | (rw [mrf_cons, if_neg hj]; rfl)⟩)]
      have e3 : wentF G (((h.1.1, ((k, b), v) :: h.1.2), h.2).2 k) (mrf ((h.1.1, ((k, b), v) :: h.1.2), h.2) k) (a + 3, nN a) = .inr (a, ((List.range (nN a)).map (fvalF G (h.2 k) (mrf h k) a)).set b (.ref (gSz G + v))) := by
        rw [mrf_cons, if_pos rfl]
        show Sum.inr (a, (List.range (nN a)).map (fvalF G (h.2 k) (fun j => if j = b then some v else mrf h k j) a)) = _
        rw [obj_ref hrf]
      rw [e3]
      exact hP1
    · rcases List.mem_cons.mp hq with rfl | hq
      · exact (List.getElem?_eq_some_iff.mp ht).1
      · exact hg.2.1.2.1 q hq
  · cases hlk
/-- an element of a row of ints is read -/
theorem V_iald (X : mXf G l own nL rt ini cc d c0 s0 lim scr p R s m args meth c) {k n : Nat} {i : Int} {r : List mVal} (ht : h.1.1[k]? = some (0, n)) (hi0 : 0 ≤ i) (hi1 : i < (n : Int)) (hd : decode cc pc = .ok (.iaload, 1))
    (kk : mV G p l e R s m args below meth c Q nL c0 s0 (pc + 1) lv (vi (h.2 k i) :: r) h) : mV G p l e R s m args below meth c Q nL c0 s0 pc lv (vi i :: vr k :: r) h := by
  intro h1 h2 h3 H locs ls hg hS hl
  obtain ⟨⟨hx, hb, hml, hown, hts⟩, hG, -⟩ := X
  have hi : inR i := (okt h2).1
  refine va_iald hx hb hG.1 hg.1 k 0 (mW_at ht) rfl (i_in hi hi0 hi1) hd ?_
  have e1 : (((Int32.ofInt i).toNatClampNeg : Nat) : Int) = i := by rw [i_clamp hi]; omega
  show W p l e R s m args below meth c H locs (h.1.1.length - c0) (mtot h.1.1 - s0) Q (F0 m (pc + 1) ls (.int (Int32.ofInt (h.2 k (((Int32.ofInt i).toNatClampNeg : Nat) : Int))) :: r.map (toV G)))
  rw [e1]
  exact kk h1 (okc (hg.2.2 _ _) (okt (okt h2).2).2) h3 H locs ls hg hS hl
theorem V_zald (X : mXf G l own nL rt ini cc d c0 s0 lim scr p R s m args meth c) {k n : Nat} {i : Int} {r : List mVal} (ht : h.1.1[k]? = some (1, n)) (hi0 : 0 ≤ i) (hi1 : i < (n : Int)) (hd : decode cc pc = .ok (.baload, 1))
    (kk : mV G p l e R s m args below meth c Q nL c0 s0 (pc + 1) lv (vi (h.2 k i) :: r) h) : mV G p l e R s m args below meth c Q nL c0 s0 pc lv (vi i :: vr k :: r) h := by
  intro h1 h2 h3 H locs ls hg hS hl
  obtain ⟨⟨hx, hb, hml, hown, hts⟩, hG, -⟩ := X
  have hi : inR i := (okt h2).1
  refine va_zald hx hb hG.1 hg.1 k 1 (mW_at ht) rfl (i_in hi hi0 hi1) hd ?_
  have e1 : (((Int32.ofInt i).toNatClampNeg : Nat) : Int) = i := by rw [i_clamp hi]; omega
  show W p l e R s m args below meth c H locs (h.1.1.length - c0) (mtot h.1.1 - s0) Q (F0 m (pc + 1) ls (.int (Int32.ofInt (h.2 k (((Int32.ofInt i).toNatClampNeg : Nat) : Int))) :: r.map (toV G)))
  rw [e1]
  exact kk h1 (okc (hg.2.2 _ _) (okt (okt h2).2).2) h3 H locs ls hg hS hl
theorem V_iast (X : mXf G l own nL rt ini cc d c0 s0 lim scr p R s m args meth c) {k n : Nat} {i v : Int} {r : List mVal} (ht : h.1.1[k]? = some (0, n)) (hi0 : 0 ≤ i) (hi1 : i < (n : Int)) (hd : decode cc pc = .ok (.iastore, 1))
    (kk : mV G p l e R s m args below meth c Q nL c0 s0 (pc + 1) lv r (h.1, mupd h.2 k i v)) : mV G p l e R s m args below meth c Q nL c0 s0 pc lv (vi v :: vi i :: vr k :: r) h := by
  intro h1 h2 h3 H locs ls hg hS hl
  obtain ⟨⟨hx, hb, hml, hown, hts⟩, hG, -⟩ := X
  have hv : inR v := (okt h2).1
  have hi : inR i := (okt (okt h2).2).1
  refine va_iast hx hb hG.1 hg.1 (mW_D G h) hS k 0 (mW_at ht) rfl (i_in hi hi0 hi1) hd (fun H1 locs1 hP1 _ hS1 => ?_)
  refine kk h1 (okt (okt (okt h2).2).2).2 h3 H1 locs1 ls ⟨?_, hg.2.1, mupd_in hg.2.2 hv⟩ hS1 hl
  rw [mW_set (h := h) (h' := (h.1, mupd h.2 k i v)) ht rfl (fun j hj => ⟨mupd_o _ _ _ hj, rfl⟩)]
  have e3 : wentF G ((h.1, mupd h.2 k i v).2 k) (mrf (h.1, mupd h.2 k i v) k) (0, n) = .inl (gI G, n, .inl (upd (fun j : Nat => Int32.ofInt (h.2 k (j : Nat))) (Int32.ofInt i).toNatClampNeg (Int32.ofInt v))) := by
    show Sum.inl (gI G, n, Sum.inl (fun j : Nat => Int32.ofInt (mupd h.2 k i v k (j : Nat)))) = _
    rw [mupd_k, arr_upd _ hi hi0]
  rw [e3]
  exact hP1
theorem V_zast (X : mXf G l own nL rt ini cc d c0 s0 lim scr p R s m args meth c) {k n : Nat} {i v : Int} {r : List mVal} (ht : h.1.1[k]? = some (1, n)) (hi0 : 0 ≤ i) (hi1 : i < (n : Int)) (hz : v = 0 ∨ v = 1) (hd : decode cc pc = .ok (.bastore, 1))
    (kk : mV G p l e R s m args below meth c Q nL c0 s0 (pc + 1) lv r (h.1, mupd h.2 k i v)) : mV G p l e R s m args below meth c Q nL c0 s0 pc lv (vi v :: vi i :: vr k :: r) h := by
  intro h1 h2 h3 H locs ls hg hS hl
  obtain ⟨⟨hx, hb, hml, hown, hts⟩, hG, -⟩ := X
  have hv : inR v := (okt h2).1
  have hi : inR i := (okt (okt h2).2).1
  refine va_zast hx hb hG.1 hg.1 (mW_D G h) hS k 1 (mW_at ht) rfl (i_in hi hi0 hi1) hd (fun H1 locs1 hP1 _ hS1 => ?_)
  have en : vp_nar .boolean (Int32.ofInt v) = Int32.ofInt v := by rcases hz with rfl | rfl <;> decide
  rw [en] at hP1
  refine kk h1 (okt (okt (okt h2).2).2).2 h3 H1 locs1 ls ⟨?_, hg.2.1, mupd_in hg.2.2 hv⟩ hS1 hl
  rw [mW_set (h := h) (h' := (h.1, mupd h.2 k i v)) ht rfl (fun j hj => ⟨mupd_o _ _ _ hj, rfl⟩)]
  have e3 : wentF G ((h.1, mupd h.2 k i v).2 k) (mrf (h.1, mupd h.2 k i v) k) (1, n) = .inl (gZ G, n, .inl (upd (fun j : Nat => Int32.ofInt (h.2 k (j : Nat))) (Int32.ofInt i).toNatClampNeg (Int32.ofInt v))) := by
    show Sum.inl (gZ G, n, Sum.inl (fun j : Nat => Int32.ofInt (mupd h.2 k i v k (j : Nat)))) = _
    rw [mupd_k, arr_upd _ hi hi0]
  rw [e3]
  exact hP1
/-- an element of a row of references -/
theorem V_aald (X : mXf G l own nL rt ini cc d c0 s0 lim scr p R s m args meth c) {k n t : Nat} {i : Int} {r : List mVal} (ht : h.1.1[k]? = some (2, n)) (hi0 : 0 ≤ i) (hi1 : i < (n : Int)) (hr : h.1.2.lookup (k, i.toNat) = some t) (hd : decode cc pc = .ok (.aaload, 1))
    (kk : mV G p l e R s m args below meth c Q nL c0 s0 (pc + 1) lv (vr t :: r) h) : mV G p l e R s m args below meth c Q nL c0 s0 pc lv (vi i :: vr k :: r) h := by
  intro h1 h2 h3 H locs ls hg hS hl
  obtain ⟨⟨hx, hb, hml, hown, hts⟩, hG, -⟩ := X
  have hi : inR i := (okt h2).1
  refine va_aldq (C := nR 3) hx hb hG.1 hg.1 k 2 (mW_at ht) rfl (i_in hi hi0 hi1) hd ?_
  show W p l e R s m args below meth c H locs (h.1.1.length - c0) (mtot h.1.1 - s0) Q (F0 m (pc + 1) ls (va_rf ((h.1.2.lookup (k, (Int32.ofInt i).toNatClampNeg)).map (gSz G + ·)) :: r.map (toV G)))
  rw [i_clamp hi, hr]
  exact kk h1 (okc trivial (okt (okt h2).2).2) h3 H locs ls hg hS hl
theorem V_aast (X : mXf G l own nL rt ini cc d c0 s0 lim scr p R s m args meth c) {k n v nv : Nat} {i : Int} {r : List mVal} (ht : h.1.1[k]? = some (2, n)) (hv : h.1.1[v]? = some (6, nv)) (hi0 : 0 ≤ i) (hi1 : i < (n : Int)) (hd : decode cc pc = .ok (.aastore, 1))
    (kk : mV G p l e R s m args below meth c Q nL c0 s0 (pc + 1) lv r ((h.1.1, ((k, i.toNat), v) :: h.1.2), h.2)) : mV G p l e R s m args below meth c Q nL c0 s0 pc lv (vr v :: vi i :: vr k :: r) h := by
  intro h1 h2 h3 H locs ls hg hS hl
  obtain ⟨⟨hx, hb, hml, hown, hts⟩, hG, -⟩ := X
  have hi : inR i := (okt (okt h2).2).1
  refine va_astq (r := (nR 3, nT 3, nN 3)) hx hb hG.1 hg.1 (mW_D G h) hS k 2 v 3 (mW_at ht) rfl (mW_at hv) (cls_at (by decide)) (i_in hi hi0 hi1) hd (fun H1 locs1 hP1 _ hS1 => ?_)
  refine kk h1 (okt (okt (okt h2).2).2).2 h3 H1 locs1 ls ⟨?_, ⟨hg.2.1.1, fun q hq => ?_, hg.2.1.2.2⟩, hg.2.2⟩ hS1 hl
  · rw [mW_set (h := h) (h' := ((h.1.1, ((k, i.toNat), v) :: h.1.2), h.2)) ht rfl (fun j hj => ⟨rfl, by first | (rw [mrf_cons, if_neg hj]; done) | (rw [mrf_cons, if_neg hj]; rfl)⟩)]
    have e3 : wentF G (((h.1.1, ((k, i.toNat), v) :: h.1.2), h.2).2 k) (mrf ((h.1.1, ((k, i.toNat), v) :: h.1.2), h.2) k) (2, n) = .inl (gS G, n, .inr (.inr (.inr (.inr (va_up (fun j : Nat => (mrf h k j).map (gSz G + ·)) (Int32.ofInt i).toNatClampNeg (some (gSz G + v))))))) := by
      rw [mrf_cons, if_pos rfl, i_clamp hi]
      show Sum.inl (gS G, n, Sum.inr (Sum.inr (Sum.inr (Sum.inr (fun j : Nat => ((fun x => if x = i.toNat then some v else mrf h k x) j).map (gSz G + ·)))))) = _
      congr 7
      funext j
      unfold va_up
      by_cases hj : j = i.toNat
      · simp [hj]
      · simp [hj]
    rw [e3]
    exact hP1
  · rcases List.mem_cons.mp hq with rfl | hq
    · exact (List.getElem?_eq_some_iff.mp ht).1
    · exact hg.2.1.2.1 q hq
end
end
section
/-! SOUNDNESS 5: new cells, copies, calls -/
theorem mtot_app (l : List (Nat × Nat)) (q : Nat × Nat) : mtot (l ++ [q]) = mtot l + q.2 := by simp [mtot]
theorem mzero_k (m : mMem) (k : Nat) : mzero m k k = fun _ => 0 := by funext x; simp [mzero]
theorem mzero_o (m : mMem) {k j : Nat} (hj : j ≠ k) : mzero m k j = m j := by funext x; simp [mzero, hj]
theorem mrf_none {h : mHp} (hs : ∀ q ∈ h.1.2, q.1.1 < h.1.1.length) : mrf h h.1.1.length = fun _ => none := by
  funext j
  unfold mrf
  cases hq : h.1.2.lookup (h.1.1.length, j) with
  | none => rfl
  | some t => exact absurd (hs _ (lk_mem hq)) (Nat.lt_irrefl _)
theorem mW_push {G : mG} {h : mHp} (q : Nat × Nat) (hs : ∀ q ∈ h.1.2, q.1.1 < h.1.1.length) : mW G ((h.1.1 ++ [q], h.1.2), mzero h.2 h.1.1.length) = mW G h ++ [(gSz G + h.1.1.length, wentF G (fun _ => 0) (fun _ => none) q)] := by
  refine List.ext_getElem? fun j => ?_
  have hlen : (mW G h).length = h.1.1.length := by simp [mW]
  simp only [mW, List.getElem?_mapIdx]
  rcases Nat.lt_trichotomy j h.1.1.length with hj | hj | hj
  · rw [List.getElem?_append_left hj, List.getElem?_append_left (by simpa [mW] using hj), List.getElem?_mapIdx]
    have e1 : mzero h.2 h.1.1.length j = h.2 j := mzero_o _ (by omega)
    show Option.map (fun q => (gSz G + j, wentF G (mzero h.2 h.1.1.length j) (mrf h j) q)) _ = _
    rw [e1]
  · subst hj
    rw [List.getElem?_append_right (Nat.le_refl _), List.getElem?_append_right (by simp [mW])]
    simp only [Nat.sub_self, List.length_mapIdx]
    show some (gSz G + h.1.1.length, wentF G (mzero h.2 h.1.1.length h.1.1.length) (mrf h h.1.1.length) q) = _
    rw [mzero_k, mrf_none hs]
    rfl
  · rw [List.getElem?_eq_none (by simp; omega), List.getElem?_eq_none (by simp [mW]; omega)]
    rfl
theorem sh_push {sh : mSh} {t n : Nat} (hs : shOK sh) (hn : n ≤ 1000) (ht : ∀ t', t = t' + 3 → n = nN t' ∧ t' < 7) : shOK (sh.1 ++ [(t, n)], sh.2) := by
  refine ⟨fun k t' n' hk => ?_, fun q hq => ?_, fun q hq => ?_⟩
  · rcases Nat.lt_trichotomy k sh.1.length with hj | hj | hj
    · rw [show (sh.1 ++ [(t, n)], sh.2).1[k]? = sh.1[k]? from List.getElem?_append_left hj] at hk
      exact hs.1 k t' n' hk
    · subst hj
      rw [show (sh.1 ++ [(t, n)], sh.2).1[sh.1.length]? = some (t, n) by simp] at hk
      cases hk
      exact ht _ rfl
    · rw [show (sh.1 ++ [(t, n)], sh.2).1[k]? = none from List.getElem?_eq_none (by simp; omega)] at hk
      cases hk
  · have := hs.2.1 q hq
    show q.1.1 < (sh.1 ++ [(t, n)]).length
    simp
    omega
  · rcases List.mem_append.mp hq with hq | hq
    · exact hs.2.2 q hq
    · rw [List.mem_singleton.mp hq]
      exact hn
section
variable {G : mG} {l : Launch} {own nL : Nat} {rt : Option FieldType} {ini : Bool} {cc : ByteArray} {d c0 s0 : Nat} {lim : Nat × Nat} {scr : Nat × (Nat → Int)} {p : Program} {e : Env} {R : Room} {s : State} {m : MethodId} {args : Array Value} {below : List Frame} {meth : Method} {c : Code} {Q : State → Prop} {pc : Nat} {lv : mLV} {st : List mVal} {h : mHp}
/-- a new cell came: its address, and what follows -/
theorem V_born {t n q : Nat} {E : va_E} {r : List mVal} {H1 : Heap} {locs : List Loc} {ls : Array Slot} {pc' : Nat} (X : mXf G l own nL rt ini cc d c0 s0 lim scr p R s m args meth c) (h1 : ∀ q ∈ lv, okV q.2) (h2 : ∀ v ∈ r, okV v) (h3 : (c0 ≤ h.1.1.length ∧ s0 ≤ mtot h.1.1) ∧ h.1.1.length ≤ c0 + R.cells ∧ mtot h.1.1 ≤ s0 + R.slots) (hcap : h.1.1.length + 1 ≤ lim.1 ∧ mtot h.1.1 + n ≤ lim.2) (hn1 : n ≤ 1000) (hE : E = wentF G (fun _ => 0) (fun _ => none) (t, n)) (hsh : shOK h.1) (hin : ∀ k i, inR (h.2 k i)) (ht : ∀ t', t = t' + 3 → n = nN t' ∧ t' < 7)
    (hP1 : va_P (gD G) classes (mW G h ++ [(q, E)]) H1) (hD1 : va_D (gA G) (mW G h ++ [(q, E)])) (hS1 : va_S (gA G) s.heap H1 locs) (hl : lv_has ls nL (tLV G lv))
    (kk : mV G p l e R s m args below meth c Q nL c0 s0 pc' lv (vr h.1.1.length :: r) ((h.1.1 ++ [(t, n)], h.1.2), mzero h.2 h.1.1.length)) : W p l e R s m args below meth c H1 locs (h.1.1.length - c0 + 1) (mtot h.1.1 - s0 + n) Q (F0 m pc' ls (.ref q :: r.map (toV G))) := by
  refine W_sz (fun hsz => ?_)
  have hlen : (mW G h).length = h.1.1.length := by simp [mW]
  have hat : (mW G h ++ [(q, E)])[h.1.1.length]? = some (q, E) := by
    rw [List.getElem?_append_right (by omega), hlen, Nat.sub_self]; rfl
  have hq1 : q < H1.size := (hP1 _ _ hat).lt
  have hq2 : gSz G ≤ q := hD1.2 _ _ hat
  have hq : q = gSz G + h.1.1.length := by
    have hs := X.2.2.1.2
    rcases Nat.lt_or_ge q (gSz G + h.1.1.length) with hlt | hge
    · exfalso
      obtain ⟨x, hx⟩ : ∃ x, h.1.1[q - gSz G]? = some x := ⟨_, List.getElem?_eq_getElem (by omega)⟩
      have hk := mW_at (G := G) hx
      have hk2 : (mW G h ++ [(q, E)])[q - gSz G]? = some (gSz G + (q - gSz G), wentF G (h.2 (q - gSz G)) (mrf h (q - gSz G)) x) := by
        rw [List.getElem?_append_left (by omega)]; exact hk
      have := hD1.1 _ _ _ _ hk2 hat (by show gSz G + (q - gSz G) = q; omega)
      omega
    · omega
  subst hq
  have e1 : (h.1.1 ++ [(t, n)]).length - c0 = h.1.1.length - c0 + 1 := by simp; omega
  have e2 : mtot (h.1.1 ++ [(t, n)]) - s0 = mtot h.1.1 - s0 + n := by rw [mtot_app]; have := h3.1.2; simp only; omega
  have hcp := X.2.2.2.2.2.1
  have hk := kk h1 (okc trivial h2) ⟨⟨by show c0 ≤ (h.1.1 ++ [(t, n)]).length; simp; omega, by show s0 ≤ mtot (h.1.1 ++ [(t, n)]); rw [mtot_app]; omega⟩, by show (h.1.1 ++ [(t, n)]).length ≤ _; have := hcap.1; have := hcp.1; simp; omega, by show mtot (h.1.1 ++ [(t, n)]) ≤ _; rw [mtot_app]; have := hcap.2; have := hcp.2; simp only; omega⟩ H1 locs ls ⟨?_, sh_push hsh hn1 ht, fun k i => ?_⟩ hS1 hl
  · have e1' : ((h.1.1 ++ [(t, n)], h.1.2), mzero h.2 h.1.1.length).1.1.length - c0 = h.1.1.length - c0 + 1 := e1
    have e2' : mtot ((h.1.1 ++ [(t, n)], h.1.2), mzero h.2 h.1.1.length).1.1 - s0 = mtot h.1.1 - s0 + n := e2
    rw [e1', e2'] at hk
    exact hk
  · rw [mW_push _ hsh.2.1, ← hE]
    exact hP1
  · show inR (mzero h.2 h.1.1.length k i)
    unfold mzero
    split
    · exact inR_0
    · exact hin _ _
theorem V_new (X : mXf G l own nL rt ini cc d c0 s0 lim scr p R s m args meth c) {idx a : Nat} (hlk : lkC own idx a = true) (hcap : h.1.1.length + 1 ≤ lim.1 ∧ mtot h.1.1 + nN a ≤ lim.2) (hd : decode cc pc = .ok (.new idx, 3))
    (kk : mV G p l e R s m args below meth c Q nL c0 s0 (pc + 3) lv (vr h.1.1.length :: st) ((h.1.1 ++ [(a + 3, nN a)], h.1.2), mzero h.2 h.1.1.length)) : mV G p l e R s m args below meth c Q nL c0 s0 pc lv st h := by
  intro h1 h2 h3 H locs ls hg hS hl
  obtain ⟨⟨hx, hb, hml, hown, hts⟩, hG, hsz, -, -, hcp, -⟩ := id X
  unfold lkC at hlk
  split at hlk
  · rename_i y pos hq
    have e1 := (eq_of_beq hlk).symm
    subst e1
    have hm := lk_mem hq
    have ha7 : a < 7 := by simpa using List.all_eq_true.mp lCl_b _ hm
    have hin7 : a ∈ [0, 1, 2, 3, 4, 5, 6] := by simp; omega
    have hin9 : a ∈ [0, 1, 2, 3, 4, 5, 6, 7, 8] := by simp; omega
    have hn1 : nN a ≤ 1000 := by
      rcases (show a = 0 ∨ a = 1 ∨ a = 2 ∨ a = 3 ∨ a = 4 ∨ a = 5 ∨ a = 6 by omega) with rfl | rfl | rfl | rfl | rfl | rfl | rfl <;> decide
    have hta : ∀ t', a + 3 = t' + 3 → nN a = nN t' ∧ t' < 7 := by
      intro t' e
      have e2 : a = t' := by omega
      subst e2
      exact ⟨rfl, ha7⟩
    refine va_new (C := nR a) (T := nT a) (N := nN a) (ci := a) (own := nR own) (index := idx) (fs := (List.range (nN a)).map (fvalF G (fun _ => 0) (fun _ => none) a)) hx hb hts (u_in ha7) (nTy a) (fun k hk => (nTy_of ha7 hk).1) hown (hts _ (wAt_in (lCl_w _ hm) rfl)) (hts _ (wAt_in (nIns_w a hin7) rfl)) (hts _ (wAt_in (nIni_w a hin9) rfl)) hG.1 hg.1 (mW_D G h) hS (fun q hq => Nat.le_trans hsz.1 hq) (cls_at ha7) (fun j hj => ?_) (by have := hcap.1; have := hcp.1; omega) (by have := hcap.2; have := hcp.2; omega) hd (fun q H1 hP1 hD1 hS1 => V_born X h1 h2 h3 hcap hn1 rfl hg.2.1 hg.2.2 hta hP1 hD1 hS1 hl kk)
    unfold vp_V
    rw [List.getD_eq_getElem?_getD, List.getElem?_map, List.getElem?_range hj]
    simp only [Option.map_some, Option.getD_some, fvalF]
    cases hr : nRf a j with
    | true =>
      obtain ⟨-, hk⟩ := (nTy_of ha7 hj).2.1 hr
      rcases hk with ⟨x, e⟩ | ⟨x, e⟩ <;> (rw [e]; rfl)
    | false =>
      obtain ⟨-, hk⟩ := (nTy_of ha7 hj).2.2 hr
      rcases hk with ⟨e, -⟩ | ⟨e, -⟩ <;> (rw [e]; rfl)
  · cases hlk
theorem V_newI (X : mXf G l own nL rt ini cc d c0 s0 lim scr p R s m args meth c) {n : Int} {r : List mVal} (hn : 0 ≤ n ∧ n ≤ 1000) (hcap : h.1.1.length + 1 ≤ lim.1 ∧ mtot h.1.1 + n.toNat ≤ lim.2) (hd : decode cc pc = .ok (.newarray .int, 2))
    (kk : mV G p l e R s m args below meth c Q nL c0 s0 (pc + 2) lv (vr h.1.1.length :: r) ((h.1.1 ++ [(0, n.toNat)], h.1.2), mzero h.2 h.1.1.length)) : mV G p l e R s m args below meth c Q nL c0 s0 pc lv (vi n :: r) h := by
  intro h1 h2 h3 H locs ls hg hS hl
  obtain ⟨⟨hx, hb, hml, hown, hts⟩, hG, hsz, -, -, hcp, -⟩ := id X
  have hi : inR n := (okt h2).1
  refine va_newa (ty := .int) (a0 := (n.toNat, .inl fun _ => 0)) (N' := n.toNat) hx hb (hts _ (wAt_in pFix_w.2.2.1 rfl)) rfl hG.1 hg.1 (mW_D G h) hS (fun q hq => Nat.le_trans hsz.1 hq) (fun cA => rfl) (by rw [show (0 : Int32) = Int32.ofInt 0 from rfl, i_lt hi inR_0]; omega) (i_clamp hi) (by show n.toNat * 4 ≤ _; omega) (by have := hcap.1; have := hcp.1; omega) (by have := hcap.2; have := hcp.2; omega) hd (fun q cA H1 hK1 hP1 hD1 hS1 => ?_)
  have e1 : s.vm.findClass ("[" ++ FieldType.int.toString) = some cA := (hK1.2 3 (cA, .int) rfl).2
  have e2 : s.vm.findClass ("[" ++ FieldType.int.toString) = some (gI G) := (hG.1.2 0 (gI G, .int) rfl).2
  have e3 : cA = gI G := Option.some.inj (e1.symm.trans e2)
  subst e3
  exact V_born (t := 0) X h1 (okt h2).2 h3 hcap (by omega) rfl hg.2.1 hg.2.2 (fun t' e => by omega) hP1 hD1 hS1 hl kk
theorem V_newZ (X : mXf G l own nL rt ini cc d c0 s0 lim scr p R s m args meth c) {n : Int} {r : List mVal} (hn : 0 ≤ n ∧ n ≤ 1000) (hcap : h.1.1.length + 1 ≤ lim.1 ∧ mtot h.1.1 + n.toNat ≤ lim.2) (hd : decode cc pc = .ok (.newarray .boolean, 2))
    (kk : mV G p l e R s m args below meth c Q nL c0 s0 (pc + 2) lv (vr h.1.1.length :: r) ((h.1.1 ++ [(1, n.toNat)], h.1.2), mzero h.2 h.1.1.length)) : mV G p l e R s m args below meth c Q nL c0 s0 pc lv (vi n :: r) h := by
  intro h1 h2 h3 H locs ls hg hS hl
  obtain ⟨⟨hx, hb, hml, hown, hts⟩, hG, hsz, -, -, hcp, -⟩ := id X
  have hi : inR n := (okt h2).1
  refine va_newa (ty := .boolean) (a0 := (n.toNat, .inl fun _ => 0)) (N' := n.toNat) hx hb (hts _ (wAt_in pFix_w.2.2.2 rfl)) rfl hG.1 hg.1 (mW_D G h) hS (fun q hq => Nat.le_trans hsz.1 hq) (fun cA => rfl) (by rw [show (0 : Int32) = Int32.ofInt 0 from rfl, i_lt hi inR_0]; omega) (i_clamp hi) (by show n.toNat * 1 ≤ _; omega) (by have := hcap.1; have := hcp.1; omega) (by have := hcap.2; have := hcp.2; omega) hd (fun q cA H1 hK1 hP1 hD1 hS1 => ?_)
  have e1 : s.vm.findClass ("[" ++ FieldType.boolean.toString) = some cA := (hK1.2 3 (cA, .boolean) rfl).2
  have e2 : s.vm.findClass ("[" ++ FieldType.boolean.toString) = some (gZ G) := (hG.1.2 1 (gZ G, .boolean) rfl).2
  have e3 : cA = gZ G := Option.some.inj (e1.symm.trans e2)
  subst e3
  exact V_born (t := 1) X h1 (okt h2).2 h3 hcap (by omega) rfl hg.2.1 hg.2.2 (fun t' e => by omega) hP1 hD1 hS1 hl kk
theorem V_newS (X : mXf G l own nL rt ini cc d c0 s0 lim scr p R s m args meth c) {idx : Nat} {n : Int} {r : List mVal} (hlk : lkC own idx 3 = true) (hn : 0 ≤ n ∧ n ≤ 1000) (hcap : h.1.1.length + 1 ≤ lim.1 ∧ mtot h.1.1 + n.toNat ≤ lim.2) (hd : decode cc pc = .ok (.anewarray idx, 3))
    (kk : mV G p l e R s m args below meth c Q nL c0 s0 (pc + 3) lv (vr h.1.1.length :: r) ((h.1.1 ++ [(2, n.toNat)], h.1.2), mzero h.2 h.1.1.length)) : mV G p l e R s m args below meth c Q nL c0 s0 pc lv (vi n :: r) h := by
  intro h1 h2 h3 H locs ls hg hS hl
  obtain ⟨⟨hx, hb, hml, hown, hts⟩, hG, hsz, -, -, hcp, -⟩ := id X
  have hi : inR n := (okt h2).1
  unfold lkC at hlk
  split at hlk
  · rename_i y pos hq
    have e1 := (eq_of_beq hlk).symm
    subst e1
    have hm := lk_mem hq
    refine va_newq (C := nR 3) (own := nR own) (index := idx) (N' := n.toNat) hx hb hown (hts _ (wAt_in (lCl_w _ hm) rfl)) hG.2.2.1 hG.1 hg.1 (mW_D G h) hS (fun q hq => Nat.le_trans hsz.1 hq) (by rw [show (0 : Int32) = Int32.ofInt 0 from rfl, i_lt hi inR_0]; omega) (i_clamp hi) (by omega) (by have := hcap.1; have := hcp.1; omega) (by have := hcap.2; have := hcp.2; omega) hd (fun q cA H1 hK1 hP1 hD1 hS1 => ?_)
    obtain ⟨_, _, _, _, _, e1⟩ := (hK1.2 3 (cA, .object (nR 3)) rfl).2
    obtain ⟨_, _, _, _, _, e2⟩ := (hG.1.2 2 (gS G, .object (nR 3)) rfl).2
    have e3 : cA = gS G := Option.some.inj (e1.symm.trans e2)
    subst e3
    exact V_born (t := 2) X h1 (okt h2).2 h3 hcap (by omega) rfl hg.2.1 hg.2.2 (fun t' e => by omega) hP1 hD1 hS1 hl kk
  · cases hlk
end
end
section
/-! SOUNDNESS 6: copies, Math, calls -/
theorem good_ws {w : Jvm.Cond} (h : w ∈ mWS) : w ∈ mWS ∧ ((w.onTables && w.keeps) = true ∨ ∃ ty, w = .arrayClass ty) := ⟨h, good_of_word (List.mem_filter.mp h).2⟩
theorem good_mws {y : Nat} (hy : y < 191) : GoodIn mWS (mws y) := by
  intro w hw
  rcases List.mem_cons.mp hw with rfl | hw
  · exact good_ws (wAt_in (mC_of hy rfl) rfl)
  · exact good_ws hw
theorem y_par {y : Nat} (hy : y < 191) : (parseMethodDescriptor (mY y).desc).map (fun d => d.parameters.length) = some (npar y) := by
  have h1 := List.all_eq_true.mp mB_m y (List.mem_range.mpr hy)
  simp only [Bool.and_eq_true, decide_eq_true_eq] at h1
  have hm : nDs_ (mDs y) ∈ nDs := by
    unfold nDs_
    rw [List.getD_eq_getElem?_getD, List.getElem?_eq_getElem h1.2]
    exact List.getElem_mem h1.2
  exact nDs_w _ hm
theorem y_own {y : Nat} (hy : y < 191) : mOw y < 8 ∧ mMx y ≤ 14 := by
  have h1 := List.all_eq_true.mp mB_m y (List.mem_range.mpr hy)
  simp only [Bool.and_eq_true, decide_eq_true_eq] at h1
  exact ⟨h1.1.2, h1.1.1⟩
theorem y_cls {y : Nat} (hy : y < 191) : plainName (mY y).cls = true ∧ (mY y).cls ≠ "java/lang/invoke/MethodHandle" ∧ (mY y).cls ≠ "java/lang/invoke/VarHandle" := by
  have h1 := List.all_eq_true.mp nOw_w (mOw y) (List.mem_range.mpr (by have := (y_own hy).1; omega))
  simp only [Bool.and_eq_true, Bool.not_eq_true', beq_eq_false_iff_ne] at h1
  exact ⟨h1.1.1, h1.1.2, h1.2⟩
theorem cpy_eq (m : mMem) {sr ds : Nat} {sp dp n : Int} (h1 : inR sp) (h2 : inR dp) (h3 : inR n) (p1 : 0 ≤ sp) (p2 : 0 ≤ dp) (p3 : 0 ≤ n) : (fun j : Nat => Int32.ofInt (mcpy m sr sp ds dp n ds (j : Nat))) = va_cpy (fun j : Nat => Int32.ofInt (m sr (j : Nat))) (fun j : Nat => Int32.ofInt (m ds (j : Nat))) (Int32.ofInt sp).toNatClampNeg (Int32.ofInt dp).toNatClampNeg (Int32.ofInt n).toNatClampNeg := by
  funext j
  rw [i_clamp h1, i_clamp h2, i_clamp h3]
  unfold mcpy va_cpy
  by_cases hj : dp.toNat ≤ j ∧ j < dp.toNat + n.toNat
  · rw [if_pos hj, if_pos ⟨rfl, by omega, by omega⟩]
    have : sp + ((j : Int) - dp) = ((sp.toNat + (j - dp.toNat) : Nat) : Int) := by omega
    rw [this]
  · rw [if_neg hj, if_neg (by omega)]
theorem take_split {st : List mVal} {n k : Nat} (hb : n + 1 ≤ st.length) (hk : (st.drop n).head? = some (vr k)) : st = st.take n ++ vr k :: st.drop (n + 1) ∧ (st.take (n + 1)).reverse = vr k :: (st.take n).reverse := by
  have h1 : st.drop n = vr k :: st.drop (n + 1) := by
    cases hd : st.drop n with
    | nil => rw [hd] at hk; cases hk
    | cons a t =>
      rw [hd] at hk
      cases hk
      have : st.drop (n + 1) = t := by
        rw [← List.drop_drop (i := 1) (j := n)] <;> first | (rw [hd]; rfl) | skip
      rw [this]
  have h2 : st = st.take n ++ vr k :: st.drop (n + 1) := by rw [← h1, List.take_append_drop]
  refine ⟨h2, ?_⟩
  have h3 : st.take (n + 1) = st.take n ++ [vr k] := by
    have h4 : st[n]? = some (vr k) := by rw [← List.head?_drop]; exact hk
    rw [List.take_succ, h4]
    rfl
  rw [h3, List.reverse_append]
  rfl
section
variable {G : mG} {l : Launch} {own nL : Nat} {rt : Option FieldType} {ini : Bool} {cc : ByteArray} {d c0 s0 : Nat} {lim : Nat × Nat} {scr : Nat × (Nat → Int)} {p : Program} {e : Env} {R : Room} {s : State} {m : MethodId} {args : Array Value} {below : List Frame} {meth : Method} {c : Code} {Q : State → Prop} {pc : Nat} {lv : mLV} {st : List mVal} {h : mHp}
theorem V_copy (X : mXf G l own nL rt ini cc d c0 s0 lim scr p R s m args meth c) {idx ns nd sr ds : Nat} {sp dp n : Int} {r : List mVal} (hlk : lkS own idx 3 = true) (hs : h.1.1[sr]? = some (0, ns)) (hds : h.1.1[ds]? = some (0, nd)) (q : 0 ≤ n ∧ 0 ≤ sp ∧ 0 ≤ dp ∧ sp + n ≤ (ns : Int) ∧ dp + n ≤ (nd : Int)) (hr8 : (r.map mcat).sum ≤ 8) (hd : decode cc pc = .ok (.invokestatic idx, 3))
    (kk : mV G p l e R s m args below meth c Q nL c0 s0 (pc + 3) lv r (h.1, mcpy h.2 sr sp ds dp n)) : mV G p l e R s m args below meth c Q nL c0 s0 pc lv (vi n :: vi dp :: vr ds :: vi sp :: vr sr :: r) h := by
  intro h1 h2 h3 H locs ls hg hS hl
  obtain ⟨⟨hx, hb, hml, hown, hts⟩, hG, hsz, -, hrm, -⟩ := id X
  have hn : inR n := (okt h2).1
  have hdp : inR dp := (okt (okt h2).2).1
  have hsp : inR sp := (okt (okt (okt (okt h2).2).2).2).1
  have hrr := (okt (okt (okt (okt (okt h2).2).2).2).2).2
  unfold lkS at hlk
  split at hlk
  · rename_i y pos hq
    have e1 := (eq_of_beq hlk).symm
    subst e1
    have hm := lk_mem hq
    have hz : ∀ z : Int, inR z → 0 ≤ z → ¬ Int32.ofInt z < 0 := fun z hz h0 => by rw [show (0 : Int32) = Int32.ofInt 0 from rfl, i_lt hz inR_0]; omega
    have hnf : nativeFrameWords "java/lang/System" "arraycopy" 5 ≤ 14 := by decide
    refine va_copyi (ty := .int) (own := nR own) (index := idx) hx hb (by rw [hml, hl.1]) hown (hts _ (wAt_in (lSp_w _ hm) rfl)) (hts _ (wAt_in pFix_w.1.2.2.2.1 rfl)) (hts _ (wAt_in pFix_w.1.2.2.1 rfl)) (hts _ (wAt_in pFix_w.1.2.2.2.2.1 rfl)) hG.1 hg.1 (mW_D G h) hS sr ds 0 0 (mW_at hs) (mW_at hds) rfl rfl rfl (hz sp hsp q.2.1) (hz dp hdp q.2.2.1) (hz n hn q.1) (by rw [i_clamp hsp, i_clamp hn]; omega) (by rw [i_clamp hdp, i_clamp hn]; omega) (fun _ _ => rfl) (by omega) (by rw [cat_sum]; omega) hd (fun H1 locs1 hP1 _ hS1 => ?_)
    refine kk h1 hrr h3 H1 locs1 ls ⟨?_, hg.2.1, fun k i => ?_⟩ hS1 hl
    · rw [mW_set (h := h) (h' := (h.1, mcpy h.2 sr sp ds dp n)) hds rfl (fun j hj => ⟨by funext x; simp [mcpy, hj], rfl⟩)]
      have e3 : wentF G ((h.1, mcpy h.2 sr sp ds dp n).2 ds) (mrf (h.1, mcpy h.2 sr sp ds dp n) ds) (0, nd) = .inl (gI G, nd, .inl (va_cpy (fun j : Nat => Int32.ofInt (h.2 sr (j : Nat))) (fun j : Nat => Int32.ofInt (h.2 ds (j : Nat))) (Int32.ofInt sp).toNatClampNeg (Int32.ofInt dp).toNatClampNeg (Int32.ofInt n).toNatClampNeg)) := by
        show Sum.inl (gI G, nd, Sum.inl (fun j : Nat => Int32.ofInt (mcpy h.2 sr sp ds dp n ds (j : Nat)))) = _
        rw [cpy_eq h.2 hsp hdp hn q.2.1 q.2.2.1 q.1]
      rw [e3]
      exact hP1
    · show inR (mcpy h.2 sr sp ds dp n k i)
      unfold mcpy
      split <;> exact hg.2.2 _ _
  · cases hlk
theorem V_min (X : mXf G l own nL rt ini cc d c0 s0 lim scr p R s m args meth c) {idx : Nat} {x y : Int} {r : List mVal} (hlk : lkS own idx 4 = true) (hr8 : (r.map mcat).sum ≤ 8) (hd : decode cc pc = .ok (.invokestatic idx, 3))
    (kk : mV G p l e R s m args below meth c Q nL c0 s0 (pc + 3) lv (vi (if x ≤ y then x else y) :: r) h) : mV G p l e R s m args below meth c Q nL c0 s0 pc lv (vi y :: vi x :: r) h := by
  intro h1 h2 h3 H locs ls hg hS hl
  obtain ⟨⟨hx, hb, hml, hown, hts⟩, hG, hsz, -, hrm, hcp, -⟩ := id X
  have hy : inR y := (okt h2).1
  have hxx : inR x := (okt (okt h2).2).1
  unfold lkS at hlk
  split at hlk
  · rename_i y' pos hq
    have e1 := (eq_of_beq hlk).symm
    subst e1
    have hm := lk_mem hq
    refine va_mmin (own := nR own) (index := idx) hx hb (by rw [hml, hl.1]) hown (hts _ (wAt_in (lSp_w _ hm) rfl)) (hts _ (wAt_in pFix_w.2.1.1 rfl)) (hts _ (wAt_in pFix_w.1.2.2.2.2.2 rfl)) (hts _ (wAt_in pFix_w.2.1.2.1 rfl)) (by omega) (by rw [cat_sum]; omega) (by have := h3.2.1; omega) (by have := h3.2.2; omega) hd ?_
    have hk := kk h1 (okc (by show inR _; split <;> assumption) (okt (okt h2).2).2) h3 H locs ls hg hS hl
    have e2 : (Int32.ofInt (if x ≤ y then x else y)) = (if Int32.ofInt y < Int32.ofInt x then Int32.ofInt y else Int32.ofInt x) := by
      by_cases hxy : x ≤ y
      · rw [if_pos hxy, if_neg (by rw [i_lt hy hxx]; omega)]
      · rw [if_neg hxy, if_pos (by rw [i_lt hy hxx]; omega)]
    have hk' : W p l e R s m args below meth c H locs (h.1.1.length - c0) (mtot h.1.1 - s0) Q (F0 m (pc + 3) ls (.int (Int32.ofInt (if x ≤ y then x else y)) :: r.map (toV G))) := hk
    rw [e2] at hk'
    exact hk'
  · cases hlk
theorem V_max (X : mXf G l own nL rt ini cc d c0 s0 lim scr p R s m args meth c) {idx : Nat} {x y : Int} {r : List mVal} (hlk : lkS own idx 5 = true) (hr8 : (r.map mcat).sum ≤ 8) (hd : decode cc pc = .ok (.invokestatic idx, 3))
    (kk : mV G p l e R s m args below meth c Q nL c0 s0 (pc + 3) lv (vi (if x ≤ y then y else x) :: r) h) : mV G p l e R s m args below meth c Q nL c0 s0 pc lv (vi y :: vi x :: r) h := by
  intro h1 h2 h3 H locs ls hg hS hl
  obtain ⟨⟨hx, hb, hml, hown, hts⟩, hG, hsz, -, hrm, hcp, -⟩ := id X
  have hy : inR y := (okt h2).1
  have hxx : inR x := (okt (okt h2).2).1
  unfold lkS at hlk
  split at hlk
  · rename_i y' pos hq
    have e1 := (eq_of_beq hlk).symm
    subst e1
    have hm := lk_mem hq
    refine va_mmax (own := nR own) (index := idx) hx hb (by rw [hml, hl.1]) hown (hts _ (wAt_in (lSp_w _ hm) rfl)) (hts _ (wAt_in pFix_w.2.1.2.2.1 rfl)) (hts _ (wAt_in pFix_w.1.2.2.2.2.2 rfl)) (hts _ (wAt_in pFix_w.2.1.2.2.2.1 rfl)) (by omega) (by rw [cat_sum]; omega) (by have := h3.2.1; omega) (by have := h3.2.2; omega) hd ?_
    have hk := kk h1 (okc (by show inR _; split <;> assumption) (okt (okt h2).2).2) h3 H locs ls hg hS hl
    have e2 : (Int32.ofInt (if x ≤ y then y else x)) = (if Int32.ofInt x < Int32.ofInt y then Int32.ofInt y else Int32.ofInt x) := by
      by_cases hxy : x < y
      · rw [if_pos (by omega), if_pos (by rw [i_lt hxx hy]; omega)]
      · rw [if_neg (c := Int32.ofInt x < Int32.ofInt y) (by rw [i_lt hxx hy]; omega)]
        split
        · have : x = y := by omega
          rw [this]
        · rfl
    have hk' : W p l e R s m args below meth c H locs (h.1.1.length - c0) (mtot h.1.1 - s0) Q (F0 m (pc + 3) ls (.int (Int32.ofInt (if x ≤ y then y else x)) :: r.map (toV G))) := hk
    rw [e2] at hk'
    exact hk'
  · cases hlk
theorem V_maxL (X : mXf G l own nL rt ini cc d c0 s0 lim scr p R s m args meth c) {idx : Nat} {x y : Int} {r : List mVal} (hlk : lkS own idx 6 = true) (hr8 : (r.map mcat).sum ≤ 8) (hd : decode cc pc = .ok (.invokestatic idx, 3))
    (kk : mV G p l e R s m args below meth c Q nL c0 s0 (pc + 3) lv (vl (if x ≤ y then y else x) :: r) h) : mV G p l e R s m args below meth c Q nL c0 s0 pc lv (vl y :: vl x :: r) h := by
  intro h1 h2 h3 H locs ls hg hS hl
  obtain ⟨⟨hx, hb, hml, hown, hts⟩, hG, hsz, -, hrm, hcp, -⟩ := id X
  have hy : inL y := (okt h2).1
  have hxx : inL x := (okt (okt h2).2).1
  unfold lkS at hlk
  split at hlk
  · rename_i y' pos hq
    have e1 := (eq_of_beq hlk).symm
    subst e1
    have hm := lk_mem hq
    refine va_mmax_long (own := nR own) (index := idx) hx hb (by rw [hml, hl.1]) hown (hts _ (wAt_in (lSp_w _ hm) rfl)) (hts _ (wAt_in pFix_w.2.1.2.2.2.2.1 rfl)) (hts _ (wAt_in pFix_w.1.2.2.2.2.2 rfl)) (hts _ (wAt_in pFix_w.2.1.2.2.2.2.2 rfl)) (by omega) (by rw [cat_sum]; omega) (by have := h3.2.1; omega) (by have := h3.2.2; omega) hd ?_
    have hk := kk h1 (okc (by show inL _; split <;> assumption) (okt (okt h2).2).2) h3 H locs ls hg hS hl
    have e2 : (Int64.ofInt (if x ≤ y then y else x)) = (if Int64.ofInt y < Int64.ofInt x then Int64.ofInt x else Int64.ofInt y) := by
      by_cases hxy : x ≤ y
      · rw [if_pos hxy, if_neg (by rw [l_lt hy hxx]; omega)]
      · rw [if_neg hxy, if_pos (by rw [l_lt hy hxx]; omega)]
    have hk' : W p l e R s m args below meth c H locs (h.1.1.length - c0) (mtot h.1.1 - s0) Q (F0 m (pc + 3) ls (.long (Int64.ofInt (if x ≤ y then y else x)) :: r.map (toV G))) := hk
    rw [e2] at hk'
    exact hk'
  · cases hlk
theorem pre_blind {G : mG} {h : mHp} {av : List Value} : FrameBlind (va_Pc av (mPre G h)) := fun _ U g mk q => ⟨q.1, gW_call g mk _ q.2.1, q.2.2.1, q.2.2.2⟩
/-- a call of an object's method; the shape stays -/
theorem V_callV (X : mXf G l own nL rt ini cc d c0 s0 lim scr p R s m args meth c) {idx y k nk : Nat} {r : Option mVal × mHp} (hM : mMet G l d y (st.take (npar y + 1)).reverse h r) (hr : r.2.1 = h.1) (hlk : lkM own idx y = true) (hsc : mStc y = false) (hni : mInitL.contains y = false) (hy : y < 191) (hb : npar y + 1 ≤ st.length) (hk : (st.drop (npar y)).head? = some (vr k)) (ht : h.1.1[k]? = some (mOw y + 3, nk)) (hr8 : ((st.drop (npar y + 1)).map mcat).sum ≤ 8) (hd : decode cc pc = .ok (.invokevirtual idx, 3))
    (kk : mV G p l e R s m args below meth c Q nL c0 s0 (pc + 3) lv (r.1.toList ++ st.drop (npar y + 1)) r.2) : mV G p l e R s m args below meth c Q nL c0 s0 pc lv st h := by
  intro h1 h2 h3 H locs ls hg hS hl
  obtain ⟨⟨hx, hbc, hml, hown, hts⟩, hG, hsz, -, hrm, hcp, -⟩ := id X
  obtain ⟨e1, e2⟩ := take_split hb hk
  unfold lkM at hlk
  split at hlk
  · rename_i y' pos hq
    have e3 := (eq_of_beq hlk).symm
    subst e3
    have hm := lk_mem hq
    have hok : ∀ v ∈ (st.take (npar y + 1)).reverse, okV v := fun v hv => h2 v (List.mem_of_mem_take (List.mem_reverse.mp hv))
    have hM0 := hM 0 0 (by rw [hr]; rfl) (by rw [hr]; rfl) hok
    rw [e2] at hM0
    have ho7 : mOw y < 7 := (hg.2.1.1 k _ nk ht).2
    have hlen : ((st.take (npar y)).reverse.map (toV G)).length = npar y := by
      rw [List.length_map, List.length_reverse, List.length_take]; omega
    refine W_sz (fun hsize => ?_)
    have hgood : GoodIn mWS (wsV (nR own) idx (nR (mOw y)) (mY y) (mws y)) := by
      intro w hw
      rcases List.mem_append.mp hw with hw | hw
      · simp only [List.mem_cons, List.not_mem_nil, or_false] at hw
        rcases hw with rfl | rfl | rfl | rfl
        · exact good_ws (wAt_in (lMl_w _ hm) rfl)
        · exact good_ws (wAt_in (mI_of hy (by rw [hsc]; rfl)) rfl)
        · exact good_ws (wAt_in (mV_of hy (by rw [hsc, hni]; rfl)) rfl)
        · exact good_ws (wAt_in (nIni_w (mOw y) (by simp; omega)) rfl)
      · exact good_mws hy w hw
    have hrun := va_runV (R := R) (H := H) (locs := locs) (cells := h.1.1.length - c0) (slots := mtot h.1.1 - s0) (g := F0 m pc ls (st.map (toV G))) (As := (st.take (npar y)).reverse.map (toV G)) (rest := (st.drop (npar y + 1)).map (toV G)) (b := gSz G + k) (C := nR (mOw y)) (e := e) (below := below) (meth := meth) ⟨hx, hbc, hml, hown, hts⟩ hM0
      (cwV (npar y) hts hgood rfl rfl rfl ⟨rfl, (y_cls hy).2.1, (y_cls hy).2.2, y_par hy⟩ ⟨by show d + 1 ≤ R.frames; exact hrm.1, by have := (y_own hy).2; show 8 + (mMx y + 11) + 33 * d ≤ R.locals; omega⟩)
      ⟨pre_blind, va_recv hG.1 hg.1 (cls_at ho7) (mW_at ht), fun U hU hWm => ⟨rfl, gW_warm hWm (fun q hq1 hq2 => by rw [hU]; exact hS.2.1 q hq1 hq2) hG, by rw [hU]; exact hg, by rw [hU]; exact Nat.le_trans hsz.1 hS.1, by rw [hU]; have := hsz.2; omega⟩⟩
      rfl hlen hl.1 (by show st.map (toV G) = _; rw [← List.map_reverse, List.reverse_reverse]; conv => lhs; rw [e1]
                        rw [List.map_append, List.map_cons]; rfl)
      (by show 2 * 0 + _ ≤ 8; rw [cat_sum]; omega) hd ⟨by have := h3.2.1; omega, by have := h3.2.2; omega⟩
    refine W_call (r := r) hrun hS (fun hok2 H1 locs1 hg1 hS1 => ?_)
    have hk2 := kk h1 (fun v hv => by
      rcases List.mem_append.mp hv with hv | hv
      · exact hok2 v hv
      · exact h2 v (List.mem_of_mem_drop hv)) (by rw [hr]; exact h3) H1 locs1 ls hg1 hS1 hl
    rw [hr] at hk2
    have e4 : (r.1.toList ++ st.drop (npar y + 1)).map (toV G) = (r.1.map (toV G)).toList ++ (st.drop (npar y + 1)).map (toV G) := by
      rw [List.map_append]; congr 1; cases r.1 <;> rfl
    rw [e4] at hk2
    exact hk2
  · cases hlk
theorem V_callS (X : mXf G l own nL rt ini cc d c0 s0 lim scr p R s m args meth c) {idx y : Nat} {r : Option mVal × mHp} (hM : mMet G l d y (st.take (npar y)).reverse h r) (hr : r.2.1 = h.1) (hlk : lkM own idx y = true) (hsc : mStc y = true) (hy : y < 191) (hb : npar y ≤ st.length) (hr8 : ((st.drop (npar y)).map mcat).sum ≤ 8) (hd : decode cc pc = .ok (.invokestatic idx, 3))
    (kk : mV G p l e R s m args below meth c Q nL c0 s0 (pc + 3) lv (r.1.toList ++ st.drop (npar y)) r.2) : mV G p l e R s m args below meth c Q nL c0 s0 pc lv st h := by
  intro h1 h2 h3 H locs ls hg hS hl
  obtain ⟨⟨hx, hbc, hml, hown, hts⟩, hG, hsz, -, hrm, hcp, -⟩ := id X
  unfold lkM at hlk
  split at hlk
  · rename_i y' pos hq
    have e3 := (eq_of_beq hlk).symm
    subst e3
    have hm := lk_mem hq
    have hok : ∀ v ∈ (st.take (npar y)).reverse, okV v := fun v hv => h2 v (List.mem_of_mem_take (List.mem_reverse.mp hv))
    have hM0 := hM 0 0 (by rw [hr]; rfl) (by rw [hr]; rfl) hok
    have hlen : ((st.take (npar y)).reverse.map (toV G)).length = npar y := by
      rw [List.length_map, List.length_reverse, List.length_take]; omega
    refine W_sz (fun hsize => ?_)
    have hini : (Cond.initialized (mY y).cls).before args s = true := hts _ (wAt_in (nIni_w (mOw y) (by have := (y_own hy).1; simp; omega)) rfl)
    have hcb : CallB R s args (nR own) idx (mY y) (mCo y) (mMx y) (mRt y) (mws y) (mroom d 0 0) 0 0 (npar y) := callB_of (npar y) hts (good_mws hy) rfl rfl rfl hini (hts _ (wAt_in (lMl_w _ hm) rfl)) ⟨(y_cls hy).2.1, (y_cls hy).2.2, y_par hy⟩ ⟨by show d + 1 ≤ R.frames; exact hrm.1, by have := (y_own hy).2; show 8 + (mMx y + 11) + 33 * d ≤ R.locals; omega⟩
    have hrun := va_runS (R := R) (H := H) (locs := locs) (cells := h.1.1.length - c0) (slots := mtot h.1.1 - s0) (g := F0 m pc ls (st.map (toV G))) (As := (st.take (npar y)).reverse.map (toV G)) (rest := (st.drop (npar y)).map (toV G)) (e := e) (below := below) (meth := meth) ⟨hx, hbc, hml, hown, hts⟩ hM0
      ⟨hcb, hts _ (wAt_in (mS_of hy hsc) rfl)⟩
      ⟨pre_blind, fun U hU hWm => ⟨rfl, gW_warm hWm (fun q hq1 hq2 => by rw [hU]; exact hS.2.1 q hq1 hq2) hG, by rw [hU]; exact hg, by rw [hU]; exact Nat.le_trans hsz.1 hS.1, by rw [hU]; have := hsz.2; omega⟩⟩
      rfl hlen hl.1 (by show st.map (toV G) = _; rw [← List.map_reverse, List.reverse_reverse, ← List.map_append, List.take_append_drop])
      (by show 2 * 0 + _ ≤ 8; rw [cat_sum]; omega) hd ⟨by have := h3.2.1; omega, by have := h3.2.2; omega⟩
    refine W_call (r := r) hrun hS (fun hok2 H1 locs1 hg1 hS1 => ?_)
    have hk2 := kk h1 (fun v hv => by
      rcases List.mem_append.mp hv with hv | hv
      · exact hok2 v hv
      · exact h2 v (List.mem_of_mem_drop hv)) (by rw [hr]; exact h3) H1 locs1 ls hg1 hS1 hl
    rw [hr] at hk2
    have e4 : (r.1.toList ++ st.drop (npar y)).map (toV G) = (r.1.map (toV G)).toList ++ (st.drop (npar y)).map (toV G) := by
      rw [List.map_append]; congr 1; cases r.1 <;> rfl
    rw [e4] at hk2
    exact hk2
  · cases hlk
end
end
section
/-! SOUNDNESS 7: constructors' calls, literals; all rows -/
def yLen : MethodName := ⟨"java/lang/String", "length", "()I"⟩
def yChr : MethodName := ⟨"java/lang/String", "charAt", "(I)C"⟩
def wLen : List Jvm.Cond := .code yLen prog_10_method_54_code 1 (some .int) :: mWS
def wChr : List Jvm.Cond := .code yChr prog_10_method_56_code 2 (some .char) :: mWS
/-- String.length and String.charAt of the literals, as contracts -/
def strMet (G : mG) (l : Launch) : Prop := (∀ i : Nat, i < 6 → Met l yLen wLen (mroom 4 0 0) (va_Pc [.ref (gK G i)] (fun U => gW G U U.heap)) (vp_Si (fun r => r = Int32.ofInt (((mstrs.getD i []).length : Nat) : Int))) 0 0 (fun _ => False)) ∧ ∀ i : Nat, i < 6 → ∀ j : Int, 0 ≤ j → j < ((mstrs.getD i []).length : Nat) → Met l yChr wChr (mroom 4 0 0) (va_Pc [.ref (gK G i), .int (Int32.ofInt j)] (fun U => gW G U U.heap)) (vp_Si (fun r => r = Int32.ofInt (((mstrs.getD i []).getD j.toNat 0 : Nat) : Int))) 0 0 (fun _ => False)
theorem gw_blind {G : mG} {av : List Value} : FrameBlind (va_Pc av (fun U => gW G U U.heap)) := fun _ _ g mk q => ⟨q.1, gW_call g mk _ q.2⟩
theorem i_cmp {a b : Int} (ha : inL a) (hb : inL b) : lg_cmp (Int64.ofInt a) (Int64.ofInt b) = Int32.ofInt (jlcmp a b) := by
  unfold lg_cmp jlcmp
  by_cases h1 : a < b
  · have h2 : Int64.ofInt a < Int64.ofInt b := (l_lt ha hb).mpr h1
    have h3 : ¬ Int64.ofInt b < Int64.ofInt a := fun z => by have := (l_lt hb ha).mp z; omega
    have h4 : ¬ Int64.ofInt a = Int64.ofInt b := fun z => by have := (l_eq ha hb).mp z; omega
    simp [h1, h2, h3, h4]
  · by_cases h5 : a = b
    · subst h5
      simp [h1]
    · have h2 : ¬ Int64.ofInt a < Int64.ofInt b := fun z => h1 ((l_lt ha hb).mp z)
      have h3 : Int64.ofInt b < Int64.ofInt a := (l_lt hb ha).mpr (by omega)
      have h4 : ¬ Int64.ofInt a = Int64.ofInt b := fun z => h5 ((l_eq ha hb).mp z)
      simp [h1, h2, h3, h4, h5]
theorem swP_at {k : Nat → Prop} {x : Int} : ∀ (ts : List Nat) (j i t : Nat), swP k x j ts → ts[i]? = some t → x = ((j + i : Nat) : Int) → k t
  | [], _, _, _, _, h, _ => by simp at h
  | t0 :: ts, j, 0, t, h, ht, hx => by
    cases ht
    exact h.1 hx
  | t0 :: ts, j, i + 1, t, h, ht, hx => swP_at ts (j + 1) i t h.2 ht (by rw [hx]; congr 1; omega)
section
variable {G : mG} {l : Launch} {own nL : Nat} {rt : Option FieldType} {ini : Bool} {cc : ByteArray} {d c0 s0 : Nat} {lim : Nat × Nat} {scr : Nat × (Nat → Int)} {p : Program} {e : Env} {R : Room} {s : State} {m : MethodId} {args : Array Value} {below : List Frame} {meth : Method} {c : Code} {Q : State → Prop} {pc : Nat} {lv : mLV} {st : List mVal} {h : mHp}
theorem W_callSi {H : Heap} {locs : List Loc} {cells slots : Nat} {ls : Array Slot} {st0 rest : List Value} {post : Int32 → Prop} {a : Array Value} (hr : va_Run p l e R s m args below meth c H locs cells slots 0 0 (F0 m pc ls st0) rest (vp_Si post a) (fun _ => False)) (kk : ∀ r, post r → W p l e R s m args below meth c H locs cells slots Q (F0 m (pc + 3) ls (.int r :: rest))) : W p l e R s m args below meth c H locs cells slots Q (F0 m pc ls st0) := by
  intro T hT X
  obtain ⟨v, st₀, t, T', L, h0, X', hL, e1, e2, ⟨r, hv, hp, hh⟩, st⟩ := hr T hT X
  cases hv
  obtain ⟨t2, a1, b1⟩ := kk r hp T' (by rw [e1, hh, h0]) (Stand.forget X' (fun q h => (hL q h).elim))
  exact ⟨t2, st t2 a1, b1⟩
theorem V_len (X : mXf G l own nL rt ini cc d c0 s0 lim scr p R s m args meth c) (hs : strMet G l) (hd4 : 4 ≤ d) {idx i : Nat} {r : List mVal} (hlk : lkS own idx 15 = true) (hr8 : (r.map mcat).sum ≤ 8) (hd : decode cc pc = .ok (.invokevirtual idx, 3))
    (kk : mV G p l e R s m args below meth c Q nL c0 s0 (pc + 3) lv (vi (((mstrs.getD i []).length : Nat) : Int) :: r) h) : mV G p l e R s m args below meth c Q nL c0 s0 pc lv (vs (i + 1) :: r) h := by
  intro h1 h2 h3 H locs ls hg hS hl
  obtain ⟨⟨hx, hbc, hml, hown, hts⟩, hG, hsz, -, hrm, hcp, -⟩ := id X
  obtain ⟨adV, hV⟩ := hG.2.2.2.2.1
  have hi : i < 6 := (okt h2).1
  unfold lkS at hlk
  split at hlk
  · rename_i y' pos hq
    have e3 := (eq_of_beq hlk).symm
    subst e3
    have hm := lk_mem hq
    have hgood : GoodIn mWS (wsV (nR own) idx "java/lang/String" yLen wLen) := by
      intro w hw
      rcases List.mem_append.mp hw with hw | hw
      · simp only [List.mem_cons, List.not_mem_nil, or_false] at hw
        rcases hw with rfl | rfl | rfl | rfl
        · exact good_ws (wAt_in (lSp_w _ hm) rfl)
        · exact good_ws (wAt_in pStr_w.1 rfl)
        · exact good_ws (wAt_in pStr_w.2.1 rfl)
        · exact good_ws (wAt_in pStr_w.2.2.2.2.2.2 rfl)
      · rcases List.mem_cons.mp hw with rfl | hw
        · exact good_ws (wAt_in pStr_w.2.2.1 rfl)
        · exact good_ws hw
    have hrun := va_runV (R := R) (H := H) (locs := locs) (cells := h.1.1.length - c0) (slots := mtot h.1.1 - s0) (g := F0 m pc ls ((vs (i + 1) :: r).map (toV G))) (As := []) (rest := r.map (toV G)) (b := gK G i) (C := "java/lang/String") (e := e) (below := below) (meth := meth) ⟨hx, hbc, hml, hown, hts⟩ (hs.1 i hi)
      (cwV 0 hts hgood rfl rfl rfl ⟨rfl, by decide, by decide, by decide +kernel⟩ ⟨by show 4 + 1 ≤ R.frames; omega, by show 8 + (1 + 11) + 33 * 4 ≤ R.locals; omega⟩)
      ⟨gw_blind, vk_recv hV hi hS, fun U hU hWm => ⟨rfl, gW_warm hWm (fun q hq1 hq2 => by rw [hU]; exact hS.2.1 q hq1 hq2) hG⟩⟩
      rfl rfl hl.1 rfl (by show 2 * 0 + _ ≤ 8; rw [cat_sum]; omega) hd ⟨by have := h3.2.1; omega, by have := h3.2.2; omega⟩
    refine W_callSi hrun (fun z hz => ?_)
    subst hz
    exact kk h1 (okc (by
      show inR _
      have : (mstrs.getD i []).length ≤ 6 := by
        rcases (show i = 0 ∨ i = 1 ∨ i = 2 ∨ i = 3 ∨ i = 4 ∨ i = 5 by omega) with rfl | rfl | rfl | rfl | rfl | rfl <;> decide
      unfold inR
      omega) (okt h2).2) h3 H locs ls hg hS hl
  · cases hlk
theorem V_chr (X : mXf G l own nL rt ini cc d c0 s0 lim scr p R s m args meth c) (hs : strMet G l) (hd4 : 4 ≤ d) {idx i : Nat} {j : Int} {r : List mVal} (hlk : lkS own idx 16 = true) (hr8 : (r.map mcat).sum ≤ 8) (hj0 : 0 ≤ j) (hj1 : j < ((mstrs.getD i []).length : Nat)) (hd : decode cc pc = .ok (.invokevirtual idx, 3))
    (kk : mV G p l e R s m args below meth c Q nL c0 s0 (pc + 3) lv (vi (((mstrs.getD i []).getD j.toNat 0 : Nat) : Int) :: r) h) : mV G p l e R s m args below meth c Q nL c0 s0 pc lv (vi j :: vs (i + 1) :: r) h := by
  intro h1 h2 h3 H locs ls hg hS hl
  obtain ⟨⟨hx, hbc, hml, hown, hts⟩, hG, hsz, -, hrm, hcp, -⟩ := id X
  obtain ⟨adV, hV⟩ := hG.2.2.2.2.1
  have hi : i < 6 := (okt (okt h2).2).1
  unfold lkS at hlk
  split at hlk
  · rename_i y' pos hq
    have e3 := (eq_of_beq hlk).symm
    subst e3
    have hm := lk_mem hq
    have hgood : GoodIn mWS (wsV (nR own) idx "java/lang/String" yChr wChr) := by
      intro w hw
      rcases List.mem_append.mp hw with hw | hw
      · simp only [List.mem_cons, List.not_mem_nil, or_false] at hw
        rcases hw with rfl | rfl | rfl | rfl
        · exact good_ws (wAt_in (lSp_w _ hm) rfl)
        · exact good_ws (wAt_in pStr_w.2.2.2.1 rfl)
        · exact good_ws (wAt_in pStr_w.2.2.2.2.1 rfl)
        · exact good_ws (wAt_in pStr_w.2.2.2.2.2.2 rfl)
      · rcases List.mem_cons.mp hw with rfl | hw
        · exact good_ws (wAt_in pStr_w.2.2.2.2.2.1 rfl)
        · exact good_ws hw
    have hrun := va_runV (R := R) (H := H) (locs := locs) (cells := h.1.1.length - c0) (slots := mtot h.1.1 - s0) (g := F0 m pc ls ((vi j :: vs (i + 1) :: r).map (toV G))) (As := [.int (Int32.ofInt j)]) (rest := r.map (toV G)) (b := gK G i) (C := "java/lang/String") (e := e) (below := below) (meth := meth) ⟨hx, hbc, hml, hown, hts⟩ (hs.2 i hi j hj0 hj1)
      (cwV 1 hts hgood rfl rfl rfl ⟨rfl, by decide, by decide, by decide +kernel⟩ ⟨by show 4 + 1 ≤ R.frames; omega, by show 8 + (2 + 11) + 33 * 4 ≤ R.locals; omega⟩)
      ⟨gw_blind, vk_recv hV hi hS, fun U hU hWm => ⟨rfl, gW_warm hWm (fun q hq1 hq2 => by rw [hU]; exact hS.2.1 q hq1 hq2) hG⟩⟩
      rfl rfl hl.1 rfl (by show 2 * 0 + _ ≤ 8; rw [cat_sum]; omega) hd ⟨by have := h3.2.1; omega, by have := h3.2.2; omega⟩
    refine W_callSi hrun (fun z hz => ?_)
    subst hz
    exact kk h1 (okc (by
      show inR _
      have : (mstrs.getD i []).getD j.toNat 0 ≤ 200 := by
        have key : ∀ l ∈ mstrs, ∀ x ∈ l, x ≤ 200 := by decide
        rw [List.getD_eq_getElem?_getD (l := mstrs.getD i [])]
        cases hq2 : (mstrs.getD i [])[j.toNat]? with
        | none => decide
        | some x =>
          have hx1 : x ∈ mstrs.getD i [] := List.mem_of_getElem? hq2
          have hi1 : mstrs.getD i [] ∈ mstrs := by
            rw [List.getD_eq_getElem?_getD, List.getElem?_eq_getElem (by show i < 6; exact hi)]
            exact List.getElem_mem _
          exact key _ hi1 x hx1
      unfold inR
      omega) (okt (okt h2).2).2) h3 H locs ls hg hS hl
  · cases hlk
theorem V_obj (X : mXf G l own nL rt ini cc d c0 s0 lim scr p R s m args meth c) {idx k : Nat} {r : List mVal} (hlk : (lOb.lookup (own, idx)).isSome = true) (hr8 : (r.map mcat).sum ≤ 8) (hd : decode cc pc = .ok (.invokespecial idx, 3))
    (kk : mV G p l e R s m args below meth c Q nL c0 s0 (pc + 3) lv r h) : mV G p l e R s m args below meth c Q nL c0 s0 pc lv (vr k :: r) h := by
  intro h1 h2 h3 H locs ls hg hS hl
  obtain ⟨⟨hx, hbc, hml, hown, hts⟩, hG, hsz, -, hrm, hcp, -⟩ := id X
  obtain ⟨pos, hq⟩ := Option.isSome_iff_exists.mp hlk
  have hm := lk_mem hq
  exact W.objInit hx hbc hown (hts _ (wAt_in (lOb_w _ hm) rfl)) (hts _ (wAt_in pFix_w.1.1 rfl)) (hts _ (wAt_in pFix_w.1.2.1 rfl)) (g := F0 m pc ls ((vr k :: r).map (toV G))) rfl (by rw [hml]; exact hl.1) (a := gSz G + k) (rest := r.map (toV G)) rfl hd (by omega) (by show 2 * 0 + _ + 12 ≤ _; rw [cat_sum]; omega) (kk h1 (okt h2).2 h3 H locs ls hg hS hl)
/-- a constructor's call -/
theorem V_callI (X : mXf G l own nL rt ini cc d c0 s0 lim scr p R s m args meth c) {idx y k : Nat} {h' : mHp} (hM : mMet G l d y (st.take (npar y + 1)).reverse h (none, h')) (hlk : (lkM own idx y || lkN own idx y) = true) (hsc : mStc y = false) (hni : mInitL.contains y = true) (hy : y < 191) (hrt : mRt y = none) (hcap : h'.1.1.length ≤ lim.1 ∧ mtot h'.1.1 ≤ lim.2 ∧ h.1.1.length ≤ h'.1.1.length ∧ mtot h.1.1 ≤ mtot h'.1.1) (hb : npar y + 1 ≤ st.length) (hk : (st.drop (npar y)).head? = some (vr k)) (hr8 : ((st.drop (npar y + 1)).map mcat).sum ≤ 8) (hd : decode cc pc = .ok (.invokespecial idx, 3))
    (kk : mV G p l e R s m args below meth c Q nL c0 s0 (pc + 3) lv (st.drop (npar y + 1)) h') : mV G p l e R s m args below meth c Q nL c0 s0 pc lv st h := by
  intro h1 h2 h3 H locs ls hg hS hl
  obtain ⟨⟨hx, hbc, hml, hown, hts⟩, hG, hsz, -, hrm, hcp, -⟩ := id X
  obtain ⟨e1, e2⟩ := take_split hb hk
  have hok : ∀ v ∈ (st.take (npar y + 1)).reverse, okV v := fun v hv => h2 v (List.mem_of_mem_take (List.mem_reverse.mp hv))
  have hM0 := hM (h'.1.1.length - h.1.1.length) (mtot h'.1.1 - mtot h.1.1) (by show h'.1.1.length = _; omega) (by show mtot h'.1.1 = _; omega) hok
  rw [e2] at hM0
  have hlen : ((st.take (npar y)).reverse.map (toV G)).length = npar y := by
    rw [List.length_map, List.length_reverse, List.length_take]; omega
  refine W_sz (fun hsize => ?_)
  have hini : (Cond.initialized (mY y).cls).before args s = true := hts _ (wAt_in (nIni_w (mOw y) (by have := (y_own hy).1; simp; omega)) rfl)
  have hinst : (Cond.instanceMethod (mY y)).before args s = true := hts _ (wAt_in (mI_of hy (by rw [hsc]; rfl)) rfl)
  have hname : (mY y).name = "<init>" := mInit_w y (List.elem_iff.mp hni)
  have hstk : st.map (toV G) = ((st.take (npar y)).reverse.map (toV G)).reverse ++ Value.ref (gSz G + k) :: (st.drop (npar y + 1)).map (toV G) := by
    rw [← List.map_reverse, List.reverse_reverse]
    conv => lhs; rw [e1]
    rw [List.map_append, List.map_cons]
    rfl
  have hpre : PreS s H (va_Pc ((vr k :: (st.take (npar y)).reverse).map (toV G)) (mPre G h)) (.ref (gSz G + k) :: (st.take (npar y)).reverse.map (toV G)) := ⟨pre_blind, fun U hU hWm => ⟨rfl, gW_warm hWm (fun q hq1 hq2 => by rw [hU]; exact hS.2.1 q hq1 hq2) hG, by rw [hU]; exact hg, by rw [hU]; exact Nat.le_trans hsz.1 hS.1, by rw [hU]; have := hsz.2; omega⟩⟩
  have hroom : (mroom d (h'.1.1.length - h.1.1.length) (mtot h'.1.1 - mtot h.1.1)).frames + 1 ≤ R.frames ∧ 8 + (mMx y + 11) + (mroom d (h'.1.1.length - h.1.1.length) (mtot h'.1.1 - mtot h.1.1)).locals ≤ R.locals := ⟨by show d + 1 ≤ R.frames; exact hrm.1, by have := (y_own hy).2; show 8 + (mMx y + 11) + 33 * d ≤ R.locals; omega⟩
  have hfit : h.1.1.length - c0 + (h'.1.1.length - h.1.1.length) ≤ R.cells ∧ mtot h.1.1 - s0 + (mtot h'.1.1 - mtot h.1.1) ≤ R.slots := ⟨by have := hcp.1; omega, by have := hcp.2; omega⟩
  have hrun : va_Run p l e R s m args below meth c H locs (h.1.1.length - c0) (mtot h.1.1 - s0) (h'.1.1.length - h.1.1.length) (mtot h'.1.1 - mtot h.1.1) (F0 m pc ls (st.map (toV G))) ((st.drop (npar y + 1)).map (toV G)) (mPost G (none, h') (Value.ref (gSz G + k) :: (st.take (npar y)).reverse.map (toV G)).toArray) (gA G) := by
    rw [Bool.or_eq_true] at hlk
    rcases hlk with hlk | hlk
    · unfold lkM at hlk
      split at hlk
      · rename_i y' pos hq
        have e3 := (eq_of_beq hlk).symm
        subst e3
        have hm := lk_mem hq
        exact va_runI (bytes := mCo y) (maxL := mMx y) ⟨hx, hbc, hml, hown, hts⟩ hM0 (cwI (npar y) hts (good_mws hy) (by rw [← hrt]; rfl) rfl rfl hini (hts _ (wAt_in (lMl_w _ hm) rfl)) hinst hname ⟨(y_cls hy).2.1, (y_cls hy).2.2, y_par hy⟩ hroom) hpre rfl hlen hl.1 hstk (by show 2 * 0 + _ ≤ 8; rw [cat_sum]; omega) hd hfit
      · cases hlk
    · unfold lkN at hlk
      split at hlk
      · rename_i y' hq
        have e3 := (eq_of_beq hlk).symm
        subst e3
        have hm := lk_mem hq
        exact va_runIN (bytes := mCo y) (maxL := mMx y) ⟨hx, hbc, hml, hown, hts⟩ hM0 ⟨va_cnB (npar y) hts (good_mws hy) (by rw [← hrt]; rfl) rfl rfl (hG.2.1 _ hm) hini ⟨(y_cls hy).2.1, (y_cls hy).2.2, y_par hy⟩ hroom, hname, hinst⟩ hpre rfl hlen hl.1 hstk (by show 2 * 0 + _ ≤ 8; rw [cat_sum]; omega) hd hfit
      · cases hlk
  refine W_call (r := (none, h')) hrun hS (fun hok2 H1 locs1 hg1 hS1 => ?_)
  have hk2 := kk h1 (fun v hv => h2 v (List.mem_of_mem_drop hv)) ⟨⟨by omega, by omega⟩, by have := hcp.1; omega, by have := hcp.2; omega⟩ H1 locs1 ls hg1 hS1 hl
  have e4 : h'.1.1.length - c0 = h.1.1.length - c0 + (h'.1.1.length - h.1.1.length) := by omega
  have e5 : mtot h'.1.1 - s0 = mtot h.1.1 - s0 + (mtot h'.1.1 - mtot h.1.1) := by omega
  rw [e4, e5] at hk2
  exact hk2
end
end
section
/-! SOUNDNESS 8: a frame follows all its rows -/
section
variable {G : mG} {l : Launch} {own nL : Nat} {rt : Option FieldType} {ini : Bool} {cc : ByteArray} {d c0 s0 nd : Nat} {lim : Nat × Nat} {scr : Nat × (Nat → Int)} {p : Program} {e : Env} {R : Room} {s : State} {m : MethodId} {args : Array Value} {below : List Frame} {meth : Method} {c : Code} {Q : State → Prop}
theorem len_of {i : Instr} {n k : Nat} (h : (n == k) = true) : n = k := eq_of_beq h
theorem rcv_e {sh : mSh} {st : List mVal} {t : Nat} (h : rcvOK sh st [t] = true) : ∃ k n, st.head? = some (vr k) ∧ sh.1[k]? = some (t, n) := by
  unfold rcvOK at h
  split at h
  · rename_i k r
    split at h
    · rename_i t' n hq
      simp at h
      exact ⟨k, n, rfl, by rw [hq, h]⟩
    · cases h
  · cases h
set_option maxHeartbeats 4000000 in
theorem mV_rows (X : mXf G l own nL rt ini cc d c0 s0 lim scr p R s m args meth c) (hstr : strMet G l) (hnd : nd ≤ d + 1) {cal : mCal} {lb : List (Nat × List Nat)} {ret : Option mVal → mHp → Prop} (hcal : ∀ y as h r, cal y as h r → nNeed y ≤ d → mMet G l d y as h r)
    (hI : ∀ pc lv v h, decode cc pc = .ok (.ireturn, 1) → (rt = some .int ∨ (rt = some .boolean ∧ (v = 0 ∨ v = 1))) → ret (some (vi v)) h → mV G p l e R s m args below meth c Q nL c0 s0 pc lv [vi v] h)
    (hJ : ∀ pc lv v h, decode cc pc = .ok (.lreturn, 1) → rt = some .long → ret (some (vl v)) h → mV G p l e R s m args below meth c Q nL c0 s0 pc lv [vl v] h)
    (hN : ∀ pc lv h, decode cc pc = .ok (.return_, 1) → rt = none → ret none h → mV G p l e R s m args below meth c Q nL c0 s0 pc lv [] h) :
    ∀ (rows : List mRow) (pc : Nat) (lv : mLV) (st : List mVal) (h : mHp), bOK own cc nL rt ini nd pc rows = true → mrun cal lb lim scr ret (mV G p l e R s m args below meth c Q nL c0 s0) rows pc lv st h → mV G p l e R s m args below meth c Q nL c0 s0 pc lv st h := by
  intro rows
  induction rows with
  | nil => intro pc lv st h _ hr; exact V_jump hr
  | cons row rows ih =>
    intro pc lv st h hbk hr
    obtain ⟨ins, len, a, b, z, ts⟩ := row
    have hbk' : (decide (decode cc pc = .ok (ins, len)) && lenOK ins len && xOK own nL rt ini nd pc ins a b z ts && bOK own cc nL rt ini nd (pc + len) rows) = true := hbk
    simp only [Bool.and_eq_true, decide_eq_true_eq] at hbk'
    obtain ⟨⟨⟨hd, hlen⟩, hxk⟩, hrest⟩ := hbk'
    obtain ⟨⟨hx, hb, hml, hown, hts⟩, hG, -⟩ := id X
    cases ins with
    | iconst n =>
      have hlen : len = 1 := eq_of_beq hlen
      subst hlen
      have hk := ih _ _ _ _ hrest hr
      have hxk : (decide (-128 ≤ n) && decide (n < 128)) = true := hxk
      simp only [Bool.and_eq_true, decide_eq_true_eq] at hxk
      intro h1 h2 h3 H locs ls hg hS hl
      exact lv_iconst hx hb hd rfl (hk h1 (okc (by show inR n; unfold inR; omega) h2) h3 H locs ls hg hS hl)
    | bipush n =>
      have hlen : len = 2 := eq_of_beq hlen
      subst hlen
      have hk := ih _ _ _ _ hrest hr
      have hxk : (decide (-128 ≤ n) && decide (n < 128)) = true := hxk
      simp only [Bool.and_eq_true, decide_eq_true_eq] at hxk
      intro h1 h2 h3 H locs ls hg hS hl
      have hin : inR n := by unfold inR; omega
      refine lv_bipush hx hb hd (v := Int32.ofInt n) ?_ (hk h1 (okc hin h2) h3 H locs ls hg hS hl)
      rw [← Int32.toInt_inj, Int8.toInt_toInt32, i_to hin, Int8.toInt_ofInt_of_le (by omega) (by omega)]
    | sipush n =>
      have hlen : len = 3 := eq_of_beq hlen
      subst hlen
      have hk := ih _ _ _ _ hrest hr
      have hxk : (decide (-32768 ≤ n) && decide (n < 32768)) = true := hxk
      simp only [Bool.and_eq_true, decide_eq_true_eq] at hxk
      intro h1 h2 h3 H locs ls hg hS hl
      have hin : inR n := by unfold inR; omega
      refine lv_sipush hx hb hd (v := Int32.ofInt n) ?_ (hk h1 (okc hin h2) h3 H locs ls hg hS hl)
      rw [← Int32.toInt_inj, Int16.toInt_toInt32, i_to hin, Int16.toInt_ofInt_of_le (by omega) (by omega)]
    | ldc idx =>
      have hlen : len = 2 := eq_of_beq hlen
      subst hlen
      cases hb0 : (b == 0) with
      | true =>
        have hr' : (bif b == 0 then mrun cal lb lim scr ret (mV G p l e R s m args below meth c Q nL c0 s0) rows (pc + 2) lv (vi z :: st) h else mrun cal lb lim scr ret (mV G p l e R s m args below meth c Q nL c0 s0) rows (pc + 2) lv (vs (a + 1) :: st) h) := hr
        have hxk' : (bif b == 0 then lkI own idx z else (own == 4 && Nat.blt a 6 && lSt.getD a 0 == idx)) = true := hxk
        rw [hb0] at hr' hxk'
        have hk := ih _ _ _ _ hrest hr'
        have hxk2 : lkI own idx z = true := hxk'
        unfold lkI at hxk2
        split at hxk2
        · rename_i y' pos hq
          have e3 := (eq_of_beq hxk2).symm
          subst e3
          have hm := lCi_w _ (lk_mem hq)
          intro h1 h2 h3 H locs ls hg hS hl
          exact lv_ldc (own := nR own) hx hb hown (hts _ (wAt_in hm.1 rfl)) hd (hk h1 (okc hm.2 h2) h3 H locs ls hg hS hl)
        · cases hxk2
      | false =>
        have hr' : (bif b == 0 then mrun cal lb lim scr ret (mV G p l e R s m args below meth c Q nL c0 s0) rows (pc + 2) lv (vi z :: st) h else mrun cal lb lim scr ret (mV G p l e R s m args below meth c Q nL c0 s0) rows (pc + 2) lv (vs (a + 1) :: st) h) := hr
        have hxk' : (bif b == 0 then lkI own idx z else (own == 4 && Nat.blt a 6 && lSt.getD a 0 == idx)) = true := hxk
        rw [hb0] at hr' hxk'
        have hk := ih _ _ _ _ hrest hr'
        have hxk2 : (own == 4 && Nat.blt a 6 && lSt.getD a 0 == idx) = true := hxk'
        simp only [Bool.and_eq_true, Nat.blt_eq] at hxk2
        have e3 := (eq_of_beq hxk2.1.1)
        have e4 := (eq_of_beq hxk2.2).symm
        subst e3; subst e4
        intro h1 h2 h3 H locs ls hg hS hl
        exact va_ldcS (own := nR 4) hx hb hown (hG.2.2.2.1 a hxk2.1.2) hd (hk h1 (okc hxk2.1.2 h2) h3 H locs ls hg hS hl)
    | ldc2_w idx =>
      have hlen : len = 3 := eq_of_beq hlen
      subst hlen
      have hk := ih _ _ _ _ hrest hr
      have hxk2 : lkL own idx z = true := hxk
      unfold lkL at hxk2
      split at hxk2
      · rename_i y' pos hq
        have e3 := (eq_of_beq hxk2).symm
        subst e3
        obtain ⟨v, hw, hv, hz⟩ := lCL_w _ (lk_mem hq)
        intro h1 h2 h3 H locs ls hg hS hl
        refine lv_ldc2 (own := nR own) hx hb hown (hts _ (wAt_in hw rfl)) hd ?_
        rw [hv]
        exact hk h1 (okc hz h2) h3 H locs ls hg hS hl
      · cases hxk2
    | lconst n =>
      have hlen : len = 1 := eq_of_beq hlen
      subst hlen
      have hk := ih _ _ _ _ hrest hr
      intro h1 h2 h3 H locs ls hg hS hl
      refine lv_lconst hx hb hd (v := Int64.ofInt ((n.val : Nat) : Int)) ?_ (hk h1 (okc (by show inL _; unfold inL; omega) h2) h3 H locs ls hg hS hl)
      rw [Int64.ofInt_eq_ofNat]
    | iload_n i =>
      have hlen : len = 1 := eq_of_beq hlen
      subst hlen
      obtain ⟨v, hv, hr⟩ := lgetI_e hr
      have hk := ih _ _ _ _ hrest hr
      intro h1 h2 h3 H locs ls hg hS hl
      exact lv_iload_n hx hb hd rfl (lv_of hl hv) (hk h1 (okc (h1 _ hv) h2) h3 H locs ls hg hS hl)
    | iload i =>
      have hlen : len = 2 := eq_of_beq hlen
      subst hlen
      obtain ⟨v, hv, hr⟩ := lgetI_e hr
      have hk := ih _ _ _ _ hrest hr
      intro h1 h2 h3 H locs ls hg hS hl
      exact lv_iload hx hb hd (lv_of hl hv) (hk h1 (okc (h1 _ hv) h2) h3 H locs ls hg hS hl)
    | lload_n i =>
      have hlen : len = 1 := eq_of_beq hlen
      subst hlen
      obtain ⟨v, hv, hr⟩ := lgetL_e hr
      have hk := ih _ _ _ _ hrest hr
      intro h1 h2 h3 H locs ls hg hS hl
      exact lv_lload_n hx hb hd rfl (lv_of hl hv) (hk h1 (okc (h1 _ hv) h2) h3 H locs ls hg hS hl)
    | lload i =>
      have hlen : len = 2 := eq_of_beq hlen
      subst hlen
      obtain ⟨v, hv, hr⟩ := lgetL_e hr
      have hk := ih _ _ _ _ hrest hr
      intro h1 h2 h3 H locs ls hg hS hl
      exact lv_lload hx hb hd (lv_of hl hv) (hk h1 (okc (h1 _ hv) h2) h3 H locs ls hg hS hl)
    | aload_n i =>
      have hlen : len = 1 := eq_of_beq hlen
      subst hlen
      obtain ⟨v, hv, hr⟩ := lgetA_e hr
      have hk := ih _ _ _ _ hrest hr
      intro h1 h2 h3 H locs ls hg hS hl
      have hk2 := hk h1 (okc (h1 _ hv) h2) h3 H locs ls hg hS hl
      have hat := lv_of hl hv
      obtain ⟨x, ex⟩ := toV_A G v
      rw [List.map_cons, ex] at hk2
      rw [ex] at hat
      exact lv_aload_n hx hb hd rfl hat hk2
    | aload i =>
      have hlen : len = 2 := eq_of_beq hlen
      subst hlen
      obtain ⟨v, hv, hr⟩ := lgetA_e hr
      have hk := ih _ _ _ _ hrest hr
      intro h1 h2 h3 H locs ls hg hS hl
      have hk2 := hk h1 (okc (h1 _ hv) h2) h3 H locs ls hg hS hl
      have hat := lv_of hl hv
      obtain ⟨x, ex⟩ := toV_A G v
      rw [List.map_cons, ex] at hk2
      rw [ex] at hat
      exact lv_aload hx hb hd hat hk2
    | istore_n i =>
      have hlen : len = 1 := eq_of_beq hlen
      subst hlen
      obtain ⟨v, r, rfl, hr⟩ := mI_e hr
      have hk := ih _ _ _ _ hrest hr
      have hxk : i.val < nL := by simpa [Nat.blt_eq] using (show Nat.blt i.val nL = true from hxk)
      intro h1 h2 h3 H locs ls hg hS hl
      exact lv_istore_n hx hb hd rfl hl hxk (tLV_lset G i.val (vi v) lv) (fun ls hl => hk (lset_ok (okt h2).1 h1) (okt h2).2 h3 H locs ls hg hS hl)
    | istore i =>
      have hlen : len = 2 := eq_of_beq hlen
      subst hlen
      obtain ⟨v, r, rfl, hr⟩ := mI_e hr
      have hk := ih _ _ _ _ hrest hr
      have hxk : i < nL := by simpa [Nat.blt_eq] using (show Nat.blt i nL = true from hxk)
      intro h1 h2 h3 H locs ls hg hS hl
      exact lv_istore hx hb hd hl hxk (tLV_lset G i (vi v) lv) (fun ls hl => hk (lset_ok (okt h2).1 h1) (okt h2).2 h3 H locs ls hg hS hl)
    | astore_n i =>
      have hlen : len = 1 := eq_of_beq hlen
      subst hlen
      obtain ⟨v, r, rfl, hr⟩ := mR_e hr
      have hk := ih _ _ _ _ hrest hr
      have hxk : i.val < nL := by simpa [Nat.blt_eq] using (show Nat.blt i.val nL = true from hxk)
      intro h1 h2 h3 H locs ls hg hS hl
      exact lv_astore_n hx hb hd rfl hl hxk (tLV_lset G i.val (vr v) lv) (fun ls hl => hk (lset_ok (okt h2).1 h1) (okt h2).2 h3 H locs ls hg hS hl)
    | astore i =>
      have hlen : len = 2 := eq_of_beq hlen
      subst hlen
      obtain ⟨v, r, rfl, hr⟩ := mR_e hr
      have hk := ih _ _ _ _ hrest hr
      have hxk : i < nL := by simpa [Nat.blt_eq] using (show Nat.blt i nL = true from hxk)
      intro h1 h2 h3 H locs ls hg hS hl
      exact lv_astore hx hb hd hl hxk (tLV_lset G i (vr v) lv) (fun ls hl => hk (lset_ok (okt h2).1 h1) (okt h2).2 h3 H locs ls hg hS hl)
    | lstore_n i =>
      have hlen : len = 1 := eq_of_beq hlen
      subst hlen
      obtain ⟨v, r, rfl, hr⟩ := mL_e hr
      have hk := ih _ _ _ _ hrest hr
      have hxk : i.val + 1 < nL := by simpa [Nat.blt_eq] using (show Nat.blt (i.val + 1) nL = true from hxk)
      intro h1 h2 h3 H locs ls hg hS hl
      exact lv_lstore_n hx hb hd rfl hl hxk (tLV_lset2 G i.val (vl v) lv) (fun ls hl => hk (lset2_ok (okt h2).1 h1) (okt h2).2 h3 H locs ls hg hS hl)
    | lstore i =>
      have hlen : len = 2 := eq_of_beq hlen
      subst hlen
      obtain ⟨v, r, rfl, hr⟩ := mL_e hr
      have hk := ih _ _ _ _ hrest hr
      have hxk : i + 1 < nL := by simpa [Nat.blt_eq] using (show Nat.blt (i + 1) nL = true from hxk)
      intro h1 h2 h3 H locs ls hg hS hl
      exact lv_lstore hx hb hd hl hxk (tLV_lset2 G i (vl v) lv) (fun ls hl => hk (lset2_ok (okt h2).1 h1) (okt h2).2 h3 H locs ls hg hS hl)
    | iinc i n =>
      have hlen : len = 3 := eq_of_beq hlen
      subst hlen
      obtain ⟨v, hv, hr⟩ := lgetI_e hr
      have hk := ih _ _ _ _ hrest hr
      have hxk : (Nat.blt i nL && decide (-128 ≤ n) && decide (n < 128)) = true := hxk
      simp only [Bool.and_eq_true, decide_eq_true_eq, Nat.blt_eq] at hxk
      intro h1 h2 h3 H locs ls hg hS hl
      obtain ⟨k, hkk⟩ := lv_idx (G := G) hv
      exact lv_iinc hx hb hd hl hkk (i_add v n) hxk.1.1 (tLV_lset G i (vi (w32 (v + n))) lv) (fun ls hl => hk (lset_ok (w32_in _) h1) h2 h3 H locs ls hg hS hl)
    | iadd =>
      have hlen : len = 1 := eq_of_beq hlen
      subst hlen
      obtain ⟨y, r, rfl, hr⟩ := mI_e hr
      obtain ⟨x, r, rfl, hr⟩ := mI_e hr
      have hk := ih _ _ _ _ hrest hr
      intro h1 h2 h3 H locs ls hg hS hl
      refine lv_iadd hx hb hd ?_
      rw [i_add]
      exact hk h1 (okc (w32_in _) (okt (okt h2).2).2) h3 H locs ls hg hS hl
    | isub =>
      have hlen : len = 1 := eq_of_beq hlen
      subst hlen
      obtain ⟨y, r, rfl, hr⟩ := mI_e hr
      obtain ⟨x, r, rfl, hr⟩ := mI_e hr
      have hk := ih _ _ _ _ hrest hr
      intro h1 h2 h3 H locs ls hg hS hl
      refine lv_isub hx hb hd ?_
      rw [i_sub]
      exact hk h1 (okc (w32_in _) (okt (okt h2).2).2) h3 H locs ls hg hS hl
    | imul =>
      have hlen : len = 1 := eq_of_beq hlen
      subst hlen
      obtain ⟨y, r, rfl, hr⟩ := mI_e hr
      obtain ⟨x, r, rfl, hr⟩ := mI_e hr
      have hk := ih _ _ _ _ hrest hr
      intro h1 h2 h3 H locs ls hg hS hl
      refine lv_imul hx hb hd ?_
      rw [i_mul]
      exact hk h1 (okc (w32_in _) (okt (okt h2).2).2) h3 H locs ls hg hS hl
    | idiv =>
      have hlen : len = 1 := eq_of_beq hlen
      subst hlen
      obtain ⟨y, r, rfl, hr⟩ := mI_e hr
      obtain ⟨x, r, rfl, hr⟩ := mI_e hr
      obtain ⟨hne, hr⟩ := mB_e hr
      have hne : ¬ y = 0 := by simpa using hne
      have hk := ih _ _ _ _ hrest hr
      intro h1 h2 h3 H locs ls hg hS hl
      refine lv_idiv hx hb hd (fun q => hne (by rw [show (0 : Int32) = Int32.ofInt 0 from rfl, i_eq (okt h2).1 inR_0] at q; exact q)) ?_
      rw [i_div (okt (okt h2).2).1 (okt h2).1]
      exact hk h1 (okc (jdiv_in _ _) (okt (okt h2).2).2) h3 H locs ls hg hS hl
    | irem =>
      have hlen : len = 1 := eq_of_beq hlen
      subst hlen
      obtain ⟨y, r, rfl, hr⟩ := mI_e hr
      obtain ⟨x, r, rfl, hr⟩ := mI_e hr
      obtain ⟨hne, hr⟩ := mB_e hr
      have hne : ¬ y = 0 := by simpa using hne
      have hk := ih _ _ _ _ hrest hr
      intro h1 h2 h3 H locs ls hg hS hl
      refine lv_irem hx hb hd (fun q => hne (by rw [show (0 : Int32) = Int32.ofInt 0 from rfl, i_eq (okt h2).1 inR_0] at q; exact q)) ?_
      rw [i_rem (okt (okt h2).2).1 (okt h2).1]
      exact hk h1 (okc (jrem_in (okt (okt h2).2).1) (okt (okt h2).2).2) h3 H locs ls hg hS hl
    | iand =>
      have hlen : len = 1 := eq_of_beq hlen
      subst hlen
      obtain ⟨y, r, rfl, hr⟩ := mI_e hr
      obtain ⟨x, r, rfl, hr⟩ := mI_e hr
      have hk := ih _ _ _ _ hrest hr
      intro h1 h2 h3 H locs ls hg hS hl
      refine lv_iand hx hb hd ?_
      rw [i_and]
      exact hk h1 (okc (jand_in _ _) (okt (okt h2).2).2) h3 H locs ls hg hS hl
    | ior =>
      have hlen : len = 1 := eq_of_beq hlen
      subst hlen
      obtain ⟨y, r, rfl, hr⟩ := mI_e hr
      obtain ⟨x, r, rfl, hr⟩ := mI_e hr
      have hk := ih _ _ _ _ hrest hr
      intro h1 h2 h3 H locs ls hg hS hl
      refine lv_ior hx hb hd ?_
      rw [i_or]
      exact hk h1 (okc (jor_in _ _) (okt (okt h2).2).2) h3 H locs ls hg hS hl
    | ishl =>
      have hlen : len = 1 := eq_of_beq hlen
      subst hlen
      obtain ⟨y, r, rfl, hr⟩ := mI_e hr
      obtain ⟨x, r, rfl, hr⟩ := mI_e hr
      have hk := ih _ _ _ _ hrest hr
      intro h1 h2 h3 H locs ls hg hS hl
      refine lv_ishl hx hb hd ?_
      rw [i_shl]
      exact hk h1 (okc (jshl_in _ _) (okt (okt h2).2).2) h3 H locs ls hg hS hl
    | ishr =>
      have hlen : len = 1 := eq_of_beq hlen
      subst hlen
      obtain ⟨y, r, rfl, hr⟩ := mI_e hr
      obtain ⟨x, r, rfl, hr⟩ := mI_e hr
      have hk := ih _ _ _ _ hrest hr
      intro h1 h2 h3 H locs ls hg hS hl
      refine lv_ishr hx hb hd ?_
      rw [i_shr]
      exact hk h1 (okc (jshr_in _ _) (okt (okt h2).2).2) h3 H locs ls hg hS hl
    | iushr =>
      have hlen : len = 1 := eq_of_beq hlen
      subst hlen
      obtain ⟨y, r, rfl, hr⟩ := mI_e hr
      obtain ⟨x, r, rfl, hr⟩ := mI_e hr
      have hk := ih _ _ _ _ hrest hr
      intro h1 h2 h3 H locs ls hg hS hl
      exact lv_iushr hx hb hd (i_ushr x y) (hk h1 (okc (jushr_in _ _) (okt (okt h2).2).2) h3 H locs ls hg hS hl)
    | ladd =>
      have hlen : len = 1 := eq_of_beq hlen
      subst hlen
      obtain ⟨y, r, rfl, hr⟩ := mL_e hr
      obtain ⟨x, r, rfl, hr⟩ := mL_e hr
      have hk := ih _ _ _ _ hrest hr
      intro h1 h2 h3 H locs ls hg hS hl
      refine lv_ladd hx hb hd ?_
      rw [l_add]
      exact hk h1 (okc (w64_in _) (okt (okt h2).2).2) h3 H locs ls hg hS hl
    | lmul =>
      have hlen : len = 1 := eq_of_beq hlen
      subst hlen
      obtain ⟨y, r, rfl, hr⟩ := mL_e hr
      obtain ⟨x, r, rfl, hr⟩ := mL_e hr
      have hk := ih _ _ _ _ hrest hr
      intro h1 h2 h3 H locs ls hg hS hl
      refine lv_lmul hx hb hd ?_
      rw [l_mul]
      exact hk h1 (okc (w64_in _) (okt (okt h2).2).2) h3 H locs ls hg hS hl
    | ldiv =>
      have hlen : len = 1 := eq_of_beq hlen
      subst hlen
      obtain ⟨y, r, rfl, hr⟩ := mL_e hr
      obtain ⟨x, r, rfl, hr⟩ := mL_e hr
      obtain ⟨hne, hr⟩ := hr
      have hk := ih _ _ _ _ hrest hr
      intro h1 h2 h3 H locs ls hg hS hl
      refine lv_ldiv hx hb hd (fun q => hne (by rw [show (0 : Int64) = Int64.ofInt 0 from rfl, l_eq (okt h2).1 inL_0] at q; exact q)) ?_
      rw [l_div (okt (okt h2).2).1 (okt h2).1]
      exact hk h1 (okc (jldiv_in _ _) (okt (okt h2).2).2) h3 H locs ls hg hS hl
    | lrem =>
      have hlen : len = 1 := eq_of_beq hlen
      subst hlen
      obtain ⟨y, r, rfl, hr⟩ := mL_e hr
      obtain ⟨x, r, rfl, hr⟩ := mL_e hr
      obtain ⟨hne, hr⟩ := hr
      have hk := ih _ _ _ _ hrest hr
      intro h1 h2 h3 H locs ls hg hS hl
      refine lv_lrem hx hb hd (fun q => hne (by rw [show (0 : Int64) = Int64.ofInt 0 from rfl, l_eq (okt h2).1 inL_0] at q; exact q)) ?_
      rw [l_rem (okt (okt h2).2).1 (okt h2).1]
      exact hk h1 (okc (jlrem_in (okt (okt h2).2).1) (okt (okt h2).2).2) h3 H locs ls hg hS hl
    | lcmp =>
      have hlen : len = 1 := eq_of_beq hlen
      subst hlen
      obtain ⟨y, r, rfl, hr⟩ := mL_e hr
      obtain ⟨x, r, rfl, hr⟩ := mL_e hr
      have hk := ih _ _ _ _ hrest hr
      intro h1 h2 h3 H locs ls hg hS hl
      refine W.lcmp hx hb hd ?_
      rw [i_cmp (okt (okt h2).2).1 (okt h2).1]
      exact hk h1 (okc (jlcmp_in _ _) (okt (okt h2).2).2) h3 H locs ls hg hS hl
    | ineg =>
      have hlen : len = 1 := eq_of_beq hlen
      subst hlen
      obtain ⟨x, r, rfl, hr⟩ := mI_e hr
      have hk := ih _ _ _ _ hrest hr
      intro h1 h2 h3 H locs ls hg hS hl
      refine lv_ineg hx hb hd ?_
      rw [i_neg]
      exact hk h1 (okc (w32_in _) (okt h2).2) h3 H locs ls hg hS hl
    | i2l =>
      have hlen : len = 1 := eq_of_beq hlen
      subst hlen
      obtain ⟨x, r, rfl, hr⟩ := mI_e hr
      have hk := ih _ _ _ _ hrest hr
      intro h1 h2 h3 H locs ls hg hS hl
      exact lv_i2l hx hb hd (i_i2l (okt h2).1) (hk h1 (okc (inR_L (okt h2).1) (okt h2).2) h3 H locs ls hg hS hl)
    | i2b =>
      have hlen : len = 1 := eq_of_beq hlen
      subst hlen
      obtain ⟨x, r, rfl, hr⟩ := mI_e hr
      have hk := ih _ _ _ _ hrest hr
      intro h1 h2 h3 H locs ls hg hS hl
      exact lv_i2b hx hb hd (i_i2b (okt h2).1) (hk h1 (okc (w8_in _) (okt h2).2) h3 H locs ls hg hS hl)
    | i2s =>
      have hlen : len = 1 := eq_of_beq hlen
      subst hlen
      obtain ⟨x, r, rfl, hr⟩ := mI_e hr
      have hk := ih _ _ _ _ hrest hr
      intro h1 h2 h3 H locs ls hg hS hl
      exact lv_i2s hx hb hd (i_i2s (okt h2).1) (hk h1 (okc (w16_in _) (okt h2).2) h3 H locs ls hg hS hl)
    | dup =>
      have hlen : len = 1 := eq_of_beq hlen
      subst hlen
      obtain ⟨x, r, rfl, hr⟩ := mA_e hr
      obtain ⟨hc1, hr⟩ := mB_e hr
      have hk := ih _ _ _ _ hrest hr
      intro h1 h2 h3 H locs ls hg hS hl
      exact lv_dup hx hb hd (by rw [toV_cat]; exact eq_of_beq hc1) (hk h1 (okc (okt h2).1 h2) h3 H locs ls hg hS hl)
    | dup2 =>
      have hlen : len = 1 := eq_of_beq hlen
      subst hlen
      obtain ⟨y, r, rfl, hr⟩ := mA_e hr
      obtain ⟨x, r, rfl, hr⟩ := mA_e hr
      obtain ⟨hc1, hr⟩ := mB_e hr
      rw [Bool.and_eq_true] at hc1
      have hk := ih _ _ _ _ hrest hr
      intro h1 h2 h3 H locs ls hg hS hl
      exact lv_dup2_11 hx hb hd (by rw [toV_cat]; exact eq_of_beq hc1.2) (by rw [toV_cat]; exact eq_of_beq hc1.1) (hk h1 (okc (okt h2).1 (okc (okt (okt h2).2).1 h2)) h3 H locs ls hg hS hl)
    | pop =>
      have hlen : len = 1 := eq_of_beq hlen
      subst hlen
      obtain ⟨x, r, rfl, hr⟩ := mA_e hr
      obtain ⟨hc1, hr⟩ := mB_e hr
      have hk := ih _ _ _ _ hrest hr
      intro h1 h2 h3 H locs ls hg hS hl
      exact lv_pop hx hb hd (by rw [toV_cat]; exact eq_of_beq hc1) (hk h1 (okt h2).2 h3 H locs ls hg hS hl)
    | goto off =>
      have hxk : (pc : Int) + off = (a : Nat) := of_decide_eq_true hxk
      have hlen : len = 3 := eq_of_beq hlen
      subst hlen
      intro h1 h2 h3 H locs ls hg hS hl
      exact lv_goto hx hb hd hxk (V_jump (show mV G p l e R s m args below meth c Q nL c0 s0 a (lpick lb a lv) st h from hr) h1 h2 h3 H locs ls hg hS hl)
    | ifCond cd off =>
      have hjm : (pc : Int) + off = (a : Nat) := of_decide_eq_true hxk
      have hlen : len = 3 := eq_of_beq hlen
      subst hlen
      obtain ⟨x, r, rfl, hr⟩ := mI_e hr
      have hr1 : mcmp cd x 0 → mV G p l e R s m args below meth c Q nL c0 s0 a lv r h := fun q => V_jump (hr.1 q)
      have hr2 : ¬ mcmp cd x 0 → mV G p l e R s m args below meth c Q nL c0 s0 (pc + 3) lv r h := fun q => ih _ _ _ _ hrest (hr.2 q)
      intro h1 h2 h3 H locs ls hg hS hl
      have hxx : inR x := (okt h2).1
      have e0 : (0 : Int32) = Int32.ofInt 0 := rfl
      cases cd with
      | eq => exact lv_if_eq hx hb hd hjm (fun q => hr1 (by rw [e0, i_eq hxx inR_0] at q; exact q) h1 (okt h2).2 h3 H locs ls hg hS hl) (fun q => hr2 (by rw [e0, i_eq hxx inR_0] at q; exact q) h1 (okt h2).2 h3 H locs ls hg hS hl)
      | ne => exact lv_if_ne hx hb hd hjm (fun q => hr1 (by rw [e0, i_eq hxx inR_0] at q; exact q) h1 (okt h2).2 h3 H locs ls hg hS hl) (fun q => hr2 (by rw [e0, i_eq hxx inR_0] at q; exact fun w => w q) h1 (okt h2).2 h3 H locs ls hg hS hl)
      | lt => exact lv_if_lt hx hb hd hjm (fun q => hr1 (by rw [e0, i_lt hxx inR_0] at q; exact q) h1 (okt h2).2 h3 H locs ls hg hS hl) (fun q => hr2 (by rw [e0, i_lt hxx inR_0] at q; exact q) h1 (okt h2).2 h3 H locs ls hg hS hl)
      | ge => exact lv_if_ge hx hb hd hjm (fun q => hr1 (by rw [e0, i_le inR_0 hxx] at q; exact q) h1 (okt h2).2 h3 H locs ls hg hS hl) (fun q => hr2 (by rw [e0, i_le inR_0 hxx] at q; exact q) h1 (okt h2).2 h3 H locs ls hg hS hl)
      | gt => exact lv_if_gt hx hb hd hjm (fun q => hr1 (by rw [e0, i_lt inR_0 hxx] at q; exact q) h1 (okt h2).2 h3 H locs ls hg hS hl) (fun q => hr2 (by rw [e0, i_lt inR_0 hxx] at q; exact q) h1 (okt h2).2 h3 H locs ls hg hS hl)
      | le => exact lv_if_le hx hb hd hjm (fun q => hr1 (by rw [e0, i_le hxx inR_0] at q; exact q) h1 (okt h2).2 h3 H locs ls hg hS hl) (fun q => hr2 (by rw [e0, i_le hxx inR_0] at q; exact q) h1 (okt h2).2 h3 H locs ls hg hS hl)
    | if_icmp cd off =>
      have hjm : (pc : Int) + off = (a : Nat) := of_decide_eq_true hxk
      have hlen : len = 3 := eq_of_beq hlen
      subst hlen
      obtain ⟨y, r, rfl, hr⟩ := mI_e hr
      obtain ⟨x, r, rfl, hr⟩ := mI_e hr
      have hr1 : mcmp cd x y → mV G p l e R s m args below meth c Q nL c0 s0 a lv r h := fun q => V_jump (hr.1 q)
      have hr2 : ¬ mcmp cd x y → mV G p l e R s m args below meth c Q nL c0 s0 (pc + 3) lv r h := fun q => ih _ _ _ _ hrest (hr.2 q)
      intro h1 h2 h3 H locs ls hg hS hl
      have hyy : inR y := (okt h2).1
      have hxx : inR x := (okt (okt h2).2).1
      have h2 := (okt (okt h2).2).2
      cases cd with
      | eq => exact lv_icmp_eq hx hb hd hjm (fun q => hr1 (by rw [i_eq hxx hyy] at q; exact q) h1 h2 h3 H locs ls hg hS hl) (fun q => hr2 (by rw [i_eq hxx hyy] at q; exact q) h1 h2 h3 H locs ls hg hS hl)
      | ne => exact lv_icmp_ne hx hb hd hjm (fun q => hr1 (by rw [i_eq hxx hyy] at q; exact q) h1 h2 h3 H locs ls hg hS hl) (fun q => hr2 (by rw [i_eq hxx hyy] at q; exact fun w => w q) h1 h2 h3 H locs ls hg hS hl)
      | lt => exact lv_icmp_lt hx hb hd hjm (fun q => hr1 (by rw [i_lt hxx hyy] at q; exact q) h1 h2 h3 H locs ls hg hS hl) (fun q => hr2 (by rw [i_lt hxx hyy] at q; exact q) h1 h2 h3 H locs ls hg hS hl)
      | ge => exact lv_icmp_ge hx hb hd hjm (fun q => hr1 (by rw [i_le hyy hxx] at q; exact q) h1 h2 h3 H locs ls hg hS hl) (fun q => hr2 (by rw [i_le hyy hxx] at q; exact q) h1 h2 h3 H locs ls hg hS hl)
      | gt => exact lv_icmp_gt hx hb hd hjm (fun q => hr1 (by rw [i_lt hyy hxx] at q; exact q) h1 h2 h3 H locs ls hg hS hl) (fun q => hr2 (by rw [i_lt hyy hxx] at q; exact q) h1 h2 h3 H locs ls hg hS hl)
      | le => exact lv_icmp_le hx hb hd hjm (fun q => hr1 (by rw [i_le hxx hyy] at q; exact q) h1 h2 h3 H locs ls hg hS hl) (fun q => hr2 (by rw [i_le hxx hyy] at q; exact q) h1 h2 h3 H locs ls hg hS hl)
    | tableswitch df lo hi offs =>
      have hxk : (decide (lo = 0) && decide (hi = (ts.length : Int) - 1) && decide ((pc : Int) + df = (a : Nat)) && decide (offs.toList.map (fun o => (pc : Int) + o) = ts.map (fun t => ((t : Nat) : Int))) && Nat.blt ts.length 100) = true := hxk
      simp only [Bool.and_eq_true, decide_eq_true_eq, Nat.blt_eq] at hxk
      obtain ⟨⟨⟨⟨rfl, rfl⟩, hdf⟩, hoffs⟩, hn⟩ := hxk
      obtain ⟨x, r, rfl, hr⟩ := mI_e hr
      intro h1 h2 h3 H locs ls hg hS hl
      have hxx : inR x := (okt h2).1
      by_cases hin : x < 0 ∨ (ts.length : Int) ≤ x
      · exact lv_tableOut hx hb hd (by rw [i_to hxx]; omega) hdf (V_jump (hr.2 hin) h1 (okt h2).2 h3 H locs ls hg hS hl)
      · have hlt : x.toNat < ts.length := by omega
        obtain ⟨t, ht⟩ : ∃ t, ts[x.toNat]? = some t := ⟨_, List.getElem?_eq_getElem hlt⟩
        have hV : mV G p l e R s m args below meth c Q nL c0 s0 t lv r h := V_jump (swP_at ts 0 x.toNat t hr.1 ht (by omega))
        have ho : ∃ off, offs[x.toNat]? = some off ∧ (pc : Int) + off = (t : Nat) := by
          have h5 : (offs.toList.map (fun o => (pc : Int) + o))[x.toNat]? = (ts.map (fun t => ((t : Nat) : Int)))[x.toNat]? := by rw [hoffs]
          rw [List.getElem?_map, List.getElem?_map, ht] at h5
          cases ho : offs.toList[x.toNat]? with
          | none => rw [ho] at h5; cases h5
          | some off =>
            rw [ho] at h5
            refine ⟨off, ?_, Option.some.inj h5⟩
            rw [← Array.getElem?_toList]
            exact ho
        obtain ⟨off, ho1, ho2⟩ := ho
        exact lv_tableIn hx hb hd (by rw [i_to hxx]; omega) (by rw [i_to hxx]; omega) (by rw [i_to hxx, Int.sub_zero]; exact ho1) ho2 (hV h1 (okt h2).2 h3 H locs ls hg hS hl)
    | getfield idx =>
      have hlen : len = 3 := eq_of_beq hlen
      subst hlen
      have hxk : (lkF own idx a b && ((z == 1) == nRf a b)) = true := hxk
      rw [Bool.and_eq_true] at hxk
      obtain ⟨k, r, rfl, hr⟩ := mR_e hr
      obtain ⟨n, ht, hr⟩ := mTag_e hr
      have hz : (z == 1) = nRf a b := eq_of_beq hxk.2
      cases hq : nRf a b with
      | true =>
        rw [hz, hq] at hr
        obtain ⟨t, hrf, hr⟩ := mRef_e hr
        exact V_getR X hxk.1 hq ht hrf hd (ih _ _ _ _ hrest hr)
      | false =>
        rw [hz, hq] at hr
        exact V_getI X hxk.1 hq ht hd (ih _ _ _ _ hrest hr)
    | putfield idx =>
      have hlen : len = 3 := eq_of_beq hlen
      subst hlen
      have hxk : (lkF own idx a b && ((z == 1) == nRf a b) && (z == 1 || ((z == 2) == ((nFk a b).2.1 == "Z"))) && (!(z == 1) || (ini && own == a))) = true := hxk
      simp only [Bool.and_eq_true] at hxk
      have hz : (z == 1) = nRf a b := eq_of_beq hxk.1.1.2
      have hr' : (bif z == 1 then (mR st fun v r => mR r fun k r => mTag h.1 k (a + 3) fun _ => mB (v.blt h.1.1.length) (mrun cal lb lim scr ret (mV G p l e R s m args below meth c Q nL c0 s0) rows (pc + 3) lv r ((h.1.1, ((k, b), v) :: h.1.2), h.2))) else (mI st fun v r => mR r fun k r => mTag h.1 k (a + 3) fun _ => bif z == 2 then mBo v (mrun cal lb lim scr ret (mV G p l e R s m args below meth c Q nL c0 s0) rows (pc + 3) lv r (h.1, mupd h.2 k (b : Nat) v)) else mrun cal lb lim scr ret (mV G p l e R s m args below meth c Q nL c0 s0) rows (pc + 3) lv r (h.1, mupd h.2 k (b : Nat) v))) := hr
      clear hr
      cases hq : nRf a b with
      | true =>
        rw [hz, hq] at hr'
        obtain ⟨v, r, rfl, hr⟩ := mR_e hr'
        obtain ⟨k, r, rfl, hr⟩ := mR_e hr
        obtain ⟨n, ht, hr⟩ := mTag_e hr
        obtain ⟨-, hr⟩ := mB_e hr
        have h6 := hxk.2
        rw [hz, hq] at h6
        simp only [Bool.not_true, Bool.false_or, Bool.and_eq_true] at h6
        exact V_putR X hxk.1.1.1 hq h6.1 (eq_of_beq h6.2) ht hd (ih _ _ _ _ hrest hr)
      | false =>
        have h6 := hxk.1.2
        rw [hz, hq] at hr' h6
        simp only [Bool.false_or] at h6
        obtain ⟨v, r, rfl, hr⟩ := mI_e hr'
        obtain ⟨k, r, rfl, hr⟩ := mR_e hr
        obtain ⟨n, ht, hr⟩ := mTag_e hr
        have h7 : (z == 2) = ((nFk a b).2.1 == "Z") := eq_of_beq h6
        cases hz2 : (z == 2) with
        | true =>
          rw [hz2] at hr
          obtain ⟨h8, hr⟩ := mBo_e hr
          exact V_putI X hxk.1.1.1 hq (fun _ => h8) ht hd (ih _ _ _ _ hrest hr)
        | false =>
          rw [hz2] at hr h7
          refine V_putI X hxk.1.1.1 hq (fun q => ?_) ht hd (ih _ _ _ _ hrest hr)
          rw [q] at h7
          cases h7
    | iaload =>
      have hlen : len = 1 := eq_of_beq hlen
      subst hlen
      obtain ⟨i, r, rfl, hr⟩ := mI_e hr
      rcases r with _ | ⟨v, r⟩
      · exact hr.elim
      · rcases v with v | v | k | q
        · exact hr.elim
        · exact hr.elim
        · obtain ⟨n, ht, hr⟩ := mTag_e hr
          obtain ⟨hi, hr⟩ := mIn_e hr
          exact V_iald X ht hi.1 hi.2 hd (ih _ _ _ _ hrest hr)
        · cases q with
          | succ q => exact hr.elim
          | zero =>
            obtain ⟨hi, hr⟩ := mIn_e hr
            have hk := ih _ _ _ _ hrest hr
            rcases X.2.2.2.2.2.2 with h0 | ⟨hX, hgb, hsc⟩
            · rw [h0] at hi
              omega
            · intro h1 h2 h3 H locs ls hg hS hl
              have hii : inR i := (okt h2).1
              have hbA : ¬ gA G (gB G) := fun q => by unfold gA at q; omega
              refine va_sld hx hb hX (Nat.lt_of_lt_of_le hgb X.2.2.1.1) hbA hS (i_in hii hi.1 hi.2) hd ?_
              have hk2 := hk h1 (okc (hsc.1 _) (okt (okt h2).2).2) h3 H locs ls hg hS hl
              show W p l e R s m args below meth c H locs (h.1.1.length - c0) (mtot h.1.1 - s0) Q (F0 m (pc + 1) ls (.int (Int32.ofInt (scr.2 (Int32.ofInt i).toNatClampNeg)) :: r.map (toV G)))
              rw [i_clamp hii]
              exact hk2
    | baload =>
      have hlen : len = 1 := eq_of_beq hlen
      subst hlen
      obtain ⟨i, r, rfl, hr⟩ := mI_e hr
      obtain ⟨k, r, rfl, hr⟩ := mR_e hr
      obtain ⟨n, ht, hr⟩ := mTag_e hr
      obtain ⟨hi, hr⟩ := mIn_e hr
      exact V_zald X ht hi.1 hi.2 hd (ih _ _ _ _ hrest hr)
    | iastore =>
      have hlen : len = 1 := eq_of_beq hlen
      subst hlen
      obtain ⟨v, r, rfl, hr⟩ := mI_e hr
      obtain ⟨i, r, rfl, hr⟩ := mI_e hr
      obtain ⟨k, r, rfl, hr⟩ := mR_e hr
      obtain ⟨n, ht, hr⟩ := mTag_e hr
      obtain ⟨hi, hr⟩ := mIn_e hr
      exact V_iast X ht hi.1 hi.2 hd (ih _ _ _ _ hrest hr)
    | bastore =>
      have hlen : len = 1 := eq_of_beq hlen
      subst hlen
      obtain ⟨v, r, rfl, hr⟩ := mI_e hr
      obtain ⟨i, r, rfl, hr⟩ := mI_e hr
      obtain ⟨k, r, rfl, hr⟩ := mR_e hr
      obtain ⟨n, ht, hr⟩ := mTag_e hr
      obtain ⟨hi, hr⟩ := mIn_e hr
      obtain ⟨hv, hr⟩ := mBo_e hr
      exact V_zast X ht hi.1 hi.2 hv hd (ih _ _ _ _ hrest hr)
    | aaload =>
      have hlen : len = 1 := eq_of_beq hlen
      subst hlen
      obtain ⟨i, r, rfl, hr⟩ := mI_e hr
      obtain ⟨k, r, rfl, hr⟩ := mR_e hr
      obtain ⟨n, ht, hr⟩ := mTag_e hr
      obtain ⟨hi, t, htt, hr⟩ := mIn_e hr
      exact V_aald X ht hi.1 hi.2 htt hd (ih _ _ _ _ hrest hr)
    | aastore =>
      have hlen : len = 1 := eq_of_beq hlen
      subst hlen
      obtain ⟨v, r, rfl, hr⟩ := mR_e hr
      obtain ⟨i, r, rfl, hr⟩ := mI_e hr
      obtain ⟨k, r, rfl, hr⟩ := mR_e hr
      obtain ⟨n, ht, hr⟩ := mTag_e hr
      obtain ⟨nv, hv, hr⟩ := mTag_e hr
      obtain ⟨hi, hr⟩ := mIn_e hr
      exact V_aast X ht hv hi.1 hi.2 hd (ih _ _ _ _ hrest hr)
    | arraylength =>
      have hlen : len = 1 := eq_of_beq hlen
      subst hlen
      rcases st with _ | ⟨v, r⟩
      · exact hr.elim
      · rcases v with v | v | k | q
        · exact hr.elim
        · exact hr.elim
        · obtain ⟨n, ht, hr⟩ := mTag_e hr
          have hk := ih _ _ _ _ hrest hr
          intro h1 h2 h3 H locs ls hg hS hl
          have hn1 : n ≤ 1000 := hg.2.1.2.2 _ (List.mem_of_getElem? ht)
          have hn : inR ((n : Nat) : Int) := by unfold inR; omega
          refine va_alen hx hb hG.1 hg.1 k 0 (mW_at ht) (ty := .int) rfl (v := Int32.ofInt ((n : Nat) : Int)) ?_ hd (hk h1 (okc hn (okt h2).2) h3 H locs ls hg hS hl)
          show Int32.ofNat n = _
          exact (Int32.ofInt_eq_ofNat).symm
        · cases q with
          | succ q => exact hr.elim
          | zero =>
            obtain ⟨hb0, hr⟩ := mB_e hr
            have hk := ih _ _ _ _ hrest hr
            rcases X.2.2.2.2.2.2 with h0 | ⟨hX, hgb, hsc⟩
            · rw [h0] at hb0
              cases hb0
            · intro h1 h2 h3 H locs ls hg hS hl
              have hbA : ¬ gA G (gB G) := fun q => by unfold gA at q; omega
              have hn : inR ((scr.1 - 1 : Nat) : Int) := by have := hsc.2; unfold inR; omega
              refine va_slen hx hb hX (Nat.lt_of_lt_of_le hgb X.2.2.1.1) hbA hS hd ?_
              have hk2 := hk h1 (okc hn (okt h2).2) h3 H locs ls hg hS hl
              rw [show Int32.ofNat (scr.1 - 1) = Int32.ofInt ((scr.1 - 1 : Nat) : Int) from (Int32.ofInt_eq_ofNat).symm]
              exact hk2
    | new idx =>
      have hlen : len = 3 := eq_of_beq hlen
      subst hlen
      have hxk : (lkC own idx a && b == nN a) = true := hxk
      rw [Bool.and_eq_true] at hxk
      have hb2 := eq_of_beq hxk.2
      subst hb2
      exact V_new X hxk.1 hr.1 hd (ih _ _ _ _ hrest hr.2)
    | newarray t =>
      have hlen : len = 2 := eq_of_beq hlen
      subst hlen
      have hxk : ((a == 0 && decide (t = .int)) || (a == 1 && decide (t = .boolean))) = true := hxk
      simp only [Bool.or_eq_true, Bool.and_eq_true, decide_eq_true_eq] at hxk
      obtain ⟨n, r, rfl, hr⟩ := mI_e hr
      rcases hxk with ⟨e1, rfl⟩ | ⟨e1, rfl⟩
      · have e1 := eq_of_beq e1
        subst e1
        exact V_newI X ⟨hr.1.1, hr.1.2.1⟩ hr.1.2.2 hd (ih _ _ _ _ hrest hr.2)
      · have e1 := eq_of_beq e1
        subst e1
        exact V_newZ X ⟨hr.1.1, hr.1.2.1⟩ hr.1.2.2 hd (ih _ _ _ _ hrest hr.2)
    | anewarray idx =>
      have hlen : len = 3 := eq_of_beq hlen
      subst hlen
      obtain ⟨n, r, rfl, hr⟩ := mI_e hr
      exact V_newS X hxk ⟨hr.1.1, hr.1.2.1⟩ hr.1.2.2 hd (ih _ _ _ _ hrest hr.2)
    | invokespecial idx =>
      have hlen : len = 3 := eq_of_beq hlen
      subst hlen
      have hxk' : (bif a == 9000 then (lOb.lookup (own, idx)).isSome else ((lkM own idx a || lkN own idx a) && mInitL.contains a && !mStc a && b == npar a + 1 && Nat.blt a 191 && decide (mRt a = none) && nNeed a == 0)) = true := hxk
      have hr' : (bif a == 9000 then (mR st fun _ r => mB (Nat.ble (r.map mcat).sum 8) (mrun cal lb lim scr ret (mV G p l e R s m args below meth c Q nL c0 s0) rows (pc + 3) lv r h)) else mB (Nat.ble b st.length && Nat.ble ((st.drop b).map mcat).sum 8 && rcvOK h.1 (st.drop (b - 1)) ts) (∃ h', cal a (st.take b).reverse h (none, h') ∧ (h'.1.1.length ≤ lim.1 ∧ mtot h'.1.1 ≤ lim.2 ∧ h.1.1.length ≤ h'.1.1.length ∧ mtot h.1.1 ≤ mtot h'.1.1) ∧ mrun cal lb lim scr ret (mV G p l e R s m args below meth c Q nL c0 s0) rows (pc + 3) lv (st.drop b) h')) := hr
      clear hr
      cases hq : (a == 9000) with
      | true =>
        rw [hq] at hxk' hr'
        obtain ⟨k, r, rfl, hr⟩ := mR_e hr'
        obtain ⟨h8, hr⟩ := mB_e hr
        exact V_obj X hxk' (Nat.le_of_ble_eq_true h8) hd (ih _ _ _ _ hrest hr)
      | false =>
        rw [hq] at hxk' hr'
        simp only [cond_false, Bool.and_eq_true, decide_eq_true_eq, Nat.blt_eq, Bool.not_eq_true'] at hxk'
        obtain ⟨⟨⟨⟨⟨⟨hlk, hin⟩, hsc⟩, hbb⟩, ha⟩, hrt⟩, hnn⟩ := hxk'
        have hbb := eq_of_beq hbb
        subst hbb
        obtain ⟨h8, h', hc1, hcap, hr⟩ := mB_e hr'
        simp only [Bool.and_eq_true] at h8
        have hk : ∃ k, (st.drop (npar a)).head? = some (vr k) := by
          have h9 := h8.2
          unfold rcvOK at h9
          split at h9
          · rename_i k rr heq
            exact ⟨k, by rw [show npar a = npar a + 1 - 1 from rfl, heq]; rfl⟩
          · cases h9
        obtain ⟨k, hk⟩ := hk
        exact V_callI X (hcal a _ h _ hc1 (by rw [eq_of_beq hnn]; omega)) hlk hsc hin ha hrt hcap (Nat.le_of_ble_eq_true h8.1.1) hk (Nat.le_of_ble_eq_true h8.1.2) hd (ih _ _ _ _ hrest hr)
    | invokevirtual idx =>
      have hlen : len = 3 := eq_of_beq hlen
      subst hlen
      obtain ⟨h8, hr2⟩ := mB_e hr
      clear hr
      simp only [Bool.and_eq_true] at h8
      have hxk' : (bif decide (z < 3) then (lkM own idx a && !mStc a && !(mInitL.contains a) && b == npar a + 1 && ts == [mOw a + 3] && Nat.blt a 191 && (nNeed a == 0 || Nat.blt (nNeed a) nd)) else bif z == 5 then (lkS own idx 15 && b == 1 && Nat.ble 5 nd) else (lkS own idx 16 && b == 2 && Nat.ble 5 nd)) = true := hxk
      have key : ∀ (rr : Option mVal) (m' : mMem), decide (z < 3) = true → rcvOK h.1 (st.drop (b - 1)) ts = true → cal a (st.take b).reverse h (rr, (h.1, m')) → mrun cal lb lim scr ret (mV G p l e R s m args below meth c Q nL c0 s0) rows (pc + 3) lv (rr.toList ++ st.drop b) (h.1, m') → mV G p l e R s m args below meth c Q nL c0 s0 pc lv st h := by
        intro rr m' hz hrc hc1 hr
        rw [hz] at hxk'
        simp only [cond_true, Bool.and_eq_true, Bool.or_eq_true, Nat.blt_eq, Bool.not_eq_true'] at hxk'
        obtain ⟨⟨⟨⟨⟨⟨hlk, hsc⟩, hin⟩, hbb⟩, htt⟩, ha⟩, hnn⟩ := hxk'
        have hbb := eq_of_beq hbb
        subst hbb
        have htt := eq_of_beq htt
        subst htt
        obtain ⟨k, nk, hk, ht⟩ := rcv_e hrc
        have hned : nNeed a ≤ d := by
          rcases hnn with q | q
          · rw [eq_of_beq q]; omega
          · omega
        exact V_callV X (hcal a _ h _ hc1 hned) rfl hlk hsc hin ha (Nat.le_of_ble_eq_true h8.1) hk ht (Nat.le_of_ble_eq_true h8.2) hd (ih _ _ _ _ hrest hr)
      split at hr2
      · obtain ⟨hrc, m', hc1, hr⟩ := mB_e hr2
        exact key none m' (by decide) hrc hc1 hr
      · obtain ⟨hrc, v, m', hc1, hr⟩ := mB_e hr2
        exact key (some (vi v)) m' (by decide) hrc hc1 hr
      · obtain ⟨hrc, v, m', hc1, hr⟩ := mB_e hr2
        exact key (some (vl v)) m' (by decide) hrc hc1 hr
      · have hxk2 : (lkS own idx 15 && b == 1 && Nat.ble 5 nd) = true := hxk'
        simp only [Bool.and_eq_true] at hxk2
        have hbb := eq_of_beq hxk2.1.2
        subst hbb
        split at hr2
        · rename_i i r
          have h5 := Nat.le_of_ble_eq_true hxk2.2
          exact V_len X hstr (by omega) hxk2.1.1 (Nat.le_of_ble_eq_true h8.2) hd (ih _ _ _ _ hrest hr2)
        · exact hr2.elim
      · have hxk2 : (lkS own idx 16 && b == 2 && Nat.ble 5 nd) = true := hxk'
        simp only [Bool.and_eq_true] at hxk2
        have hbb := eq_of_beq hxk2.1.2
        subst hbb
        split at hr2
        · rename_i j i r
          obtain ⟨hj, hr⟩ := mIn_e hr2
          have h5 := Nat.le_of_ble_eq_true hxk2.2
          exact V_chr X hstr (by omega) hxk2.1.1 (Nat.le_of_ble_eq_true h8.2) hj.1 hj.2 hd (ih _ _ _ _ hrest hr)
        · exact hr2.elim
      · exact hr2.elim
    | invokestatic idx =>
      have hlen : len = 3 := eq_of_beq hlen
      subst hlen
      obtain ⟨h8, hr2⟩ := mB_e hr
      clear hr
      simp only [Bool.and_eq_true] at h8
      have hxk' : (bif decide (z < 3) then (lkM own idx a && mStc a && b == npar a && Nat.blt a 191 && (nNeed a == 0 || Nat.blt (nNeed a) nd)) else (lkS own idx z.toNat && (b == bif z == 3 then 5 else 2))) = true := hxk
      have key : ∀ (rr : Option mVal) (m' : mMem), decide (z < 3) = true → cal a (st.take b).reverse h (rr, (h.1, m')) → mrun cal lb lim scr ret (mV G p l e R s m args below meth c Q nL c0 s0) rows (pc + 3) lv (rr.toList ++ st.drop b) (h.1, m') → mV G p l e R s m args below meth c Q nL c0 s0 pc lv st h := by
        intro rr m' hz hc1 hr
        rw [hz] at hxk'
        simp only [cond_true, Bool.and_eq_true, Bool.or_eq_true, Nat.blt_eq] at hxk'
        obtain ⟨⟨⟨⟨hlk, hsc⟩, hbb⟩, ha⟩, hnn⟩ := hxk'
        have hbb := eq_of_beq hbb
        subst hbb
        have hned : nNeed a ≤ d := by
          rcases hnn with q | q
          · rw [eq_of_beq q]; omega
          · omega
        exact V_callS X (hcal a _ h _ hc1 hned) rfl hlk hsc ha (Nat.le_of_ble_eq_true h8.1) (Nat.le_of_ble_eq_true h8.2) hd (ih _ _ _ _ hrest hr)
      split at hr2
      · obtain ⟨m', hc1, hr⟩ := hr2
        exact key none m' (by decide) hc1 hr
      · obtain ⟨v, m', hc1, hr⟩ := hr2
        exact key (some (vi v)) m' (by decide) hc1 hr
      · obtain ⟨v, m', hc1, hr⟩ := hr2
        exact key (some (vl v)) m' (by decide) hc1 hr
      · have hxk2 : (lkS own idx 3 && b == 5) = true := hxk'
        rw [Bool.and_eq_true] at hxk2
        have hbb := eq_of_beq hxk2.2
        subst hbb
        obtain ⟨n, r1, rfl, hr3⟩ := mI_e hr2
        obtain ⟨dp, r2, rfl, hr4⟩ := mI_e hr3
        obtain ⟨ds, r3, rfl, hr5⟩ := mR_e hr4
        obtain ⟨sp, r4, rfl, hr6⟩ := mI_e hr5
        obtain ⟨sr, r5, rfl, hr7⟩ := mR_e hr6
        obtain ⟨ns, hns, hr8⟩ := mTag_e hr7
        obtain ⟨nds, hnds, hr9⟩ := mTag_e hr8
        exact V_copy X hxk2.1 hns hnds hr9.1 (Nat.le_of_ble_eq_true h8.2) hd (ih _ _ _ _ hrest hr9.2)
      · have hxk2 : (lkS own idx 4 && b == 2) = true := hxk'
        rw [Bool.and_eq_true] at hxk2
        have hbb := eq_of_beq hxk2.2
        subst hbb
        obtain ⟨y, r, rfl, hr⟩ := mI_e hr2
        obtain ⟨x, r, rfl, hr⟩ := mI_e hr
        exact V_min X hxk2.1 (Nat.le_of_ble_eq_true h8.2) hd (ih _ _ _ _ hrest hr)
      · have hxk2 : (lkS own idx 5 && b == 2) = true := hxk'
        rw [Bool.and_eq_true] at hxk2
        have hbb := eq_of_beq hxk2.2
        subst hbb
        obtain ⟨y, r, rfl, hr⟩ := mI_e hr2
        obtain ⟨x, r, rfl, hr⟩ := mI_e hr
        exact V_max X hxk2.1 (Nat.le_of_ble_eq_true h8.2) hd (ih _ _ _ _ hrest hr)
      · have hxk2 : (lkS own idx 6 && b == 2) = true := hxk'
        rw [Bool.and_eq_true] at hxk2
        have hbb := eq_of_beq hxk2.2
        subst hbb
        obtain ⟨y, r, rfl, hr⟩ := mL_e hr2
        obtain ⟨x, r, rfl, hr⟩ := mL_e hr
        exact V_maxL X hxk2.1 (Nat.le_of_ble_eq_true h8.2) hd (ih _ _ _ _ hrest hr)
      · exact hr2.elim
    | ireturn =>
      have hlen : len = 1 := eq_of_beq hlen
      subst hlen
      have hxk' : (bif z == 1 then decide (rt = some .boolean) else decide (rt = some .int)) = true := hxk
      obtain ⟨v, r, rfl, hr1⟩ := mI_e hr
      clear hr
      obtain ⟨he, hr2⟩ := mB_e hr1
      clear hr1
      have hre : r = [] := List.isEmpty_iff.mp he
      subst hre
      cases hq : (z == 1) with
      | true =>
        rw [hq] at hxk' hr2
        obtain ⟨hv, hr⟩ := mBo_e hr2
        exact hI pc lv v h hd (Or.inr ⟨of_decide_eq_true hxk', hv⟩) hr
      | false =>
        rw [hq] at hxk' hr2
        exact hI pc lv v h hd (Or.inl (of_decide_eq_true hxk')) hr2
    | lreturn =>
      have hlen : len = 1 := eq_of_beq hlen
      subst hlen
      obtain ⟨v, r, rfl, hr⟩ := mL_e hr
      obtain ⟨he, hr⟩ := mB_e hr
      have hre : r = [] := List.isEmpty_iff.mp he
      subst hre
      exact hJ pc lv v h hd (of_decide_eq_true hxk) hr
    | return_ =>
      have hlen : len = 1 := eq_of_beq hlen
      subst hlen
      obtain ⟨he, hr⟩ := mB_e hr
      have hre : st = [] := List.isEmpty_iff.mp he
      subst hre
      exact hN pc lv h hd (of_decide_eq_true hxk) hr
    | _ => exact hr.elim
end
end
section
/-! SOUNDNESS 9: methods -/
def mxl : List Nat := [1, 1, 2, 3, 6, 3, 3, 2, 2, 6, 4, 4, 4, 3, 3, 4, 2, 1, 4, 6, 1, 2, 3, 2, 1, 1, 3, 3, 4, 3, 1, 4, 2, 1, 1, 1, 2, 3, 4, 4, 3, 6, 3, 1, 2, 2, 3, 2, 1, 2, 3, 2, 3, 3, 5, 4, 4, 3, 5, 5, 5, 5, 4, 2, 3, 4, 5, 5, 4, 3, 3, 8, 7, 3, 3, 4, 7, 6, 4, 6, 4, 3, 4, 6, 10, 1, 2, 2, 1, 1, 1, 1, 2, 2, 2, 2, 3, 2, 3, 6, 6, 1, 6, 5, 2, 3, 6, 8, 11, 2, 1, 3, 5, 4, 1, 6, 2, 3, 2, 2, 4, 2, 5, 3, 3, 2, 3, 1, 2, 2, 1, 6, 6, 9, 4, 4, 4, 4, 3, 2, 3, 3, 6, 5, 3, 5, 2, 6, 5, 4, 4, 3, 3, 3, 4, 4, 2, 3, 3, 6, 4, 9, 4, 8, 6, 5, 4, 11, 3, 14, 4, 3, 3, 3, 2, 1, 4, 3, 5, 6, 5, 6, 9, 3, 2, 5, 4, 9, 1, 4, 4]
/-- method y, with a depth of d calls, comes to its end with r -/
def mR3 : Nat → Nat → List mVal → mHp → Option mVal × mHp → Prop
  | 0, _, _, _, _ => False
  | d + 1, y, as, h, r => (y < 191 ∧ (as.map mcat).sum ≤ mxl.getD y 0) ∧ ∀ K, mClo (mP y) (mR3 d) (r.2.1.1.length, mtot r.2.1.1) (0, fun _ => 0) (mret r) K → K 0 (margs 0 as) [] h
def mAll (y : Nat) : Bool := (mP y).1.all (fun q => bOK (mOw y) (mCo y) (mMx y) (mRt y) (mInitL.contains y) (nNeed y) q.1 q.2) && mMx y == mxl.getD y 0
set_option maxRecDepth 100000 in
theorem mAll_0 : (List.range' 0 24).all mAll = true := by decide +kernel
set_option maxRecDepth 100000 in
theorem mAll_1 : (List.range' 24 24).all mAll = true := by decide +kernel
set_option maxRecDepth 100000 in
theorem mAll_2 : (List.range' 48 24).all mAll = true := by decide +kernel
set_option maxRecDepth 100000 in
theorem mAll_3 : (List.range' 72 24).all mAll = true := by decide +kernel
set_option maxRecDepth 100000 in
theorem mAll_4 : (List.range' 96 24).all mAll = true := by decide +kernel
set_option maxRecDepth 100000 in
theorem mAll_5 : (List.range' 120 24).all mAll = true := by decide +kernel
set_option maxRecDepth 100000 in
theorem mAll_6 : (List.range' 144 24).all mAll = true := by decide +kernel
set_option maxRecDepth 100000 in
theorem mAll_7 : (List.range' 168 23).all mAll = true := by decide +kernel
theorem mAll_of {y : Nat} (hy : y < 191) : mAll y = true := by
  have key : ∀ a b : Nat, (List.range' a b).all mAll = true → a ≤ y → y < a + b → mAll y = true := fun a b q h1 h2 => List.all_eq_true.mp q y (List.mem_range'_1.mpr ⟨h1, h2⟩)
  rcases Nat.lt_or_ge y 24 with q | q
  · exact key 0 24 mAll_0 (by omega) (by omega)
  rcases Nat.lt_or_ge y 48 with q | q
  · exact key 24 24 mAll_1 (by omega) (by omega)
  rcases Nat.lt_or_ge y 72 with q | q
  · exact key 48 24 mAll_2 (by omega) (by omega)
  rcases Nat.lt_or_ge y 96 with q | q
  · exact key 72 24 mAll_3 (by omega) (by omega)
  rcases Nat.lt_or_ge y 120 with q | q
  · exact key 96 24 mAll_4 (by omega) (by omega)
  rcases Nat.lt_or_ge y 144 with q | q
  · exact key 120 24 mAll_5 (by omega) (by omega)
  rcases Nat.lt_or_ge y 168 with q | q
  · exact key 144 24 mAll_6 (by omega) (by omega)
  exact key 168 23 mAll_7 (by omega) (by omega)
theorem margs_t (G : mG) : ∀ (as : List mVal) (i : Nat), lv_args i (as.map (toV G)) = tLV G (margs i as)
  | [], _ => rfl
  | v :: as, i => by
    show (i, toV G v) :: lv_args (if (toV G v).category = 2 then i + 2 else i + 1) (as.map (toV G)) = (i, toV G v) :: tLV G (margs (i + mcat v) as)
    have e : (if (toV G v).category = 2 then i + 2 else i + 1) = i + mcat v := by
      rw [toV_cat]
      rcases v with z | z | k | q <;> rfl
    rw [e, margs_t G as]
theorem margs_ok : ∀ (as : List mVal) (i : Nat), (∀ v ∈ as, okV v) → ∀ q ∈ margs i as, okV q.2
  | [], _, _, _, hq => absurd hq List.not_mem_nil
  | v :: as, i, h, q, hq => by
    rcases List.mem_cons.mp hq with rfl | hq
    · exact h v List.mem_cons_self
    · exact margs_ok as _ (fun w hw => h w (List.mem_cons_of_mem _ hw)) q hq
theorem sl_len (G : mG) : ∀ as : List mVal, (lg_sl (as.map (toV G))).length = (as.map mcat).sum
  | [] => rfl
  | v :: as => by
    have ih := sl_len G as
    unfold lg_sl at ih ⊢
    rw [List.map_cons, List.flatMap_cons, List.length_append, ih, List.map_cons, List.sum_cons, toV_cat]
    congr 1
    rcases v with z | z | k | q <;> rfl
/-- a method's contract over the machine, out of the abstract run -/
theorem mMet_of {G : mG} {l : Launch} (hstr : strMet G l) : ∀ (d y : Nat) (as : List mVal) (h : mHp) (r : Option mVal × mHp), mR3 d y as h r → nNeed y ≤ d → mMet G l d y as h r := by
  intro d
  induction d with
  | zero => intro y as h r hr; exact hr.elim
  | succ d ih =>
    intro y as h r hr hnd mc ms hmc hms hok
    obtain ⟨⟨hy, hsum⟩, hr⟩ := hr
    have hall := mAll_of hy
    unfold mAll at hall
    rw [Bool.and_eq_true] at hall
    have hmx : mMx y = mxl.getD y 0 := eq_of_beq hall.2
    refine Met.ofW (cc := mCo y) (maxL := mMx y) (ret := mRt y) (y_cls hy).1 rfl ?_
    intro p e s m args below meth c s₁ B hml hv
    obtain ⟨rfl, hG, hg, hz1, hz2⟩ := hv
    have hx := B.exec
    have hb := B.bytes
    have hrt := B.returns
    have hlocks := B.notSynchronized
    have hts0 := atoms_spec (ws := mws y) B.pre
    have hts : ∀ w ∈ mWS, w.before ((as.map (toV G)).toArray) s = true := fun w hw => hts0 w (List.mem_cons_of_mem _ hw)
    have hown : s.vm.findClass (nR (mOw y)) = some m.cls := findClass_of_methodNamed B.named
    have hini : mInitL.contains y = true → meth.name = "<init>" := fun q => (name_of_methodNamed B.named B.method).1.trans (mInit_w y (List.elem_iff.mp q))
    have X : mXf G l (mOw y) (mMx y) (mRt y) (mInitL.contains y) (mCo y) d h.1.1.length (mtot h.1.1) (r.2.1.1.length, mtot r.2.1.1) (0, fun _ => 0) p (headSpec (mws y) (mroom (d + 1) mc ms)).room s m ((as.map (toV G)).toArray) meth c :=
      ⟨⟨hx, hb, hml, hown, hts⟩, hG, ⟨hz1, hz2⟩, hini, ⟨Nat.le_refl _, by show 33 * d + 33 ≤ 33 * (d + 1); omega⟩, ⟨by show r.2.1.1.length ≤ h.1.1.length + mc; omega, by show mtot r.2.1.1 ≤ mtot h.1.1 + ms; omega⟩, Or.inl rfl⟩
    have hend : ∀ (H : Heap) (locs : List Loc), gOK G r.2 H → va_S (gA G) s.heap H locs → (∀ v ∈ r.1.toList, okV v) → ∀ t : State, t.heap = H → s.WarmedH t.vm → mPost G r ((as.map (toV G)).toArray) s (.returned (r.1.map (toV G))) t := fun H locs hg1 hS hok1 t ht _ => ⟨⟨rfl, hok1, by rw [ht]; exact hg1⟩, hS.F ht⟩
    have hclo : mClo (mP y) (mR3 d) (r.2.1.1.length, mtot r.2.1.1) (0, fun _ => 0) (mret r) (mV G p l e (headSpec (mws y) (mroom (d + 1) mc ms)).room s m ((as.map (toV G)).toArray) below meth c (MQ below (mPost G r) ((as.map (toV G)).toArray) s mc ms (gA G)) (mMx y) h.1.1.length (mtot h.1.1)) := by
      intro i pc rows hi lv st hh hrun
      have hbk : bOK (mOw y) (mCo y) (mMx y) (mRt y) (mInitL.contains y) (nNeed y) pc rows = true := List.all_eq_true.mp hall.1 (pc, rows) (List.mem_of_getElem? hi)
      refine mV_rows X hstr hnd (fun y' as' h' r' hc hn => ih y' as' h' r' hc hn) ?_ ?_ ?_ rows pc lv st hh hbk hrun
      · intro pc lv v h2 hd hty hret
        obtain ⟨e1, e2⟩ := hret
        intro h1 h2' h3 H locs ls hg1 hS hl
        have hv : inR v := (okt h2').1
        have hok1 : ∀ w ∈ r.1.toList, okV w := by rw [← e1]; exact okc hv (fun _ q => absurd q List.not_mem_nil)
        subst e2
        have ec : r.2.1.1.length - h.1.1.length = mc := by omega
        have es : mtot r.2.1.1 - mtot h.1.1 = ms := by omega
        have hpost := hend H locs hg1 hS hok1
        rw [← e1] at hpost
        rw [ec, es]
        rcases hty with ht | ⟨ht, hv01⟩
        · exact W.iret hx hb (by rw [hrt, ht]) hpost hS.2.2 hd
        · exact W.zret (ty := .boolean) hx hb (by rw [hrt, ht]) (by rcases hv01 with rfl | rfl <;> decide) hpost hS.2.2 hd
      · intro pc lv v h2 hd hty hret
        obtain ⟨e1, e2⟩ := hret
        intro h1 h2' h3 H locs ls hg1 hS hl
        have hv : inL v := (okt h2').1
        have hok1 : ∀ w ∈ r.1.toList, okV w := by rw [← e1]; exact okc hv (fun _ q => absurd q List.not_mem_nil)
        subst e2
        have ec : r.2.1.1.length - h.1.1.length = mc := by omega
        have es : mtot r.2.1.1 - mtot h.1.1 = ms := by omega
        have hpost := hend H locs hg1 hS hok1
        rw [← e1] at hpost
        rw [ec, es]
        exact W.lret hx hb (by rw [hrt, hty]) hpost hS.2.2 hd
      · intro pc lv h2 hd hty hret
        obtain ⟨e1, e2⟩ := hret
        intro h1 h2' h3 H locs ls hg1 hS hl
        have hok1 : ∀ w ∈ r.1.toList, okV w := by rw [← e1]; exact fun _ q => absurd q List.not_mem_nil
        subst e2
        have ec : r.2.1.1.length - h.1.1.length = mc := by omega
        have es : mtot r.2.1.1 - mtot h.1.1 = ms := by omega
        have hpost := hend H locs hg1 hS hok1
        rw [← e1] at hpost
        rw [ec, es]
        exact W.vret hx hb (by rw [hrt, hty]) hpost hS.2.2 hd
    have hK := hr _ hclo
    have hlen : (lg_sl (as.map (toV G))).length ≤ mMx y := by rw [sl_len, hmx]; exact hsum
    have hl := lv_entry (as.map (toV G)) hlen
    rw [margs_t] at hl
    rw [lg_entry_eq]
    have hW := hK (margs_ok as 0 hok) (fun _ q => absurd q List.not_mem_nil) ⟨⟨Nat.le_refl _, Nat.le_refl _⟩, by show _ ≤ _ + mc; omega, by show _ ≤ _ + ms; omega⟩ s.heap [] _ hg va_S.rf hl
    rw [Nat.sub_self, Nat.sub_self] at hW
    exact hW
end
section
def i_fv : Nat := 9
theorem wJ_fv : (Jvm.Cond.fieldLink "java/lang/String" i_fv "java/lang/String" "value" "[B") ∈ mWS := wAt_in (p := 5176) rfl rfl
def i_fc : Nat := 15
theorem wJ_fc : (Jvm.Cond.fieldLink "java/lang/String" i_fc "java/lang/String" "coder" "B") ∈ mWS := wAt_in (p := 5177) rfl rfl
def i_fz : Nat := 38
theorem wJ_fz : (Jvm.Cond.fieldLink "java/lang/String" i_fz "java/lang/String" "COMPACT_STRINGS" "Z") ∈ mWS := wAt_in (p := 2033) rfl rfl
def i_ff : Nat := 1053
theorem wJ_ff : (Jvm.Cond.fieldLink "java/lang/String" i_ff "jdk/internal/util/Preconditions" "SIOOBE_FORMATTER" "Ljava/util/function/BiFunction;") ∈ mWS := wAt_in (p := 2049) rfl rfl
def i_mcoder : Nat := 335
theorem wJ_mcoder : (Jvm.Cond.methodLink "java/lang/String" i_mcoder ⟨"java/lang/String", "coder", "()B"⟩) ∈ mWS := wAt_in (p := 2029) rfl rfl
def i_mlat : Nat := 492
theorem wJ_mlat : (Jvm.Cond.methodLink "java/lang/String" i_mlat ⟨"java/lang/String", "isLatin1", "()Z"⟩) ∈ mWS := wAt_in (p := 2039) rfl rfl
def i_ml1 : Nat := 495
theorem wJ_ml1 : (Jvm.Cond.methodLink "java/lang/String" i_ml1 ⟨"java/lang/StringLatin1", "charAt", "([BI)C"⟩) ∈ mWS := wAt_in (p := 2043) rfl rfl
def i_mci : Nat := 9
theorem wJ_mci : (Jvm.Cond.methodLink "java/lang/StringLatin1" i_mci ⟨"java/lang/String", "checkIndex", "(II)V"⟩) ∈ mWS := wAt_in (p := 2046) rfl rfl
def i_mpc : Nat := 1059
theorem wJ_mpc : (Jvm.Cond.methodLink "java/lang/String" i_mpc ⟨"jdk/internal/util/Preconditions", "checkIndex", "(IILjava/util/function/BiFunction;)I"⟩) ∈ mWS := wAt_in (p := 2051) rfl rfl
theorem wJ_coderI : (Jvm.Cond.instanceMethod ⟨"java/lang/String", "coder", "()B"⟩) ∈ mWS := wAt_in (p := 2030) rfl rfl
theorem wJ_coderV : (Jvm.Cond.selects "java/lang/String" ⟨"java/lang/String", "coder", "()B"⟩ ⟨"java/lang/String", "coder", "()B"⟩) ∈ mWS := wAt_in (p := 2031) rfl rfl
theorem wJ_latI : (Jvm.Cond.instanceMethod ⟨"java/lang/String", "isLatin1", "()Z"⟩) ∈ mWS := wAt_in (p := 2040) rfl rfl
theorem wJ_latV : (Jvm.Cond.selects "java/lang/String" ⟨"java/lang/String", "isLatin1", "()Z"⟩ ⟨"java/lang/String", "isLatin1", "()Z"⟩) ∈ mWS := wAt_in (p := 2041) rfl rfl
theorem wJ_l1S : (Jvm.Cond.static ⟨"java/lang/StringLatin1", "charAt", "([BI)C"⟩) ∈ mWS := wAt_in (p := 2044) rfl rfl
theorem wJ_ciS : (Jvm.Cond.static ⟨"java/lang/String", "checkIndex", "(II)V"⟩) ∈ mWS := wAt_in (p := 2047) rfl rfl
theorem wJ_pcS : (Jvm.Cond.static ⟨"jdk/internal/util/Preconditions", "checkIndex", "(IILjava/util/function/BiFunction;)I"⟩) ∈ mWS := wAt_in (p := 2052) rfl rfl
theorem wJ_iS : (Jvm.Cond.initialized "java/lang/String") ∈ mWS := wAt_in (p := 1009) rfl rfl
theorem wJ_iL1 : (Jvm.Cond.initialized "java/lang/StringLatin1") ∈ mWS := wAt_in (p := 1010) rfl rfl
theorem wJ_iPC : (Jvm.Cond.initialized "jdk/internal/util/Preconditions") ∈ mWS := wAt_in (p := 1011) rfl rfl
abbrev c_coder : ByteArray := prog_10_method_152_code
theorem wJ_coderC : (Jvm.Cond.code ⟨"java/lang/String", "coder", "()B"⟩ c_coder 1 (some .byte)) ∈ mWS := wAt_in (p := 2032) rfl rfl
abbrev c_lat : ByteArray := prog_10_method_154_code
theorem wJ_latC : (Jvm.Cond.code ⟨"java/lang/String", "isLatin1", "()Z"⟩ c_lat 1 (some .boolean)) ∈ mWS := wAt_in (p := 2042) rfl rfl
abbrev c_l1 : ByteArray := prog_11_method_2_code
theorem wJ_l1C : (Jvm.Cond.code ⟨"java/lang/StringLatin1", "charAt", "([BI)C"⟩ c_l1 2 (some .char)) ∈ mWS := wAt_in (p := 2045) rfl rfl
abbrev c_ci : ByteArray := prog_10_method_155_code
theorem wJ_ciC : (Jvm.Cond.code ⟨"java/lang/String", "checkIndex", "(II)V"⟩ c_ci 2 (none)) ∈ mWS := wAt_in (p := 2048) rfl rfl
abbrev c_pc : ByteArray := prog_15_method_11_code
theorem wJ_pcC : (Jvm.Cond.code ⟨"jdk/internal/util/Preconditions", "checkIndex", "(IILjava/util/function/BiFunction;)I"⟩ c_pc 3 (some .int)) ∈ mWS := wAt_in (p := 2053) rfl rfl
end
section
/-! String.length, String.charAt of the literals -/
def gX (G : mG) (adV : Nat → Nat) (U : State) : Prop := gW G U U.heap ∧ vk_S 6 slen sbyt (gK G) adV (gA G) U U.heap
theorem gX_blind {G : mG} {adV : Nat → Nat} {av : List Value} : FrameBlind (va_Pc av (gX G adV)) := fun _ U g mk q => ⟨q.1, gW_call g mk _ q.2.1, vk_S.moved (Vm.Alike.refl U.vm) q.2.2⟩
theorem gX_warm {G : mG} {adV : Nat → Nat} {s U : State} (hW : s.WarmedH U.vm) (hh : U.heap = s.heap) (h : gX G adV s) : gX G adV U := ⟨gW_warm hW (fun q _ _ => by rw [hh]) h.1, (vk_S.moved hW.alike h.2).kept (fun q _ _ => by rw [hh])⟩
def wJ (y : MethodName) (cd : ByteArray) (n : Nat) (rt : Option FieldType) : List Jvm.Cond := .code y cd n rt :: mWS
theorem wJ_good {y : MethodName} {cd : ByteArray} {n : Nat} {rt : Option FieldType} (h : Jvm.Cond.code y cd n rt ∈ mWS) : GoodIn mWS (wJ y cd n rt) := by
  intro w hw
  rcases List.mem_cons.mp hw with rfl | hw
  · exact good_ws h
  · exact good_ws hw
section
variable {p : Program} {l : Launch} {e : Env} {R : Room} {s : State} {m : MethodId} {args : Array Value} {below : List Frame} {meth : Method} {c : Code} {H : Heap} {locs : List Loc} {cells slots : Nat} {Q : State → Prop} {pc : Nat} {ls : Array Slot} {rest st0 : List Value} {a : Array Value}
theorem W_callSv {post : Unit → Prop} (hr : va_Run p l e R s m args below meth c H locs cells slots 0 0 (F0 m pc ls st0) rest (va_Sv post a) (fun _ => False)) (kk : W p l e R s m args below meth c H locs cells slots Q (F0 m (pc + 3) ls rest)) : W p l e R s m args below meth c H locs cells slots Q (F0 m pc ls st0) := by
  intro T hT X
  obtain ⟨v, st₀, t, T', L, h0, X', hL, e1, e2, ⟨hv, hp, hh⟩, st⟩ := hr T hT X
  cases hv
  obtain ⟨t2, a1, b1⟩ := kk T' (by rw [e1, hh, h0]) (Stand.forget X' (fun q h => (hL q h).elim))
  exact ⟨t2, st t2 a1, b1⟩
end
def y_pc : MethodName := ⟨"jdk/internal/util/Preconditions", "checkIndex", "(IILjava/util/function/BiFunction;)I"⟩
def y_ci : MethodName := ⟨"java/lang/String", "checkIndex", "(II)V"⟩
def y_l1 : MethodName := ⟨"java/lang/StringLatin1", "charAt", "([BI)C"⟩
def y_lat : MethodName := ⟨"java/lang/String", "isLatin1", "()Z"⟩
def y_coder : MethodName := ⟨"java/lang/String", "coder", "()B"⟩
set_option maxRecDepth 20000 in
theorem met_pcr (G : mG) (l : Launch) (adV : Nat → Nat) {i n : Int32} (f : Nat) (h0 : ¬ i < 0) (h1 : i < n) : Met l y_pc (wJ y_pc c_pc 3 (some .int)) (mroom 1 0 0) (va_Pc [.int i, .int n, .ref f] (gX G adV)) (vp_Si (fun r => r = i)) 0 0 (fun _ => False) := by
  refine Met.ofW (cc := c_pc) (maxL := 3) (ret := some .int) (by decide +kernel) rfl ?_
  intro p e s m args below meth c s₁ B hml hv
  obtain ⟨rfl, hG⟩ := hv
  have hx := B.exec
  have hb := B.bytes
  have hr := B.returns
  have hlocks := B.notSynchronized
  have hl := lv_entry [.int i, .int n, .ref f] (n := 3) (Nat.le_of_ble_eq_true rfl)
  rw [lg_entry_eq]
  generalize (lg_sl [.int i, .int n, .ref f] ++ List.replicate (3 - (lg_sl [.int i, .int n, .ref f]).length) Slot.unset).toArray = ls at hl ⊢
  have hl : lv_has ls 3 [(0, .int i), (1, .int n), (2, .ref f)] := hl
  refine lv_iload_n (k := 0) hx hb (by decide +kernel) rfl (lv_at hl 0 rfl) ?_
  refine lv_if_lt (off := 8) (tgt := 9) hx hb (by decide +kernel) (by decide) (fun q => absurd q h0) (fun _ => ?_)
  refine lv_iload_n (k := 0) hx hb (by decide +kernel) rfl (lv_at hl 0 rfl) ?_
  refine lv_iload_n (k := 1) hx hb (by decide +kernel) rfl (lv_at hl 1 rfl) ?_
  refine lv_icmp_lt (off := 10) (tgt := 16) hx hb (by decide +kernel) (by decide) (fun _ => ?_) (fun q => absurd h1 q)
  refine lv_iload_n (k := 0) hx hb (by decide +kernel) rfl (lv_at hl 0 rfl) ?_
  exact W.iret hx hb hr (fun t ht _ => ⟨i, rfl, rfl, ht⟩) (fun _ q => by cases q) (by decide +kernel)
set_option maxRecDepth 20000 in
theorem met_pcn (G : mG) (l : Launch) (adV : Nat → Nat) {i n : Int32} (h0 : ¬ i < 0) (h1 : i < n) : Met l y_pc (wJ y_pc c_pc 3 (some .int)) (mroom 1 0 0) (va_Pc [.int i, .int n, .null] (gX G adV)) (vp_Si (fun r => r = i)) 0 0 (fun _ => False) := by
  refine Met.ofW (cc := c_pc) (maxL := 3) (ret := some .int) (by decide +kernel) rfl ?_
  intro p e s m args below meth c s₁ B hml hv
  obtain ⟨rfl, hG⟩ := hv
  have hx := B.exec
  have hb := B.bytes
  have hr := B.returns
  have hlocks := B.notSynchronized
  have hl := lv_entry [.int i, .int n, .null] (n := 3) (Nat.le_of_ble_eq_true rfl)
  rw [lg_entry_eq]
  generalize (lg_sl [.int i, .int n, .null] ++ List.replicate (3 - (lg_sl [.int i, .int n, .null]).length) Slot.unset).toArray = ls at hl ⊢
  have hl : lv_has ls 3 [(0, .int i), (1, .int n), (2, .null)] := hl
  refine lv_iload_n (k := 0) hx hb (by decide +kernel) rfl (lv_at hl 0 rfl) ?_
  refine lv_if_lt (off := 8) (tgt := 9) hx hb (by decide +kernel) (by decide) (fun q => absurd q h0) (fun _ => ?_)
  refine lv_iload_n (k := 0) hx hb (by decide +kernel) rfl (lv_at hl 0 rfl) ?_
  refine lv_iload_n (k := 1) hx hb (by decide +kernel) rfl (lv_at hl 1 rfl) ?_
  refine lv_icmp_lt (off := 10) (tgt := 16) hx hb (by decide +kernel) (by decide) (fun _ => ?_) (fun q => absurd h1 q)
  refine lv_iload_n (k := 0) hx hb (by decide +kernel) rfl (lv_at hl 0 rfl) ?_
  exact W.iret hx hb hr (fun t ht _ => ⟨i, rfl, rfl, ht⟩) (fun _ q => by cases q) (by decide +kernel)
set_option maxRecDepth 20000 in
theorem met_ci (G : mG) (l : Launch) (adV : Nat → Nat) {i n : Int32} (h0 : ¬ i < 0) (h1 : i < n) : Met l y_ci (wJ y_ci c_ci 2 none) (mroom 2 0 0) (va_Pc [.int i, .int n] (gX G adV)) (va_Sv (fun _ => True)) 0 0 (fun _ => False) := by
  refine Met.ofW (cc := c_ci) (maxL := 2) (ret := none) (by decide +kernel) rfl ?_
  intro p e s m args below meth c s₁ B hml hv
  obtain ⟨rfl, hG⟩ := hv
  have hx := B.exec
  have hb := B.bytes
  have hr := B.returns
  have hlocks := B.notSynchronized
  have hts0 := atoms_spec (ws := wJ y_ci c_ci 2 none) B.pre
  have hts : ∀ w ∈ mWS, w.before ([.int i, .int n] : List Value).toArray s = true := fun w hw => hts0 w (List.mem_cons_of_mem _ hw)
  have hown : s.vm.findClass "java/lang/String" = some m.cls := findClass_of_methodNamed B.named
  have hl := lv_entry [.int i, .int n] (n := 2) (Nat.le_of_ble_eq_true rfl)
  rw [lg_entry_eq]
  generalize (lg_sl [.int i, .int n] ++ List.replicate (2 - (lg_sl [.int i, .int n]).length) Slot.unset).toArray = ls at hl ⊢
  have hl : lv_has ls 2 [(0, .int i), (1, .int n)] := hl
  refine lv_iload_n (k := 0) hx hb (by decide +kernel) rfl (lv_at hl 0 rfl) ?_
  refine lv_iload_n (k := 1) hx hb (by decide +kernel) rfl (lv_at hl 1 rfl) ?_
  rcases hG.1.2.2.2.2.2.2 with hf | ⟨f, hf⟩
  · refine va_gets (own := "java/lang/String") (index := i_ff) (A := gA G) hx hb hf va_S.rf hown (hts _ wJ_ff) (fun _ h => h) (by decide +kernel) ?_
    have hcb : CallB (headSpec (wJ y_ci c_ci 2 none) (mroom 2 0 0)).room s ([.int i, .int n] : List Value).toArray "java/lang/String" i_mpc y_pc c_pc 3 (some .int) (wJ y_pc c_pc 3 (some .int)) (mroom 1 0 0) 0 0 3 := callB_of 3 hts (wJ_good wJ_pcC) rfl rfl rfl (hts _ wJ_iPC) (hts _ wJ_mpc) ⟨by decide, by decide, by decide +kernel⟩ ⟨Nat.le_of_ble_eq_true rfl, Nat.le_of_ble_eq_true rfl⟩
    refine W_callSi (pc := 5) (va_runS (As := [.int i, .int n, .null]) (rest := []) ⟨hx, hb, hml, hown, hts⟩ (met_pcn G l adV h0 h1) ⟨hcb, hts _ wJ_pcS⟩ ⟨gX_blind, fun U hU hWm => ⟨rfl, gX_warm hWm hU hG⟩⟩ rfl rfl hl.1 rfl (lv_room (Nat.le_of_ble_eq_true rfl)) (show decode c_ci 5 = .ok (.invokestatic i_mpc, 3) by decide +kernel) ⟨Nat.le_of_ble_eq_true rfl, Nat.le_of_ble_eq_true rfl⟩) (fun z hz => ?_)
    refine lv_pop hx hb (by decide +kernel) rfl ?_
    exact W.vret hx hb hr (fun t ht _ => ⟨rfl, trivial, ht⟩) (fun _ q => by cases q) (by decide +kernel)
  · refine va_gets (own := "java/lang/String") (index := i_ff) (A := gA G) hx hb hf va_S.rf hown (hts _ wJ_ff) (fun _ h => h) (by decide +kernel) ?_
    have hcb : CallB (headSpec (wJ y_ci c_ci 2 none) (mroom 2 0 0)).room s ([.int i, .int n] : List Value).toArray "java/lang/String" i_mpc y_pc c_pc 3 (some .int) (wJ y_pc c_pc 3 (some .int)) (mroom 1 0 0) 0 0 3 := callB_of 3 hts (wJ_good wJ_pcC) rfl rfl rfl (hts _ wJ_iPC) (hts _ wJ_mpc) ⟨by decide, by decide, by decide +kernel⟩ ⟨Nat.le_of_ble_eq_true rfl, Nat.le_of_ble_eq_true rfl⟩
    refine W_callSi (pc := 5) (va_runS (As := [.int i, .int n, .ref f]) (rest := []) ⟨hx, hb, hml, hown, hts⟩ (met_pcr G l adV f h0 h1) ⟨hcb, hts _ wJ_pcS⟩ ⟨gX_blind, fun U hU hWm => ⟨rfl, gX_warm hWm hU hG⟩⟩ rfl rfl hl.1 rfl (lv_room (Nat.le_of_ble_eq_true rfl)) (show decode c_ci 5 = .ok (.invokestatic i_mpc, 3) by decide +kernel) ⟨Nat.le_of_ble_eq_true rfl, Nat.le_of_ble_eq_true rfl⟩) (fun z hz => ?_)
    refine lv_pop hx hb (by decide +kernel) rfl ?_
    exact W.vret hx hb hr (fun t ht _ => ⟨rfl, trivial, ht⟩) (fun _ q => by cases q) (by decide +kernel)
theorem s_len : ∀ i : Nat, i < 6 → slen.getD i 0 = (mstrs.getD i []).length ∧ (mstrs.getD i []).length ≤ 6 := by
  intro i hi
  rcases (show i = 0 ∨ i = 1 ∨ i = 2 ∨ i = 3 ∨ i = 4 ∨ i = 5 by omega) with rfl | rfl | rfl | rfl | rfl | rfl <;> decide
theorem s_chr : ∀ i : Nat, i < 6 → ∀ j : Nat, j < (mstrs.getD i []).length → ((((sbyt.getD i []).getD j 0) &&& 255).toUInt32 % 65536).toInt32 = Int32.ofInt (((mstrs.getD i []).getD j 0 : Nat) : Int) ∧ narrow .char (.int (Int32.ofInt (((mstrs.getD i []).getD j 0 : Nat) : Int))) = .int (Int32.ofInt (((mstrs.getD i []).getD j 0 : Nat) : Int)) := by
  intro i hi
  rcases (show i = 0 ∨ i = 1 ∨ i = 2 ∨ i = 3 ∨ i = 4 ∨ i = 5 by omega) with rfl | rfl | rfl | rfl | rfl | rfl <;> decide +kernel
set_option maxRecDepth 20000 in
theorem met_l1 (G : mG) (l : Launch) (adV : Nat → Nat) {i : Nat} (hi : i < 6) {j : Int} (h0 : 0 ≤ j) (h1 : j < ((mstrs.getD i []).length : Nat)) : Met l y_l1 (wJ y_l1 c_l1 2 (some .char)) (mroom 3 0 0) (va_Pc [.ref (adV i), .int (Int32.ofInt j)] (gX G adV)) (vp_Si (fun r => r = Int32.ofInt (((mstrs.getD i []).getD j.toNat 0 : Nat) : Int))) 0 0 (fun _ => False) := by
  refine Met.ofW (cc := c_l1) (maxL := 2) (ret := some .char) (by decide +kernel) rfl ?_
  intro p e s m args below meth c s₁ B hml hv
  obtain ⟨rfl, hG⟩ := hv
  have hx := B.exec
  have hb := B.bytes
  have hr := B.returns
  have hlocks := B.notSynchronized
  have hts0 := atoms_spec (ws := wJ y_l1 c_l1 2 (some .char)) B.pre
  have hts : ∀ w ∈ mWS, w.before ([.ref (adV i), .int (Int32.ofInt j)] : List Value).toArray s = true := fun w hw => hts0 w (List.mem_cons_of_mem _ hw)
  have hown : s.vm.findClass "java/lang/StringLatin1" = some m.cls := findClass_of_methodNamed B.named
  have hT := (hG.2.1 i hi).2.2.2
  obtain ⟨hsl, hs6⟩ := s_len i hi
  rw [hsl] at hT
  have hjR : inR j := by unfold inR; omega
  have hlR : inR (((mstrs.getD i []).length : Nat) : Int) := by unfold inR; omega
  have hn0 : ¬ Int32.ofInt j < 0 := by rw [show (0 : Int32) = Int32.ofInt 0 from rfl, i_lt hjR inR_0]; omega
  have hn1 : Int32.ofInt j < Int32.ofInt (((mstrs.getD i []).length : Nat) : Int) := by rw [i_lt hjR hlR]; exact h1
  have hin : vp_in (Int32.ofInt j) (mstrs.getD i []).length := i_in hjR h0 h1
  have hl := lv_entry [.ref (adV i), .int (Int32.ofInt j)] (n := 2) (Nat.le_of_ble_eq_true rfl)
  rw [lg_entry_eq]
  generalize (lg_sl [.ref (adV i), .int (Int32.ofInt j)] ++ List.replicate (2 - (lg_sl [.ref (adV i), .int (Int32.ofInt j)]).length) Slot.unset).toArray = ls at hl ⊢
  have hl : lv_has ls 2 [(0, .ref (adV i)), (1, .int (Int32.ofInt j))] := hl
  refine lv_iload_n (k := 1) hx hb (by decide +kernel) rfl (lv_at hl 1 rfl) ?_
  refine lv_aload_n (k := 0) hx hb (by decide +kernel) rfl (lv_at hl 0 rfl) ?_
  refine va_tlen hx hb hT va_S.rf (v := Int32.ofInt (((mstrs.getD i []).length : Nat) : Int)) (Int32.ofInt_eq_ofNat).symm (by decide +kernel) ?_
  have hcb : CallB (headSpec (wJ y_l1 c_l1 2 (some .char)) (mroom 3 0 0)).room s ([.ref (adV i), .int (Int32.ofInt j)] : List Value).toArray "java/lang/StringLatin1" i_mci y_ci c_ci 2 none (wJ y_ci c_ci 2 none) (mroom 2 0 0) 0 0 2 := callB_of 2 hts (wJ_good wJ_ciC) rfl rfl rfl (hts _ wJ_iS) (hts _ wJ_mci) ⟨by decide, by decide, by decide +kernel⟩ ⟨Nat.le_of_ble_eq_true rfl, Nat.le_of_ble_eq_true rfl⟩
  refine W_callSv (pc := 3) (va_runS (As := [.int (Int32.ofInt j), .int (Int32.ofInt (((mstrs.getD i []).length : Nat) : Int))]) (rest := []) ⟨hx, hb, hml, hown, hts⟩ (met_ci G l adV hn0 hn1) ⟨hcb, hts _ wJ_ciS⟩ ⟨gX_blind, fun U hU hWm => ⟨rfl, gX_warm hWm hU hG⟩⟩ rfl rfl hl.1 rfl (lv_room (Nat.le_of_ble_eq_true rfl)) (show decode c_l1 3 = .ok (.invokestatic i_mci, 3) by decide +kernel) ⟨Nat.le_of_ble_eq_true rfl, Nat.le_of_ble_eq_true rfl⟩) ?_
  refine lv_aload_n (k := 0) hx hb (by decide +kernel) rfl (lv_at hl 0 rfl) ?_
  refine lv_iload_n (k := 1) hx hb (by decide +kernel) rfl (lv_at hl 1 rfl) ?_
  refine va_tb hx hb hT va_S.rf hin (v := .int ((sbyt.getD i []).getD j.toNat 0)) (by rw [i_clamp hjR]) (by decide +kernel) ?_
  refine lv_sipush (n := 255) (v := 255) hx hb (by decide +kernel) (by decide) ?_
  refine lv_iand hx hb (by decide +kernel) ?_
  obtain ⟨e1, e2⟩ := s_chr i hi j.toNat (by omega)
  refine lv_i2c hx hb (by decide +kernel) e1 ?_
  exact W.zret (ty := .char) hx hb hr e2 (fun t ht _ => ⟨_, rfl, rfl, ht⟩) (fun _ q => by cases q) (by decide +kernel)
set_option maxRecDepth 20000 in
theorem met_lat (G : mG) (l : Launch) (adV : Nat → Nat) {i : Nat} (hi : i < 6) : Met l y_lat (wJ y_lat c_lat 1 (some .boolean)) (mroom 1 0 0) (va_Pc [.ref (gK G i)] (gX G adV)) (vp_Si (fun r => r = 1)) 0 0 (fun _ => False) := by
  refine Met.ofW (cc := c_lat) (maxL := 1) (ret := some .boolean) (by decide +kernel) rfl ?_
  intro p e s m args below meth c s₁ B hml hv
  obtain ⟨rfl, hG⟩ := hv
  have hx := B.exec
  have hb := B.bytes
  have hr := B.returns
  have hlocks := B.notSynchronized
  have hts0 := atoms_spec (ws := wJ y_lat c_lat 1 (some .boolean)) B.pre
  have hts : ∀ w ∈ mWS, w.before ([.ref (gK G i)] : List Value).toArray s = true := fun w hw => hts0 w (List.mem_cons_of_mem _ hw)
  have hown : s.vm.findClass "java/lang/String" = some m.cls := findClass_of_methodNamed B.named
  have hl := lv_entry [.ref (gK G i)] (n := 1) (Nat.le_of_ble_eq_true rfl)
  rw [lg_entry_eq]
  generalize (lg_sl [.ref (gK G i)] ++ List.replicate (1 - (lg_sl [.ref (gK G i)]).length) Slot.unset).toArray = ls at hl ⊢
  have hl : lv_has ls 1 [(0, .ref (gK G i))] := hl
  refine va_gets (own := "java/lang/String") (index := i_fz) (A := gA G) hx hb hG.1.2.2.2.2.2.1 va_S.rf hown (hts _ wJ_fz) (fun _ h => h) (by decide +kernel) ?_
  refine lv_if_eq (off := 14) (tgt := 17) hx hb (by decide +kernel) (by decide) (fun q => absurd q (by decide)) (fun _ => ?_)
  refine lv_aload_n (k := 0) hx hb (by decide +kernel) rfl (lv_at hl 0 rfl) ?_
  refine vk_getf (own := "java/lang/String") (ref := "java/lang/String") (index := i_fc) (A := gA G) hx hb (hG.2.1 i hi).2.1 va_S.rf hown (hts _ wJ_fc) (fun _ h => h) (by decide +kernel) ?_
  refine lv_if_ne (off := 7) (tgt := 17) hx hb (by decide +kernel) (by decide) (fun q => absurd rfl q) (fun _ => ?_)
  refine lv_iconst (n := 1) (v := 1) hx hb (by decide +kernel) (by decide) ?_
  refine lv_goto (off := 4) (tgt := 18) hx hb (by decide +kernel) (by decide) ?_
  exact W.zret (ty := .boolean) hx hb hr (by decide) (fun t ht _ => ⟨_, rfl, rfl, ht⟩) (fun _ q => by cases q) (by decide +kernel)
set_option maxRecDepth 20000 in
theorem met_coder (G : mG) (l : Launch) (adV : Nat → Nat) {i : Nat} (hi : i < 6) : Met l y_coder (wJ y_coder c_coder 1 (some .byte)) (mroom 1 0 0) (va_Pc [.ref (gK G i)] (gX G adV)) (vp_Si (fun r => r = 0)) 0 0 (fun _ => False) := by
  refine Met.ofW (cc := c_coder) (maxL := 1) (ret := some .byte) (by decide +kernel) rfl ?_
  intro p e s m args below meth c s₁ B hml hv
  obtain ⟨rfl, hG⟩ := hv
  have hx := B.exec
  have hb := B.bytes
  have hr := B.returns
  have hlocks := B.notSynchronized
  have hts0 := atoms_spec (ws := wJ y_coder c_coder 1 (some .byte)) B.pre
  have hts : ∀ w ∈ mWS, w.before ([.ref (gK G i)] : List Value).toArray s = true := fun w hw => hts0 w (List.mem_cons_of_mem _ hw)
  have hown : s.vm.findClass "java/lang/String" = some m.cls := findClass_of_methodNamed B.named
  have hl := lv_entry [.ref (gK G i)] (n := 1) (Nat.le_of_ble_eq_true rfl)
  rw [lg_entry_eq]
  generalize (lg_sl [.ref (gK G i)] ++ List.replicate (1 - (lg_sl [.ref (gK G i)]).length) Slot.unset).toArray = ls at hl ⊢
  have hl : lv_has ls 1 [(0, .ref (gK G i))] := hl
  refine va_gets (own := "java/lang/String") (index := i_fz) (A := gA G) hx hb hG.1.2.2.2.2.2.1 va_S.rf hown (hts _ wJ_fz) (fun _ h => h) (by decide +kernel) ?_
  refine lv_if_eq (off := 10) (tgt := 13) hx hb (by decide +kernel) (by decide) (fun q => absurd q (by decide)) (fun _ => ?_)
  refine lv_aload_n (k := 0) hx hb (by decide +kernel) rfl (lv_at hl 0 rfl) ?_
  refine vk_getf (own := "java/lang/String") (ref := "java/lang/String") (index := i_fc) (A := gA G) hx hb (hG.2.1 i hi).2.1 va_S.rf hown (hts _ wJ_fc) (fun _ h => h) (by decide +kernel) ?_
  refine lv_goto (off := 4) (tgt := 14) hx hb (by decide +kernel) (by decide) ?_
  exact W.zret (ty := .byte) hx hb hr (by decide) (fun t ht _ => ⟨_, rfl, rfl, ht⟩) (fun _ q => by cases q) (by decide +kernel)
set_option maxRecDepth 20000 in
theorem met_len (G : mG) (l : Launch) {i : Nat} (hi : i < 6) : Met l yLen wLen (mroom 4 0 0) (va_Pc [.ref (gK G i)] (fun U => gW G U U.heap)) (vp_Si (fun r => r = Int32.ofInt (((mstrs.getD i []).length : Nat) : Int))) 0 0 (fun _ => False) := by
  refine Met.ofW (cc := prog_10_method_54_code) (maxL := 1) (ret := some .int) (by decide +kernel) rfl ?_
  intro p e s m args below meth c s₁ B hml hv
  obtain ⟨rfl, hG0⟩ := hv
  obtain ⟨adV, hV⟩ := hG0.2.2.2.2.1
  have hG : gX G adV s := ⟨hG0, hV⟩
  have hx := B.exec
  have hb := B.bytes
  have hr := B.returns
  have hlocks := B.notSynchronized
  have hts0 := atoms_spec (ws := wLen) B.pre
  have hts : ∀ w ∈ mWS, w.before ([.ref (gK G i)] : List Value).toArray s = true := fun w hw => hts0 w (List.mem_cons_of_mem _ hw)
  have hown : s.vm.findClass "java/lang/String" = some m.cls := findClass_of_methodNamed B.named
  have hT := (hV.1 i hi).2.2.2
  obtain ⟨hsl, hs6⟩ := s_len i hi
  rw [hsl] at hT
  have hl := lv_entry [.ref (gK G i)] (n := 1) (Nat.le_of_ble_eq_true rfl)
  rw [lg_entry_eq]
  generalize (lg_sl [.ref (gK G i)] ++ List.replicate (1 - (lg_sl [.ref (gK G i)]).length) Slot.unset).toArray = ls at hl ⊢
  have hl : lv_has ls 1 [(0, .ref (gK G i))] := hl
  refine lv_aload_n (k := 0) hx hb (by decide +kernel) rfl (lv_at hl 0 rfl) ?_
  refine vk_getf (own := "java/lang/String") (ref := "java/lang/String") (index := i_fv) (A := gA G) hx hb (hV.1 i hi).2.2.1 va_S.rf hown (hts _ wJ_fv) (fun _ h => h) (by decide +kernel) ?_
  refine va_tlen hx hb hT va_S.rf (v := Int32.ofInt (((mstrs.getD i []).length : Nat) : Int)) (Int32.ofInt_eq_ofNat).symm (by decide +kernel) ?_
  refine lv_aload_n (k := 0) hx hb (by decide +kernel) rfl (lv_at hl 0 rfl) ?_
  have hcb : CallB (headSpec wLen (mroom 4 0 0)).room s ([.ref (gK G i)] : List Value).toArray "java/lang/String" i_mcoder y_coder c_coder 1 (some .byte) (wJ y_coder c_coder 1 (some .byte)) (mroom 1 0 0) 0 0 0 := callB_of 0 hts (wJ_good wJ_coderC) rfl rfl rfl (hts _ wJ_iS) (hts _ wJ_mcoder) ⟨by decide, by decide, by decide +kernel⟩ ⟨Nat.le_of_ble_eq_true rfl, Nat.le_of_ble_eq_true rfl⟩
  refine W_callSi (pc := 6) (va_runV (C := "java/lang/String") (b := gK G i) (As := []) (rest := [.int (Int32.ofInt (((mstrs.getD i []).length : Nat) : Int))]) ⟨hx, hb, hml, hown, hts⟩ (met_coder G l adV hi) ⟨hcb, hts _ wJ_coderI, hts _ wJ_coderV⟩ ⟨gX_blind, vk_recv hV hi va_S.rf, fun U hU hWm => ⟨rfl, gX_warm hWm hU hG⟩⟩ rfl rfl hl.1 rfl (lv_room (Nat.le_of_ble_eq_true rfl)) (show decode prog_10_method_54_code 6 = .ok (.invokevirtual i_mcoder, 3) by decide +kernel) ⟨Nat.le_of_ble_eq_true rfl, Nat.le_of_ble_eq_true rfl⟩) (fun z hz => ?_)
  subst hz
  refine lv_ishr hx hb (by decide +kernel) ?_
  rw [sb_shr0]
  exact W.iret hx hb hr (fun t ht _ => ⟨_, rfl, rfl, ht⟩) (fun _ q => by cases q) (by decide +kernel)
set_option maxRecDepth 20000 in
theorem met_chr (G : mG) (l : Launch) {i : Nat} (hi : i < 6) {j : Int} (h0 : 0 ≤ j) (h1 : j < ((mstrs.getD i []).length : Nat)) : Met l yChr wChr (mroom 4 0 0) (va_Pc [.ref (gK G i), .int (Int32.ofInt j)] (fun U => gW G U U.heap)) (vp_Si (fun r => r = Int32.ofInt (((mstrs.getD i []).getD j.toNat 0 : Nat) : Int))) 0 0 (fun _ => False) := by
  refine Met.ofW (cc := prog_10_method_56_code) (maxL := 2) (ret := some .char) (by decide +kernel) rfl ?_
  intro p e s m args below meth c s₁ B hml hv
  obtain ⟨rfl, hG0⟩ := hv
  obtain ⟨adV, hV⟩ := hG0.2.2.2.2.1
  have hG : gX G adV s := ⟨hG0, hV⟩
  have hx := B.exec
  have hb := B.bytes
  have hr := B.returns
  have hlocks := B.notSynchronized
  have hts0 := atoms_spec (ws := wChr) B.pre
  have hts : ∀ w ∈ mWS, w.before ([.ref (gK G i), .int (Int32.ofInt j)] : List Value).toArray s = true := fun w hw => hts0 w (List.mem_cons_of_mem _ hw)
  have hown : s.vm.findClass "java/lang/String" = some m.cls := findClass_of_methodNamed B.named
  have hl := lv_entry [.ref (gK G i), .int (Int32.ofInt j)] (n := 2) (Nat.le_of_ble_eq_true rfl)
  rw [lg_entry_eq]
  generalize (lg_sl [.ref (gK G i), .int (Int32.ofInt j)] ++ List.replicate (2 - (lg_sl [.ref (gK G i), .int (Int32.ofInt j)]).length) Slot.unset).toArray = ls at hl ⊢
  have hl : lv_has ls 2 [(0, .ref (gK G i)), (1, .int (Int32.ofInt j))] := hl
  refine lv_aload_n (k := 0) hx hb (by decide +kernel) rfl (lv_at hl 0 rfl) ?_
  have hcb : CallB (headSpec wChr (mroom 4 0 0)).room s ([.ref (gK G i), .int (Int32.ofInt j)] : List Value).toArray "java/lang/String" i_mlat y_lat c_lat 1 (some .boolean) (wJ y_lat c_lat 1 (some .boolean)) (mroom 1 0 0) 0 0 0 := callB_of 0 hts (wJ_good wJ_latC) rfl rfl rfl (hts _ wJ_iS) (hts _ wJ_mlat) ⟨by decide, by decide, by decide +kernel⟩ ⟨Nat.le_of_ble_eq_true rfl, Nat.le_of_ble_eq_true rfl⟩
  refine W_callSi (pc := 1) (va_runV (C := "java/lang/String") (b := gK G i) (As := []) (rest := []) ⟨hx, hb, hml, hown, hts⟩ (met_lat G l adV hi) ⟨hcb, hts _ wJ_latI, hts _ wJ_latV⟩ ⟨gX_blind, vk_recv hV hi va_S.rf, fun U hU hWm => ⟨rfl, gX_warm hWm hU hG⟩⟩ rfl rfl hl.1 rfl (lv_room (Nat.le_of_ble_eq_true rfl)) (show decode prog_10_method_56_code 1 = .ok (.invokevirtual i_mlat, 3) by decide +kernel) ⟨Nat.le_of_ble_eq_true rfl, Nat.le_of_ble_eq_true rfl⟩) (fun z hz => ?_)
  subst hz
  refine lv_if_eq (off := 12) (tgt := 16) hx hb (by decide +kernel) (by decide) (fun q => absurd q (by decide)) (fun _ => ?_)
  refine lv_aload_n (k := 0) hx hb (by decide +kernel) rfl (lv_at hl 0 rfl) ?_
  refine vk_getf (own := "java/lang/String") (ref := "java/lang/String") (index := i_fv) (A := gA G) hx hb (hV.1 i hi).2.2.1 va_S.rf hown (hts _ wJ_fv) (fun _ h => h) (by decide +kernel) ?_
  refine lv_iload_n (k := 1) hx hb (by decide +kernel) rfl (lv_at hl 1 rfl) ?_
  have hcb2 : CallB (headSpec wChr (mroom 4 0 0)).room s ([.ref (gK G i), .int (Int32.ofInt j)] : List Value).toArray "java/lang/String" i_ml1 y_l1 c_l1 2 (some .char) (wJ y_l1 c_l1 2 (some .char)) (mroom 3 0 0) 0 0 2 := callB_of 2 hts (wJ_good wJ_l1C) rfl rfl rfl (hts _ wJ_iL1) (hts _ wJ_ml1) ⟨by decide, by decide, by decide +kernel⟩ ⟨Nat.le_of_ble_eq_true rfl, Nat.le_of_ble_eq_true rfl⟩
  refine W_callSi (pc := 12) (va_runS (As := [.ref (adV i), .int (Int32.ofInt j)]) (rest := []) ⟨hx, hb, hml, hown, hts⟩ (met_l1 G l adV hi h0 h1) ⟨hcb2, hts _ wJ_l1S⟩ ⟨gX_blind, fun U hU hWm => ⟨rfl, gX_warm hWm hU hG⟩⟩ rfl rfl hl.1 rfl (lv_room (Nat.le_of_ble_eq_true rfl)) (show decode prog_10_method_56_code 12 = .ok (.invokestatic i_ml1, 3) by decide +kernel) ⟨Nat.le_of_ble_eq_true rfl, Nat.le_of_ble_eq_true rfl⟩) (fun z hz => ?_)
  subst hz
  obtain ⟨-, e2⟩ := s_chr i hi j.toNat (by omega)
  exact W.zret (ty := .char) hx hb hr e2 (fun t ht _ => ⟨_, rfl, rfl, ht⟩) (fun _ q => by cases q) (by decide +kernel)
theorem strMet_ok (G : mG) (l : Launch) : strMet G l := ⟨fun _ hi => met_len G l hi, fun _ hi _ h0 h1 => met_chr G l hi h0 h1⟩
end
section
def b_W_law_0 : List mRow := [(.new 7, 3, 5, 17, 0, []), (.dup, 1, 0, 0, 0, []), (.invokespecial 9, 3, 44, 1, 0, [8]), (.astore_n 1, 1, 0, 0, 0, []), (.new 10, 3, 6, 31, 0, []), (.dup, 1, 0, 0, 0, []), (.invokespecial 12, 3, 114, 1, 0, [9]), (.astore_n 2, 1, 0, 0, 0, []), (.iconst 0, 1, 0, 0, 0, []), (.istore_n 3, 1, 0, 0, 0, [])]
def b_W_law_18 : List mRow := [(.iload_n 3, 1, 0, 0, 0, []), (.aload_n 0, 1, 0, 0, 0, []), (.arraylength, 1, 0, 0, 0, []), (.iconst 5, 1, 0, 0, 0, []), (.isub, 1, 0, 0, 0, []), (.if_icmp .gt 1457, 3, 1480, 0, 0, []), (.aload_n 0, 1, 0, 0, 0, []), (.iload_n 3, 1, 0, 0, 0, []), (.iaload, 1, 0, 0, 0, []), (.bipush 63, 2, 0, 0, 0, []), (.iand, 1, 0, 0, 0, []), (.tableswitch 1442 0 41 #[184, 207, 230, 243, 256, 279, 312, 335, 368, 401, 444, 477, 520, 543, 596, 639, 672, 705, 738, 761, 794, 817, 850, 883, 906, 929, 952, 996, 1030, 1063, 1086, 1099, 1132, 1155, 1178, 1221, 1244, 1267, 1310, 1353, 1406, 1419], 184, 1474, 0, 0, [216, 239, 262, 275, 288, 311, 344, 367, 400, 433, 476, 509, 552, 575, 628, 671, 704, 737, 770, 793, 826, 849, 882, 915, 938, 961, 984, 1028, 1062, 1095, 1118, 1131, 1164, 1187, 1210, 1253, 1276, 1299, 1342, 1385, 1438, 1451])]
def b_W_law_216 : List mRow := [(.aload_n 1, 1, 0, 0, 0, []), (.aload_n 0, 1, 0, 0, 0, []), (.iload_n 3, 1, 0, 0, 0, []), (.iconst 1, 1, 0, 0, 0, []), (.iadd, 1, 0, 0, 0, []), (.iaload, 1, 0, 0, 0, []), (.invokevirtual 13, 3, 45, 2, 1, [8]), (.aload_n 2, 1, 0, 0, 0, []), (.aload_n 0, 1, 0, 0, 0, []), (.iload_n 3, 1, 0, 0, 0, []), (.iconst 1, 1, 0, 0, 0, []), (.iadd, 1, 0, 0, 0, []), (.iaload, 1, 0, 0, 0, []), (.invokevirtual 17, 3, 116, 2, 1, [9]), (.if_icmp .eq 1240, 3, 1474, 0, 0, []), (.iconst 0, 1, 0, 0, 0, []), (.ireturn, 1, 0, 0, 1, [])]
def b_W_law_239 : List mRow := [(.aload_n 1, 1, 0, 0, 0, []), (.aload_n 0, 1, 0, 0, 0, []), (.iload_n 3, 1, 0, 0, 0, []), (.iconst 1, 1, 0, 0, 0, []), (.iadd, 1, 0, 0, 0, []), (.iaload, 1, 0, 0, 0, []), (.invokevirtual 18, 3, 46, 2, 1, [8]), (.aload_n 2, 1, 0, 0, 0, []), (.aload_n 0, 1, 0, 0, 0, []), (.iload_n 3, 1, 0, 0, 0, []), (.iconst 1, 1, 0, 0, 0, []), (.iadd, 1, 0, 0, 0, []), (.iaload, 1, 0, 0, 0, []), (.invokevirtual 21, 3, 117, 2, 1, [9]), (.if_icmp .eq 1217, 3, 1474, 0, 0, []), (.iconst 0, 1, 0, 0, 0, []), (.ireturn, 1, 0, 0, 1, [])]
def b_W_law_262 : List mRow := [(.aload_n 1, 1, 0, 0, 0, []), (.invokevirtual 22, 3, 47, 1, 1, [8]), (.aload_n 2, 1, 0, 0, 0, []), (.invokevirtual 26, 3, 126, 1, 1, [9]), (.if_icmp .eq 1204, 3, 1474, 0, 0, []), (.iconst 0, 1, 0, 0, 0, []), (.ireturn, 1, 0, 0, 1, [])]
def b_W_law_275 : List mRow := [(.aload_n 1, 1, 0, 0, 0, []), (.invokevirtual 27, 3, 48, 1, 1, [8]), (.aload_n 2, 1, 0, 0, 0, []), (.invokevirtual 30, 3, 127, 1, 1, [9]), (.if_icmp .eq 1191, 3, 1474, 0, 0, []), (.iconst 0, 1, 0, 0, 0, []), (.ireturn, 1, 0, 0, 1, [])]
def b_W_law_288 : List mRow := [(.aload_n 1, 1, 0, 0, 0, []), (.aload_n 0, 1, 0, 0, 0, []), (.iload_n 3, 1, 0, 0, 0, []), (.iconst 1, 1, 0, 0, 0, []), (.iadd, 1, 0, 0, 0, []), (.iaload, 1, 0, 0, 0, []), (.invokevirtual 31, 3, 49, 2, 1, [8]), (.aload_n 2, 1, 0, 0, 0, []), (.aload_n 0, 1, 0, 0, 0, []), (.iload_n 3, 1, 0, 0, 0, []), (.iconst 1, 1, 0, 0, 0, []), (.iadd, 1, 0, 0, 0, []), (.iaload, 1, 0, 0, 0, []), (.invokevirtual 34, 3, 137, 2, 1, [9]), (.if_icmp .eq 1168, 3, 1474, 0, 0, []), (.iconst 0, 1, 0, 0, 0, []), (.ireturn, 1, 0, 0, 1, [])]
def b_W_law_311 : List mRow := [(.aload_n 1, 1, 0, 0, 0, []), (.aload_n 0, 1, 0, 0, 0, []), (.iload_n 3, 1, 0, 0, 0, []), (.iconst 1, 1, 0, 0, 0, []), (.iadd, 1, 0, 0, 0, []), (.iaload, 1, 0, 0, 0, []), (.aload_n 0, 1, 0, 0, 0, []), (.iload_n 3, 1, 0, 0, 0, []), (.iconst 2, 1, 0, 0, 0, []), (.iadd, 1, 0, 0, 0, []), (.iaload, 1, 0, 0, 0, []), (.invokevirtual 35, 3, 50, 3, 1, [8]), (.aload_n 2, 1, 0, 0, 0, []), (.aload_n 0, 1, 0, 0, 0, []), (.iload_n 3, 1, 0, 0, 0, []), (.iconst 1, 1, 0, 0, 0, []), (.iadd, 1, 0, 0, 0, []), (.iaload, 1, 0, 0, 0, []), (.aload_n 0, 1, 0, 0, 0, []), (.iload_n 3, 1, 0, 0, 0, []), (.iconst 2, 1, 0, 0, 0, []), (.iadd, 1, 0, 0, 0, []), (.iaload, 1, 0, 0, 0, []), (.invokevirtual 39, 3, 138, 3, 1, [9]), (.if_icmp .eq 1135, 3, 1474, 0, 0, []), (.iconst 0, 1, 0, 0, 0, []), (.ireturn, 1, 0, 0, 1, [])]
def b_W_law_344 : List mRow := [(.aload_n 1, 1, 0, 0, 0, []), (.aload_n 0, 1, 0, 0, 0, []), (.iload_n 3, 1, 0, 0, 0, []), (.iconst 1, 1, 0, 0, 0, []), (.iadd, 1, 0, 0, 0, []), (.iaload, 1, 0, 0, 0, []), (.invokevirtual 40, 3, 51, 2, 1, [8]), (.aload_n 2, 1, 0, 0, 0, []), (.aload_n 0, 1, 0, 0, 0, []), (.iload_n 3, 1, 0, 0, 0, []), (.iconst 1, 1, 0, 0, 0, []), (.iadd, 1, 0, 0, 0, []), (.iaload, 1, 0, 0, 0, []), (.invokevirtual 43, 3, 139, 2, 1, [9]), (.if_icmp .eq 1112, 3, 1474, 0, 0, []), (.iconst 0, 1, 0, 0, 0, []), (.ireturn, 1, 0, 0, 1, [])]
def b_W_law_367 : List mRow := [(.aload_n 1, 1, 0, 0, 0, []), (.aload_n 0, 1, 0, 0, 0, []), (.iload_n 3, 1, 0, 0, 0, []), (.iconst 1, 1, 0, 0, 0, []), (.iadd, 1, 0, 0, 0, []), (.iaload, 1, 0, 0, 0, []), (.aload_n 0, 1, 0, 0, 0, []), (.iload_n 3, 1, 0, 0, 0, []), (.iconst 2, 1, 0, 0, 0, []), (.iadd, 1, 0, 0, 0, []), (.iaload, 1, 0, 0, 0, []), (.invokevirtual 44, 3, 52, 3, 1, [8]), (.aload_n 2, 1, 0, 0, 0, []), (.aload_n 0, 1, 0, 0, 0, []), (.iload_n 3, 1, 0, 0, 0, []), (.iconst 1, 1, 0, 0, 0, []), (.iadd, 1, 0, 0, 0, []), (.iaload, 1, 0, 0, 0, []), (.aload_n 0, 1, 0, 0, 0, []), (.iload_n 3, 1, 0, 0, 0, []), (.iconst 2, 1, 0, 0, 0, []), (.iadd, 1, 0, 0, 0, []), (.iaload, 1, 0, 0, 0, []), (.invokevirtual 47, 3, 140, 3, 1, [9]), (.if_icmp .eq 1079, 3, 1474, 0, 0, []), (.iconst 0, 1, 0, 0, 0, []), (.ireturn, 1, 0, 0, 1, [])]
def b_W_law_400 : List mRow := [(.aload_n 1, 1, 0, 0, 0, []), (.aload_n 0, 1, 0, 0, 0, []), (.iload_n 3, 1, 0, 0, 0, []), (.iconst 1, 1, 0, 0, 0, []), (.iadd, 1, 0, 0, 0, []), (.iaload, 1, 0, 0, 0, []), (.aload_n 0, 1, 0, 0, 0, []), (.iload_n 3, 1, 0, 0, 0, []), (.iconst 2, 1, 0, 0, 0, []), (.iadd, 1, 0, 0, 0, []), (.iaload, 1, 0, 0, 0, []), (.invokevirtual 48, 3, 53, 3, 1, [8]), (.aload_n 2, 1, 0, 0, 0, []), (.aload_n 0, 1, 0, 0, 0, []), (.iload_n 3, 1, 0, 0, 0, []), (.iconst 1, 1, 0, 0, 0, []), (.iadd, 1, 0, 0, 0, []), (.iaload, 1, 0, 0, 0, []), (.aload_n 0, 1, 0, 0, 0, []), (.iload_n 3, 1, 0, 0, 0, []), (.iconst 2, 1, 0, 0, 0, []), (.iadd, 1, 0, 0, 0, []), (.iaload, 1, 0, 0, 0, []), (.invokevirtual 51, 3, 141, 3, 1, [9]), (.if_icmp .eq 1046, 3, 1474, 0, 0, []), (.iconst 0, 1, 0, 0, 0, []), (.ireturn, 1, 0, 0, 1, [])]
def b_W_law_433 : List mRow := [(.aload_n 1, 1, 0, 0, 0, []), (.aload_n 0, 1, 0, 0, 0, []), (.iload_n 3, 1, 0, 0, 0, []), (.iconst 1, 1, 0, 0, 0, []), (.iadd, 1, 0, 0, 0, []), (.iaload, 1, 0, 0, 0, []), (.aload_n 0, 1, 0, 0, 0, []), (.iload_n 3, 1, 0, 0, 0, []), (.iconst 2, 1, 0, 0, 0, []), (.iadd, 1, 0, 0, 0, []), (.iaload, 1, 0, 0, 0, []), (.aload_n 0, 1, 0, 0, 0, []), (.iload_n 3, 1, 0, 0, 0, []), (.iconst 3, 1, 0, 0, 0, []), (.iadd, 1, 0, 0, 0, []), (.iaload, 1, 0, 0, 0, []), (.invokevirtual 52, 3, 54, 4, 1, [8]), (.aload_n 2, 1, 0, 0, 0, []), (.aload_n 0, 1, 0, 0, 0, []), (.iload_n 3, 1, 0, 0, 0, []), (.iconst 1, 1, 0, 0, 0, []), (.iadd, 1, 0, 0, 0, []), (.iaload, 1, 0, 0, 0, []), (.aload_n 0, 1, 0, 0, 0, []), (.iload_n 3, 1, 0, 0, 0, []), (.iconst 2, 1, 0, 0, 0, []), (.iadd, 1, 0, 0, 0, []), (.iaload, 1, 0, 0, 0, []), (.aload_n 0, 1, 0, 0, 0, []), (.iload_n 3, 1, 0, 0, 0, []), (.iconst 3, 1, 0, 0, 0, []), (.iadd, 1, 0, 0, 0, []), (.iaload, 1, 0, 0, 0, []), (.invokevirtual 56, 3, 143, 4, 1, [9]), (.if_icmp .eq 1003, 3, 1474, 0, 0, []), (.iconst 0, 1, 0, 0, 0, []), (.ireturn, 1, 0, 0, 1, [])]
def b_W_law_476 : List mRow := [(.aload_n 1, 1, 0, 0, 0, []), (.aload_n 0, 1, 0, 0, 0, []), (.iload_n 3, 1, 0, 0, 0, []), (.iconst 1, 1, 0, 0, 0, []), (.iadd, 1, 0, 0, 0, []), (.iaload, 1, 0, 0, 0, []), (.aload_n 0, 1, 0, 0, 0, []), (.iload_n 3, 1, 0, 0, 0, []), (.iconst 2, 1, 0, 0, 0, []), (.iadd, 1, 0, 0, 0, []), (.iaload, 1, 0, 0, 0, []), (.invokevirtual 57, 3, 55, 3, 1, [8]), (.aload_n 2, 1, 0, 0, 0, []), (.aload_n 0, 1, 0, 0, 0, []), (.iload_n 3, 1, 0, 0, 0, []), (.iconst 1, 1, 0, 0, 0, []), (.iadd, 1, 0, 0, 0, []), (.iaload, 1, 0, 0, 0, []), (.aload_n 0, 1, 0, 0, 0, []), (.iload_n 3, 1, 0, 0, 0, []), (.iconst 2, 1, 0, 0, 0, []), (.iadd, 1, 0, 0, 0, []), (.iaload, 1, 0, 0, 0, []), (.invokevirtual 60, 3, 144, 3, 1, [9]), (.if_icmp .eq 970, 3, 1474, 0, 0, []), (.iconst 0, 1, 0, 0, 0, []), (.ireturn, 1, 0, 0, 1, [])]
def b_W_law_509 : List mRow := [(.aload_n 1, 1, 0, 0, 0, []), (.aload_n 0, 1, 0, 0, 0, []), (.iload_n 3, 1, 0, 0, 0, []), (.iconst 1, 1, 0, 0, 0, []), (.iadd, 1, 0, 0, 0, []), (.iaload, 1, 0, 0, 0, []), (.aload_n 0, 1, 0, 0, 0, []), (.iload_n 3, 1, 0, 0, 0, []), (.iconst 2, 1, 0, 0, 0, []), (.iadd, 1, 0, 0, 0, []), (.iaload, 1, 0, 0, 0, []), (.aload_n 0, 1, 0, 0, 0, []), (.iload_n 3, 1, 0, 0, 0, []), (.iconst 3, 1, 0, 0, 0, []), (.iadd, 1, 0, 0, 0, []), (.iaload, 1, 0, 0, 0, []), (.invokevirtual 61, 3, 56, 4, 1, [8]), (.aload_n 2, 1, 0, 0, 0, []), (.aload_n 0, 1, 0, 0, 0, []), (.iload_n 3, 1, 0, 0, 0, []), (.iconst 1, 1, 0, 0, 0, []), (.iadd, 1, 0, 0, 0, []), (.iaload, 1, 0, 0, 0, []), (.aload_n 0, 1, 0, 0, 0, []), (.iload_n 3, 1, 0, 0, 0, []), (.iconst 2, 1, 0, 0, 0, []), (.iadd, 1, 0, 0, 0, []), (.iaload, 1, 0, 0, 0, []), (.aload_n 0, 1, 0, 0, 0, []), (.iload_n 3, 1, 0, 0, 0, []), (.iconst 3, 1, 0, 0, 0, []), (.iadd, 1, 0, 0, 0, []), (.iaload, 1, 0, 0, 0, []), (.invokevirtual 64, 3, 145, 4, 1, [9]), (.if_icmp .eq 927, 3, 1474, 0, 0, []), (.iconst 0, 1, 0, 0, 0, []), (.ireturn, 1, 0, 0, 1, [])]
def b_W_law_552 : List mRow := [(.aload_n 1, 1, 0, 0, 0, []), (.aload_n 0, 1, 0, 0, 0, []), (.iload_n 3, 1, 0, 0, 0, []), (.iconst 1, 1, 0, 0, 0, []), (.iadd, 1, 0, 0, 0, []), (.iaload, 1, 0, 0, 0, []), (.invokevirtual 65, 3, 57, 2, 1, [8]), (.aload_n 2, 1, 0, 0, 0, []), (.aload_n 0, 1, 0, 0, 0, []), (.iload_n 3, 1, 0, 0, 0, []), (.iconst 1, 1, 0, 0, 0, []), (.iadd, 1, 0, 0, 0, []), (.iaload, 1, 0, 0, 0, []), (.invokevirtual 68, 3, 146, 2, 1, [9]), (.if_icmp .eq 904, 3, 1474, 0, 0, []), (.iconst 0, 1, 0, 0, 0, []), (.ireturn, 1, 0, 0, 1, [])]
def b_W_law_575 : List mRow := [(.aload_n 1, 1, 0, 0, 0, []), (.aload_n 0, 1, 0, 0, 0, []), (.iload_n 3, 1, 0, 0, 0, []), (.iconst 1, 1, 0, 0, 0, []), (.iadd, 1, 0, 0, 0, []), (.iaload, 1, 0, 0, 0, []), (.aload_n 0, 1, 0, 0, 0, []), (.iload_n 3, 1, 0, 0, 0, []), (.iconst 2, 1, 0, 0, 0, []), (.iadd, 1, 0, 0, 0, []), (.iaload, 1, 0, 0, 0, []), (.aload_n 0, 1, 0, 0, 0, []), (.iload_n 3, 1, 0, 0, 0, []), (.iconst 3, 1, 0, 0, 0, []), (.iadd, 1, 0, 0, 0, []), (.iaload, 1, 0, 0, 0, []), (.aload_n 0, 1, 0, 0, 0, []), (.iload_n 3, 1, 0, 0, 0, []), (.iconst 4, 1, 0, 0, 0, []), (.iadd, 1, 0, 0, 0, []), (.iaload, 1, 0, 0, 0, []), (.invokevirtual 69, 3, 58, 5, 1, [8]), (.aload_n 2, 1, 0, 0, 0, []), (.aload_n 0, 1, 0, 0, 0, []), (.iload_n 3, 1, 0, 0, 0, []), (.iconst 1, 1, 0, 0, 0, []), (.iadd, 1, 0, 0, 0, []), (.iaload, 1, 0, 0, 0, []), (.aload_n 0, 1, 0, 0, 0, []), (.iload_n 3, 1, 0, 0, 0, []), (.iconst 2, 1, 0, 0, 0, []), (.iadd, 1, 0, 0, 0, []), (.iaload, 1, 0, 0, 0, []), (.aload_n 0, 1, 0, 0, 0, []), (.iload_n 3, 1, 0, 0, 0, []), (.iconst 3, 1, 0, 0, 0, []), (.iadd, 1, 0, 0, 0, []), (.iaload, 1, 0, 0, 0, []), (.aload_n 0, 1, 0, 0, 0, []), (.iload_n 3, 1, 0, 0, 0, []), (.iconst 4, 1, 0, 0, 0, []), (.iadd, 1, 0, 0, 0, []), (.iaload, 1, 0, 0, 0, []), (.invokevirtual 73, 3, 147, 5, 1, [9]), (.if_icmp .eq 851, 3, 1474, 0, 0, []), (.iconst 0, 1, 0, 0, 0, []), (.ireturn, 1, 0, 0, 1, [])]
def b_W_law_628 : List mRow := [(.aload_n 1, 1, 0, 0, 0, []), (.aload_n 0, 1, 0, 0, 0, []), (.iload_n 3, 1, 0, 0, 0, []), (.iconst 1, 1, 0, 0, 0, []), (.iadd, 1, 0, 0, 0, []), (.iaload, 1, 0, 0, 0, []), (.aload_n 0, 1, 0, 0, 0, []), (.iload_n 3, 1, 0, 0, 0, []), (.iconst 2, 1, 0, 0, 0, []), (.iadd, 1, 0, 0, 0, []), (.iaload, 1, 0, 0, 0, []), (.aload_n 0, 1, 0, 0, 0, []), (.iload_n 3, 1, 0, 0, 0, []), (.iconst 3, 1, 0, 0, 0, []), (.iadd, 1, 0, 0, 0, []), (.iaload, 1, 0, 0, 0, []), (.invokevirtual 74, 3, 59, 4, 1, [8]), (.aload_n 2, 1, 0, 0, 0, []), (.aload_n 0, 1, 0, 0, 0, []), (.iload_n 3, 1, 0, 0, 0, []), (.iconst 1, 1, 0, 0, 0, []), (.iadd, 1, 0, 0, 0, []), (.iaload, 1, 0, 0, 0, []), (.aload_n 0, 1, 0, 0, 0, []), (.iload_n 3, 1, 0, 0, 0, []), (.iconst 2, 1, 0, 0, 0, []), (.iadd, 1, 0, 0, 0, []), (.iaload, 1, 0, 0, 0, []), (.aload_n 0, 1, 0, 0, 0, []), (.iload_n 3, 1, 0, 0, 0, []), (.iconst 3, 1, 0, 0, 0, []), (.iadd, 1, 0, 0, 0, []), (.iaload, 1, 0, 0, 0, []), (.invokevirtual 77, 3, 150, 4, 1, [9]), (.if_icmp .eq 808, 3, 1474, 0, 0, []), (.iconst 0, 1, 0, 0, 0, []), (.ireturn, 1, 0, 0, 1, [])]
def b_W_law_671 : List mRow := [(.aload_n 1, 1, 0, 0, 0, []), (.aload_n 0, 1, 0, 0, 0, []), (.iload_n 3, 1, 0, 0, 0, []), (.iconst 1, 1, 0, 0, 0, []), (.iadd, 1, 0, 0, 0, []), (.iaload, 1, 0, 0, 0, []), (.aload_n 0, 1, 0, 0, 0, []), (.iload_n 3, 1, 0, 0, 0, []), (.iconst 2, 1, 0, 0, 0, []), (.iadd, 1, 0, 0, 0, []), (.iaload, 1, 0, 0, 0, []), (.invokevirtual 78, 3, 60, 3, 1, [8]), (.aload_n 2, 1, 0, 0, 0, []), (.aload_n 0, 1, 0, 0, 0, []), (.iload_n 3, 1, 0, 0, 0, []), (.iconst 1, 1, 0, 0, 0, []), (.iadd, 1, 0, 0, 0, []), (.iaload, 1, 0, 0, 0, []), (.aload_n 0, 1, 0, 0, 0, []), (.iload_n 3, 1, 0, 0, 0, []), (.iconst 2, 1, 0, 0, 0, []), (.iadd, 1, 0, 0, 0, []), (.iaload, 1, 0, 0, 0, []), (.invokevirtual 81, 3, 151, 3, 1, [9]), (.if_icmp .eq 775, 3, 1474, 0, 0, []), (.iconst 0, 1, 0, 0, 0, []), (.ireturn, 1, 0, 0, 1, [])]
def b_W_law_704 : List mRow := [(.aload_n 1, 1, 0, 0, 0, []), (.aload_n 0, 1, 0, 0, 0, []), (.iload_n 3, 1, 0, 0, 0, []), (.iconst 1, 1, 0, 0, 0, []), (.iadd, 1, 0, 0, 0, []), (.iaload, 1, 0, 0, 0, []), (.aload_n 0, 1, 0, 0, 0, []), (.iload_n 3, 1, 0, 0, 0, []), (.iconst 2, 1, 0, 0, 0, []), (.iadd, 1, 0, 0, 0, []), (.iaload, 1, 0, 0, 0, []), (.invokevirtual 82, 3, 61, 3, 1, [8]), (.aload_n 2, 1, 0, 0, 0, []), (.aload_n 0, 1, 0, 0, 0, []), (.iload_n 3, 1, 0, 0, 0, []), (.iconst 1, 1, 0, 0, 0, []), (.iadd, 1, 0, 0, 0, []), (.iaload, 1, 0, 0, 0, []), (.aload_n 0, 1, 0, 0, 0, []), (.iload_n 3, 1, 0, 0, 0, []), (.iconst 2, 1, 0, 0, 0, []), (.iadd, 1, 0, 0, 0, []), (.iaload, 1, 0, 0, 0, []), (.invokevirtual 85, 3, 152, 3, 1, [9]), (.if_icmp .eq 742, 3, 1474, 0, 0, []), (.iconst 0, 1, 0, 0, 0, []), (.ireturn, 1, 0, 0, 1, [])]
def b_W_law_737 : List mRow := [(.aload_n 1, 1, 0, 0, 0, []), (.aload_n 0, 1, 0, 0, 0, []), (.iload_n 3, 1, 0, 0, 0, []), (.iconst 1, 1, 0, 0, 0, []), (.iadd, 1, 0, 0, 0, []), (.iaload, 1, 0, 0, 0, []), (.aload_n 0, 1, 0, 0, 0, []), (.iload_n 3, 1, 0, 0, 0, []), (.iconst 2, 1, 0, 0, 0, []), (.iadd, 1, 0, 0, 0, []), (.iaload, 1, 0, 0, 0, []), (.invokevirtual 86, 3, 62, 3, 1, [8]), (.aload_n 2, 1, 0, 0, 0, []), (.aload_n 0, 1, 0, 0, 0, []), (.iload_n 3, 1, 0, 0, 0, []), (.iconst 1, 1, 0, 0, 0, []), (.iadd, 1, 0, 0, 0, []), (.iaload, 1, 0, 0, 0, []), (.aload_n 0, 1, 0, 0, 0, []), (.iload_n 3, 1, 0, 0, 0, []), (.iconst 2, 1, 0, 0, 0, []), (.iadd, 1, 0, 0, 0, []), (.iaload, 1, 0, 0, 0, []), (.invokevirtual 89, 3, 153, 3, 1, [9]), (.if_icmp .eq 709, 3, 1474, 0, 0, []), (.iconst 0, 1, 0, 0, 0, []), (.ireturn, 1, 0, 0, 1, [])]
def b_W_law_770 : List mRow := [(.aload_n 1, 1, 0, 0, 0, []), (.aload_n 0, 1, 0, 0, 0, []), (.iload_n 3, 1, 0, 0, 0, []), (.iconst 1, 1, 0, 0, 0, []), (.iadd, 1, 0, 0, 0, []), (.iaload, 1, 0, 0, 0, []), (.invokevirtual 90, 3, 63, 2, 1, [8]), (.aload_n 2, 1, 0, 0, 0, []), (.aload_n 0, 1, 0, 0, 0, []), (.iload_n 3, 1, 0, 0, 0, []), (.iconst 1, 1, 0, 0, 0, []), (.iadd, 1, 0, 0, 0, []), (.iaload, 1, 0, 0, 0, []), (.invokevirtual 93, 3, 156, 2, 1, [9]), (.if_icmp .eq 686, 3, 1474, 0, 0, []), (.iconst 0, 1, 0, 0, 0, []), (.ireturn, 1, 0, 0, 1, [])]
def b_W_law_793 : List mRow := [(.aload_n 1, 1, 0, 0, 0, []), (.aload_n 0, 1, 0, 0, 0, []), (.iload_n 3, 1, 0, 0, 0, []), (.iconst 1, 1, 0, 0, 0, []), (.iadd, 1, 0, 0, 0, []), (.iaload, 1, 0, 0, 0, []), (.aload_n 0, 1, 0, 0, 0, []), (.iload_n 3, 1, 0, 0, 0, []), (.iconst 2, 1, 0, 0, 0, []), (.iadd, 1, 0, 0, 0, []), (.iaload, 1, 0, 0, 0, []), (.invokevirtual 94, 3, 64, 3, 1, [8]), (.aload_n 2, 1, 0, 0, 0, []), (.aload_n 0, 1, 0, 0, 0, []), (.iload_n 3, 1, 0, 0, 0, []), (.iconst 1, 1, 0, 0, 0, []), (.iadd, 1, 0, 0, 0, []), (.iaload, 1, 0, 0, 0, []), (.aload_n 0, 1, 0, 0, 0, []), (.iload_n 3, 1, 0, 0, 0, []), (.iconst 2, 1, 0, 0, 0, []), (.iadd, 1, 0, 0, 0, []), (.iaload, 1, 0, 0, 0, []), (.invokevirtual 97, 3, 157, 3, 1, [9]), (.if_icmp .eq 653, 3, 1474, 0, 0, []), (.iconst 0, 1, 0, 0, 0, []), (.ireturn, 1, 0, 0, 1, [])]
def b_W_law_826 : List mRow := [(.aload_n 1, 1, 0, 0, 0, []), (.aload_n 0, 1, 0, 0, 0, []), (.iload_n 3, 1, 0, 0, 0, []), (.iconst 1, 1, 0, 0, 0, []), (.iadd, 1, 0, 0, 0, []), (.iaload, 1, 0, 0, 0, []), (.invokevirtual 98, 3, 65, 2, 1, [8]), (.aload_n 2, 1, 0, 0, 0, []), (.aload_n 0, 1, 0, 0, 0, []), (.iload_n 3, 1, 0, 0, 0, []), (.iconst 1, 1, 0, 0, 0, []), (.iadd, 1, 0, 0, 0, []), (.iaload, 1, 0, 0, 0, []), (.invokevirtual 101, 3, 160, 2, 1, [9]), (.if_icmp .eq 630, 3, 1474, 0, 0, []), (.iconst 0, 1, 0, 0, 0, []), (.ireturn, 1, 0, 0, 1, [])]
def b_W_law_849 : List mRow := [(.aload_n 1, 1, 0, 0, 0, []), (.aload_n 0, 1, 0, 0, 0, []), (.iload_n 3, 1, 0, 0, 0, []), (.iconst 1, 1, 0, 0, 0, []), (.iadd, 1, 0, 0, 0, []), (.iaload, 1, 0, 0, 0, []), (.aload_n 0, 1, 0, 0, 0, []), (.iload_n 3, 1, 0, 0, 0, []), (.iconst 2, 1, 0, 0, 0, []), (.iadd, 1, 0, 0, 0, []), (.iaload, 1, 0, 0, 0, []), (.invokevirtual 102, 3, 66, 3, 1, [8]), (.aload_n 2, 1, 0, 0, 0, []), (.aload_n 0, 1, 0, 0, 0, []), (.iload_n 3, 1, 0, 0, 0, []), (.iconst 1, 1, 0, 0, 0, []), (.iadd, 1, 0, 0, 0, []), (.iaload, 1, 0, 0, 0, []), (.aload_n 0, 1, 0, 0, 0, []), (.iload_n 3, 1, 0, 0, 0, []), (.iconst 2, 1, 0, 0, 0, []), (.iadd, 1, 0, 0, 0, []), (.iaload, 1, 0, 0, 0, []), (.invokevirtual 105, 3, 162, 3, 1, [9]), (.if_icmp .eq 597, 3, 1474, 0, 0, []), (.iconst 0, 1, 0, 0, 0, []), (.ireturn, 1, 0, 0, 1, [])]
def b_W_law_882 : List mRow := [(.aload_n 1, 1, 0, 0, 0, []), (.aload_n 0, 1, 0, 0, 0, []), (.iload_n 3, 1, 0, 0, 0, []), (.iconst 1, 1, 0, 0, 0, []), (.iadd, 1, 0, 0, 0, []), (.iaload, 1, 0, 0, 0, []), (.aload_n 0, 1, 0, 0, 0, []), (.iload_n 3, 1, 0, 0, 0, []), (.iconst 2, 1, 0, 0, 0, []), (.iadd, 1, 0, 0, 0, []), (.iaload, 1, 0, 0, 0, []), (.invokevirtual 106, 3, 67, 3, 1, [8]), (.aload_n 2, 1, 0, 0, 0, []), (.aload_n 0, 1, 0, 0, 0, []), (.iload_n 3, 1, 0, 0, 0, []), (.iconst 1, 1, 0, 0, 0, []), (.iadd, 1, 0, 0, 0, []), (.iaload, 1, 0, 0, 0, []), (.aload_n 0, 1, 0, 0, 0, []), (.iload_n 3, 1, 0, 0, 0, []), (.iconst 2, 1, 0, 0, 0, []), (.iadd, 1, 0, 0, 0, []), (.iaload, 1, 0, 0, 0, []), (.invokevirtual 109, 3, 163, 3, 1, [9]), (.if_icmp .eq 564, 3, 1474, 0, 0, []), (.iconst 0, 1, 0, 0, 0, []), (.ireturn, 1, 0, 0, 1, [])]
def b_W_law_915 : List mRow := [(.aload_n 1, 1, 0, 0, 0, []), (.aload_n 0, 1, 0, 0, 0, []), (.iload_n 3, 1, 0, 0, 0, []), (.iconst 1, 1, 0, 0, 0, []), (.iadd, 1, 0, 0, 0, []), (.iaload, 1, 0, 0, 0, []), (.invokevirtual 110, 3, 68, 2, 1, [8]), (.aload_n 2, 1, 0, 0, 0, []), (.aload_n 0, 1, 0, 0, 0, []), (.iload_n 3, 1, 0, 0, 0, []), (.iconst 1, 1, 0, 0, 0, []), (.iadd, 1, 0, 0, 0, []), (.iaload, 1, 0, 0, 0, []), (.invokevirtual 113, 3, 164, 2, 1, [9]), (.if_icmp .eq 541, 3, 1474, 0, 0, []), (.iconst 0, 1, 0, 0, 0, []), (.ireturn, 1, 0, 0, 1, [])]
def b_W_law_938 : List mRow := [(.aload_n 1, 1, 0, 0, 0, []), (.aload_n 0, 1, 0, 0, 0, []), (.iload_n 3, 1, 0, 0, 0, []), (.iconst 1, 1, 0, 0, 0, []), (.iadd, 1, 0, 0, 0, []), (.iaload, 1, 0, 0, 0, []), (.invokevirtual 114, 3, 69, 2, 1, [8]), (.aload_n 2, 1, 0, 0, 0, []), (.aload_n 0, 1, 0, 0, 0, []), (.iload_n 3, 1, 0, 0, 0, []), (.iconst 1, 1, 0, 0, 0, []), (.iadd, 1, 0, 0, 0, []), (.iaload, 1, 0, 0, 0, []), (.invokevirtual 117, 3, 165, 2, 1, [9]), (.if_icmp .eq 518, 3, 1474, 0, 0, []), (.iconst 0, 1, 0, 0, 0, []), (.ireturn, 1, 0, 0, 1, [])]
def b_W_law_961 : List mRow := [(.aload_n 1, 1, 0, 0, 0, []), (.aload_n 0, 1, 0, 0, 0, []), (.iload_n 3, 1, 0, 0, 0, []), (.iconst 1, 1, 0, 0, 0, []), (.iadd, 1, 0, 0, 0, []), (.iaload, 1, 0, 0, 0, []), (.invokevirtual 118, 3, 70, 2, 1, [8]), (.aload_n 2, 1, 0, 0, 0, []), (.aload_n 0, 1, 0, 0, 0, []), (.iload_n 3, 1, 0, 0, 0, []), (.iconst 1, 1, 0, 0, 0, []), (.iadd, 1, 0, 0, 0, []), (.iaload, 1, 0, 0, 0, []), (.invokevirtual 121, 3, 166, 2, 1, [9]), (.if_icmp .eq 495, 3, 1474, 0, 0, []), (.iconst 0, 1, 0, 0, 0, []), (.ireturn, 1, 0, 0, 1, [])]
def b_W_law_984 : List mRow := [(.aload_n 1, 1, 0, 0, 0, []), (.aload_n 0, 1, 0, 0, 0, []), (.iload_n 3, 1, 0, 0, 0, []), (.iconst 1, 1, 0, 0, 0, []), (.iadd, 1, 0, 0, 0, []), (.iaload, 1, 0, 0, 0, []), (.aload_n 0, 1, 0, 0, 0, []), (.iload_n 3, 1, 0, 0, 0, []), (.iconst 2, 1, 0, 0, 0, []), (.iadd, 1, 0, 0, 0, []), (.iaload, 1, 0, 0, 0, []), (.aload_n 0, 1, 0, 0, 0, []), (.iload_n 3, 1, 0, 0, 0, []), (.iconst 3, 1, 0, 0, 0, []), (.iadd, 1, 0, 0, 0, []), (.iaload, 1, 0, 0, 0, []), (.invokevirtual 122, 3, 71, 4, 2, [8]), (.aload_n 2, 1, 0, 0, 0, []), (.aload_n 0, 1, 0, 0, 0, []), (.iload_n 3, 1, 0, 0, 0, []), (.iconst 1, 1, 0, 0, 0, []), (.iadd, 1, 0, 0, 0, []), (.iaload, 1, 0, 0, 0, []), (.aload_n 0, 1, 0, 0, 0, []), (.iload_n 3, 1, 0, 0, 0, []), (.iconst 2, 1, 0, 0, 0, []), (.iadd, 1, 0, 0, 0, []), (.iaload, 1, 0, 0, 0, []), (.aload_n 0, 1, 0, 0, 0, []), (.iload_n 3, 1, 0, 0, 0, []), (.iconst 3, 1, 0, 0, 0, []), (.iadd, 1, 0, 0, 0, []), (.iaload, 1, 0, 0, 0, []), (.invokevirtual 126, 3, 170, 4, 2, [9]), (.lcmp, 1, 0, 0, 0, []), (.ifCond .eq 451, 3, 1474, 0, 0, []), (.iconst 0, 1, 0, 0, 0, []), (.ireturn, 1, 0, 0, 1, [])]
def b_W_law_1028 : List mRow := [(.aload_n 1, 1, 0, 0, 0, []), (.aload_n 0, 1, 0, 0, 0, []), (.iload_n 3, 1, 0, 0, 0, []), (.iconst 1, 1, 0, 0, 0, []), (.iadd, 1, 0, 0, 0, []), (.iaload, 1, 0, 0, 0, []), (.aload_n 0, 1, 0, 0, 0, []), (.iload_n 3, 1, 0, 0, 0, []), (.iconst 2, 1, 0, 0, 0, []), (.iadd, 1, 0, 0, 0, []), (.iaload, 1, 0, 0, 0, []), (.invokevirtual 127, 3, 72, 3, 2, [8]), (.aload_n 2, 1, 0, 0, 0, []), (.aload_n 0, 1, 0, 0, 0, []), (.iload_n 3, 1, 0, 0, 0, []), (.iconst 1, 1, 0, 0, 0, []), (.iadd, 1, 0, 0, 0, []), (.iaload, 1, 0, 0, 0, []), (.aload_n 0, 1, 0, 0, 0, []), (.iload_n 3, 1, 0, 0, 0, []), (.iconst 2, 1, 0, 0, 0, []), (.iadd, 1, 0, 0, 0, []), (.iaload, 1, 0, 0, 0, []), (.invokevirtual 131, 3, 171, 3, 2, [9]), (.lcmp, 1, 0, 0, 0, []), (.ifCond .eq 417, 3, 1474, 0, 0, []), (.iconst 0, 1, 0, 0, 0, []), (.ireturn, 1, 0, 0, 1, [])]
def b_W_law_1062 : List mRow := [(.aload_n 1, 1, 0, 0, 0, []), (.aload_n 0, 1, 0, 0, 0, []), (.iload_n 3, 1, 0, 0, 0, []), (.iconst 1, 1, 0, 0, 0, []), (.iadd, 1, 0, 0, 0, []), (.iaload, 1, 0, 0, 0, []), (.aload_n 0, 1, 0, 0, 0, []), (.iload_n 3, 1, 0, 0, 0, []), (.iconst 2, 1, 0, 0, 0, []), (.iadd, 1, 0, 0, 0, []), (.iaload, 1, 0, 0, 0, []), (.invokevirtual 132, 3, 73, 3, 1, [8]), (.aload_n 2, 1, 0, 0, 0, []), (.aload_n 0, 1, 0, 0, 0, []), (.iload_n 3, 1, 0, 0, 0, []), (.iconst 1, 1, 0, 0, 0, []), (.iadd, 1, 0, 0, 0, []), (.iaload, 1, 0, 0, 0, []), (.aload_n 0, 1, 0, 0, 0, []), (.iload_n 3, 1, 0, 0, 0, []), (.iconst 2, 1, 0, 0, 0, []), (.iadd, 1, 0, 0, 0, []), (.iaload, 1, 0, 0, 0, []), (.invokevirtual 135, 3, 172, 3, 1, [9]), (.if_icmp .eq 384, 3, 1474, 0, 0, []), (.iconst 0, 1, 0, 0, 0, []), (.ireturn, 1, 0, 0, 1, [])]
def b_W_law_1095 : List mRow := [(.aload_n 1, 1, 0, 0, 0, []), (.aload_n 0, 1, 0, 0, 0, []), (.iload_n 3, 1, 0, 0, 0, []), (.iconst 1, 1, 0, 0, 0, []), (.iadd, 1, 0, 0, 0, []), (.iaload, 1, 0, 0, 0, []), (.invokevirtual 136, 3, 74, 2, 1, [8]), (.aload_n 2, 1, 0, 0, 0, []), (.aload_n 0, 1, 0, 0, 0, []), (.iload_n 3, 1, 0, 0, 0, []), (.iconst 1, 1, 0, 0, 0, []), (.iadd, 1, 0, 0, 0, []), (.iaload, 1, 0, 0, 0, []), (.invokevirtual 139, 3, 173, 2, 1, [9]), (.if_icmp .eq 361, 3, 1474, 0, 0, []), (.iconst 0, 1, 0, 0, 0, []), (.ireturn, 1, 0, 0, 1, [])]
def b_W_law_1118 : List mRow := [(.aload_n 1, 1, 0, 0, 0, []), (.invokevirtual 140, 3, 75, 1, 1, [8]), (.aload_n 2, 1, 0, 0, 0, []), (.invokevirtual 143, 3, 177, 1, 1, [9]), (.if_icmp .eq 348, 3, 1474, 0, 0, []), (.iconst 0, 1, 0, 0, 0, []), (.ireturn, 1, 0, 0, 1, [])]
def b_W_law_1131 : List mRow := [(.aload_n 1, 1, 0, 0, 0, []), (.aload_n 0, 1, 0, 0, 0, []), (.iload_n 3, 1, 0, 0, 0, []), (.iconst 1, 1, 0, 0, 0, []), (.iadd, 1, 0, 0, 0, []), (.iaload, 1, 0, 0, 0, []), (.aload_n 0, 1, 0, 0, 0, []), (.iload_n 3, 1, 0, 0, 0, []), (.iconst 2, 1, 0, 0, 0, []), (.iadd, 1, 0, 0, 0, []), (.iaload, 1, 0, 0, 0, []), (.invokevirtual 144, 3, 76, 3, 1, [8]), (.aload_n 2, 1, 0, 0, 0, []), (.aload_n 0, 1, 0, 0, 0, []), (.iload_n 3, 1, 0, 0, 0, []), (.iconst 1, 1, 0, 0, 0, []), (.iadd, 1, 0, 0, 0, []), (.iaload, 1, 0, 0, 0, []), (.aload_n 0, 1, 0, 0, 0, []), (.iload_n 3, 1, 0, 0, 0, []), (.iconst 2, 1, 0, 0, 0, []), (.iadd, 1, 0, 0, 0, []), (.iaload, 1, 0, 0, 0, []), (.invokevirtual 147, 3, 178, 3, 1, [9]), (.if_icmp .eq 315, 3, 1474, 0, 0, []), (.iconst 0, 1, 0, 0, 0, []), (.ireturn, 1, 0, 0, 1, [])]
def b_W_law_1164 : List mRow := [(.aload_n 1, 1, 0, 0, 0, []), (.aload_n 0, 1, 0, 0, 0, []), (.iload_n 3, 1, 0, 0, 0, []), (.iconst 1, 1, 0, 0, 0, []), (.iadd, 1, 0, 0, 0, []), (.iaload, 1, 0, 0, 0, []), (.invokevirtual 148, 3, 77, 2, 1, [8]), (.aload_n 2, 1, 0, 0, 0, []), (.aload_n 0, 1, 0, 0, 0, []), (.iload_n 3, 1, 0, 0, 0, []), (.iconst 1, 1, 0, 0, 0, []), (.iadd, 1, 0, 0, 0, []), (.iaload, 1, 0, 0, 0, []), (.invokevirtual 151, 3, 179, 2, 1, [9]), (.if_icmp .eq 292, 3, 1474, 0, 0, []), (.iconst 0, 1, 0, 0, 0, []), (.ireturn, 1, 0, 0, 1, [])]
def b_W_law_1187 : List mRow := [(.aload_n 1, 1, 0, 0, 0, []), (.aload_n 0, 1, 0, 0, 0, []), (.iload_n 3, 1, 0, 0, 0, []), (.iconst 1, 1, 0, 0, 0, []), (.iadd, 1, 0, 0, 0, []), (.iaload, 1, 0, 0, 0, []), (.invokevirtual 152, 3, 78, 2, 1, [8]), (.aload_n 2, 1, 0, 0, 0, []), (.aload_n 0, 1, 0, 0, 0, []), (.iload_n 3, 1, 0, 0, 0, []), (.iconst 1, 1, 0, 0, 0, []), (.iadd, 1, 0, 0, 0, []), (.iaload, 1, 0, 0, 0, []), (.invokevirtual 155, 3, 181, 2, 1, [9]), (.if_icmp .eq 269, 3, 1474, 0, 0, []), (.iconst 0, 1, 0, 0, 0, []), (.ireturn, 1, 0, 0, 1, [])]
def b_W_law_1210 : List mRow := [(.aload_n 1, 1, 0, 0, 0, []), (.aload_n 0, 1, 0, 0, 0, []), (.iload_n 3, 1, 0, 0, 0, []), (.iconst 1, 1, 0, 0, 0, []), (.iadd, 1, 0, 0, 0, []), (.iaload, 1, 0, 0, 0, []), (.aload_n 0, 1, 0, 0, 0, []), (.iload_n 3, 1, 0, 0, 0, []), (.iconst 2, 1, 0, 0, 0, []), (.iadd, 1, 0, 0, 0, []), (.iaload, 1, 0, 0, 0, []), (.aload_n 0, 1, 0, 0, 0, []), (.iload_n 3, 1, 0, 0, 0, []), (.iconst 3, 1, 0, 0, 0, []), (.iadd, 1, 0, 0, 0, []), (.iaload, 1, 0, 0, 0, []), (.invokevirtual 156, 3, 79, 4, 1, [8]), (.aload_n 2, 1, 0, 0, 0, []), (.aload_n 0, 1, 0, 0, 0, []), (.iload_n 3, 1, 0, 0, 0, []), (.iconst 1, 1, 0, 0, 0, []), (.iadd, 1, 0, 0, 0, []), (.iaload, 1, 0, 0, 0, []), (.aload_n 0, 1, 0, 0, 0, []), (.iload_n 3, 1, 0, 0, 0, []), (.iconst 2, 1, 0, 0, 0, []), (.iadd, 1, 0, 0, 0, []), (.iaload, 1, 0, 0, 0, []), (.aload_n 0, 1, 0, 0, 0, []), (.iload_n 3, 1, 0, 0, 0, []), (.iconst 3, 1, 0, 0, 0, []), (.iadd, 1, 0, 0, 0, []), (.iaload, 1, 0, 0, 0, []), (.invokevirtual 159, 3, 182, 4, 1, [9]), (.if_icmp .eq 226, 3, 1474, 0, 0, []), (.iconst 0, 1, 0, 0, 0, []), (.ireturn, 1, 0, 0, 1, [])]
def b_W_law_1253 : List mRow := [(.aload_n 1, 1, 0, 0, 0, []), (.aload_n 0, 1, 0, 0, 0, []), (.iload_n 3, 1, 0, 0, 0, []), (.iconst 1, 1, 0, 0, 0, []), (.iadd, 1, 0, 0, 0, []), (.iaload, 1, 0, 0, 0, []), (.invokevirtual 160, 3, 80, 2, 1, [8]), (.aload_n 2, 1, 0, 0, 0, []), (.aload_n 0, 1, 0, 0, 0, []), (.iload_n 3, 1, 0, 0, 0, []), (.iconst 1, 1, 0, 0, 0, []), (.iadd, 1, 0, 0, 0, []), (.iaload, 1, 0, 0, 0, []), (.invokevirtual 163, 3, 183, 2, 1, [9]), (.if_icmp .eq 203, 3, 1474, 0, 0, []), (.iconst 0, 1, 0, 0, 0, []), (.ireturn, 1, 0, 0, 1, [])]
def b_W_law_1276 : List mRow := [(.aload_n 1, 1, 0, 0, 0, []), (.aload_n 0, 1, 0, 0, 0, []), (.iload_n 3, 1, 0, 0, 0, []), (.iconst 1, 1, 0, 0, 0, []), (.iadd, 1, 0, 0, 0, []), (.iaload, 1, 0, 0, 0, []), (.invokevirtual 164, 3, 81, 2, 1, [8]), (.aload_n 2, 1, 0, 0, 0, []), (.aload_n 0, 1, 0, 0, 0, []), (.iload_n 3, 1, 0, 0, 0, []), (.iconst 1, 1, 0, 0, 0, []), (.iadd, 1, 0, 0, 0, []), (.iaload, 1, 0, 0, 0, []), (.invokevirtual 167, 3, 184, 2, 1, [9]), (.if_icmp .eq 180, 3, 1474, 0, 0, []), (.iconst 0, 1, 0, 0, 0, []), (.ireturn, 1, 0, 0, 1, [])]
def b_W_law_1299 : List mRow := [(.aload_n 1, 1, 0, 0, 0, []), (.aload_n 0, 1, 0, 0, 0, []), (.iload_n 3, 1, 0, 0, 0, []), (.iconst 1, 1, 0, 0, 0, []), (.iadd, 1, 0, 0, 0, []), (.iaload, 1, 0, 0, 0, []), (.aload_n 0, 1, 0, 0, 0, []), (.iload_n 3, 1, 0, 0, 0, []), (.iconst 2, 1, 0, 0, 0, []), (.iadd, 1, 0, 0, 0, []), (.iaload, 1, 0, 0, 0, []), (.aload_n 0, 1, 0, 0, 0, []), (.iload_n 3, 1, 0, 0, 0, []), (.iconst 3, 1, 0, 0, 0, []), (.iadd, 1, 0, 0, 0, []), (.iaload, 1, 0, 0, 0, []), (.invokevirtual 168, 3, 82, 4, 1, [8]), (.aload_n 2, 1, 0, 0, 0, []), (.aload_n 0, 1, 0, 0, 0, []), (.iload_n 3, 1, 0, 0, 0, []), (.iconst 1, 1, 0, 0, 0, []), (.iadd, 1, 0, 0, 0, []), (.iaload, 1, 0, 0, 0, []), (.aload_n 0, 1, 0, 0, 0, []), (.iload_n 3, 1, 0, 0, 0, []), (.iconst 2, 1, 0, 0, 0, []), (.iadd, 1, 0, 0, 0, []), (.iaload, 1, 0, 0, 0, []), (.aload_n 0, 1, 0, 0, 0, []), (.iload_n 3, 1, 0, 0, 0, []), (.iconst 3, 1, 0, 0, 0, []), (.iadd, 1, 0, 0, 0, []), (.iaload, 1, 0, 0, 0, []), (.invokevirtual 171, 3, 185, 4, 1, [9]), (.if_icmp .eq 137, 3, 1474, 0, 0, []), (.iconst 0, 1, 0, 0, 0, []), (.ireturn, 1, 0, 0, 1, [])]
def b_W_law_1342 : List mRow := [(.aload_n 1, 1, 0, 0, 0, []), (.aload_n 0, 1, 0, 0, 0, []), (.iload_n 3, 1, 0, 0, 0, []), (.iconst 1, 1, 0, 0, 0, []), (.iadd, 1, 0, 0, 0, []), (.iaload, 1, 0, 0, 0, []), (.aload_n 0, 1, 0, 0, 0, []), (.iload_n 3, 1, 0, 0, 0, []), (.iconst 2, 1, 0, 0, 0, []), (.iadd, 1, 0, 0, 0, []), (.iaload, 1, 0, 0, 0, []), (.aload_n 0, 1, 0, 0, 0, []), (.iload_n 3, 1, 0, 0, 0, []), (.iconst 3, 1, 0, 0, 0, []), (.iadd, 1, 0, 0, 0, []), (.iaload, 1, 0, 0, 0, []), (.invokevirtual 172, 3, 83, 4, 1, [8]), (.aload_n 2, 1, 0, 0, 0, []), (.aload_n 0, 1, 0, 0, 0, []), (.iload_n 3, 1, 0, 0, 0, []), (.iconst 1, 1, 0, 0, 0, []), (.iadd, 1, 0, 0, 0, []), (.iaload, 1, 0, 0, 0, []), (.aload_n 0, 1, 0, 0, 0, []), (.iload_n 3, 1, 0, 0, 0, []), (.iconst 2, 1, 0, 0, 0, []), (.iadd, 1, 0, 0, 0, []), (.iaload, 1, 0, 0, 0, []), (.aload_n 0, 1, 0, 0, 0, []), (.iload_n 3, 1, 0, 0, 0, []), (.iconst 3, 1, 0, 0, 0, []), (.iadd, 1, 0, 0, 0, []), (.iaload, 1, 0, 0, 0, []), (.invokevirtual 175, 3, 186, 4, 1, [9]), (.if_icmp .eq 94, 3, 1474, 0, 0, []), (.iconst 0, 1, 0, 0, 0, []), (.ireturn, 1, 0, 0, 1, [])]
def b_W_law_1385 : List mRow := [(.aload_n 1, 1, 0, 0, 0, []), (.aload_n 0, 1, 0, 0, 0, []), (.iload_n 3, 1, 0, 0, 0, []), (.iconst 1, 1, 0, 0, 0, []), (.iadd, 1, 0, 0, 0, []), (.iaload, 1, 0, 0, 0, []), (.aload_n 0, 1, 0, 0, 0, []), (.iload_n 3, 1, 0, 0, 0, []), (.iconst 2, 1, 0, 0, 0, []), (.iadd, 1, 0, 0, 0, []), (.iaload, 1, 0, 0, 0, []), (.aload_n 0, 1, 0, 0, 0, []), (.iload_n 3, 1, 0, 0, 0, []), (.iconst 3, 1, 0, 0, 0, []), (.iadd, 1, 0, 0, 0, []), (.iaload, 1, 0, 0, 0, []), (.aload_n 0, 1, 0, 0, 0, []), (.iload_n 3, 1, 0, 0, 0, []), (.iconst 4, 1, 0, 0, 0, []), (.iadd, 1, 0, 0, 0, []), (.iaload, 1, 0, 0, 0, []), (.invokevirtual 176, 3, 84, 5, 1, [8]), (.aload_n 2, 1, 0, 0, 0, []), (.aload_n 0, 1, 0, 0, 0, []), (.iload_n 3, 1, 0, 0, 0, []), (.iconst 1, 1, 0, 0, 0, []), (.iadd, 1, 0, 0, 0, []), (.iaload, 1, 0, 0, 0, []), (.aload_n 0, 1, 0, 0, 0, []), (.iload_n 3, 1, 0, 0, 0, []), (.iconst 2, 1, 0, 0, 0, []), (.iadd, 1, 0, 0, 0, []), (.iaload, 1, 0, 0, 0, []), (.aload_n 0, 1, 0, 0, 0, []), (.iload_n 3, 1, 0, 0, 0, []), (.iconst 3, 1, 0, 0, 0, []), (.iadd, 1, 0, 0, 0, []), (.iaload, 1, 0, 0, 0, []), (.aload_n 0, 1, 0, 0, 0, []), (.iload_n 3, 1, 0, 0, 0, []), (.iconst 4, 1, 0, 0, 0, []), (.iadd, 1, 0, 0, 0, []), (.iaload, 1, 0, 0, 0, []), (.invokevirtual 179, 3, 187, 5, 1, [9]), (.if_icmp .eq 41, 3, 1474, 0, 0, []), (.iconst 0, 1, 0, 0, 0, []), (.ireturn, 1, 0, 0, 1, [])]
def b_W_law_1438 : List mRow := [(.aload_n 1, 1, 0, 0, 0, []), (.invokevirtual 180, 3, 85, 1, 1, [8]), (.aload_n 2, 1, 0, 0, 0, []), (.invokevirtual 183, 3, 188, 1, 1, [9]), (.if_icmp .eq 28, 3, 1474, 0, 0, []), (.iconst 0, 1, 0, 0, 0, []), (.ireturn, 1, 0, 0, 1, [])]
def b_W_law_1451 : List mRow := [(.aload_n 1, 1, 0, 0, 0, []), (.aload_n 0, 1, 0, 0, 0, []), (.iload_n 3, 1, 0, 0, 0, []), (.iconst 1, 1, 0, 0, 0, []), (.iadd, 1, 0, 0, 0, []), (.iaload, 1, 0, 0, 0, []), (.invokevirtual 184, 3, 86, 2, 1, [8]), (.aload_n 2, 1, 0, 0, 0, []), (.aload_n 0, 1, 0, 0, 0, []), (.iload_n 3, 1, 0, 0, 0, []), (.iconst 1, 1, 0, 0, 0, []), (.iadd, 1, 0, 0, 0, []), (.iaload, 1, 0, 0, 0, []), (.invokevirtual 187, 3, 189, 2, 1, [9]), (.if_icmp .eq 5, 3, 1474, 0, 0, []), (.iconst 0, 1, 0, 0, 0, []), (.ireturn, 1, 0, 0, 1, [])]
def b_W_law_1474 : List mRow := [(.iinc 3 5, 3, 0, 0, 0, []), (.goto (-1459), 3, 18, 0, 0, [])]
def b_W_law_1480 : List mRow := [(.iconst 1, 1, 0, 0, 0, []), (.ireturn, 1, 0, 0, 1, [])]
def m_W_law : mMeth := ([(0, b_W_law_0), (18, b_W_law_18), (216, b_W_law_216), (239, b_W_law_239), (262, b_W_law_262), (275, b_W_law_275), (288, b_W_law_288), (311, b_W_law_311), (344, b_W_law_344), (367, b_W_law_367), (400, b_W_law_400), (433, b_W_law_433), (476, b_W_law_476), (509, b_W_law_509), (552, b_W_law_552), (575, b_W_law_575), (628, b_W_law_628), (671, b_W_law_671), (704, b_W_law_704), (737, b_W_law_737), (770, b_W_law_770), (793, b_W_law_793), (826, b_W_law_826), (849, b_W_law_849), (882, b_W_law_882), (915, b_W_law_915), (938, b_W_law_938), (961, b_W_law_961), (984, b_W_law_984), (1028, b_W_law_1028), (1062, b_W_law_1062), (1095, b_W_law_1095), (1118, b_W_law_1118), (1131, b_W_law_1131), (1164, b_W_law_1164), (1187, b_W_law_1187), (1210, b_W_law_1210), (1253, b_W_law_1253), (1276, b_W_law_1276), (1299, b_W_law_1299), (1342, b_W_law_1342), (1385, b_W_law_1385), (1438, b_W_law_1438), (1451, b_W_law_1451), (1474, b_W_law_1474), (1480, b_W_law_1480)], [(0, [0]), (18, [0, 1, 2, 3]), (216, [0, 1, 2, 3]), (239, [0, 1, 2, 3]), (262, [0, 1, 2, 3]), (275, [0, 1, 2, 3]), (288, [0, 1, 2, 3]), (311, [0, 1, 2, 3]), (344, [0, 1, 2, 3]), (367, [0, 1, 2, 3]), (400, [0, 1, 2, 3]), (433, [0, 1, 2, 3]), (476, [0, 1, 2, 3]), (509, [0, 1, 2, 3]), (552, [0, 1, 2, 3]), (575, [0, 1, 2, 3]), (628, [0, 1, 2, 3]), (671, [0, 1, 2, 3]), (704, [0, 1, 2, 3]), (737, [0, 1, 2, 3]), (770, [0, 1, 2, 3]), (793, [0, 1, 2, 3]), (826, [0, 1, 2, 3]), (849, [0, 1, 2, 3]), (882, [0, 1, 2, 3]), (915, [0, 1, 2, 3]), (938, [0, 1, 2, 3]), (961, [0, 1, 2, 3]), (984, [0, 1, 2, 3]), (1028, [0, 1, 2, 3]), (1062, [0, 1, 2, 3]), (1095, [0, 1, 2, 3]), (1118, [0, 1, 2, 3]), (1131, [0, 1, 2, 3]), (1164, [0, 1, 2, 3]), (1187, [0, 1, 2, 3]), (1210, [0, 1, 2, 3]), (1253, [0, 1, 2, 3]), (1276, [0, 1, 2, 3]), (1299, [0, 1, 2, 3]), (1342, [0, 1, 2, 3]), (1385, [0, 1, 2, 3]), (1438, [0, 1, 2, 3]), (1451, [0, 1, 2, 3]), (1474, [0, 1, 2, 3]), (1480, [])])
theorem lok_0 : bOK 8 code 4 (some .boolean) false 9 0 b_W_law_0 = true := by decide +kernel
theorem lok_18 : bOK 8 code 4 (some .boolean) false 9 18 b_W_law_18 = true := by decide +kernel
theorem lok_216 : bOK 8 code 4 (some .boolean) false 9 216 b_W_law_216 = true := by decide +kernel
theorem lok_239 : bOK 8 code 4 (some .boolean) false 9 239 b_W_law_239 = true := by decide +kernel
theorem lok_262 : bOK 8 code 4 (some .boolean) false 9 262 b_W_law_262 = true := by decide +kernel
theorem lok_275 : bOK 8 code 4 (some .boolean) false 9 275 b_W_law_275 = true := by decide +kernel
theorem lok_288 : bOK 8 code 4 (some .boolean) false 9 288 b_W_law_288 = true := by decide +kernel
theorem lok_311 : bOK 8 code 4 (some .boolean) false 9 311 b_W_law_311 = true := by decide +kernel
theorem lok_344 : bOK 8 code 4 (some .boolean) false 9 344 b_W_law_344 = true := by decide +kernel
theorem lok_367 : bOK 8 code 4 (some .boolean) false 9 367 b_W_law_367 = true := by decide +kernel
theorem lok_400 : bOK 8 code 4 (some .boolean) false 9 400 b_W_law_400 = true := by decide +kernel
theorem lok_433 : bOK 8 code 4 (some .boolean) false 9 433 b_W_law_433 = true := by decide +kernel
theorem lok_476 : bOK 8 code 4 (some .boolean) false 9 476 b_W_law_476 = true := by decide +kernel
theorem lok_509 : bOK 8 code 4 (some .boolean) false 9 509 b_W_law_509 = true := by decide +kernel
theorem lok_552 : bOK 8 code 4 (some .boolean) false 9 552 b_W_law_552 = true := by decide +kernel
theorem lok_575 : bOK 8 code 4 (some .boolean) false 9 575 b_W_law_575 = true := by decide +kernel
theorem lok_628 : bOK 8 code 4 (some .boolean) false 9 628 b_W_law_628 = true := by decide +kernel
theorem lok_671 : bOK 8 code 4 (some .boolean) false 9 671 b_W_law_671 = true := by decide +kernel
theorem lok_704 : bOK 8 code 4 (some .boolean) false 9 704 b_W_law_704 = true := by decide +kernel
theorem lok_737 : bOK 8 code 4 (some .boolean) false 9 737 b_W_law_737 = true := by decide +kernel
theorem lok_770 : bOK 8 code 4 (some .boolean) false 9 770 b_W_law_770 = true := by decide +kernel
theorem lok_793 : bOK 8 code 4 (some .boolean) false 9 793 b_W_law_793 = true := by decide +kernel
theorem lok_826 : bOK 8 code 4 (some .boolean) false 9 826 b_W_law_826 = true := by decide +kernel
theorem lok_849 : bOK 8 code 4 (some .boolean) false 9 849 b_W_law_849 = true := by decide +kernel
theorem lok_882 : bOK 8 code 4 (some .boolean) false 9 882 b_W_law_882 = true := by decide +kernel
theorem lok_915 : bOK 8 code 4 (some .boolean) false 9 915 b_W_law_915 = true := by decide +kernel
theorem lok_938 : bOK 8 code 4 (some .boolean) false 9 938 b_W_law_938 = true := by decide +kernel
theorem lok_961 : bOK 8 code 4 (some .boolean) false 9 961 b_W_law_961 = true := by decide +kernel
theorem lok_984 : bOK 8 code 4 (some .boolean) false 9 984 b_W_law_984 = true := by decide +kernel
theorem lok_1028 : bOK 8 code 4 (some .boolean) false 9 1028 b_W_law_1028 = true := by decide +kernel
theorem lok_1062 : bOK 8 code 4 (some .boolean) false 9 1062 b_W_law_1062 = true := by decide +kernel
theorem lok_1095 : bOK 8 code 4 (some .boolean) false 9 1095 b_W_law_1095 = true := by decide +kernel
theorem lok_1118 : bOK 8 code 4 (some .boolean) false 9 1118 b_W_law_1118 = true := by decide +kernel
theorem lok_1131 : bOK 8 code 4 (some .boolean) false 9 1131 b_W_law_1131 = true := by decide +kernel
theorem lok_1164 : bOK 8 code 4 (some .boolean) false 9 1164 b_W_law_1164 = true := by decide +kernel
theorem lok_1187 : bOK 8 code 4 (some .boolean) false 9 1187 b_W_law_1187 = true := by decide +kernel
theorem lok_1210 : bOK 8 code 4 (some .boolean) false 9 1210 b_W_law_1210 = true := by decide +kernel
theorem lok_1253 : bOK 8 code 4 (some .boolean) false 9 1253 b_W_law_1253 = true := by decide +kernel
theorem lok_1276 : bOK 8 code 4 (some .boolean) false 9 1276 b_W_law_1276 = true := by decide +kernel
theorem lok_1299 : bOK 8 code 4 (some .boolean) false 9 1299 b_W_law_1299 = true := by decide +kernel
theorem lok_1342 : bOK 8 code 4 (some .boolean) false 9 1342 b_W_law_1342 = true := by decide +kernel
theorem lok_1385 : bOK 8 code 4 (some .boolean) false 9 1385 b_W_law_1385 = true := by decide +kernel
theorem lok_1438 : bOK 8 code 4 (some .boolean) false 9 1438 b_W_law_1438 = true := by decide +kernel
theorem lok_1451 : bOK 8 code 4 (some .boolean) false 9 1451 b_W_law_1451 = true := by decide +kernel
theorem lok_1474 : bOK 8 code 4 (some .boolean) false 9 1474 b_W_law_1474 = true := by decide +kernel
theorem lok_1480 : bOK 8 code 4 (some .boolean) false 9 1480 b_W_law_1480 = true := by decide +kernel
theorem law_ok : ∀ q ∈ m_W_law.1, bOK 8 code 4 (some .boolean) false 9 q.1 q.2 = true := fmc_ lok_0 (fmc_ lok_18 (fmc_ lok_216 (fmc_ lok_239 (fmc_ lok_262 (fmc_ lok_275 (fmc_ lok_288 (fmc_ lok_311 (fmc_ lok_344 (fmc_ lok_367 (fmc_ lok_400 (fmc_ lok_433 (fmc_ lok_476 (fmc_ lok_509 (fmc_ lok_552 (fmc_ lok_575 (fmc_ lok_628 (fmc_ lok_671 (fmc_ lok_704 (fmc_ lok_737 (fmc_ lok_770 (fmc_ lok_793 (fmc_ lok_826 (fmc_ lok_849 (fmc_ lok_882 (fmc_ lok_915 (fmc_ lok_938 (fmc_ lok_961 (fmc_ lok_984 (fmc_ lok_1028 (fmc_ lok_1062 (fmc_ lok_1095 (fmc_ lok_1118 (fmc_ lok_1131 (fmc_ lok_1164 (fmc_ lok_1187 (fmc_ lok_1210 (fmc_ lok_1253 (fmc_ lok_1276 (fmc_ lok_1299 (fmc_ lok_1342 (fmc_ lok_1385 (fmc_ lok_1438 (fmc_ lok_1451 (fmc_ lok_1474 (fmc_ lok_1480 (fmn_))))))))))))))))))))))))))))))))))))))))))))))
theorem wAt_tbl {p : Nat} {w : Jvm.Cond} (h : wAt p w) : w ∈ lw_tbl := by
  have h1 := List.mem_of_getElem? h
  have h2 : ∀ j, ∀ w ∈ tch j, w ∈ lw_tbl := by
    intro j w hw
    unfold lw_tbl tables_1
    simp only [List.mem_append]
    unfold tch at hw
    split at hw <;> simp [hw]
  exact h2 _ _ h1
theorem nest_w : ∀ q ∈ lNs, (Jvm.Cond.methodLinkNest (nR q.1.1) q.1.2 (mY q.2) "SamplerLaw") ∈ lw_tbl := fmc_ (wAt_tbl (p := 1084) rfl) (fmc_ (wAt_tbl (p := 1100) rfl) (fmc_ (wAt_tbl (p := 1141) rfl) (fmc_ (wAt_tbl (p := 1157) rfl) (fmn_))))
theorem str_w : ∀ i ∈ [0, 1, 2, 3, 4, 5], (Jvm.Cond.stringRef (nR 4) (lSt.getD i 0) (lStT.getD i "")) ∈ lw_tbl := fmc_ (wAt_tbl (p := 2020) rfl) (fmc_ (wAt_tbl (p := 2093) rfl) (fmc_ (wAt_tbl (p := 2102) rfl) (fmc_ (wAt_tbl (p := 2111) rfl) (fmc_ (wAt_tbl (p := 2112) rfl) (fmc_ (wAt_tbl (p := 2113) rfl) (fmn_))))))
theorem ao_w : (Jvm.Cond.arrayOver (.object (nR 3))) ∈ lw_tbl := wAt_tbl (p := 1155) rfl
theorem ls_w : (Jvm.Cond.laysStatic "java/lang/String" "COMPACT_STRINGS" "Z") ∈ lw_tbl ∧ (Jvm.Cond.laysStatic "jdk/internal/util/Preconditions" "SIOOBE_FORMATTER" "Ljava/util/function/BiFunction;") ∈ lw_tbl := ⟨wAt_tbl (p := 2034) rfl, wAt_tbl (p := 2050) rfl⟩
end
section
/-! THE CLAIM OUT OF ONE WALK OF THE LAW'S BODY. Your part is whole_start (and what it stands on); all else here is the same for every law, but numbers. -/
def R_law : String := "SamplerLawLaw"
def lw_P (b : Addr) (xs : List Int32) (args : Array Value) (s : State) : Prop := args = #[.ref b] ∧ s.IntsAt b xs ∧ xs.length ≤ 5 ∧ (Jvm.Cond.and given_1 narrow_1).before args s = true
def lw_Q (_ : Array Value) (s : State) (o : Outcome) (t : State) : Prop := o = .returned (some (.int 1)) ∧ Framed s o t [] 600000 7302250
def lw_Z (below : List Frame) (a : Array Value) (s : State) : State → Prop := fun t => ∃ o, t.status = .running ∧ Ended t below o ∧ lw_Q a s o t
/-- the law's own end, with 1 on the stack, nothing written that was there before, its room as the claim has it -/
theorem lw_ret {p : Program} {l : Launch} {e : Env} {s : State} {m : MethodId} {below : List Frame} {meth : Method} {c : Code} {b : Nat} (hx : p.tables.exec = Jvm.exec) (hb : c.code = code) (hr : meth.sig.returnType = ret) (hlocks : meth.locks = false) {pc : Nat} {H : Heap} {ls : Array Slot} (hdg : decode code pc = .ok (.ireturn, 1)) : W p l e room_1 s m #[Value.ref b] below meth c H [] 600000 7302250 (lw_Z below #[Value.ref b] s) (F0 m pc ls [.int 1]) := by
  intro T hT X
  obtain ⟨fs, hret, hrun, hended, hW, hframe⟩ := X.leave (v := some (.int 1)) (hlocks := hlocks) (fun h => by rw [hr] at h; cases h)
  have hmeth' : T.vm.method? m = some meth := X.method'
  refine ⟨T.setFrames fs, ?_, .returned (some (.int 1)), hrun, hended, rfl, ⟨_, rfl⟩, hW, hframe⟩
  jvm_step X.here [X.here.top, hx, hb, hdg, hmeth', hr, ret, narrow_b1]
  (try refine ⟨rfl, ?_⟩); (try refine ⟨rfl, ?_⟩)
  first | (intro acts; rw [hret _ acts rfl rfl rfl]) | rw [hret _ _ rfl rfl rfl]
  exact Steps.refl _
/-- what holds at the law's entry: the machine, the code, the tables' words (any of lw_tbl by 'hts w (by decide +kernel)'), the script of L ints xs at the cell b, what the Statement gives of the start (any of its parts by flat_of_before) -/
def lw_At (p : Program) (s : State) (m : MethodId) (meth : Method) (c : Code) (b L : Nat) (xs : Nat → Int32) : Prop :=
  p.tables.exec = Jvm.exec ∧ c.code = code ∧ meth.sig.returnType = ret ∧ c.maxLocals = 4 ∧ s.vm.findClass R_law = some m.cls ∧ (∀ w ∈ lw_tbl, w.before #[Value.ref b] s = true) ∧ va_X b L xs s s.heap ∧ b < s.heap.size ∧ meth.locks = false ∧ (Jvm.Cond.and given_1 narrow_1).before #[Value.ref b] s = true

/-! THE CLAIM'S START: out of what the Statement gives, a world for the abstract machine -/
def nTm (i : Nat) : Term := .string (nR 4) (lSt.getD i 0)
abbrev nGv : List Jvm.Cond := flatC (Jvm.Cond.and given_1 narrow_1)
theorem nv_ex : (List.range 6).all (fun i => decide (Jvm.Cond.exactly (nTm i) "java/lang/String" ∈ nGv)) = true := by decide +kernel
theorem nv_co : (List.range 6).all (fun i => decide (Jvm.Cond.eq (.field (nTm i) "java/lang/String" "coder" "B") (.int 0) ∈ nGv)) = true := by decide +kernel
theorem nv_ar : (List.range 6).all (fun i => decide (Jvm.Cond.arrayOf (.field (nTm i) "java/lang/String" "value" "[B") .byte ∈ nGv)) = true := by decide +kernel
theorem nv_le : (List.range 6).all (fun i => decide (Jvm.Cond.eq (.length (.field (nTm i) "java/lang/String" "value" "[B")) (.int (Int32.ofNat (slen.getD i 0))) ∈ nGv)) = true := by decide +kernel
theorem nv_el : (List.range 6).all (fun i => (List.range (slen.getD i 0)).all fun j => decide (Jvm.Cond.eq (.elem (.field (nTm i) "java/lang/String" "value" "[B") (.int (Int32.ofNat j))) (.int ((sbyt.getD i []).getD j 0)) ∈ nGv)) = true := by decide +kernel
theorem nv_ne : (List.range 6).all (fun i => (List.range 6).all fun j => decide (i = j) || decide (Jvm.Cond.not (Jvm.Cond.eq (nTm i) (nTm j)) ∈ nGv) || decide (Jvm.Cond.not (Jvm.Cond.eq (nTm j) (nTm i)) ∈ nGv)) = true := by decide +kernel
theorem nv_cs : Jvm.Cond.eq (.static "java/lang/String" "COMPACT_STRINGS" "Z") (.int 1) ∈ nGv := by decide +kernel
theorem nv_sf : Jvm.Cond.isRef (.static "jdk/internal/util/Preconditions" "SIOOBE_FORMATTER" "Ljava/util/function/BiFunction;") ∈ nGv := by decide +kernel
theorem al_of {n : Nat} {f : Nat → Bool} (h : (List.range n).all f = true) {i : Nat} (hi : i < n) : f i = true := List.all_eq_true.mp h i (List.mem_range.mpr hi)
set_option maxHeartbeats 4000000 in
theorem g_start {p : Program} {s : State} {m : MethodId} {meth : Method} {c : Code} {b L : Nat} {xs : Nat → Int32} (C0 : lw_At p s m meth c b L xs) : ∃ G : mG, gSz G = s.heap.size ∧ gB G = b ∧ gW G s s.heap := by
  obtain ⟨hx, hb, hr, hml, hown, hts, hX, hbl, hlocks, hgv⟩ := id C0
  have hgs := flat_of_before _ hgv
  have htw : ∀ w ∈ mWS, w.before #[Value.ref b] s = true := fun w hw => hts w (List.mem_filter.mp hw).1
  -- the objects
  have hk : ∀ t : Nat, ∃ q : ClassId × (Nat → Nat), t < 7 → u_Kn s (nR t) (nT t) (nN t) q.1 q.2 := by
    intro t
    by_cases ht : t < 7
    · obtain ⟨c0, iS, h⟩ := u_known (C := nR t) (T := nT t) (N := nN t) (n := nN t) htw (u_in ht) (htw _ (wAt_in (nIns_w t (by simp; omega)) rfl))
      exact ⟨(c0, iS), fun _ => h⟩
    · exact ⟨(0, fun _ => 0), fun h => absurd h ht⟩
  obtain ⟨D, hD⟩ := Classical.axiomOfChoice hk
  -- the rows
  obtain ⟨cI, kI, pI, hcI, hkI, hkI2⟩ := Cond.arrayClass_spec (htw _ (wAt_in pFix_w.2.2.1 rfl))
  obtain ⟨cZ, kZ, pZ, hcZ, hkZ, hkZ2⟩ := Cond.arrayClass_spec (htw _ (wAt_in pFix_w.2.2.2 rfl))
  have hAO : va_AO (nR 3) s := va_AO.of (hts _ ao_w)
  obtain ⟨pS, cS, kS, hpS, -, hkS, hkS2, hcS⟩ := Cond.arrayOver_spec (hts _ ao_w)
  -- the literals
  have hA : ∀ a : Nat, a < s.heap.size → ¬ (fun q : Nat => s.heap.size ≤ q) a := fun a h q => Nat.not_le.mpr h q
  obtain ⟨adK, adV, hS, hev⟩ := vk_Sof (args := #[Value.ref b]) (s := s) (N := 6) (tm := nTm) (len := slen) (byt := sbyt) (A := fun q : Nat => s.heap.size ≤ q)
    (fun i hi => by rw [(s_len i hi).1]; have := (s_len i hi).2; omega)
    (fun i hi => hgs _ (of_decide_eq_true (al_of nv_ex hi))) (fun i hi => hgs _ (of_decide_eq_true (al_of nv_co hi))) (fun i hi => hgs _ (of_decide_eq_true (al_of nv_ar hi))) (fun i hi => hgs _ (of_decide_eq_true (al_of nv_le hi)))
    (fun i hi j hj => hgs _ (of_decide_eq_true (al_of (al_of nv_el hi) hj)))
    (fun i j hi hj hij => by
      have h := al_of (al_of nv_ne hi) hj
      simp only [Bool.or_eq_true, decide_eq_true_eq] at h
      rcases h with (h | h) | h
      · exact absurd h hij
      · exact Or.inl (hgs _ h)
      · exact Or.inr (hgs _ h)) hA
  refine ⟨(s.heap.size, b, adK, (fun t => (D t).1, fun t => (D t).2), cI, cZ, cS), rfl, rfl, ⟨fun k q hq => ?_, fun k q hq => ?_⟩, fun q hq => va_Nw.of rfl (hts _ (nest_w q hq)), hAO, fun i hi => ?_, ⟨adV, hS⟩, ?_, ?_⟩
  · have hk7 : k < 7 := by
      have := (List.getElem?_eq_some_iff.mp hq).1
      simpa [classes] using this
    rw [cls_at hk7] at hq
    cases hq
    exact hD k hk7
  · match k, hq with
    | 0, hq => cases hq; exact ⟨fun n z => ⟨fun k h => (by cases h), kI, hkI, pI, hkI2⟩, hcI⟩
    | 1, hq => cases hq; exact ⟨fun n z => ⟨fun k h => (by cases h), kZ, hkZ, pZ, hkZ2⟩, hcZ⟩
    | 2, hq => cases hq; exact ⟨fun n z => ⟨fun k h => (by cases h), kS, hkS, pS, hkS2⟩, kS, pS, hkS, hkS2, hpS, hcS⟩
    | k + 3, hq => simp [mtys] at hq
  · have hm : i ∈ [0, 1, 2, 3, 4, 5] := by simp; omega
    exact vk_R.of (A := #[Value.ref b]) (hts _ (str_w i hm)) (hev i hi)
  · exact va_Zof (args := #[Value.ref b]) (hts _ ls_w.1) (htw _ wJ_iS) (va_eqt (hgs _ nv_cs)) hA
  · exact va_Zqof (args := #[Value.ref b]) (hts _ ls_w.2) (htw _ wJ_iPC) (hgs _ nv_sf) hA
/-- the law, as the abstract machine has it -/
def lawP (L : Nat) (xs : Nat → Int) : Prop := ∀ K, mClo m_W_law (mR3 10) (100, 5000) (L + 1, xs) (fun v _ => v = some (vi 1)) K → K 0 [(0, vs 0)] [] (([], []), fun _ _ => 0)
set_option maxHeartbeats 4000000 in
theorem start_of {p : Program} {e : Env} {s : State} {m : MethodId} {below : List Frame} {meth : Method} {c : Code} (l : Launch) {b L : Nat} {xs : Nat → Int32} (hL : L ≤ 320) (C0 : lw_At p s m meth c b L xs) (hlaw : lawP L (fun j => (xs j).toInt)) : W p l e room_1 s m #[Value.ref b] below meth c s.heap [] 0 0 (lw_Z below #[Value.ref b] s) (entryFrame m ([Value.ref b] : List Value).toArray 4) := by
  obtain ⟨G, hsz, hgb, hG⟩ := g_start C0
  obtain ⟨hx, hb, hr, hml, hown, hts, hX, hbl, hlocks, hgv⟩ := id C0
  have htw : ∀ w ∈ mWS, w.before #[Value.ref b] s = true := fun w hw => hts w (List.mem_filter.mp hw).1
  have exs : (fun j => Int32.ofInt ((xs j).toInt)) = xs := by funext j; exact Int32.ofInt_toInt _
  have X : mXf G l 8 4 (some .boolean) false code 10 0 0 (100, 5000) (L + 1, fun j => (xs j).toInt) p room_1 s m #[Value.ref b] meth c :=
    ⟨⟨hx, hb, hml, hown, htw⟩, hG, ⟨by omega, by omega⟩, fun q => (by cases q), ⟨by decide, by decide⟩, ⟨by decide, by decide⟩, Or.inr ⟨by show va_X (gB G) L (fun j => Int32.ofInt ((xs j).toInt)) s s.heap; rw [hgb, exs]; exact hX, by rw [hgb, hsz]; exact hbl, fun j => i_ti _, by show L + 1 ≤ 1000; omega⟩⟩
  have hclo : mClo m_W_law (mR3 10) (100, 5000) (L + 1, fun j => (xs j).toInt) (fun v _ => v = some (vi 1)) (mV G p l e room_1 s m #[Value.ref b] below meth c (lw_Z below #[Value.ref b] s) 4 0 0) := by
    intro i pc rows hi lv st hh hrun
    have hbk : bOK 8 code 4 (some .boolean) false 9 pc rows = true := law_ok (pc, rows) (List.mem_of_getElem? hi)
    refine mV_rows X (strMet_ok G l) (by decide) (fun y' as' h' r' hc hn => mMet_of (strMet_ok G l) 10 y' as' h' r' hc hn) ?_ ?_ ?_ rows pc lv st hh hbk hrun
    · intro pc lv v h2 hd hty hret
      intro h1 h2' h3 H locs ls hg1 hS hl
      have hv : v = 1 := Sum.inl.inj (Option.some.inj hret)
      subst hv
      refine va_forget (fun q hq => by have := hS.2.2 q hq; unfold gA at this; omega) ?_
      refine W.widen (k := 600000) (n := 7302250) (by have := h3.2.1; exact this) (by have := h3.2.2; exact this) ?_
      exact lw_ret hx hb hr hlocks hd
    · intro pc lv v h2 hd hty hret; cases hty
    · intro pc lv h2 hd hty hret; cases hty
  have hK := hlaw _ hclo
  have hl := lv_entry [Value.ref b] (n := 4) (Nat.le_of_ble_eq_true rfl)
  rw [lg_entry_eq]
  have eb : toV G (vs 0) = .ref b := by show Value.ref (gB G) = _; rw [hgb]
  have hl' : lv_has (lg_sl [Value.ref b] ++ List.replicate (4 - (lg_sl [Value.ref b]).length) Slot.unset).toArray 4 (tLV G [(0, vs 0)]) := by
    show lv_has _ 4 [(0, toV G (vs 0))]
    rw [eb]
    exact hl
  have hW := hK (fun q hq => by rw [List.mem_singleton.mp hq]; exact trivial) (fun _ q => absurd q List.not_mem_nil) ⟨⟨Nat.le_refl _, Nat.le_refl _⟩, Nat.zero_le _, Nat.zero_le _⟩ s.heap [] _ ⟨fun k q h => by simp [mW] at h, ⟨fun k t n h => by simp at h, fun q hq => absurd hq List.not_mem_nil, fun q hq => absurd hq List.not_mem_nil⟩, fun _ _ => inR_0⟩ va_S.rf hl'
  exact hW
end
section
/-! PURE PROOFS 1: helpers, Arrays.fill, the objects' beginnings -/
theorem mTag_i {sh : mSh} {k t n : Nat} {c : Nat → Prop} (h : sh.1[k]? = some (t, n)) (hc : c n) : mTag sh k t c := by
  unfold mTag
  rw [h]
  simp [hc]
theorem w32_s {z : Int} (h0 : -2147483648 ≤ z) (h1 : z < 2147483648) : w32 z = z := w32_id ⟨h0, h1⟩
def mfill (M : mMem) (k : Nat) (n v : Int) : mMem := fun k' i => if k' = k ∧ 0 ≤ i ∧ i < n then v else M k' i
theorem mfill_0 (M : mMem) (k : Nat) (v : Int) : mfill M k 0 v = M := by
  funext k' i
  unfold mfill
  rw [if_neg (by omega)]
theorem mfill_s (M : mMem) (k : Nat) {i : Int} (v : Int) (h : 0 ≤ i) : mupd (mfill M k i v) k i v = mfill M k (i + 1) v := by
  funext k' j
  unfold mupd mfill
  by_cases h1 : k' = k
  · by_cases h2 : j = i
    · rw [if_pos ⟨h1, h2⟩, if_pos ⟨h1, by omega, by omega⟩]
    · rw [if_neg (fun q => h2 q.2)]
      by_cases h3 : 0 ≤ j ∧ j < i
      · rw [if_pos ⟨h1, h3⟩, if_pos ⟨h1, by omega, by omega⟩]
      · rw [if_neg (fun q => h3 q.2), if_neg (fun q => h3 ⟨q.2.1, by omega⟩)]
  · rw [if_neg (fun q => h1 q.1), if_neg (fun q => h1 q.1), if_neg (fun q => h1 q.1)]
theorem R_fill (d : Nat) (sh : mSh) (M : mMem) (k n : Nat) (v : Int) (hk : sh.1[k]? = some (0, n)) (hn : n ≤ 1000) : mR3 (d + 1) 190 [vr k, vi v] (sh, M) (none, (sh, mfill M k n v)) := by
  refine ⟨⟨by decide, Nat.le_of_ble_eq_true rfl⟩, fun K hK => ?_⟩
  have hK : mClo m_A_fill (mR3 d) (sh.1.length, mtot sh.1) (0, fun _ => 0) (mret (none, (sh, mfill M k n v))) K := hK
  have loop : ∀ (j : Nat) (i : Int), 0 ≤ i → i + j = n → K 5 [(0, vr k), (1, vi v), (2, vi i), (3, vi (n : Int))] [] (sh, mfill M k i v) := by
    intro j
    induction j with
    | zero =>
      intro i h0 hi
      refine hK 1 5 b_A_fill_5 rfl _ _ _ (And.intro (fun _ => ?_) (fun q => absurd (show (n : Int) ≤ i by omega) q))
      refine hK 2 20 b_A_fill_20 rfl _ _ _ ?_
      exact And.intro rfl (by rw [show i = (n : Int) by omega])
    | succ j ih =>
      intro i h0 hi
      refine hK 1 5 b_A_fill_5 rfl _ _ _ (And.intro (fun q => absurd (show (n : Int) ≤ i from q) (by omega)) (fun _ => ?_))
      refine mTag_i hk (mIn_i h0 (by omega) ?_)
      have h1 := ih (i + 1) (by omega) (by omega)
      have e1 : w32 (i + 1) = i + 1 := w32_s (by omega) (by omega)
      rw [← mfill_s M k v h0, ← e1] at h1
      exact h1
  refine hK 0 0 b_A_fill_0 rfl _ _ _ ?_
  refine mTag_i hk ?_
  have h1 := loop n 0 (by omega) (by omega)
  rw [mfill_0] at h1
  exact h1
theorem mRef_i {sh : mSh} {k j t : Nat} {c : Nat → Prop} (h : sh.2.lookup (k, j) = some t) (hc : c t) : mRef sh k j c := by
  unfold mRef
  rw [h]
  exact hc
theorem mB_i {b : Bool} {p : Prop} (h : b = true) (hp : p) : mB b p := by
  rw [h]
  exact hp
def mclear (M : mMem) (k : Nat) : mMem := mupd (mupd (mfill (mupd (mupd (mfill (mfill (mfill M (k + 1) (36 : Nat) 0) (k + 6) (25 : Nat) 0) (k + 7) (25 : Nat) 0) (k + 6) 0 30) (k + 7) 0 30) (k + 2) (4 : Nat) 20) k (5 : Nat) 0) k (6 : Nat) 0
/-- a charter lies at k -/
def isCh (sh : mSh) (k : Nat) : Prop := sh.1[k]? = some (3, 11) ∧ (sh.2.lookup (k, 0) = some (k + 1) ∧ sh.1[k + 1]? = some (0, 36)) ∧ (sh.2.lookup (k, 1) = some (k + 2) ∧ sh.1[k + 2]? = some (0, 4)) ∧ (sh.2.lookup (k, 9) = some (k + 6) ∧ sh.1[k + 6]? = some (0, 25)) ∧ (sh.2.lookup (k, 10) = some (k + 7) ∧ sh.1[k + 7]? = some (0, 25))
theorem R_clear (d : Nat) (sh : mSh) (M : mMem) (k : Nat) (hc : isCh sh k) : mR3 (d + 2) 1 [vr k] (sh, M) (none, (sh, mclear M k)) := by
  obtain ⟨h0, ⟨r1, h1⟩, ⟨r2, h2⟩, ⟨r6, h6⟩, r7, h7⟩ := hc
  refine ⟨⟨by decide, Nat.le_of_ble_eq_true rfl⟩, fun K hK => ?_⟩
  have hK : mClo m_C_clear (mR3 (d + 1)) (sh.1.length, mtot sh.1) (0, fun _ => 0) (mret (none, (sh, mclear M k))) K := hK
  refine hK 0 0 b_C_clear_0 rfl _ _ _ ?_
  refine mTag_i h0 (mRef_i r1 (mB_i rfl (Exists.intro _ (And.intro (R_fill d sh _ (k + 1) 36 0 h1 (by decide)) ?_))))
  refine mTag_i h0 (mRef_i r6 (mB_i rfl (Exists.intro _ (And.intro (R_fill d sh _ (k + 6) 25 0 h6 (by decide)) ?_))))
  refine mTag_i h0 (mRef_i r7 (mB_i rfl (Exists.intro _ (And.intro (R_fill d sh _ (k + 7) 25 0 h7 (by decide)) ?_))))
  refine mTag_i h0 (mRef_i r6 (mTag_i h6 (mIn_i (by decide) (by decide) ?_)))
  refine mTag_i h0 (mRef_i r7 (mTag_i h7 (mIn_i (by decide) (by decide) ?_)))
  refine mTag_i h0 (mRef_i r2 (mB_i rfl (Exists.intro _ (And.intro (R_fill d sh _ (k + 2) 4 20 h2 (by decide)) ?_))))
  refine mTag_i h0 (mTag_i h0 ?_)
  exact And.intro rfl rfl
/-- the shape when n cells and r references stand -/
def shA (n r : Nat) : mSh := (S0.1.take n, S0.2.drop (S0.2.length - r))
end
section
/-! PURE PROOFS 2: the constructors, at the shapes in which they run -/
def mCin (M : mMem) (k : Nat) : mMem := mclear (mzero (mzero (mzero (mzero (mzero (mzero (mzero M (k + 1)) (k + 2)) (k + 3)) (k + 4)) (k + 5)) (k + 6)) (k + 7)) k
set_option maxRecDepth 100000 in
theorem R_C_init_1 (d : Nat) (M : mMem) : mR3 (d + 3) 0 [vr 1] (shA 2 0, M) (none, (shA 9 7, mCin M 1)) := by
  refine ⟨⟨by decide, Nat.le_of_ble_eq_true rfl⟩, fun K hK => ?_⟩
  have hK : mClo m_C_init (mR3 (d + 2)) ((shA 9 7).1.length, mtot (shA 9 7).1) (0, fun _ => 0) (mret (none, (shA 9 7, mCin M 1))) K := hK
  refine hK 0 0 b_C_init_0 rfl _ _ _ ?_
  refine And.intro ⟨by decide, by decide, Nat.le_of_ble_eq_true rfl, Nat.le_of_ble_eq_true rfl⟩ ?_
  refine And.intro ⟨by decide, by decide, Nat.le_of_ble_eq_true rfl, Nat.le_of_ble_eq_true rfl⟩ ?_
  refine And.intro ⟨by decide, by decide, Nat.le_of_ble_eq_true rfl, Nat.le_of_ble_eq_true rfl⟩ ?_
  refine And.intro ⟨by decide, by decide, Nat.le_of_ble_eq_true rfl, Nat.le_of_ble_eq_true rfl⟩ ?_
  refine And.intro ⟨by decide, by decide, Nat.le_of_ble_eq_true rfl, Nat.le_of_ble_eq_true rfl⟩ ?_
  refine And.intro ⟨by decide, by decide, Nat.le_of_ble_eq_true rfl, Nat.le_of_ble_eq_true rfl⟩ ?_
  refine And.intro ⟨by decide, by decide, Nat.le_of_ble_eq_true rfl, Nat.le_of_ble_eq_true rfl⟩ ?_
  refine Exists.intro _ (And.intro (R_clear d (shA 9 7) _ 1 (by unfold isCh; decide +kernel)) ?_)
  exact And.intro rfl rfl
set_option maxRecDepth 100000 in
theorem R_C_init_9 (d : Nat) (M : mMem) : mR3 (d + 3) 0 [vr 9] (shA 10 8, M) (none, (shA 17 15, mCin M 9)) := by
  refine ⟨⟨by decide, Nat.le_of_ble_eq_true rfl⟩, fun K hK => ?_⟩
  have hK : mClo m_C_init (mR3 (d + 2)) ((shA 17 15).1.length, mtot (shA 17 15).1) (0, fun _ => 0) (mret (none, (shA 17 15, mCin M 9))) K := hK
  refine hK 0 0 b_C_init_0 rfl _ _ _ ?_
  refine And.intro ⟨by decide, by decide, Nat.le_of_ble_eq_true rfl, Nat.le_of_ble_eq_true rfl⟩ ?_
  refine And.intro ⟨by decide, by decide, Nat.le_of_ble_eq_true rfl, Nat.le_of_ble_eq_true rfl⟩ ?_
  refine And.intro ⟨by decide, by decide, Nat.le_of_ble_eq_true rfl, Nat.le_of_ble_eq_true rfl⟩ ?_
  refine And.intro ⟨by decide, by decide, Nat.le_of_ble_eq_true rfl, Nat.le_of_ble_eq_true rfl⟩ ?_
  refine And.intro ⟨by decide, by decide, Nat.le_of_ble_eq_true rfl, Nat.le_of_ble_eq_true rfl⟩ ?_
  refine And.intro ⟨by decide, by decide, Nat.le_of_ble_eq_true rfl, Nat.le_of_ble_eq_true rfl⟩ ?_
  refine And.intro ⟨by decide, by decide, Nat.le_of_ble_eq_true rfl, Nat.le_of_ble_eq_true rfl⟩ ?_
  refine Exists.intro _ (And.intro (R_clear d (shA 17 15) _ 9 (by unfold isCh; decide +kernel)) ?_)
  exact And.intro rfl rfl
set_option maxRecDepth 100000 in
theorem R_C_init_18 (d : Nat) (M : mMem) : mR3 (d + 3) 0 [vr 18] (shA 19 16, M) (none, (shA 26 23, mCin M 18)) := by
  refine ⟨⟨by decide, Nat.le_of_ble_eq_true rfl⟩, fun K hK => ?_⟩
  have hK : mClo m_C_init (mR3 (d + 2)) ((shA 26 23).1.length, mtot (shA 26 23).1) (0, fun _ => 0) (mret (none, (shA 26 23, mCin M 18))) K := hK
  refine hK 0 0 b_C_init_0 rfl _ _ _ ?_
  refine And.intro ⟨by decide, by decide, Nat.le_of_ble_eq_true rfl, Nat.le_of_ble_eq_true rfl⟩ ?_
  refine And.intro ⟨by decide, by decide, Nat.le_of_ble_eq_true rfl, Nat.le_of_ble_eq_true rfl⟩ ?_
  refine And.intro ⟨by decide, by decide, Nat.le_of_ble_eq_true rfl, Nat.le_of_ble_eq_true rfl⟩ ?_
  refine And.intro ⟨by decide, by decide, Nat.le_of_ble_eq_true rfl, Nat.le_of_ble_eq_true rfl⟩ ?_
  refine And.intro ⟨by decide, by decide, Nat.le_of_ble_eq_true rfl, Nat.le_of_ble_eq_true rfl⟩ ?_
  refine And.intro ⟨by decide, by decide, Nat.le_of_ble_eq_true rfl, Nat.le_of_ble_eq_true rfl⟩ ?_
  refine And.intro ⟨by decide, by decide, Nat.le_of_ble_eq_true rfl, Nat.le_of_ble_eq_true rfl⟩ ?_
  refine Exists.intro _ (And.intro (R_clear d (shA 26 23) _ 18 (by unfold isCh; decide +kernel)) ?_)
  exact And.intro rfl rfl
set_option maxRecDepth 100000 in
theorem R_C_init_27 (d : Nat) (M : mMem) : mR3 (d + 3) 0 [vr 27] (shA 28 25, M) (none, (shA 35 32, mCin M 27)) := by
  refine ⟨⟨by decide, Nat.le_of_ble_eq_true rfl⟩, fun K hK => ?_⟩
  have hK : mClo m_C_init (mR3 (d + 2)) ((shA 35 32).1.length, mtot (shA 35 32).1) (0, fun _ => 0) (mret (none, (shA 35 32, mCin M 27))) K := hK
  refine hK 0 0 b_C_init_0 rfl _ _ _ ?_
  refine And.intro ⟨by decide, by decide, Nat.le_of_ble_eq_true rfl, Nat.le_of_ble_eq_true rfl⟩ ?_
  refine And.intro ⟨by decide, by decide, Nat.le_of_ble_eq_true rfl, Nat.le_of_ble_eq_true rfl⟩ ?_
  refine And.intro ⟨by decide, by decide, Nat.le_of_ble_eq_true rfl, Nat.le_of_ble_eq_true rfl⟩ ?_
  refine And.intro ⟨by decide, by decide, Nat.le_of_ble_eq_true rfl, Nat.le_of_ble_eq_true rfl⟩ ?_
  refine And.intro ⟨by decide, by decide, Nat.le_of_ble_eq_true rfl, Nat.le_of_ble_eq_true rfl⟩ ?_
  refine And.intro ⟨by decide, by decide, Nat.le_of_ble_eq_true rfl, Nat.le_of_ble_eq_true rfl⟩ ?_
  refine And.intro ⟨by decide, by decide, Nat.le_of_ble_eq_true rfl, Nat.le_of_ble_eq_true rfl⟩ ?_
  refine Exists.intro _ (And.intro (R_clear d (shA 35 32) _ 27 (by unfold isCh; decide +kernel)) ?_)
  exact And.intro rfl rfl
set_option maxRecDepth 100000 in
theorem R_I_init_17 (d : Nat) (M : mMem) : mR3 (d + 4) 24 [vr 17] (shA 18 16, M) (none, (shA 26 24, mCin (mzero M 18) 18)) := by
  refine ⟨⟨by decide, Nat.le_of_ble_eq_true rfl⟩, fun K hK => ?_⟩
  have hK : mClo m_I_init (mR3 (d + 3)) ((shA 26 24).1.length, mtot (shA 26 24).1) (0, fun _ => 0) (mret (none, (shA 26 24, mCin (mzero M 18) 18))) K := hK
  refine hK 0 0 b_I_init_0 rfl _ _ _ ?_
  refine And.intro ⟨Nat.le_of_ble_eq_true rfl, Nat.le_of_ble_eq_true rfl⟩ ?_
  refine Exists.intro (shA 26 23, _) (And.intro (R_C_init_18 d _) (And.intro ⟨Nat.le_of_ble_eq_true rfl, Nat.le_of_ble_eq_true rfl, Nat.le_of_ble_eq_true rfl, Nat.le_of_ble_eq_true rfl⟩ ?_))
  exact And.intro rfl rfl
set_option maxRecDepth 100000 in
theorem R_I_init_26 (d : Nat) (M : mMem) : mR3 (d + 4) 24 [vr 26] (shA 27 25, M) (none, (shA 35 33, mCin (mzero M 27) 27)) := by
  refine ⟨⟨by decide, Nat.le_of_ble_eq_true rfl⟩, fun K hK => ?_⟩
  have hK : mClo m_I_init (mR3 (d + 3)) ((shA 35 33).1.length, mtot (shA 35 33).1) (0, fun _ => 0) (mret (none, (shA 35 33, mCin (mzero M 27) 27))) K := hK
  refine hK 0 0 b_I_init_0 rfl _ _ _ ?_
  refine And.intro ⟨Nat.le_of_ble_eq_true rfl, Nat.le_of_ble_eq_true rfl⟩ ?_
  refine Exists.intro (shA 35 32, _) (And.intro (R_C_init_27 d _) (And.intro ⟨Nat.le_of_ble_eq_true rfl, Nat.le_of_ble_eq_true rfl, Nat.le_of_ble_eq_true rfl, Nat.le_of_ble_eq_true rfl⟩ ?_))
  exact And.intro rfl rfl
set_option maxRecDepth 100000 in
theorem R_T_init_35 (d : Nat) (M : mMem) : mR3 (d + 1) 30 [vr 35] (shA 36 34, M) (none, (shA 37 35, mzero M 36)) := by
  refine ⟨⟨by decide, Nat.le_of_ble_eq_true rfl⟩, fun K hK => ?_⟩
  have hK : mClo m_T_init (mR3 (d + 0)) ((shA 37 35).1.length, mtot (shA 37 35).1) (0, fun _ => 0) (mret (none, (shA 37 35, mzero M 36))) K := hK
  refine hK 0 0 b_T_init_0 rfl _ _ _ ?_
  refine And.intro ⟨by decide, by decide, Nat.le_of_ble_eq_true rfl, Nat.le_of_ble_eq_true rfl⟩ ?_
  exact And.intro rfl rfl
set_option maxRecDepth 100000 in
theorem R_O_init_37 (d : Nat) (M : mMem) : mR3 (d + 1) 20 [vr 37] (shA 38 36, M) (none, (shA 38 36, M)) := by
  refine ⟨⟨by decide, Nat.le_of_ble_eq_true rfl⟩, fun K hK => ?_⟩
  have hK : mClo m_O_init (mR3 (d + 0)) ((shA 38 36).1.length, mtot (shA 38 36).1) (0, fun _ => 0) (mret (none, (shA 38 36, M))) K := hK
  refine hK 0 0 b_O_init_0 rfl _ _ _ ?_
  exact And.intro rfl rfl
set_option maxRecDepth 100000 in
theorem R_S_init_45 (d : Nat) (M : mMem) : mR3 (d + 1) 25 [vr 45] (shA 46 44, M) (none, (shA 47 45, mupd (mzero M 46) 45 (2 : Nat) (-1))) := by
  refine ⟨⟨by decide, Nat.le_of_ble_eq_true rfl⟩, fun K hK => ?_⟩
  have hK : mClo m_S_init (mR3 (d + 0)) ((shA 47 45).1.length, mtot (shA 47 45).1) (0, fun _ => 0) (mret (none, (shA 47 45, mupd (mzero M 46) 45 (2 : Nat) (-1)))) K := hK
  refine hK 0 0 b_S_init_0 rfl _ _ _ ?_
  refine And.intro ⟨by decide, by decide, Nat.le_of_ble_eq_true rfl, Nat.le_of_ble_eq_true rfl⟩ ?_
  exact And.intro rfl rfl
set_option maxRecDepth 100000 in
theorem R_S_init_47 (d : Nat) (M : mMem) : mR3 (d + 1) 25 [vr 47] (shA 48 46, M) (none, (shA 49 47, mupd (mzero M 48) 47 (2 : Nat) (-1))) := by
  refine ⟨⟨by decide, Nat.le_of_ble_eq_true rfl⟩, fun K hK => ?_⟩
  have hK : mClo m_S_init (mR3 (d + 0)) ((shA 49 47).1.length, mtot (shA 49 47).1) (0, fun _ => 0) (mret (none, (shA 49 47, mupd (mzero M 48) 47 (2 : Nat) (-1)))) K := hK
  refine hK 0 0 b_S_init_0 rfl _ _ _ ?_
  refine And.intro ⟨by decide, by decide, Nat.le_of_ble_eq_true rfl, Nat.le_of_ble_eq_true rfl⟩ ?_
  exact And.intro rfl rfl
set_option maxRecDepth 100000 in
theorem R_S_init_49 (d : Nat) (M : mMem) : mR3 (d + 1) 25 [vr 49] (shA 50 48, M) (none, (shA 51 49, mupd (mzero M 50) 49 (2 : Nat) (-1))) := by
  refine ⟨⟨by decide, Nat.le_of_ble_eq_true rfl⟩, fun K hK => ?_⟩
  have hK : mClo m_S_init (mR3 (d + 0)) ((shA 51 49).1.length, mtot (shA 51 49).1) (0, fun _ => 0) (mret (none, (shA 51 49, mupd (mzero M 50) 49 (2 : Nat) (-1)))) K := hK
  refine hK 0 0 b_S_init_0 rfl _ _ _ ?_
  refine And.intro ⟨by decide, by decide, Nat.le_of_ble_eq_true rfl, Nat.le_of_ble_eq_true rfl⟩ ?_
  exact And.intro rfl rfl
set_option maxRecDepth 100000 in
theorem R_S_init_51 (d : Nat) (M : mMem) : mR3 (d + 1) 25 [vr 51] (shA 52 50, M) (none, (shA 53 51, mupd (mzero M 52) 51 (2 : Nat) (-1))) := by
  refine ⟨⟨by decide, Nat.le_of_ble_eq_true rfl⟩, fun K hK => ?_⟩
  have hK : mClo m_S_init (mR3 (d + 0)) ((shA 53 51).1.length, mtot (shA 53 51).1) (0, fun _ => 0) (mret (none, (shA 53 51, mupd (mzero M 52) 51 (2 : Nat) (-1)))) K := hK
  refine hK 0 0 b_S_init_0 rfl _ _ _ ?_
  refine And.intro ⟨by decide, by decide, Nat.le_of_ble_eq_true rfl, Nat.le_of_ble_eq_true rfl⟩ ?_
  exact And.intro rfl rfl
end
section
/-! PURE PROOFS 3: SamplerLaw(), SamplerLawModel(), the law up to its loop -/
def mS1 (M : mMem) (k : Nat) : mMem := mupd (mzero (mzero M k) (k + 1)) k (2 : Nat) (-1)
def mLn1 (M : mMem) : mMem := mCin (mzero (mzero (mCin (mzero (mzero (mCin (mzero (mCin (mzero M 1) 1) 9) 9) 17) 18) 18) 26) 27) 27
def mLn2 (M : mMem) : mMem := mzero (mzero (mzero (mzero (mzero (mzero (mzero (mzero (mzero (mzero (mLn1 M) 35) 36) 37) 38) 39) 40) 41) 42) 43) 44
def mLn (M : mMem) : mMem := mS1 (mS1 (mS1 (mS1 (mLn2 M) 45) 47) 49) 51
set_option maxRecDepth 100000 in
theorem R_L_init (d : Nat) (M : mMem) : mR3 (d + 5) 44 [vr 0] (shA 1 0, M) (none, (shA 53 52, mLn M)) := by
  refine ⟨⟨by decide, Nat.le_of_ble_eq_true rfl⟩, fun K hK => ?_⟩
  have hK : mClo m_L_init (mR3 (d + 4)) ((shA 53 52).1.length, mtot (shA 53 52).1) (0, fun _ => 0) (mret (none, (shA 53 52, mLn M))) K := hK
  have h4 : K 127 [(0, vr 0), (1, vi 4)] [] (shA 53 52, mLn M) := by
    refine hK 1 127 b_L_init_127 rfl _ _ _ (And.intro (fun _ => ?_) (fun q => absurd (show (4 : Int) ≤ 4 by decide) q))
    refine hK 2 151 b_L_init_151 rfl _ _ _ ?_
    exact And.intro rfl rfl
  have h3 : K 127 [(0, vr 0), (1, vi 3)] [] (shA 51 50, mS1 (mS1 (mS1 (mLn2 M) 45) 47) 49) := by
    refine hK 1 127 b_L_init_127 rfl _ _ _ (And.intro (fun q => absurd q (show ¬ (4 : Int) ≤ 3 by decide)) (fun _ => ?_))
    refine And.intro ⟨Nat.le_of_ble_eq_true rfl, Nat.le_of_ble_eq_true rfl⟩ ?_
    refine Exists.intro (shA 53 51, _) (And.intro (R_S_init_51 (d + 3) _) (And.intro ⟨Nat.le_of_ble_eq_true rfl, Nat.le_of_ble_eq_true rfl, Nat.le_of_ble_eq_true rfl, Nat.le_of_ble_eq_true rfl⟩ ?_))
    exact h4
  have h2 : K 127 [(0, vr 0), (1, vi 2)] [] (shA 49 48, mS1 (mS1 (mLn2 M) 45) 47) := by
    refine hK 1 127 b_L_init_127 rfl _ _ _ (And.intro (fun q => absurd q (show ¬ (4 : Int) ≤ 2 by decide)) (fun _ => ?_))
    refine And.intro ⟨Nat.le_of_ble_eq_true rfl, Nat.le_of_ble_eq_true rfl⟩ ?_
    refine Exists.intro (shA 51 49, _) (And.intro (R_S_init_49 (d + 3) _) (And.intro ⟨Nat.le_of_ble_eq_true rfl, Nat.le_of_ble_eq_true rfl, Nat.le_of_ble_eq_true rfl, Nat.le_of_ble_eq_true rfl⟩ ?_))
    exact h3
  have h1 : K 127 [(0, vr 0), (1, vi 1)] [] (shA 47 46, mS1 (mLn2 M) 45) := by
    refine hK 1 127 b_L_init_127 rfl _ _ _ (And.intro (fun q => absurd q (show ¬ (4 : Int) ≤ 1 by decide)) (fun _ => ?_))
    refine And.intro ⟨Nat.le_of_ble_eq_true rfl, Nat.le_of_ble_eq_true rfl⟩ ?_
    refine Exists.intro (shA 49 47, _) (And.intro (R_S_init_47 (d + 3) _) (And.intro ⟨Nat.le_of_ble_eq_true rfl, Nat.le_of_ble_eq_true rfl, Nat.le_of_ble_eq_true rfl, Nat.le_of_ble_eq_true rfl⟩ ?_))
    exact h2
  have h0 : K 127 [(0, vr 0), (1, vi 0)] [] (shA 45 44, mLn2 M) := by
    refine hK 1 127 b_L_init_127 rfl _ _ _ (And.intro (fun q => absurd q (show ¬ (4 : Int) ≤ 0 by decide)) (fun _ => ?_))
    refine And.intro ⟨Nat.le_of_ble_eq_true rfl, Nat.le_of_ble_eq_true rfl⟩ ?_
    refine Exists.intro (shA 47 45, _) (And.intro (R_S_init_45 (d + 3) _) (And.intro ⟨Nat.le_of_ble_eq_true rfl, Nat.le_of_ble_eq_true rfl, Nat.le_of_ble_eq_true rfl, Nat.le_of_ble_eq_true rfl⟩ ?_))
    exact h1
  refine hK 0 0 b_L_init_0 rfl _ _ _ ?_
  refine And.intro ⟨Nat.le_of_ble_eq_true rfl, Nat.le_of_ble_eq_true rfl⟩ ?_
  refine Exists.intro (shA 9 7, _) (And.intro (R_C_init_1 (d + 1) _) (And.intro ⟨Nat.le_of_ble_eq_true rfl, Nat.le_of_ble_eq_true rfl, Nat.le_of_ble_eq_true rfl, Nat.le_of_ble_eq_true rfl⟩ ?_))
  refine And.intro ⟨Nat.le_of_ble_eq_true rfl, Nat.le_of_ble_eq_true rfl⟩ ?_
  refine Exists.intro (shA 17 15, _) (And.intro (R_C_init_9 (d + 1) _) (And.intro ⟨Nat.le_of_ble_eq_true rfl, Nat.le_of_ble_eq_true rfl, Nat.le_of_ble_eq_true rfl, Nat.le_of_ble_eq_true rfl⟩ ?_))
  refine And.intro ⟨Nat.le_of_ble_eq_true rfl, Nat.le_of_ble_eq_true rfl⟩ ?_
  refine Exists.intro (shA 26 24, _) (And.intro (R_I_init_17 d _) (And.intro ⟨Nat.le_of_ble_eq_true rfl, Nat.le_of_ble_eq_true rfl, Nat.le_of_ble_eq_true rfl, Nat.le_of_ble_eq_true rfl⟩ ?_))
  refine And.intro ⟨Nat.le_of_ble_eq_true rfl, Nat.le_of_ble_eq_true rfl⟩ ?_
  refine Exists.intro (shA 35 33, _) (And.intro (R_I_init_26 d _) (And.intro ⟨Nat.le_of_ble_eq_true rfl, Nat.le_of_ble_eq_true rfl, Nat.le_of_ble_eq_true rfl, Nat.le_of_ble_eq_true rfl⟩ ?_))
  refine And.intro ⟨Nat.le_of_ble_eq_true rfl, Nat.le_of_ble_eq_true rfl⟩ ?_
  refine Exists.intro (shA 37 35, _) (And.intro (R_T_init_35 (d + 3) _) (And.intro ⟨Nat.le_of_ble_eq_true rfl, Nat.le_of_ble_eq_true rfl, Nat.le_of_ble_eq_true rfl, Nat.le_of_ble_eq_true rfl⟩ ?_))
  refine And.intro ⟨Nat.le_of_ble_eq_true rfl, Nat.le_of_ble_eq_true rfl⟩ ?_
  refine Exists.intro (shA 38 36, _) (And.intro (R_O_init_37 (d + 3) _) (And.intro ⟨Nat.le_of_ble_eq_true rfl, Nat.le_of_ble_eq_true rfl, Nat.le_of_ble_eq_true rfl, Nat.le_of_ble_eq_true rfl⟩ ?_))
  refine And.intro ⟨by decide, by decide, Nat.le_of_ble_eq_true rfl, Nat.le_of_ble_eq_true rfl⟩ ?_
  refine And.intro ⟨by decide, by decide, Nat.le_of_ble_eq_true rfl, Nat.le_of_ble_eq_true rfl⟩ ?_
  refine And.intro ⟨by decide, by decide, Nat.le_of_ble_eq_true rfl, Nat.le_of_ble_eq_true rfl⟩ ?_
  refine And.intro ⟨by decide, by decide, Nat.le_of_ble_eq_true rfl, Nat.le_of_ble_eq_true rfl⟩ ?_
  refine And.intro ⟨by decide, by decide, Nat.le_of_ble_eq_true rfl, Nat.le_of_ble_eq_true rfl⟩ ?_
  refine And.intro ⟨by decide, by decide, Nat.le_of_ble_eq_true rfl, Nat.le_of_ble_eq_true rfl⟩ ?_
  refine And.intro ⟨by decide, by decide, Nat.le_of_ble_eq_true rfl, Nat.le_of_ble_eq_true rfl⟩ ?_
  exact h0
set_option maxRecDepth 100000 in
def mMn (M : mMem) : mMem := mzero (mzero (mupd (mupd (mupd (mupd (mzero (mzero (mzero (mzero (mzero (mzero (mupd (mupd (mupd (mupd (mupd (mupd (mupd (mupd (mupd (mupd (mupd (mupd (mupd (mupd (mupd (mupd (mupd (mupd (mupd (mupd (mupd (mupd (mupd (mupd (mupd (mupd (mupd (mupd (mupd (mupd (mupd (mzero (mupd (mupd (mupd (mupd (mupd (mupd (mupd (mzero (mzero (mzero (mzero (M) 54) 55) 56) 57) 57 0 0) 57 1 6) 57 2 12) 57 3 17) 57 4 22) 57 5 25) 57 6 31) 58) 58 0 98) 58 1 101) 58 2 115) 58 3 105) 58 4 100) 58 5 101) 58 6 109) 58 7 105) 58 8 114) 58 9 114) 58 10 111) 58 11 114) 58 12 97) 58 13 98) 58 14 111) 58 15 118) 58 16 101) 58 17 99) 58 18 114) 58 19 111) 58 20 115) 58 21 115) 58 22 114) 58 23 111) 58 24 119) 58 25 116) 58 26 104) 58 27 114) 58 28 101) 58 29 97) 58 30 100) 59) 60) 61) 62) 63) 64) 64 0 (-4)) 64 1 (-4)) 64 2 (-4)) 64 3 (-4)) 65) 66
set_option maxHeartbeats 20000000 in
set_option maxRecDepth 100000 in
theorem R_M_init (d : Nat) (M : mMem) : mR3 (d + 1) 114 [vr 53] (shA 54 52, M) (none, (shA 67 65, mMn M)) := by
  refine ⟨⟨by decide, Nat.le_of_ble_eq_true rfl⟩, fun K hK => ?_⟩
  have hK : mClo m_M_init (mR3 d) ((shA 67 65).1.length, mtot (shA 67 65).1) (0, fun _ => 0) (mret (none, (shA 67 65, mMn M))) K := hK
  refine hK 0 0 b_M_init_0 rfl _ _ _ ?_
  refine And.intro ⟨by decide, by decide, Nat.le_of_ble_eq_true rfl, Nat.le_of_ble_eq_true rfl⟩ ?_
  refine And.intro ⟨by decide, by decide, Nat.le_of_ble_eq_true rfl, Nat.le_of_ble_eq_true rfl⟩ ?_
  refine And.intro ⟨by decide, by decide, Nat.le_of_ble_eq_true rfl, Nat.le_of_ble_eq_true rfl⟩ ?_
  refine And.intro ⟨by decide, by decide, Nat.le_of_ble_eq_true rfl, Nat.le_of_ble_eq_true rfl⟩ ?_
  refine And.intro ⟨by decide, by decide, Nat.le_of_ble_eq_true rfl, Nat.le_of_ble_eq_true rfl⟩ ?_
  refine And.intro ⟨by decide, by decide, Nat.le_of_ble_eq_true rfl, Nat.le_of_ble_eq_true rfl⟩ ?_
  refine And.intro ⟨by decide, by decide, Nat.le_of_ble_eq_true rfl, Nat.le_of_ble_eq_true rfl⟩ ?_
  refine And.intro ⟨by decide, by decide, Nat.le_of_ble_eq_true rfl, Nat.le_of_ble_eq_true rfl⟩ ?_
  refine And.intro ⟨by decide, by decide, Nat.le_of_ble_eq_true rfl, Nat.le_of_ble_eq_true rfl⟩ ?_
  refine And.intro ⟨by decide, by decide, Nat.le_of_ble_eq_true rfl, Nat.le_of_ble_eq_true rfl⟩ ?_
  refine And.intro ⟨by decide, by decide, Nat.le_of_ble_eq_true rfl, Nat.le_of_ble_eq_true rfl⟩ ?_
  refine And.intro ⟨by decide, by decide, Nat.le_of_ble_eq_true rfl, Nat.le_of_ble_eq_true rfl⟩ ?_
  refine And.intro ⟨by decide, by decide, Nat.le_of_ble_eq_true rfl, Nat.le_of_ble_eq_true rfl⟩ ?_
  exact And.intro rfl rfl
theorem shA_67 : shA 67 65 = S0 := by decide +kernel
/-- the memory of a fresh pair -/
def M0 : mMem := mMn (mzero (mLn (mzero (fun _ _ => 0) 0)) 53)
set_option maxHeartbeats 20000000 in
set_option maxRecDepth 100000 in
theorem law_entry {L : Nat} {xs : Nat → Int} {K : Nat → mLV → List mVal → mHp → Prop} (hK : mClo m_W_law (mR3 10) (100, 5000) (L + 1, xs) (fun v _ => v = some (vi 1)) K) (h : K 18 [(0, vs 0), (1, vr 0), (2, vr 53), (3, vi 0)] [] (S0, M0)) : K 0 [(0, vs 0)] [] (([], []), fun _ _ => 0) := by
  refine hK 0 0 b_W_law_0 rfl _ _ _ ?_
  refine And.intro ⟨Nat.le_of_ble_eq_true rfl, Nat.le_of_ble_eq_true rfl⟩ ?_
  refine Exists.intro (shA 53 52, _) (And.intro (R_L_init 5 _) (And.intro ⟨Nat.le_of_ble_eq_true rfl, Nat.le_of_ble_eq_true rfl, Nat.le_of_ble_eq_true rfl, Nat.le_of_ble_eq_true rfl⟩ ?_))
  refine And.intro ⟨Nat.le_of_ble_eq_true rfl, Nat.le_of_ble_eq_true rfl⟩ ?_
  refine Exists.intro (shA 67 65, _) (And.intro (R_M_init 9 _) (And.intro ⟨Nat.le_of_ble_eq_true rfl, Nat.le_of_ble_eq_true rfl, Nat.le_of_ble_eq_true rfl, Nat.le_of_ble_eq_true rfl⟩ ?_))
  rw [← shA_67] at h
  exact h
end
section
/-! PURE PROOFS 4: small methods -/
theorem mret_i {v w : Int} {M M' : mMem} (h : v = w) (hm : M = M') : mret (some (vi w), (S0, M')) (some (vi v)) (S0, M) := ⟨by rw [h], by rw [hm]⟩
theorem mret_l {v w : Int} {M M' : mMem} (h : v = w) (hm : M = M') : mret (some (vl w), (S0, M')) (some (vl v)) (S0, M) := ⟨by rw [h], by rw [hm]⟩
theorem mret_n {M M' : mMem} (hm : M = M') : mret (none, (S0, M')) none (S0, M) := ⟨rfl, by rw [hm]⟩
def b2 (c : Prop) [Decidable c] : Int := if c then 1 else 0
theorem b2_t {c : Prop} [Decidable c] (h : c) : b2 c = 1 := if_pos h
theorem b2_f {c : Prop} [Decidable c] (h : ¬ c) : b2 c = 0 := if_neg h
theorem b2_01 (c : Prop) [Decidable c] : b2 c = 0 ∨ b2 c = 1 := by unfold b2; split <;> simp
theorem b2_0 {c : Prop} [Decidable c] : b2 c = 0 ↔ ¬ c := by unfold b2; split <;> simp_all
theorem b2_n0 {c : Prop} [Decidable c] : b2 c ≠ 0 ↔ c := by unfold b2; split <;> simp_all
theorem jdiv_nn {a b : Int} (h0 : 0 ≤ a) (h1 : a < 2147483648) (hb : 0 < b) : jdiv a b = a / b := by
  unfold jdiv
  rw [Int.tdiv_eq_ediv_of_nonneg h0]
  have h2 : 0 ≤ a / b := Int.ediv_nonneg h0 (by omega)
  have h3 : a / b ≤ a := Int.ediv_le_self b h0
  exact w32_s (by omega) (by omega)
theorem jrem_nn {a b : Int} (h0 : 0 ≤ a) : jrem a b = a % b := Int.tmod_eq_emod_of_nonneg h0
theorem jlcmp_lt {a b : Int} : jlcmp a b < 0 ↔ a < b := by unfold jlcmp; split <;> (try split) <;> omega
theorem jlcmp_gt {a b : Int} : 0 < jlcmp a b ↔ b < a := by unfold jlcmp; split <;> (try split) <;> omega
theorem jlcmp_eq {a b : Int} : jlcmp a b = 0 ↔ a = b := by unfold jlcmp; split <;> (try split) <;> omega
section
variable (d : Nat) (M : mMem)
theorem R_isCell (x y : Int) : mR3 (d + 1) 87 [vi x, vi y] (S0, M) (some (vi (b2 (0 ≤ x ∧ x < 6 ∧ 0 ≤ y ∧ y < 6))), (S0, M)) := by
  refine ⟨⟨by decide, Nat.le_of_ble_eq_true rfl⟩, fun K hK => q_L_isCell_0 hK x y M ?_⟩
  repeat' (first | refine br_c (fun _ => ?_) (fun _ => ?_))
  all_goals first | exact mret_i (b2_t (by omega)).symm rfl | exact mret_i (b2_f (by omega)).symm rfl
theorem R_isColour (x : Int) : mR3 (d + 1) 88 [vi x] (S0, M) (some (vi (b2 (1 ≤ x ∧ x ≤ 3))), (S0, M)) := by
  refine ⟨⟨by decide, Nat.le_of_ble_eq_true rfl⟩, fun K hK => q_L_isColour_0 hK x M ?_⟩
  repeat' (first | refine br_c (fun _ => ?_) (fun _ => ?_))
  all_goals first | exact mret_i (b2_t (by omega)).symm rfl | exact mret_i (b2_f (by omega)).symm rfl
theorem R_isPart (x : Int) : mR3 (d + 1) 89 [vi x] (S0, M) (some (vi (b2 (x = 0 ∨ x = 1))), (S0, M)) := by
  refine ⟨⟨by decide, Nat.le_of_ble_eq_true rfl⟩, fun K hK => q_L_isPart_0 hK x M ?_⟩
  repeat' (first | refine br_c (fun _ => ?_) (fun _ => ?_))
  all_goals first | exact mret_i (b2_t (by omega)).symm rfl | exact mret_i (b2_f (by omega)).symm rfl
theorem R_isSheet (x : Int) : mR3 (d + 1) 90 [vi x] (S0, M) (some (vi (b2 (0 ≤ x ∧ x < 4))), (S0, M)) := by
  refine ⟨⟨by decide, Nat.le_of_ble_eq_true rfl⟩, fun K hK => q_L_isSheet_0 hK x M ?_⟩
  repeat' (first | refine br_c (fun _ => ?_) (fun _ => ?_))
  all_goals first | exact mret_i (b2_t (by omega)).symm rfl | exact mret_i (b2_f (by omega)).symm rfl
theorem R_isLane (x : Int) : mR3 (d + 1) 91 [vi x] (S0, M) (some (vi (b2 (0 ≤ x ∧ x ≤ 2))), (S0, M)) := by
  refine ⟨⟨by decide, Nat.le_of_ble_eq_true rfl⟩, fun K hK => q_L_isLane_0 hK x M ?_⟩
  repeat' (first | refine br_c (fun _ => ?_) (fun _ => ?_))
  all_goals first | exact mret_i (b2_t (by omega)).symm rfl | exact mret_i (b2_f (by omega)).symm rfl
theorem R_isLaw (x : Int) : mR3 (d + 1) 92 [vr 0, vi x] (S0, M) (some (vi (b2 (0 ≤ x ∧ x < M 1 5))), (S0, M)) := by
  refine ⟨⟨by decide, Nat.le_of_ble_eq_true rfl⟩, fun K hK => q_L_isLaw_0 hK x M ?_⟩
  repeat' (first | refine br_c (fun _ => ?_) (fun _ => ?_))
  all_goals first | exact mret_i (b2_t (by omega)).symm rfl | exact mret_i (b2_f (by omega)).symm rfl
theorem R_isLawPart (x y : Int) : mR3 (d + 2) 93 [vi x, vi y] (S0, M) (some (vi (b2 ((x = 0 ∧ 0 ≤ y ∧ y ≤ 3) ∨ (x = 1 ∧ 1 ≤ y ∧ y ≤ 3) ∨ (x = 2 ∧ 1 ≤ y ∧ y ≤ 3) ∨ (x = 3 ∧ 1 ≤ y ∧ y ≤ 9)))), (S0, M)) := by
  refine ⟨⟨by decide, Nat.le_of_ble_eq_true rfl⟩, fun K hK => q_L_isLawPart_0 hK x y M ?_⟩
  have hc : b2 (1 ≤ y ∧ y ≤ 3) = 0 ∨ b2 (1 ≤ y ∧ y ≤ 3) = 1 := b2_01 _
  refine ⟨⟨fun _ => ?_, fun _ => ⟨_, _, R_isColour d M y, mBo_i hc ?_⟩, fun _ => ⟨_, _, R_isColour d M y, mBo_i hc ?_⟩, fun _ => ?_, trivial⟩, fun _ => ?_⟩
  · repeat' (first | refine br_c (fun _ => ?_) (fun _ => ?_))
    all_goals first | exact mret_i (b2_t (by omega)).symm rfl | exact mret_i (b2_f (by omega)).symm rfl
  · refine mret_i ?_ rfl
    unfold b2
    split <;> split <;> omega
  · refine mret_i ?_ rfl
    unfold b2
    split <;> split <;> omega
  · repeat' (first | refine br_c (fun _ => ?_) (fun _ => ?_))
    all_goals first | exact mret_i (b2_t (by omega)).symm rfl | exact mret_i (b2_f (by omega)).symm rfl
  · exact mret_i (b2_f (by omega)).symm rfl
theorem R_place {x y : Int} (hx : 0 ≤ x ∧ x < 6) (hy : 0 ≤ y ∧ y < 6) : mR3 (d + 1) 94 [vi x, vi y] (S0, M) (some (vi (6 * x + y)), (S0, M)) := by
  refine ⟨⟨by decide, Nat.le_of_ble_eq_true rfl⟩, fun K hK => q_L_place_0 hK x y M ?_⟩
  refine mret_i ?_ rfl
  unfold w32
  omega
theorem R_stitchCode {a c : Int} (ha : 0 ≤ a ∧ a < 36) (hc : 0 ≤ c ∧ c < 10) : mR3 (d + 1) 95 [vi a, vi c] (S0, M) (some (vi (100 * (a / 6) + 10 * (a % 6) + c)), (S0, M)) := by
  refine ⟨⟨by decide, Nat.le_of_ble_eq_true rfl⟩, fun K hK => q_L_stitchCode_0 hK a c M ?_⟩
  refine mret_i ?_ rfl
  rw [jdiv_nn ha.1 (by omega) (by omega), jrem_nn ha.1]
  unfold w32
  omega
theorem R_in (a b c : Int) : mR3 (d + 1) 115 [vl a, vl b, vl c] (S0, M) (some (vi (b2 (b ≤ a ∧ a ≤ c))), (S0, M)) := by
  refine ⟨⟨by decide, Nat.le_of_ble_eq_true rfl⟩, fun K hK => q_M_in_0 hK a b c M ?_⟩
  rw [jlcmp_lt, jlcmp_gt]
  repeat' (first | refine br_c (fun _ => ?_) (fun _ => ?_))
  all_goals first | exact mret_i (b2_t (by omega)).symm rfl | exact mret_i (b2_f (by omega)).symm rfl
end
end
section
/-! PURE PROOFS 5: sums and counts -/
def sm (g : Nat → Int) : Nat → Int
  | 0 => 0
  | n + 1 => sm g n + g n
theorem sm_cong {g h : Nat → Int} : ∀ {n : Nat}, (∀ k, k < n → g k = h k) → sm g n = sm h n
  | 0, _ => rfl
  | n + 1, q => by
    show sm g n + g n = sm h n + h n
    rw [sm_cong (fun k hk => q k (by omega)), q n (by omega)]
theorem sm_le {g h : Nat → Int} : ∀ {n : Nat}, (∀ k, k < n → g k ≤ h k) → sm g n ≤ sm h n
  | 0, _ => by show (0 : Int) ≤ 0; omega
  | n + 1, q => by
    show sm g n + g n ≤ sm h n + h n
    have h1 := sm_le (g := g) (h := h) (n := n) (fun k hk => q k (by omega))
    have h2 := q n (by omega)
    omega
theorem sm_0 : ∀ n : Nat, sm (fun _ => 0) n = 0
  | 0 => rfl
  | n + 1 => by
    show sm (fun _ => 0) n + 0 = 0
    rw [sm_0 n]
    rfl
/-- a sum, changed at one place -/
theorem sm_up {g h : Nat → Int} {j : Nat} (q : ∀ k, k ≠ j → h k = g k) : ∀ n : Nat, sm h n = sm g n + (if j < n then h j - g j else 0)
  | 0 => by
    rw [if_neg (by omega)]
    rfl
  | n + 1 => by
    show sm h n + h n = sm g n + g n + _
    rw [sm_up q n]
    by_cases hj : j = n
    · subst hj
      rw [if_neg (by omega), if_pos (by omega)]
      omega
    · rw [q n (fun e => hj e.symm)]
      by_cases hl : j < n
      · rw [if_pos hl, if_pos (by omega)]
        omega
      · rw [if_neg hl, if_neg (by omega)]
        omega
def fup (f : Int → Int) (i v : Int) : Int → Int := fun x => if x = i then v else f x
def cB (f : Int → Int) (a c : Int) : Int := sm (fun k => b2 (f (k : Nat) = a ∧ f ((k : Nat) + 6) = c)) 30
def cA (f : Int → Int) (a c : Int) : Int := sm (fun k => b2 ((k : Int) % 6 < 5 ∧ f (k : Nat) = a ∧ f ((k : Nat) + 1) = c)) 36
theorem b2_le (c : Prop) [Decidable c] : 0 ≤ b2 c ∧ b2 c ≤ 1 := by unfold b2; split <;> omega
theorem b2_mono {c e : Prop} [Decidable c] [Decidable e] (h : c → e) : b2 c ≤ b2 e := by
  unfold b2
  split <;> split <;> first | omega | (exfalso; simp_all)
theorem b2_iff {c e : Prop} [Decidable c] [Decidable e] (h : c ↔ e) : b2 c = b2 e := by
  unfold b2
  by_cases hc : c
  · rw [if_pos hc, if_pos (h.mp hc)]
  · rw [if_neg hc, if_neg (fun q => hc (h.mpr q))]
theorem cB_rng (f : Int → Int) (a c : Int) : 0 ≤ cB f a c ∧ cB f a c ≤ 30 := by
  unfold cB
  have h1 := sm_le (g := fun _ => 0) (h := fun k : Nat => b2 (f (k : Nat) = a ∧ f ((k : Nat) + 6) = c)) (n := 30) (fun k _ => (b2_le _).1)
  have h2 := sm_le (g := fun k : Nat => b2 (f (k : Nat) = a ∧ f ((k : Nat) + 6) = c)) (h := fun _ => 1) (n := 30) (fun k _ => (b2_le _).2)
  rw [sm_0] at h1
  exact ⟨h1, h2⟩
theorem cA_rng (f : Int → Int) (a c : Int) : 0 ≤ cA f a c ∧ cA f a c ≤ 30 := by
  unfold cA
  have h1 := sm_le (g := fun _ => 0) (h := fun k : Nat => b2 ((k : Int) % 6 < 5 ∧ f (k : Nat) = a ∧ f ((k : Nat) + 1) = c)) (n := 36) (fun k _ => (b2_le _).1)
  have h2 := sm_le (g := fun k : Nat => b2 ((k : Int) % 6 < 5 ∧ f (k : Nat) = a ∧ f ((k : Nat) + 1) = c)) (h := fun k : Nat => b2 ((k : Int) % 6 < 5)) (n := 36) (fun k _ => b2_mono (fun q => q.1))
  have h3 : sm (fun k : Nat => b2 ((k : Int) % 6 < 5)) 36 = 30 := by decide +kernel
  rw [sm_0] at h1
  rw [h3] at h2
  exact ⟨h1, h2⟩
theorem cB_cong {f g : Int → Int} (h : ∀ i, 0 ≤ i → i < 36 → f i = g i) (a c : Int) : cB f a c = cB g a c := by
  unfold cB
  refine sm_cong (fun k hk => ?_)
  rw [h k (by omega) (by omega), h (k + 6) (by omega) (by omega)]
theorem cA_cong {f g : Int → Int} (h : ∀ i, 0 ≤ i → i < 36 → f i = g i) (a c : Int) : cA f a c = cA g a c := by
  unfold cA
  refine sm_cong (fun k hk => b2_iff ⟨fun q => ?_, fun q => ?_⟩)
  · have h1 : (k : Int) + 1 < 36 := by omega
    rw [h k (by omega) (by omega), h (k + 1) (by omega) h1] at q
    exact q
  · have h1 : (k : Int) + 1 < 36 := by omega
    rw [← h k (by omega) (by omega), ← h (k + 1) (by omega) h1] at q
    exact q
/-- what lies around a place, by the first's and the second's shade -/
def dB (f : Int → Int) (t a c : Int) : Int := b2 (6 ≤ t ∧ f (t - 6) = a ∧ f t = c) + b2 (t < 30 ∧ f t = a ∧ f (t + 6) = c)
def dA (f : Int → Int) (t a c : Int) : Int := b2 (0 < t % 6 ∧ f (t - 1) = a ∧ f t = c) + b2 (t % 6 < 5 ∧ f t = a ∧ f (t + 1) = c)
theorem cB_up (f : Int → Int) {t v : Int} (h0 : 0 ≤ t) (h1 : t < 36) (a c : Int) : cB (fup f t v) a c = cB f a c - dB f t a c + dB (fup f t v) t a c := by
  obtain ⟨j, rfl⟩ : ∃ j : Nat, t = j := ⟨t.toNat, by omega⟩
  -- first the place itself, then the one to the left
  have key : ∀ n : Nat, n ≤ 30 → sm (fun k => b2 (fup f j v (k : Nat) = a ∧ fup f j v ((k : Nat) + 6) = c)) n = sm (fun k => b2 (f (k : Nat) = a ∧ f ((k : Nat) + 6) = c)) n
      + (if j < n then b2 (fup f j v j = a ∧ fup f j v (j + 6) = c) - b2 (f j = a ∧ f (j + 6) = c) else 0)
      + (if 6 ≤ j ∧ j < n + 6 then b2 (fup f j v (j - 6) = a ∧ fup f j v j = c) - b2 (f (j - 6) = a ∧ f j = c) else 0) := by
    intro n
    induction n with
    | zero => intro _; rw [if_neg (by omega), if_neg (by omega)]; rfl
    | succ n ih =>
      intro hn
      have ih := ih (by omega)
      show sm _ n + b2 (fup f j v (n : Nat) = a ∧ fup f j v ((n : Nat) + 6) = c) = (sm _ n + b2 (f (n : Nat) = a ∧ f ((n : Nat) + 6) = c)) + _ + _
      rw [ih]
      by_cases e1 : j = n
      · subst e1
        rw [if_neg (show ¬ j < j by omega), if_pos (show j < j + 1 by omega)]
        by_cases e2 : 6 ≤ j ∧ j < j + 6
        · rw [if_pos e2, if_pos (show 6 ≤ j ∧ j < j + 1 + 6 by omega)]
          omega
        · rw [if_neg e2, if_neg (show ¬ (6 ≤ j ∧ j < j + 1 + 6) by omega)]
          omega
      · by_cases e2 : j = n + 6
        · subst e2
          rw [if_neg (show ¬ n + 6 < n by omega), if_neg (show ¬ n + 6 < n + 1 by omega), if_neg (show ¬ (6 ≤ n + 6 ∧ n + 6 < n + 6) by omega), if_pos (show 6 ≤ n + 6 ∧ n + 6 < n + 1 + 6 by omega)]
          have e3 : (((n + 6 : Nat) : Int) - 6) = (n : Nat) := by omega
          have e4 : ((n + 6 : Nat) : Int) = (n : Nat) + 6 := by omega
          rw [e3, e4]
          omega
        · have e5 : fup f j v (n : Nat) = f (n : Nat) := by unfold fup; rw [if_neg (by omega)]
          have e6 : fup f j v ((n : Nat) + 6) = f ((n : Nat) + 6) := by unfold fup; rw [if_neg (by omega)]
          rw [e5, e6]
          by_cases e7 : j < n
          · rw [if_pos e7, if_pos (show j < n + 1 by omega)]
            by_cases e8 : 6 ≤ j ∧ j < n + 6
            · rw [if_pos e8, if_pos (show 6 ≤ j ∧ j < n + 1 + 6 by omega)]
              omega
            · rw [if_neg e8, if_neg (show ¬ (6 ≤ j ∧ j < n + 1 + 6) by omega)]
              omega
          · rw [if_neg e7, if_neg (show ¬ j < n + 1 by omega)]
            by_cases e8 : 6 ≤ j ∧ j < n + 6
            · rw [if_pos e8, if_pos (show 6 ≤ j ∧ j < n + 1 + 6 by omega)]
              omega
            · rw [if_neg e8, if_neg (show ¬ (6 ≤ j ∧ j < n + 1 + 6) by omega)]
              omega
  unfold cB
  rw [key 30 (by omega)]
  unfold dB
  have b1 : ∀ g : Int → Int, b2 (6 ≤ (j : Int) ∧ g (j - 6) = a ∧ g j = c) = if 6 ≤ j ∧ j < 36 then b2 (g (j - 6) = a ∧ g j = c) else 0 := by
    intro g
    by_cases e : 6 ≤ j ∧ j < 36
    · rw [if_pos e]
      exact b2_iff ⟨fun q => q.2, fun q => ⟨by omega, q⟩⟩
    · rw [if_neg e]
      exact b2_f (fun q => e ⟨by omega, by omega⟩)
  have b3 : ∀ g : Int → Int, b2 ((j : Int) < 30 ∧ g j = a ∧ g (j + 6) = c) = if j < 30 then b2 (g j = a ∧ g (j + 6) = c) else 0 := by
    intro g
    by_cases e : j < 30
    · rw [if_pos e]
      exact b2_iff ⟨fun q => q.2, fun q => ⟨by omega, q⟩⟩
    · rw [if_neg e]
      exact b2_f (fun q => e (by omega))
  rw [b1 f, b1 (fup f j v), b3 f, b3 (fup f j v)]
  by_cases e1 : j < 30
  · rw [if_pos e1, if_pos e1, if_pos e1]
    by_cases e2 : 6 ≤ j ∧ j < 30 + 6
    · rw [if_pos e2, if_pos (show 6 ≤ j ∧ j < 36 by omega), if_pos (show 6 ≤ j ∧ j < 36 by omega)]
      omega
    · rw [if_neg e2, if_neg (show ¬ (6 ≤ j ∧ j < 36) by omega), if_neg (show ¬ (6 ≤ j ∧ j < 36) by omega)]
      omega
  · rw [if_neg e1, if_neg e1, if_neg e1]
    by_cases e2 : 6 ≤ j ∧ j < 30 + 6
    · rw [if_pos e2, if_pos (show 6 ≤ j ∧ j < 36 by omega), if_pos (show 6 ≤ j ∧ j < 36 by omega)]
      omega
    · rw [if_neg e2, if_neg (show ¬ (6 ≤ j ∧ j < 36) by omega), if_neg (show ¬ (6 ≤ j ∧ j < 36) by omega)]
      omega
end
section
/-! PURE PROOFS 6: the tallies of a charter, put -/
theorem cA_up (f : Int → Int) {t v : Int} (h0 : 0 ≤ t) (h1 : t < 36) (a c : Int) : cA (fup f t v) a c = cA f a c - dA f t a c + dA (fup f t v) t a c := by
  obtain ⟨j, rfl⟩ : ∃ j : Nat, t = j := ⟨t.toNat, by omega⟩
  have key : ∀ n : Nat, sm (fun k => b2 ((k : Int) % 6 < 5 ∧ fup f j v (k : Nat) = a ∧ fup f j v ((k : Nat) + 1) = c)) n = sm (fun k => b2 ((k : Int) % 6 < 5 ∧ f (k : Nat) = a ∧ f ((k : Nat) + 1) = c)) n
      + (if j < n then b2 ((j : Int) % 6 < 5 ∧ fup f j v j = a ∧ fup f j v (j + 1) = c) - b2 ((j : Int) % 6 < 5 ∧ f j = a ∧ f (j + 1) = c) else 0)
      + (if 1 ≤ j ∧ j < n + 1 then b2 (((j : Int) - 1) % 6 < 5 ∧ fup f j v (j - 1) = a ∧ fup f j v j = c) - b2 (((j : Int) - 1) % 6 < 5 ∧ f (j - 1) = a ∧ f j = c) else 0) := by
    intro n
    induction n with
    | zero => rw [if_neg (by omega), if_neg (by omega)]; rfl
    | succ n ih =>
      show sm _ n + b2 ((n : Int) % 6 < 5 ∧ fup f j v (n : Nat) = a ∧ fup f j v ((n : Nat) + 1) = c) = (sm _ n + b2 ((n : Int) % 6 < 5 ∧ f (n : Nat) = a ∧ f ((n : Nat) + 1) = c)) + _ + _
      rw [ih]
      by_cases e1 : j = n
      · subst e1
        rw [if_neg (show ¬ j < j by omega), if_pos (show j < j + 1 by omega)]
        by_cases e2 : 1 ≤ j ∧ j < j + 1
        · rw [if_pos e2, if_pos (show 1 ≤ j ∧ j < j + 1 + 1 by omega)]
          omega
        · rw [if_neg e2, if_neg (show ¬ (1 ≤ j ∧ j < j + 1 + 1) by omega)]
          omega
      · by_cases e2 : j = n + 1
        · subst e2
          rw [if_neg (show ¬ n + 1 < n by omega), if_neg (show ¬ n + 1 < n + 1 by omega), if_neg (show ¬ (1 ≤ n + 1 ∧ n + 1 < n + 1) by omega), if_pos (show 1 ≤ n + 1 ∧ n + 1 < n + 1 + 1 by omega)]
          have e3 : (((n + 1 : Nat) : Int) - 1) = (n : Nat) := by omega
          have e4 : ((n + 1 : Nat) : Int) = (n : Nat) + 1 := by omega
          rw [e3, e4]
          omega
        · have e5 : fup f j v (n : Nat) = f (n : Nat) := by unfold fup; rw [if_neg (by omega)]
          have e6 : fup f j v ((n : Nat) + 1) = f ((n : Nat) + 1) := by unfold fup; rw [if_neg (by omega)]
          rw [e5, e6]
          by_cases e7 : j < n
          · rw [if_pos e7, if_pos (show j < n + 1 by omega)]
            by_cases e8 : 1 ≤ j ∧ j < n + 1
            · rw [if_pos e8, if_pos (show 1 ≤ j ∧ j < n + 1 + 1 by omega)]
              omega
            · rw [if_neg e8, if_neg (show ¬ (1 ≤ j ∧ j < n + 1 + 1) by omega)]
              omega
          · rw [if_neg e7, if_neg (show ¬ j < n + 1 by omega)]
            by_cases e8 : 1 ≤ j ∧ j < n + 1
            · rw [if_pos e8, if_pos (show 1 ≤ j ∧ j < n + 1 + 1 by omega)]
              omega
            · rw [if_neg e8, if_neg (show ¬ (1 ≤ j ∧ j < n + 1 + 1) by omega)]
              omega
  unfold cA
  rw [key 36]
  unfold dA
  have b1 : ∀ g : Int → Int, b2 (0 < (j : Int) % 6 ∧ g (j - 1) = a ∧ g j = c) = if 1 ≤ j ∧ j < 36 + 1 then b2 (((j : Int) - 1) % 6 < 5 ∧ g (j - 1) = a ∧ g j = c) else 0 := by
    intro g
    by_cases e : 1 ≤ j ∧ j < 36 + 1
    · rw [if_pos e]
      exact b2_iff ⟨fun q => ⟨by omega, q.2⟩, fun q => ⟨by omega, q.2⟩⟩
    · rw [if_neg e]
      exact b2_f (fun q => e ⟨by omega, by omega⟩)
  rw [b1 f, b1 (fup f j v), if_pos (show j < 36 by omega)]
  by_cases e2 : 1 ≤ j ∧ j < 36 + 1
  · rw [if_pos e2, if_pos e2, if_pos e2]
    omega
  · rw [if_neg e2, if_neg e2, if_neg e2]
    omega
def bump (m : mMem) (k : Nat) (i x : Int) : mMem := mupd m k i (w32 (m k i + x))
def cbump (c : Prop) [Decidable c] (m : mMem) (k : Nat) (i x : Int) : mMem := if c then bump m k i x else m
theorem mupd_ne (m : mMem) {k k' : Nat} (i v : Int) (h : k' ≠ k) : mupd m k i v k' = m k' := by
  funext j
  unfold mupd
  rw [if_neg (fun q => h q.1)]
theorem mupd_at (m : mMem) (k : Nat) (i v : Int) : mupd m k i v k = fup (m k) i v := by
  funext j
  unfold mupd fup
  by_cases h : j = i
  · rw [if_pos ⟨rfl, h⟩, if_pos h]
  · rw [if_neg (fun q => h q.2), if_neg h]
theorem cbump_ne (c : Prop) [Decidable c] (m : mMem) {k k' : Nat} (i x : Int) (h : k' ≠ k) : cbump c m k i x k' = m k' := by
  unfold cbump
  split
  · exact mupd_ne _ _ _ h
  · rfl
theorem cbump_at (e : Prop) [Decidable e] (m : mMem) (k : Nat) {p q x a c : Int} (hx : x = 1 ∨ x = -1) (hp : e → (0 ≤ p ∧ p ≤ 4) ∧ 0 ≤ q ∧ q ≤ 4) (ha : 0 ≤ a ∧ a ≤ 4) (hc : 0 ≤ c ∧ c ≤ 4) (hr : -100000 ≤ m k (5 * a + c) ∧ m k (5 * a + c) ≤ 100000) :
    cbump e m k (5 * p + q) x k (5 * a + c) = m k (5 * a + c) + x * b2 (e ∧ p = a ∧ q = c) := by
  unfold cbump
  by_cases he : e
  · have hp := hp he
    rw [if_pos he]
    unfold bump mupd
    by_cases h : p = a ∧ q = c
    · obtain ⟨h1, h2⟩ := h
      rw [h1, h2, if_pos ⟨rfl, rfl⟩, b2_t ⟨he, rfl, rfl⟩, w32_s (by omega) (by omega)]
      omega
    · rw [if_neg (fun z => h (by omega)), b2_f (fun z => h z.2)]
      omega
  · rw [if_neg he, b2_f (fun z => he z.1)]
    omega
def tallyM (M : mMem) (b : Nat) (t x : Int) : mMem :=
  cbump (t % 6 < 5) (cbump (0 < t % 6) (cbump (t < 30) (cbump (6 ≤ t) M (b + 6) (5 * M (b + 1) (t - 6) + M (b + 1) t) x) (b + 6) (5 * M (b + 1) t + M (b + 1) (t + 6)) x) (b + 7) (5 * M (b + 1) (t - 1) + M (b + 1) t) x) (b + 7) (5 * M (b + 1) t + M (b + 1) (t + 1)) x
def celOK (f : Int → Int) : Prop := ∀ i, 0 ≤ i → i < 36 → 0 ≤ f i ∧ f i ≤ 4
theorem tally_ne (M : mMem) (b : Nat) (t x : Int) {k : Nat} (h6 : k ≠ b + 6) (h7 : k ≠ b + 7) : tallyM M b t x k = M k := by
  unfold tallyM
  rw [cbump_ne _ _ _ _ h7, cbump_ne _ _ _ _ h7, cbump_ne _ _ _ _ h6, cbump_ne _ _ _ _ h6]
theorem dB_rng (f : Int → Int) (t a c : Int) : 0 ≤ dB f t a c ∧ dB f t a c ≤ 2 := by
  unfold dB
  have h1 := b2_le (6 ≤ t ∧ f (t - 6) = a ∧ f t = c)
  have h2 := b2_le (t < 30 ∧ f t = a ∧ f (t + 6) = c)
  omega
theorem dA_rng (f : Int → Int) (t a c : Int) : 0 ≤ dA f t a c ∧ dA f t a c ≤ 2 := by
  unfold dA
  have h1 := b2_le (0 < t % 6 ∧ f (t - 1) = a ∧ f t = c)
  have h2 := b2_le (t % 6 < 5 ∧ f t = a ∧ f (t + 1) = c)
  omega
theorem tally_B (M : mMem) (b : Nat) {t x a c : Int} (hx : x = 1 ∨ x = -1) (ht : 0 ≤ t ∧ t < 36) (hf : celOK (M (b + 1))) (ha : 0 ≤ a ∧ a ≤ 4) (hc : 0 ≤ c ∧ c ≤ 4) (hr : -1000 ≤ M (b + 6) (5 * a + c) ∧ M (b + 6) (5 * a + c) ≤ 1000) :
    tallyM M b t x (b + 6) (5 * a + c) = M (b + 6) (5 * a + c) + x * dB (M (b + 1)) t a c := by
  unfold tallyM
  have h0 := hf t ht.1 ht.2
  rw [cbump_ne _ _ _ _ (show b + 6 ≠ b + 7 by omega), cbump_ne _ _ _ _ (show b + 6 ≠ b + 7 by omega)]
  have e1 := cbump_at (6 ≤ t) M (b + 6) (p := M (b + 1) (t - 6)) (q := M (b + 1) t) hx (fun q => ⟨hf (t - 6) (by omega) (by omega), h0⟩) ha hc (by omega)
  have r1 := b2_le (6 ≤ t ∧ M (b + 1) (t - 6) = a ∧ M (b + 1) t = c)
  have e2 := cbump_at (t < 30) (cbump (6 ≤ t) M (b + 6) (5 * M (b + 1) (t - 6) + M (b + 1) t) x) (b + 6) (p := M (b + 1) t) (q := M (b + 1) (t + 6)) hx (fun q => ⟨h0, hf (t + 6) (by omega) (by omega)⟩) ha hc (by rw [e1]; rcases hx with h | h <;> rw [h] <;> omega)
  rw [e2, e1]
  unfold dB
  rcases hx with h | h <;> rw [h] <;> omega
theorem tally_A (M : mMem) (b : Nat) {t x a c : Int} (hx : x = 1 ∨ x = -1) (ht : 0 ≤ t ∧ t < 36) (hf : celOK (M (b + 1))) (ha : 0 ≤ a ∧ a ≤ 4) (hc : 0 ≤ c ∧ c ≤ 4) (hr : -1000 ≤ M (b + 7) (5 * a + c) ∧ M (b + 7) (5 * a + c) ≤ 1000) :
    tallyM M b t x (b + 7) (5 * a + c) = M (b + 7) (5 * a + c) + x * dA (M (b + 1)) t a c := by
  unfold tallyM
  have h0 := hf t ht.1 ht.2
  have e0 : (cbump (t < 30) (cbump (6 ≤ t) M (b + 6) (5 * M (b + 1) (t - 6) + M (b + 1) t) x) (b + 6) (5 * M (b + 1) t + M (b + 1) (t + 6)) x) (b + 7) = M (b + 7) := by
    rw [cbump_ne _ _ _ _ (show b + 7 ≠ b + 6 by omega), cbump_ne _ _ _ _ (show b + 7 ≠ b + 6 by omega)]
  generalize (cbump (t < 30) (cbump (6 ≤ t) M (b + 6) (5 * M (b + 1) (t - 6) + M (b + 1) t) x) (b + 6) (5 * M (b + 1) t + M (b + 1) (t + 6)) x) = m0 at e0 ⊢
  have e1 := cbump_at (0 < t % 6) m0 (b + 7) (p := M (b + 1) (t - 1)) (q := M (b + 1) t) hx (fun q => ⟨hf (t - 1) (by omega) (by omega), h0⟩) ha hc (by rw [e0]; omega)
  have r1 := b2_le (0 < t % 6 ∧ M (b + 1) (t - 1) = a ∧ M (b + 1) t = c)
  rw [e0] at e1
  have e2 := cbump_at (t % 6 < 5) (cbump (0 < t % 6) m0 (b + 7) (5 * M (b + 1) (t - 1) + M (b + 1) t) x) (b + 7) (p := M (b + 1) t) (q := M (b + 1) (t + 1)) hx (fun q => ⟨h0, hf (t + 1) (by omega) (by omega)⟩) ha hc (by rw [e1]; rcases hx with h | h <;> rw [h] <;> omega)
  rw [e2, e1]
  unfold dA
  rcases hx with h | h <;> rw [h] <;> omega
theorem ix5 {p q : Int} (hp : 0 ≤ p ∧ p ≤ 4) (hq : 0 ≤ q ∧ q ≤ 4) : w32 (w32 (p * 5) + q) = 5 * p + q := by
  rw [w32_s (z := p * 5) (by omega) (by omega), w32_s (by omega) (by omega)]
  omega
theorem R_tallyAround (d : Nat) (M : mMem) (b : Nat) (hb : b = 1 ∨ b = 9) (t x : Int) (ht : 0 ≤ t ∧ t < 36) (hf : celOK (M (b + 1))) : mR3 (d + 1) 4 [vr b, vi t, vi x] (S0, M) (none, (S0, tallyM M b t x)) := by
  refine ⟨⟨by decide, Nat.le_of_ble_eq_true rfl⟩, fun K hK => q_C_tallyAround_0 hK b t x M hb ?_⟩
  have h0 := hf t ht.1 ht.2
  have d1 : jdiv t 6 = t / 6 := jdiv_nn ht.1 (by omega) (by omega)
  have d2 : jrem t 6 = t % 6 := jrem_nn ht.1
  rw [d1, d2]
  have s100 : ∀ m : mMem, m (b + 1) = M (b + 1) → cbump (t % 6 < 5) m (b + 7) (5 * M (b + 1) t + M (b + 1) (t + 1)) x = tallyM M b t x → K 100 [(0, vr b), (1, vi t), (2, vi x), (3, vi (M (b + 1) t)), (5, vi (t % 6))] [] (S0, m) := by
    intro m hm hr
    refine q_C_tallyAround_100 hK b t x _ _ m hb ⟨fun h => ?_, fun h => ?_⟩
    · refine mret_n ?_
      rw [← hr]
      unfold cbump
      rw [if_neg (by omega)]
    · have h1 := hf (t + 1) (by omega) (by omega)
      have e1 : w32 (t + 1) = t + 1 := w32_s (by omega) (by omega)
      have e2 : w32 (w32 (M (b + 1) t * 5) + m (b + 1) (w32 (t + 1))) = 5 * M (b + 1) t + M (b + 1) (t + 1) := by
        rw [e1, hm]
        exact ix5 h0 h1
      rw [e2, e1]
      refine mIn_i (by omega) (by omega) (mIn_i (by omega) (by omega) (mIn_i (by omega) (by omega) (mret_n ?_)))
      rw [← hr]
      unfold cbump
      rw [if_pos (by omega)]
      rfl
  have s74 : ∀ m : mMem, m (b + 1) = M (b + 1) → cbump (t % 6 < 5) (cbump (0 < t % 6) m (b + 7) (5 * M (b + 1) (t - 1) + M (b + 1) t) x) (b + 7) (5 * M (b + 1) t + M (b + 1) (t + 1)) x = tallyM M b t x → K 74 [(0, vr b), (1, vi t), (2, vi x), (3, vi (M (b + 1) t)), (5, vi (t % 6))] [] (S0, m) := by
    intro m hm hr
    refine q_C_tallyAround_74 hK b t x _ _ m hb ⟨fun h => ?_, fun h => ?_⟩
    · refine s100 m hm ?_
      rw [← hr]
      unfold cbump
      rw [if_neg (show ¬ 0 < t % 6 by omega)]
    · have h1 := hf (t - 1) (by omega) (by omega)
      have e1 : w32 (t - 1) = t - 1 := w32_s (by omega) (by omega)
      have e2 : w32 (w32 (m (b + 1) (w32 (t - 1)) * 5) + M (b + 1) t) = 5 * M (b + 1) (t - 1) + M (b + 1) t := by
        rw [e1, hm]
        exact ix5 h1 h0
      rw [e2, e1]
      refine mIn_i (by omega) (by omega) (mIn_i (by omega) (by omega) (mIn_i (by omega) (by omega) (s100 _ ?_ ?_)))
      · rw [mupd_ne _ _ _ (show b + 1 ≠ b + 7 by omega), hm]
      · rw [← hr]
        have e3 : cbump (0 < t % 6) m (b + 7) (5 * M (b + 1) (t - 1) + M (b + 1) t) x = mupd m (b + 7) (5 * M (b + 1) (t - 1) + M (b + 1) t) (w32 (m (b + 7) (5 * M (b + 1) (t - 1) + M (b + 1) t) + x)) := if_pos (by omega)
        rw [e3]
  have s46 : ∀ m : mMem, m (b + 1) = M (b + 1) → cbump (t % 6 < 5) (cbump (0 < t % 6) (cbump (t < 30) m (b + 6) (5 * M (b + 1) t + M (b + 1) (t + 6)) x) (b + 7) (5 * M (b + 1) (t - 1) + M (b + 1) t) x) (b + 7) (5 * M (b + 1) t + M (b + 1) (t + 1)) x = tallyM M b t x → K 46 [(0, vr b), (1, vi t), (2, vi x), (3, vi (M (b + 1) t)), (4, vi (t / 6)), (5, vi (t % 6))] [] (S0, m) := by
    intro m hm hr
    refine q_C_tallyAround_46 hK b t x _ _ _ m hb ⟨fun h => ?_, fun h => ?_⟩
    · refine s74 m hm ?_
      rw [← hr]
      have e3 : cbump (t < 30) m (b + 6) (5 * M (b + 1) t + M (b + 1) (t + 6)) x = m := if_neg (by omega)
      rw [e3]
    · have h1 := hf (t + 6) (by omega) (by omega)
      have e1 : w32 (t + 6) = t + 6 := w32_s (by omega) (by omega)
      have e2 : w32 (w32 (M (b + 1) t * 5) + m (b + 1) (w32 (t + 6))) = 5 * M (b + 1) t + M (b + 1) (t + 6) := by
        rw [e1, hm]
        exact ix5 h0 h1
      rw [e2, e1]
      refine mIn_i (by omega) (by omega) (mIn_i (by omega) (by omega) (mIn_i (by omega) (by omega) (s74 _ ?_ ?_)))
      · rw [mupd_ne _ _ _ (show b + 1 ≠ b + 6 by omega), hm]
      · rw [← hr]
        have e3 : cbump (t < 30) m (b + 6) (5 * M (b + 1) t + M (b + 1) (t + 6)) x = mupd m (b + 6) (5 * M (b + 1) t + M (b + 1) (t + 6)) (w32 (m (b + 6) (5 * M (b + 1) t + M (b + 1) (t + 6)) + x)) := if_pos (by omega)
        rw [e3]
  refine mIn_i ht.1 (by omega) ⟨fun h => ?_, fun h => ?_⟩
  · refine s46 M rfl ?_
    have e3 : cbump (6 ≤ t) M (b + 6) (5 * M (b + 1) (t - 6) + M (b + 1) t) x = M := if_neg (by omega)
    unfold tallyM
    rw [e3]
  · have h1 := hf (t - 6) (by omega) (by omega)
    have e1 : w32 (t - 6) = t - 6 := w32_s (by omega) (by omega)
    have e2 : w32 (w32 (M (b + 1) (w32 (t - 6)) * 5) + M (b + 1) t) = 5 * M (b + 1) (t - 6) + M (b + 1) t := by
      rw [e1]
      exact ix5 h1 h0
    rw [e2, e1]
    refine mIn_i (by omega) (by omega) (mIn_i (by omega) (by omega) (mIn_i (by omega) (by omega) (s46 _ ?_ ?_)))
    · rw [mupd_ne _ _ _ (show b + 1 ≠ b + 6 by omega)]
    · have e3 : cbump (6 ≤ t) M (b + 6) (5 * M (b + 1) (t - 6) + M (b + 1) t) x = mupd M (b + 6) (5 * M (b + 1) (t - 6) + M (b + 1) t) (w32 (M (b + 6) (5 * M (b + 1) (t - 6) + M (b + 1) t) + x)) := if_pos (by omega)
      unfold tallyM
      rw [e3]
/-- the tallies of the charter at b are right -/
def Tal (M : mMem) (b : Nat) : Prop := celOK (M (b + 1)) ∧ (∀ a c : Int, 0 ≤ a ∧ a ≤ 4 → 0 ≤ c ∧ c ≤ 4 → M (b + 6) (5 * a + c) = cB (M (b + 1)) a c) ∧ (∀ a c : Int, 0 ≤ a ∧ a ≤ 4 → 0 ≤ c ∧ c ≤ 4 → M (b + 7) (5 * a + c) = cA (M (b + 1)) a c)
def putM (M : mMem) (b : Nat) (t v : Int) : mMem := if M (b + 1) t = v then M else tallyM (mupd (tallyM M b t (-1)) (b + 1) t v) b t 1
theorem fup_same {f : Int → Int} {t v : Int} (h : f t = v) : fup f t v = f := by
  funext j
  unfold fup
  by_cases e : j = t
  · rw [if_pos e, e, h]
  · rw [if_neg e]
theorem celOK_up {f : Int → Int} {t v : Int} (hf : celOK f) (hv : 0 ≤ v ∧ v ≤ 4) : celOK (fup f t v) := by
  intro i h0 h1
  unfold fup
  split
  · exact hv
  · exact hf i h0 h1
theorem put_ne (M : mMem) (b : Nat) (t v : Int) {k : Nat} (h1 : k ≠ b + 1) (h6 : k ≠ b + 6) (h7 : k ≠ b + 7) : putM M b t v k = M k := by
  unfold putM
  split
  · rfl
  · rw [tally_ne _ _ _ _ h6 h7, mupd_ne _ _ _ h1, tally_ne _ _ _ _ h6 h7]
theorem put_cel (M : mMem) (b : Nat) (t v : Int) : putM M b t v (b + 1) = fup (M (b + 1)) t v := by
  unfold putM
  split
  · exact (fup_same (by assumption)).symm
  · rw [tally_ne _ _ _ _ (by omega) (by omega), mupd_at, tally_ne _ _ _ _ (by omega) (by omega)]
theorem put_tal {M : mMem} {b : Nat} {t v : Int} (h : Tal M b) (ht : 0 ≤ t ∧ t < 36) (hv : 0 ≤ v ∧ v ≤ 4) : Tal (putM M b t v) b := by
  by_cases e : M (b + 1) t = v
  · have e1 : putM M b t v = M := if_pos e
    rw [e1]
    exact h
  · have e1 : putM M b t v = tallyM (mupd (tallyM M b t (-1)) (b + 1) t v) b t 1 := if_neg e
    have c1 := put_cel M b t v
    have m1 : (mupd (tallyM M b t (-1)) (b + 1) t v) (b + 1) = fup (M (b + 1)) t v := by rw [mupd_at, tally_ne _ _ _ _ (by omega) (by omega)]
    have m6 : (mupd (tallyM M b t (-1)) (b + 1) t v) (b + 6) = tallyM M b t (-1) (b + 6) := mupd_ne _ _ _ (by omega)
    have m7 : (mupd (tallyM M b t (-1)) (b + 1) t v) (b + 7) = tallyM M b t (-1) (b + 7) := mupd_ne _ _ _ (by omega)
    have hf : celOK (fup (M (b + 1)) t v) := celOK_up h.1 hv
    refine ⟨by rw [c1]; exact hf, fun a c ha hc => ?_, fun a c ha hc => ?_⟩
    · rw [c1, e1]
      have r0 := cB_rng (M (b + 1)) a c
      have r1 := dB_rng (M (b + 1)) t a c
      have x0 := h.2.1 a c ha hc
      have x1 := tally_B M b (x := -1) (Or.inr rfl) ht h.1 ha hc (by rw [x0]; omega)
      have x2 := tally_B (mupd (tallyM M b t (-1)) (b + 1) t v) b (x := 1) (Or.inl rfl) ht (by rw [m1]; exact hf) ha hc (by rw [m6, x1, x0]; omega)
      rw [x2, m6, x1, x0, m1, cB_up (M (b + 1)) ht.1 ht.2 a c]
      omega
    · rw [c1, e1]
      have r0 := cA_rng (M (b + 1)) a c
      have r1 := dA_rng (M (b + 1)) t a c
      have x0 := h.2.2 a c ha hc
      have x1 := tally_A M b (x := -1) (Or.inr rfl) ht h.1 ha hc (by rw [x0]; omega)
      have x2 := tally_A (mupd (tallyM M b t (-1)) (b + 1) t v) b (x := 1) (Or.inl rfl) ht (by rw [m1]; exact hf) ha hc (by rw [m7, x1, x0]; omega)
      rw [x2, m7, x1, x0, m1, cA_up (M (b + 1)) ht.1 ht.2 a c]
      omega
theorem R_put (d : Nat) (M : mMem) (b : Nat) (hb : b = 1 ∨ b = 9) (t v : Int) (ht : 0 ≤ t ∧ t < 36) (hv : 0 ≤ v ∧ v ≤ 4) (hf : celOK (M (b + 1))) : mR3 (d + 2) 3 [vr b, vi t, vi v] (S0, M) (none, (S0, putM M b t v)) := by
  refine ⟨⟨by decide, Nat.le_of_ble_eq_true rfl⟩, fun K hK => q_C_put_0 hK b t v M hb ?_⟩
  refine mIn_i ht.1 (by omega) ⟨fun h => mret_n (if_pos h).symm, fun h => ⟨_, R_tallyAround d M b hb t (-1) ht hf, mIn_i ht.1 (by omega) ⟨_, R_tallyAround d _ b hb t 1 ht ?_, mret_n (if_neg h).symm⟩⟩⟩
  rw [mupd_at, tally_ne _ _ _ _ (by omega) (by omega)]
  exact celOK_up hf hv
end
section
/-! PURE PROOFS 7: what a charter reads -/
theorem jor_0 {x : Int} (h : inR x) : jor x 0 = x := by
  unfold jor
  rw [show Int32.ofInt 0 = 0 from rfl, Int32.or_zero, i_to h]
def rA (kd p q r : Int) : Int := if kd = 0 then p else if kd = 1 then q else if kd = 2 then r else p + r
theorem rA_rng {kd p q r : Int} (hp : 0 ≤ p ∧ p ≤ 30) (hq : 0 ≤ q ∧ q ≤ 30) (hr : 0 ≤ r ∧ r ≤ 30) : 0 ≤ rA kd p q r ∧ rA kd p q r ≤ 60 := by
  unfold rA
  split
  · omega
  · split
    · omega
    · split <;> omega
def rdL (L f : Int → Int) (l : Int) : Int := rA (L (4 * l)) (cB f (L (4 * l + 1)) (L (4 * l + 2))) (cB f (L (4 * l + 2)) (L (4 * l + 1))) (cA f (L (4 * l + 1)) (L (4 * l + 2)))
def rdB (L f : Int → Int) (l : Int) : Int := rA (L (4 * l)) (cB f (L (4 * l + 2)) (L (4 * l + 1))) (cB f (L (4 * l + 1)) (L (4 * l + 2))) (cA f (L (4 * l + 1)) (L (4 * l + 2)))
theorem rdL_rng (L f : Int → Int) (l : Int) : 0 ≤ rdL L f l ∧ rdL L f l ≤ 60 := rA_rng (cB_rng _ _ _) (cB_rng _ _ _) (cA_rng _ _ _)
theorem rdB_rng (L f : Int → Int) (l : Int) : 0 ≤ rdB L f l ∧ rdB L f l ≤ 60 := rA_rng (cB_rng _ _ _) (cB_rng _ _ _) (cA_rng _ _ _)
def lawOK (L : Int → Int) (n : Int) : Prop := ∀ l, 0 ≤ l → l < n → (0 ≤ L (4 * l) ∧ L (4 * l) ≤ 3) ∧ (1 ≤ L (4 * l + 1) ∧ L (4 * l + 1) ≤ 3) ∧ (1 ≤ L (4 * l + 2) ∧ L (4 * l + 2) ≤ 3) ∧ 1 ≤ L (4 * l + 3) ∧ L (4 * l + 3) ≤ 9
def woS (L f : Int → Int) (n : Nat) : Int := sm (fun l => L (4 * (l : Int) + 3) * rdL L f l) n
theorem wr_rng {w r : Int} (hw : 1 ≤ w ∧ w ≤ 9) (hr : 0 ≤ r ∧ r ≤ 60) : 0 ≤ w * r ∧ w * r ≤ 540 := by
  have h : w = 1 ∨ w = 2 ∨ w = 3 ∨ w = 4 ∨ w = 5 ∨ w = 6 ∨ w = 7 ∨ w = 8 ∨ w = 9 := by omega
  rcases h with h | h | h | h | h | h | h | h | h <;> rw [h] <;> omega
theorem woS_rng {L f : Int → Int} : ∀ {n : Nat}, lawOK L n → 0 ≤ woS L f n ∧ woS L f n ≤ 540 * n
  | 0, _ => by
    have h : woS L f 0 = 0 := rfl
    omega
  | n + 1, h => by
    have h1 := woS_rng (L := L) (f := f) (n := n) (fun l h0 h1 => h l h0 (by omega))
    have h2 := h n (by omega) (by omega)
    have h3 := wr_rng h2.2.2.2 (rdL_rng L f n)
    have h4 : woS L f (n + 1) = woS L f n + L (4 * (n : Int) + 3) * rdL L f n := rfl
    omega
def hbF (g : Nat → Int) : Nat → Int
  | 0 => 0
  | n + 1 => jor (hbF g n) (if 0 < g n then jshl 1 n else 0)
theorem hbF_in (g : Nat → Int) : ∀ n : Nat, inR (hbF g n)
  | 0 => inR_0
  | _ + 1 => jor_in _ _
theorem hbF_cong {g h : Nat → Int} : ∀ {n : Nat}, (∀ k, k < n → g k = h k) → hbF g n = hbF h n
  | 0, _ => rfl
  | n + 1, q => by
    show jor (hbF g n) (if 0 < g n then jshl 1 n else 0) = jor (hbF h n) (if 0 < h n then jshl 1 n else 0)
    rw [hbF_cong (fun k hk => q k (by omega)), q n (by omega)]
def cO (f : Int → Int) (s : Int) (n : Nat) : Int := sm (fun k => b2 (f (k : Nat) = s)) n
theorem cO_rng (f : Int → Int) (s : Int) : ∀ n : Nat, 0 ≤ cO f s n ∧ cO f s n ≤ n
  | 0 => by
    have h : cO f s 0 = 0 := rfl
    omega
  | n + 1 => by
    have h1 := cO_rng f s n
    have h2 := b2_le (f (n : Nat) = s)
    have h4 : cO f s (n + 1) = cO f s n + b2 (f (n : Nat) = s) := rfl
    omega
section
variable (d : Nat) (M : mMem)
theorem R_canTake (b : Nat) (hb : b = 1 ∨ b = 9) (t c : Int) (ht : 0 ≤ t ∧ t < 36) (hc : 1 ≤ c ∧ c ≤ 3) : mR3 (d + 1) 5 [vr b, vi t, vi c] (S0, M) (some (vi (b2 (M (b + 1) t = 0 ∧ 0 < M (b + 2) c))), (S0, M)) := by
  refine ⟨⟨by decide, Nat.le_of_ble_eq_true rfl⟩, fun K hK => q_C_canTake_0 hK b t c M hb (mIn_i ht.1 (by omega) ⟨fun h => ?_, fun h => mIn_i (by omega) (by omega) ⟨fun h2 => ?_, fun h2 => ?_⟩⟩)⟩
  · exact mret_i (b2_f (by omega)).symm rfl
  · exact mret_i (b2_f (by omega)).symm rfl
  · exact mret_i (b2_t (by omega)).symm rfl
theorem R_take (b : Nat) (hb : b = 1 ∨ b = 9) (t c : Int) (ht : 0 ≤ t ∧ t < 36) (hc : 1 ≤ c ∧ c ≤ 3) (hf : celOK (M (b + 1))) : mR3 (d + 3) 6 [vr b, vi t, vi c] (S0, M) (none, (S0, mupd (putM M b t c) (b + 2) c (w32 (M (b + 2) c - 1)))) := by
  refine ⟨⟨by decide, Nat.le_of_ble_eq_true rfl⟩, fun K hK => q_C_take_0 hK b t c M hb ⟨_, R_put d M b hb t c ht (by omega) hf, mIn_i (by omega) (by omega) (mIn_i (by omega) (by omega) (mret_n ?_))⟩⟩
  rw [put_ne M b t c (show b + 2 ≠ b + 1 by omega) (by omega) (by omega)]
theorem R_takeBack (b : Nat) (hb : b = 1 ∨ b = 9) (t : Int) (ht : 0 ≤ t ∧ t < 36) (hf : celOK (M (b + 1))) (hc : M (b + 1) t ≤ 3) : mR3 (d + 3) 7 [vr b, vi t] (S0, M) (none, (S0, putM (mupd M (b + 2) (M (b + 1) t) (w32 (M (b + 2) (M (b + 1) t) + 1))) b t 0)) := by
  have h0 := hf t ht.1 ht.2
  refine ⟨⟨by decide, Nat.le_of_ble_eq_true rfl⟩, fun K hK => q_C_takeBack_0 hK b t M hb (mIn_i ht.1 (by omega) (mIn_i (by omega) (by omega) (mIn_i (by omega) (by omega) ⟨_, R_put d _ b hb t 0 ht (by omega) ?_, mret_n rfl⟩)))⟩
  rw [mupd_ne _ _ _ (show b + 1 ≠ b + 2 by omega)]
  exact hf
theorem R_readsAs (kd p q r : Int) (hk : 0 ≤ kd) (hp : 0 ≤ p ∧ p ≤ 30) (hr : 0 ≤ r ∧ r ≤ 30) : mR3 (d + 1) 12 [vi kd, vi p, vi q, vi r] (S0, M) (some (vi (rA kd p q r)), (S0, M)) := by
  refine ⟨⟨by decide, Nat.le_of_ble_eq_true rfl⟩, fun K hK => q_C_readsAs_0 hK kd p q r M ⟨⟨fun h => ?_, fun h => ?_, fun h => ?_, trivial⟩, fun h => ?_⟩⟩
  · refine mret_i ?_ rfl
    unfold rA
    rw [if_pos (by omega)]
  · refine mret_i ?_ rfl
    unfold rA
    rw [if_neg (by omega), if_pos (by omega)]
  · refine mret_i ?_ rfl
    unfold rA
    rw [if_neg (by omega), if_neg (by omega), if_pos (by omega)]
  · refine mret_i ?_ rfl
    unfold rA
    rw [if_neg (by omega), if_neg (by omega), if_neg (by omega), w32_s (by omega) (by omega)]
theorem R_reads (b : Nat) (hb : b = 1 ∨ b = 9) (l n : Int) (hT : Tal M b) (hL : lawOK (M (b + 3)) n) (hl : 0 ≤ l ∧ l < n) (hn : n ≤ 5) : mR3 (d + 2) 10 [vr b, vi l] (S0, M) (some (vi (rdL (M (b + 3)) (M (b + 1)) l)), (S0, M)) := by
  refine ⟨⟨by decide, Nat.le_of_ble_eq_true rfl⟩, fun K hK => q_C_reads_0 hK b l M hb ?_⟩
  obtain ⟨k0, k1, k2, _⟩ := hL l hl.1 hl.2
  have e0 : w32 (l * 4) = 4 * l := by rw [w32_s (by omega) (by omega)]; omega
  have e1 : w32 (w32 (l * 4) + 1) = 4 * l + 1 := by rw [e0, w32_s (by omega) (by omega)]
  have e2 : w32 (w32 (l * 4) + 2) = 4 * l + 2 := by rw [e0, w32_s (by omega) (by omega)]
  rw [e1, e2, e0]
  have e3 := ix5 (p := M (b + 3) (4 * l + 1)) (q := M (b + 3) (4 * l + 2)) (by omega) (by omega)
  have e4 := ix5 (p := M (b + 3) (4 * l + 2)) (q := M (b + 3) (4 * l + 1)) (by omega) (by omega)
  rw [e3, e4]
  have v1 := hT.2.1 (M (b + 3) (4 * l + 1)) (M (b + 3) (4 * l + 2)) (by omega) (by omega)
  have v2 := hT.2.1 (M (b + 3) (4 * l + 2)) (M (b + 3) (4 * l + 1)) (by omega) (by omega)
  have v3 := hT.2.2 (M (b + 3) (4 * l + 1)) (M (b + 3) (4 * l + 2)) (by omega) (by omega)
  rw [v1, v2, v3]
  exact mIn_i (by omega) (by omega) (mIn_i (by omega) (by omega) (mIn_i (by omega) (by omega) (mIn_i (by omega) (by omega) (mIn_i (by omega) (by omega) (mIn_i (by omega) (by omega) ⟨_, _, R_readsAs d M _ _ _ _ (by omega) (cB_rng _ _ _) (cA_rng _ _ _), mret_i rfl rfl⟩)))))
theorem R_readsByBack (b : Nat) (hb : b = 1 ∨ b = 9) (l n : Int) (hT : Tal M b) (hL : lawOK (M (b + 3)) n) (hl : 0 ≤ l ∧ l < n) (hn : n ≤ 5) : mR3 (d + 2) 11 [vr b, vi l] (S0, M) (some (vi (rdB (M (b + 3)) (M (b + 1)) l)), (S0, M)) := by
  refine ⟨⟨by decide, Nat.le_of_ble_eq_true rfl⟩, fun K hK => q_C_readsByBack_0 hK b l M hb ?_⟩
  obtain ⟨k0, k1, k2, _⟩ := hL l hl.1 hl.2
  have e0 : w32 (l * 4) = 4 * l := by rw [w32_s (by omega) (by omega)]; omega
  have e1 : w32 (w32 (l * 4) + 1) = 4 * l + 1 := by rw [e0, w32_s (by omega) (by omega)]
  have e2 : w32 (w32 (l * 4) + 2) = 4 * l + 2 := by rw [e0, w32_s (by omega) (by omega)]
  rw [e1, e2, e0]
  have e3 := ix5 (p := M (b + 3) (4 * l + 1)) (q := M (b + 3) (4 * l + 2)) (by omega) (by omega)
  have e4 := ix5 (p := M (b + 3) (4 * l + 2)) (q := M (b + 3) (4 * l + 1)) (by omega) (by omega)
  rw [e3, e4]
  have v1 := hT.2.1 (M (b + 3) (4 * l + 1)) (M (b + 3) (4 * l + 2)) (by omega) (by omega)
  have v2 := hT.2.1 (M (b + 3) (4 * l + 2)) (M (b + 3) (4 * l + 1)) (by omega) (by omega)
  have v3 := hT.2.2 (M (b + 3) (4 * l + 1)) (M (b + 3) (4 * l + 2)) (by omega) (by omega)
  rw [v1, v2, v3]
  exact mIn_i (by omega) (by omega) (mIn_i (by omega) (by omega) (mIn_i (by omega) (by omega) (mIn_i (by omega) (by omega) (mIn_i (by omega) (by omega) (mIn_i (by omega) (by omega) ⟨_, _, R_readsAs d M _ _ _ _ (by omega) (cB_rng _ _ _) (cA_rng _ _ _), mret_i rfl rfl⟩)))))
theorem R_worth (b : Nat) (hb : b = 1 ∨ b = 9) (n : Nat) (hn : M b 5 = n) (h5 : n ≤ 5) (hT : Tal M b) (hL : lawOK (M (b + 3)) n) : mR3 (d + 3) 13 [vr b] (S0, M) (some (vi (woS (M (b + 3)) (M (b + 1)) n)), (S0, M)) := by
  refine ⟨⟨by decide, Nat.le_of_ble_eq_true rfl⟩, fun K hK => q_C_worth_0 hK b M hb ?_⟩
  have loop : ∀ (j k : Nat), k + j = n → K 4 [(0, vr b), (1, vi (woS (M (b + 3)) (M (b + 1)) k)), (2, vi (k : Int))] [] (S0, M) := by
    intro j
    induction j with
    | zero =>
      intro k hk
      have e : k = n := by omega
      have e1 : M b 5 ≤ (k : Int) := by omega
      refine q_C_worth_4 hK b (woS (M (b + 3)) (M (b + 1)) k) (k : Int) M hb ?_
      exact br_t e1 (mret_i (by rw [e]) rfl)
    | succ j ih =>
      intro k hk
      refine q_C_worth_4 hK b _ _ M hb ⟨fun h => absurd h (by omega), fun _ => ?_⟩
      have e0 : w32 ((k : Int) * 4) = 4 * k := by rw [w32_s (by omega) (by omega)]; omega
      have e1 : w32 (w32 ((k : Int) * 4) + 3) = 4 * k + 3 := by rw [e0, w32_s (by omega) (by omega)]
      rw [e1]
      refine mIn_i (by omega) (by omega) ⟨_, _, R_reads d M b hb k n hT hL (by omega) (by omega), ?_⟩
      have h1 := ih (k + 1) (by omega)
      have r0 := woS_rng (L := M (b + 3)) (f := M (b + 1)) (n := k) (fun l h0 h1 => hL l h0 (by omega))
      have r1 := hL k (by omega) (by omega)
      have r2 := wr_rng r1.2.2.2 (rdL_rng (M (b + 3)) (M (b + 1)) k)
      have e2 : w32 (M (b + 3) (4 * (k : Int) + 3) * rdL (M (b + 3)) (M (b + 1)) k) = M (b + 3) (4 * (k : Int) + 3) * rdL (M (b + 3)) (M (b + 1)) k := w32_s (by omega) (by omega)
      have e3 : w32 (woS (M (b + 3)) (M (b + 1)) k + M (b + 3) (4 * (k : Int) + 3) * rdL (M (b + 3)) (M (b + 1)) k) = woS (M (b + 3)) (M (b + 1)) (k + 1) := by
        rw [w32_s (by omega) (by omega)]
        rfl
      have e4 : w32 ((k : Int) + 1) = ((k + 1 : Nat) : Int) := by rw [w32_s (by omega) (by omega)]; omega
      rw [e2, e3, e4]
      exact h1
  exact loop n 0 (by omega)
theorem R_heldBits (b : Nat) (hb : b = 1 ∨ b = 9) (n : Nat) (hn : M b 5 = n) (h5 : n ≤ 5) (hT : Tal M b) (hL : lawOK (M (b + 3)) n) : mR3 (d + 3) 14 [vr b] (S0, M) (some (vi (hbF (fun l => rdL (M (b + 3)) (M (b + 1)) l) n)), (S0, M)) := by
  refine ⟨⟨by decide, Nat.le_of_ble_eq_true rfl⟩, fun K hK => q_C_heldBits_0 hK b M hb ?_⟩
  have loop : ∀ (j k : Nat), k + j = n → K 4 [(0, vr b), (1, vi (hbF (fun l => rdL (M (b + 3)) (M (b + 1)) l) k)), (2, vi (k : Int))] [] (S0, M) := by
    intro j
    induction j with
    | zero =>
      intro k hk
      refine q_C_heldBits_4 hK b _ _ M hb ⟨fun _ => mret_i (by rw [show k = n by omega]) rfl, fun h => absurd (show M b 5 ≤ (k : Int) by omega) h⟩
    | succ j ih =>
      intro k hk
      refine q_C_heldBits_4 hK b _ _ M hb ⟨fun h => absurd h (by omega), fun _ => ⟨_, _, R_reads d M b hb k n hT hL (by omega) (by omega), fun h => ?_, fun h => ?_⟩⟩
      all_goals
        have h1 := ih (k + 1) (by omega)
        have e4 : w32 ((k : Int) + 1) = ((k + 1 : Nat) : Int) := by rw [w32_s (by omega) (by omega)]; omega
        rw [e4]
      · have e5 : hbF (fun l => rdL (M (b + 3)) (M (b + 1)) l) (k + 1) = hbF (fun l => rdL (M (b + 3)) (M (b + 1)) l) k := by
          show jor (hbF (fun l => rdL (M (b + 3)) (M (b + 1)) l) k) (if 0 < rdL (M (b + 3)) (M (b + 1)) k then jshl 1 k else 0) = _
          rw [if_neg (by omega), jor_0 (hbF_in _ _)]
        rw [e5] at h1
        exact h1
      · have e5 : hbF (fun l => rdL (M (b + 3)) (M (b + 1)) l) (k + 1) = jor (hbF (fun l => rdL (M (b + 3)) (M (b + 1)) l) k) (jshl 1 k) := by
          show jor (hbF (fun l => rdL (M (b + 3)) (M (b + 1)) l) k) (if 0 < rdL (M (b + 3)) (M (b + 1)) k then jshl 1 k else 0) = _
          rw [if_pos (by omega)]
        rw [e5] at h1
        exact h1
  exact loop n 0 (by omega)
theorem R_cellsOf (b : Nat) (hb : b = 1 ∨ b = 9) (s : Int) : mR3 (d + 1) 15 [vr b, vi s] (S0, M) (some (vi (cO (M (b + 1)) s 36)), (S0, M)) := by
  refine ⟨⟨by decide, Nat.le_of_ble_eq_true rfl⟩, fun K hK => q_C_cellsOf_0 hK b s M hb ?_⟩
  have loop : ∀ (j k : Nat), k + j = 36 → K 4 [(0, vr b), (1, vi s), (2, vi (cO (M (b + 1)) s k)), (3, vi (k : Int))] [] (S0, M) := by
    intro j
    induction j with
    | zero =>
      intro k hk
      refine q_C_cellsOf_4 hK b _ _ _ M hb ⟨fun _ => mret_i (by rw [show k = 36 by omega]) rfl, fun h => absurd (show 36 ≤ (k : Int) by omega) h⟩
    | succ j ih =>
      intro k hk
      have h1 := ih (k + 1) (by omega)
      have e4 : w32 ((k : Int) + 1) = ((k + 1 : Nat) : Int) := by rw [w32_s (by omega) (by omega)]; omega
      have r0 := cO_rng (M (b + 1)) s k
      have e5 : cO (M (b + 1)) s (k + 1) = cO (M (b + 1)) s k + b2 (M (b + 1) (k : Nat) = s) := rfl
      refine q_C_cellsOf_4 hK b _ _ _ M hb ⟨fun h => absurd h (by omega), fun _ => mIn_i (by omega) (by omega) ⟨fun h => ?_, fun h => ?_⟩⟩
      · rw [e5, b2_f h, Int.add_zero] at h1
        rw [e4]
        exact h1
      · rw [e5, b2_t (by omega)] at h1
        rw [e4, w32_s (z := cO (M (b + 1)) s k + 1) (by omega) (by omega)]
        exact h1
  exact loop 36 0 (by omega)
theorem R_canRun (b : Nat) (hb : b = 1 ∨ b = 9) (t : Int) (ht : 0 ≤ t ∧ t < 36) : mR3 (d + 1) 16 [vr b, vi t] (S0, M) (some (vi (b2 (M (b + 1) t = 1 ∧ t < 30 ∧ M (b + 1) (t + 6) = 0))), (S0, M)) := by
  refine ⟨⟨by decide, Nat.le_of_ble_eq_true rfl⟩, fun K hK => q_C_canRun_0 hK b t M hb ?_⟩
  have d1 : jdiv t 6 = t / 6 := jdiv_nn ht.1 (by omega) (by omega)
  have e1 : w32 (t + 6) = t + 6 := w32_s (by omega) (by omega)
  rw [d1, e1]
  refine mIn_i ht.1 (by omega) ⟨fun h => ?_, fun h => ⟨fun h2 => ?_, fun h2 => mIn_i (by omega) (by omega) ⟨fun h3 => ?_, fun h3 => ?_⟩⟩⟩
  · exact mret_i (b2_f (by omega)).symm rfl
  · exact mret_i (b2_f (by omega)).symm rfl
  · exact mret_i (b2_f (by omega)).symm rfl
  · exact mret_i (b2_t (by omega)).symm rfl
theorem R_runningCells (b : Nat) (hb : b = 1 ∨ b = 9) (hT : Tal M b) : mR3 (d + 1) 17 [vr b] (S0, M) (some (vi (cB (M (b + 1)) 1 0)), (S0, M)) := by
  refine ⟨⟨by decide, Nat.le_of_ble_eq_true rfl⟩, fun K hK => q_C_runningCells_0 hK b M hb (mret_i ?_ rfl)⟩
  exact hT.2.1 1 0 (by omega) (by omega)
end
end
section
/-! PURE PROOFS 8: charters copied and changed -/
theorem mcpy_ne (m : mMem) (s : Nat) (sp : Int) {k d : Nat} (dp n : Int) (h : k ≠ d) : mcpy m s sp d dp n k = m k := by
  funext i
  unfold mcpy
  rw [if_neg (fun q => h q.1)]
theorem mcpy_at (m : mMem) (s d : Nat) {n i : Int} (h0 : 0 ≤ i) (h1 : i < n) : mcpy m s 0 d 0 n d i = m s i := by
  unfold mcpy
  rw [if_pos ⟨rfl, h0, by omega⟩]
  congr 1
  omega
def cpy7 (M : mMem) (b c : Nat) : mMem := mcpy (mcpy (mcpy (mcpy (mcpy (mcpy (mcpy M (c + 1) 0 (b + 1) 0 36) (c + 6) 0 (b + 6) 0 25) (c + 7) 0 (b + 7) 0 25) (c + 2) 0 (b + 2) 0 4) (c + 3) 0 (b + 3) 0 20) (c + 4) 0 (b + 4) 0 8) (c + 5) 0 (b + 5) 0 8
def cpyM (M : mMem) (b c : Nat) : mMem := mupd (mupd (cpy7 M b c) b 5 (cpy7 M b c c 5)) b 6 (mupd (cpy7 M b c) b 5 (cpy7 M b c c 5) c 6)
def cpP (b c : Nat) : Prop := (b = 1 ∧ c = 9) ∨ (b = 9 ∧ c = 1) ∨ (b = 18 ∧ c = 1) ∨ (b = 27 ∧ c = 1) ∨ (b = 1 ∧ c = 18) ∨ (b = 1 ∧ c = 27)
theorem R_copyFrom (d : Nat) (M : mMem) (b c : Nat) (h : cpP b c) : mR3 (d + 1) 2 [vr b, vr c] (S0, M) (none, (S0, cpyM M b c)) := by
  refine ⟨⟨by decide, Nat.le_of_ble_eq_true rfl⟩, fun K hK => q_C_copyFrom_0 hK b c M h ?_⟩
  exact ⟨by decide, by decide, by decide, by decide, by decide, by decide, by decide, mret_n rfl⟩
theorem cpy7_ne (M : mMem) {b c k : Nat} (h : k ≤ b ∨ b + 8 ≤ k) : cpy7 M b c k = M k := by
  unfold cpy7
  rw [mcpy_ne _ _ _ _ _ (by omega), mcpy_ne _ _ _ _ _ (by omega), mcpy_ne _ _ _ _ _ (by omega), mcpy_ne _ _ _ _ _ (by omega), mcpy_ne _ _ _ _ _ (by omega), mcpy_ne _ _ _ _ _ (by omega), mcpy_ne _ _ _ _ _ (by omega)]
theorem cpy_ne (M : mMem) {b c k : Nat} (h : k < b ∨ b + 8 ≤ k) : cpyM M b c k = M k := by
  unfold cpyM
  rw [mupd_ne _ _ _ (by omega), mupd_ne _ _ _ (by omega), cpy7_ne M (by omega)]
theorem cpy_r (M : mMem) {b c k : Nat} (h : k ≠ b) : cpyM M b c k = cpy7 M b c k := by
  unfold cpyM
  rw [mupd_ne _ _ _ h, mupd_ne _ _ _ h]
theorem cpy_5 (M : mMem) {b c : Nat} (h : b + 8 ≤ c ∨ c + 8 ≤ b) : cpyM M b c b 5 = M c 5 := by
  unfold cpyM
  rw [mupd_at, mupd_at]
  unfold fup
  rw [if_neg (by decide), if_pos rfl, cpy7_ne M (by omega)]
theorem cpy_6 (M : mMem) {b c : Nat} (h : b + 8 ≤ c ∨ c + 8 ≤ b) : cpyM M b c b 6 = M c 6 := by
  unfold cpyM
  rw [mupd_at]
  unfold fup
  rw [if_pos rfl, mupd_ne _ _ _ (by omega), cpy7_ne M (by omega)]
theorem cpy_f (M : mMem) {b c : Nat} {i : Int} (h5 : i ≠ 5) (h6 : i ≠ 6) : cpyM M b c b i = M b i := by
  unfold cpyM
  rw [mupd_at, mupd_at]
  unfold fup
  rw [if_neg h6, if_neg h5, cpy7_ne M (by omega)]
theorem cpy_1 (M : mMem) {b c : Nat} (h : b + 8 ≤ c ∨ c + 8 ≤ b) {i : Int} (h0 : 0 ≤ i) (h1 : i < 36) : cpyM M b c (b + 1) i = M (c + 1) i := by
  rw [cpy_r M (by omega)]
  unfold cpy7
  rw [mcpy_ne _ _ _ _ _ (by omega), mcpy_ne _ _ _ _ _ (by omega), mcpy_ne _ _ _ _ _ (by omega), mcpy_ne _ _ _ _ _ (by omega), mcpy_ne _ _ _ _ _ (by omega), mcpy_ne _ _ _ _ _ (by omega), mcpy_at _ _ _ h0 h1]
theorem cpy_6r (M : mMem) {b c : Nat} (h : b + 8 ≤ c ∨ c + 8 ≤ b) {i : Int} (h0 : 0 ≤ i) (h1 : i < 25) : cpyM M b c (b + 6) i = M (c + 6) i := by
  rw [cpy_r M (by omega)]
  unfold cpy7
  rw [mcpy_ne _ _ _ _ _ (by omega), mcpy_ne _ _ _ _ _ (by omega), mcpy_ne _ _ _ _ _ (by omega), mcpy_ne _ _ _ _ _ (by omega), mcpy_ne _ _ _ _ _ (by omega), mcpy_at _ _ _ h0 h1, mcpy_ne _ _ _ _ _ (by omega)]
theorem cpy_7r (M : mMem) {b c : Nat} (h : b + 8 ≤ c ∨ c + 8 ≤ b) {i : Int} (h0 : 0 ≤ i) (h1 : i < 25) : cpyM M b c (b + 7) i = M (c + 7) i := by
  rw [cpy_r M (by omega)]
  unfold cpy7
  rw [mcpy_ne _ _ _ _ _ (by omega), mcpy_ne _ _ _ _ _ (by omega), mcpy_ne _ _ _ _ _ (by omega), mcpy_ne _ _ _ _ _ (by omega), mcpy_at _ _ _ h0 h1, mcpy_ne _ _ _ _ _ (by omega), mcpy_ne _ _ _ _ _ (by omega)]
theorem cpy_2 (M : mMem) {b c : Nat} (h : b + 8 ≤ c ∨ c + 8 ≤ b) {i : Int} (h0 : 0 ≤ i) (h1 : i < 4) : cpyM M b c (b + 2) i = M (c + 2) i := by
  rw [cpy_r M (by omega)]
  unfold cpy7
  rw [mcpy_ne _ _ _ _ _ (by omega), mcpy_ne _ _ _ _ _ (by omega), mcpy_ne _ _ _ _ _ (by omega), mcpy_at _ _ _ h0 h1, mcpy_ne _ _ _ _ _ (by omega), mcpy_ne _ _ _ _ _ (by omega), mcpy_ne _ _ _ _ _ (by omega)]
theorem cpy_3 (M : mMem) {b c : Nat} (h : b + 8 ≤ c ∨ c + 8 ≤ b) {i : Int} (h0 : 0 ≤ i) (h1 : i < 20) : cpyM M b c (b + 3) i = M (c + 3) i := by
  rw [cpy_r M (by omega)]
  unfold cpy7
  rw [mcpy_ne _ _ _ _ _ (by omega), mcpy_ne _ _ _ _ _ (by omega), mcpy_at _ _ _ h0 h1, mcpy_ne _ _ _ _ _ (by omega), mcpy_ne _ _ _ _ _ (by omega), mcpy_ne _ _ _ _ _ (by omega), mcpy_ne _ _ _ _ _ (by omega)]
theorem cpy_4 (M : mMem) {b c : Nat} (h : b + 8 ≤ c ∨ c + 8 ≤ b) {i : Int} (h0 : 0 ≤ i) (h1 : i < 8) : cpyM M b c (b + 4) i = M (c + 4) i := by
  rw [cpy_r M (by omega)]
  unfold cpy7
  rw [mcpy_ne _ _ _ _ _ (by omega), mcpy_at _ _ _ h0 h1, mcpy_ne _ _ _ _ _ (by omega), mcpy_ne _ _ _ _ _ (by omega), mcpy_ne _ _ _ _ _ (by omega), mcpy_ne _ _ _ _ _ (by omega), mcpy_ne _ _ _ _ _ (by omega)]
theorem cpy_5r (M : mMem) {b c : Nat} (h : b + 8 ≤ c ∨ c + 8 ≤ b) {i : Int} (h0 : 0 ≤ i) (h1 : i < 8) : cpyM M b c (b + 5) i = M (c + 5) i := by
  rw [cpy_r M (by omega)]
  unfold cpy7
  rw [mcpy_at _ _ _ h0 h1, mcpy_ne _ _ _ _ _ (by omega), mcpy_ne _ _ _ _ _ (by omega), mcpy_ne _ _ _ _ _ (by omega), mcpy_ne _ _ _ _ _ (by omega), mcpy_ne _ _ _ _ _ (by omega), mcpy_ne _ _ _ _ _ (by omega)]
theorem cpP_d {b c : Nat} (h : cpP b c) : b + 8 ≤ c ∨ c + 8 ≤ b := by
  unfold cpP at h
  omega
def planOK (P Q : Int → Int) (n : Int) : Prop := ∀ i, 0 ≤ i → i < n → (0 ≤ P i ∧ P i < 36) ∧ 1 ≤ Q i ∧ Q i ≤ 3
def spOK (s : Int → Int) : Prop := ∀ c, 1 ≤ c → c ≤ 3 → 0 ≤ s c ∧ s c ≤ 99
/-- the charter at b is sound -/
def Cht (M : mMem) (b : Nat) : Prop := Tal M b ∧ (0 ≤ M b 5 ∧ M b 5 ≤ 5) ∧ lawOK (M (b + 3)) (M b 5) ∧ (0 ≤ M b 6 ∧ M b 6 ≤ 8) ∧ planOK (M (b + 4)) (M (b + 5)) (M b 6) ∧ spOK (M (b + 2))
/-- b has what c has in the memory N -/
def Same (M : mMem) (b : Nat) (N : mMem) (c : Nat) : Prop := (∀ i : Int, 0 ≤ i → i < 36 → M (b + 1) i = N (c + 1) i) ∧ (∀ i : Int, 0 ≤ i → i < 4 → M (b + 2) i = N (c + 2) i) ∧ (∀ i : Int, 0 ≤ i → i < 20 → M (b + 3) i = N (c + 3) i) ∧ (∀ i : Int, 0 ≤ i → i < 8 → M (b + 4) i = N (c + 4) i) ∧ (∀ i : Int, 0 ≤ i → i < 8 → M (b + 5) i = N (c + 5) i) ∧ M b 5 = N c 5 ∧ M b 6 = N c 6
theorem Tal_of {M N : mMem} {b c : Nat} (h : Tal N c) (h1 : ∀ i : Int, 0 ≤ i → i < 36 → M (b + 1) i = N (c + 1) i) (h6 : ∀ i : Int, 0 ≤ i → i < 25 → M (b + 6) i = N (c + 6) i) (h7 : ∀ i : Int, 0 ≤ i → i < 25 → M (b + 7) i = N (c + 7) i) : Tal M b := by
  refine ⟨fun i q0 q1 => ?_, fun a e ha he => ?_, fun a e ha he => ?_⟩
  · rw [h1 i q0 q1]
    exact h.1 i q0 q1
  · rw [h6 _ (by omega) (by omega), h.2.1 a e ha he]
    exact (cB_cong h1 a e).symm
  · rw [h7 _ (by omega) (by omega), h.2.2 a e ha he]
    exact (cA_cong h1 a e).symm
theorem Cht_of {M N : mMem} {b c : Nat} (h : Cht N c) (s : Same M b N c) (h6 : ∀ i : Int, 0 ≤ i → i < 25 → M (b + 6) i = N (c + 6) i) (h7 : ∀ i : Int, 0 ≤ i → i < 25 → M (b + 7) i = N (c + 7) i) : Cht M b := by
  obtain ⟨t, l0, l1, p0, p1, sp⟩ := h
  obtain ⟨s1, s2, s3, s4, s5, f5, f6⟩ := s
  refine ⟨Tal_of t s1 h6 h7, by omega, ?_, by omega, ?_, ?_⟩
  · intro l q0 q1
    have h0 := l1 l q0 (by omega)
    rw [s3 _ (by omega) (by omega), s3 (4 * l + 1) (by omega) (by omega), s3 (4 * l + 2) (by omega) (by omega), s3 (4 * l + 3) (by omega) (by omega)]
    exact h0
  · intro i q0 q1
    have h0 := p1 i q0 (by omega)
    rw [s4 _ q0 (by omega), s5 _ q0 (by omega)]
    exact h0
  · intro c' q0 q1
    rw [s2 _ (by omega) (by omega)]
    exact sp c' q0 q1
theorem cpy_same (M : mMem) {b c : Nat} (h : cpP b c) : Same (cpyM M b c) b M c := by
  have hd := cpP_d h
  exact ⟨fun i h0 h1 => cpy_1 M hd h0 h1, fun i h0 h1 => cpy_2 M hd h0 h1, fun i h0 h1 => cpy_3 M hd h0 h1, fun i h0 h1 => cpy_4 M hd h0 h1, fun i h0 h1 => cpy_5r M hd h0 h1, cpy_5 M hd, cpy_6 M hd⟩
theorem cpy_cht {M : mMem} {b c : Nat} (h : cpP b c) (hc : Cht M c) : Cht (cpyM M b c) b :=
  Cht_of hc (cpy_same M h) (fun _ h0 h1 => cpy_6r M (cpP_d h) h0 h1) (fun _ h0 h1 => cpy_7r M (cpP_d h) h0 h1)
/-- a charter whose memory is as it was -/
theorem Cht_eq {M N : mMem} {b : Nat} (h : Cht N b) (e : ∀ k, b ≤ k → k < b + 8 → M k = N k) : Cht M b := by
  refine Cht_of h ⟨fun i _ _ => by rw [e (b + 1) (by omega) (by omega)], fun i _ _ => by rw [e (b + 2) (by omega) (by omega)], fun i _ _ => by rw [e (b + 3) (by omega) (by omega)], fun i _ _ => by rw [e (b + 4) (by omega) (by omega)], fun i _ _ => by rw [e (b + 5) (by omega) (by omega)], by rw [e b (by omega) (by omega)], by rw [e b (by omega) (by omega)]⟩ (fun i _ _ => by rw [e (b + 6) (by omega) (by omega)]) (fun i _ _ => by rw [e (b + 7) (by omega) (by omega)])
theorem put_cht {M : mMem} {b : Nat} {t v : Int} (h : Cht M b) (ht : 0 ≤ t ∧ t < 36) (hv : 0 ≤ v ∧ v ≤ 4) : Cht (putM M b t v) b := by
  obtain ⟨t0, l0, l1, p0, p1, sp⟩ := h
  have e0 := put_ne M b t v (k := b) (by omega) (by omega) (by omega)
  have e2 := put_ne M b t v (k := b + 2) (by omega) (by omega) (by omega)
  have e3 := put_ne M b t v (k := b + 3) (by omega) (by omega) (by omega)
  have e4 := put_ne M b t v (k := b + 4) (by omega) (by omega) (by omega)
  have e5 := put_ne M b t v (k := b + 5) (by omega) (by omega) (by omega)
  unfold Cht
  rw [e0, e2, e3, e4, e5]
  exact ⟨put_tal t0 ht hv, l0, l1, p0, p1, sp⟩
end
section
/-! PURE PROOFS 9: charters changed -/
def swp (p q v : Int) : Int := if v = p then q else if v = q then p else v
theorem swp_rng {p q v : Int} (hp : 0 ≤ p ∧ p ≤ 4) (hq : 0 ≤ q ∧ q ≤ 4) (hv : 0 ≤ v ∧ v ≤ 4) : 0 ≤ swp p q v ∧ swp p q v ≤ 4 := by
  unfold swp
  split
  · exact hq
  · split
    · exact hp
    · exact hv
def exM (M : mMem) (b : Nat) (p q : Int) : Nat → mMem
  | 0 => M
  | n + 1 => putM (exM M b p q n) b n (swp p q (exM M b p q n (b + 1) n))
theorem exM_cht {M : mMem} {b : Nat} {p q : Int} (h : Cht M b) (hp : 0 ≤ p ∧ p ≤ 4) (hq : 0 ≤ q ∧ q ≤ 4) : ∀ n : Nat, n ≤ 36 → Cht (exM M b p q n) b
  | 0, _ => h
  | n + 1, hn => by
    have ih := exM_cht h hp hq n (by omega)
    exact put_cht ih (by omega) (swp_rng hp hq (ih.1.1 n (by omega) (by omega)))
theorem exM_ne (M : mMem) (b : Nat) (p q : Int) {k : Nat} (h1 : k ≠ b + 1) (h6 : k ≠ b + 6) (h7 : k ≠ b + 7) : ∀ n : Nat, exM M b p q n k = M k
  | 0 => rfl
  | n + 1 => by
    show putM (exM M b p q n) b n _ k = M k
    rw [put_ne _ _ _ _ h1 h6 h7, exM_ne M b p q h1 h6 h7 n]
theorem exM_cel (M : mMem) (b : Nat) (p q : Int) : ∀ (n : Nat) (i : Int), exM M b p q n (b + 1) i = if 0 ≤ i ∧ i < n then swp p q (M (b + 1) i) else M (b + 1) i
  | 0, i => by
    rw [if_neg (by omega)]
    rfl
  | n + 1, i => by
    show putM (exM M b p q n) b n _ (b + 1) i = _
    rw [put_cel]
    unfold fup
    have e := exM_cel M b p q n
    by_cases h : i = n
    · rw [if_pos h, e, if_neg (by omega), if_pos (by omega), h]
    · rw [if_neg h, e]
      by_cases h2 : 0 ≤ i ∧ i < n
      · rw [if_pos h2, if_pos (by omega)]
      · rw [if_neg h2, if_neg (by omega)]
theorem R_exchange (d : Nat) (M : mMem) (b : Nat) (hb : b = 1 ∨ b = 9) (p q : Int) (hp : 0 ≤ p ∧ p ≤ 4) (hq : 0 ≤ q ∧ q ≤ 4) (h : Cht M b) : mR3 (d + 3) 18 [vr b, vi p, vi q] (S0, M) (none, (S0, exM M b p q 36)) := by
  refine ⟨⟨by decide, Nat.le_of_ble_eq_true rfl⟩, fun K hK => q_C_exchange_0 hK b p q M hb ?_⟩
  have loop : ∀ (j k : Nat), k + j = 36 → K 2 [(0, vr b), (1, vi p), (2, vi q), (3, vi (k : Int))] [] (S0, exM M b p q k) := by
    intro j
    induction j with
    | zero =>
      intro k hk
      refine q_C_exchange_2 hK b _ _ _ _ hb (br_t (by omega) (mret_n ?_))
      rw [show k = 36 by omega]
    | succ j ih =>
      intro k hk
      have h1 := ih (k + 1) (by omega)
      have e4 : w32 ((k : Int) + 1) = ((k + 1 : Nat) : Int) := by rw [w32_s (by omega) (by omega)]; omega
      have hm := exM_cht h hp hq k (by omega)
      have e5 : exM M b p q (k + 1) = putM (exM M b p q k) b k (swp p q (exM M b p q k (b + 1) k)) := rfl
      rw [e5] at h1
      generalize exM M b p q k = m at h1 hm ⊢
      refine q_C_exchange_2 hK b _ _ _ _ hb (br_f (by omega) (mIn_i (by omega) (by omega) ?_))
      rw [e4]
      by_cases c1 : m (b + 1) (k : Int) = p
      · have e6 : swp p q (m (b + 1) (k : Int)) = q := if_pos c1
        rw [e6] at h1
        exact br_f (fun z => z c1) ⟨_, R_put d m b hb k q (by omega) hq hm.1.1, h1⟩
      · refine br_t c1 (mIn_i (by omega) (by omega) ?_)
        by_cases c2 : m (b + 1) (k : Int) = q
        · have e6 : swp p q (m (b + 1) (k : Int)) = p := by unfold swp; rw [if_neg c1, if_pos c2]
          rw [e6] at h1
          exact br_f (fun z => z c2) ⟨_, R_put d m b hb k p (by omega) hp hm.1.1, h1⟩
        · have e6 : swp p q (m (b + 1) (k : Int)) = m (b + 1) (k : Int) := by unfold swp; rw [if_neg c1, if_neg c2]
          have e7 : putM m b k (m (b + 1) (k : Int)) = m := if_pos rfl
          rw [e6, e7] at h1
          exact br_t c2 h1
  exact loop 36 0 (by omega)
def trM (M : mMem) (b : Nat) (y : Int) : Nat → mMem
  | 0 => M
  | n + 1 => putM (putM (trM M b y n) b (6 * n + y) (trM M b y n (b + 1) (6 * (5 - n) + y))) b (6 * (5 - n) + y) (trM M b y n (b + 1) (6 * n + y))
theorem trM_cht {M : mMem} {b : Nat} {y : Int} (h : Cht M b) (hy : 0 ≤ y ∧ y < 6) : ∀ n : Nat, n ≤ 3 → Cht (trM M b y n) b
  | 0, _ => h
  | n + 1, hn => by
    have ih := trM_cht h hy n (by omega)
    exact put_cht (put_cht ih (by omega) (ih.1.1 _ (by omega) (by omega))) (by omega) (ih.1.1 _ (by omega) (by omega))
theorem trM_ne (M : mMem) (b : Nat) (y : Int) {k : Nat} (h1 : k ≠ b + 1) (h6 : k ≠ b + 6) (h7 : k ≠ b + 7) : ∀ n : Nat, trM M b y n k = M k
  | 0 => rfl
  | n + 1 => by
    show putM (putM (trM M b y n) b _ _) b _ _ k = M k
    rw [put_ne _ _ _ _ h1 h6 h7, put_ne _ _ _ _ h1 h6 h7, trM_ne M b y h1 h6 h7 n]
theorem trM_cel (M : mMem) (b : Nat) {y : Int} (hy : 0 ≤ y ∧ y < 6) : ∀ (n : Nat), n ≤ 3 → ∀ i : Int, 0 ≤ i → i < 36 → trM M b y n (b + 1) i = if i % 6 = y ∧ (i / 6 < n ∨ 5 - n < i / 6) then M (b + 1) (30 + 2 * y - i) else M (b + 1) i
  | 0, _, i, h0, h1 => by
    rw [if_neg (by omega)]
    rfl
  | n + 1, hn, i, h0, h1 => by
    show putM (putM (trM M b y n) b _ _) b _ _ (b + 1) i = _
    have e := trM_cel M b hy n (by omega)
    rw [put_cel, put_cel]
    unfold fup
    by_cases c1 : i = 6 * (5 - (n : Int)) + y
    · rw [if_pos c1, e _ (by omega) (by omega), if_neg (by omega), if_pos (by omega)]
      congr 1
      omega
    · rw [if_neg c1]
      by_cases c2 : i = 6 * (n : Int) + y
      · rw [if_pos c2, e _ (by omega) (by omega), if_neg (by omega), if_pos (by omega)]
        congr 1
        omega
      · rw [if_neg c2, e i h0 h1]
        by_cases c3 : i % 6 = y ∧ (i / 6 < n ∨ 5 - n < i / 6)
        · rw [if_pos c3, if_pos (by omega)]
        · rw [if_neg c3, if_neg (by omega)]
theorem R_turnRow (d : Nat) (M : mMem) (b : Nat) (hb : b = 1 ∨ b = 9) (y : Int) (hy : 0 ≤ y ∧ y < 6) (h : Cht M b) : mR3 (d + 3) 19 [vr b, vi y] (S0, M) (none, (S0, trM M b y 3)) := by
  refine ⟨⟨by decide, Nat.le_of_ble_eq_true rfl⟩, fun K hK => q_C_turnRow_0 hK b y M hb ?_⟩
  have loop : ∀ (j k : Nat), k + j = 3 → K 2 [(0, vr b), (1, vi y), (2, vi (k : Int))] [] (S0, trM M b y k) := by
    intro j
    induction j with
    | zero =>
      intro k hk
      refine q_C_turnRow_2 hK b _ _ _ hb (br_t (by omega) (mret_n ?_))
      rw [show k = 3 by omega]
    | succ j ih =>
      intro k hk
      have h1 := ih (k + 1) (by omega)
      have e4 : w32 ((k : Int) + 1) = ((k + 1 : Nat) : Int) := by rw [w32_s (by omega) (by omega)]; omega
      have hm := trM_cht h hy k (by omega)
      have e5 : trM M b y (k + 1) = putM (putM (trM M b y k) b (6 * k + y) (trM M b y k (b + 1) (6 * (5 - k) + y))) b (6 * (5 - k) + y) (trM M b y k (b + 1) (6 * k + y)) := rfl
      rw [e5] at h1
      generalize trM M b y k = m at h1 hm ⊢
      have e6 : w32 (w32 ((k : Int) * 6) + y) = 6 * k + y := by rw [w32_s (z := (k : Int) * 6) (by omega) (by omega), w32_s (by omega) (by omega)]; omega
      have e7 : w32 (w32 (w32 (5 - (k : Int)) * 6) + y) = 6 * (5 - k) + y := by rw [w32_s (z := 5 - (k : Int)) (by omega) (by omega), w32_s (z := (5 - (k : Int)) * 6) (by omega) (by omega), w32_s (by omega) (by omega)]; omega
      refine q_C_turnRow_2 hK b _ _ _ hb (br_f (by omega) ?_)
      rw [e4, e6, e7]
      refine mIn_i (by omega) (by omega) (mIn_i (by omega) (by omega) ⟨_, R_put d m b hb _ _ (by omega) (hm.1.1 _ (by omega) (by omega)) hm.1.1, ⟨_, R_put d _ b hb _ _ (by omega) (hm.1.1 _ (by omega) (by omega)) ?_, h1⟩⟩)
      rw [put_cel]
      exact celOK_up hm.1.1 (hm.1.1 _ (by omega) (by omega))
  exact loop 3 0 (by omega)
def alM (M : mMem) (b : Nat) (kd a c w : Int) : mMem := mupd (mupd (mupd (mupd (mupd M (b + 3) (4 * M b 5) kd) (b + 3) (4 * M b 5 + 1) a) (b + 3) (4 * M b 5 + 2) c) (b + 3) (4 * M b 5 + 3) w) b 5 (M b 5 + 1)
theorem alM_ne (M : mMem) (b : Nat) (kd a c w : Int) {k : Nat} (h : k ≠ b) (h3 : k ≠ b + 3) : alM M b kd a c w k = M k := by
  unfold alM
  rw [mupd_ne _ _ _ h, mupd_ne _ _ _ h3, mupd_ne _ _ _ h3, mupd_ne _ _ _ h3, mupd_ne _ _ _ h3]
theorem alM_0 (M : mMem) (b : Nat) (kd a c w : Int) : alM M b kd a c w b = fup (M b) 5 (M b 5 + 1) := by
  unfold alM
  rw [mupd_at, mupd_ne _ _ _ (by omega), mupd_ne _ _ _ (by omega), mupd_ne _ _ _ (by omega), mupd_ne _ _ _ (by omega)]
theorem alM_3 (M : mMem) (b : Nat) (kd a c w : Int) : alM M b kd a c w (b + 3) = fup (fup (fup (fup (M (b + 3)) (4 * M b 5) kd) (4 * M b 5 + 1) a) (4 * M b 5 + 2) c) (4 * M b 5 + 3) w := by
  unfold alM
  rw [mupd_ne _ _ _ (by omega), mupd_at, mupd_at, mupd_at, mupd_at]
theorem fup_ne (f : Int → Int) {t i : Int} (v : Int) (h : i ≠ t) : fup f t v i = f i := if_neg h
theorem fup_at (f : Int → Int) (t v : Int) : fup f t v t = v := if_pos rfl
theorem R_addLaw (d : Nat) (M : mMem) (b : Nat) (hb : b = 1 ∨ b = 9) (kd a c w : Int) (h : 0 ≤ M b 5 ∧ M b 5 < 5) : mR3 (d + 1) 9 [vr b, vi kd, vi a, vi c, vi w] (S0, M) (none, (S0, alM M b kd a c w)) := by
  refine ⟨⟨by decide, Nat.le_of_ble_eq_true rfl⟩, fun K hK => q_C_addLaw_0 hK b kd a c w M hb ?_⟩
  have e0 : w32 (M b 5 * 4) = 4 * M b 5 := by rw [w32_s (by omega) (by omega)]; omega
  have e1 : w32 (4 * M b 5 + 1) = 4 * M b 5 + 1 := w32_s (by omega) (by omega)
  have e2 : w32 (4 * M b 5 + 2) = 4 * M b 5 + 2 := w32_s (by omega) (by omega)
  have e3 : w32 (4 * M b 5 + 3) = 4 * M b 5 + 3 := w32_s (by omega) (by omega)
  rw [e0, e1, e2, e3]
  refine mIn_i (by omega) (by omega) (mIn_i (by omega) (by omega) (mIn_i (by omega) (by omega) (mIn_i (by omega) (by omega) (mret_n ?_))))
  rw [mupd_ne _ _ _ (show b ≠ b + 3 by omega), mupd_ne _ _ _ (show b ≠ b + 3 by omega), mupd_ne _ _ _ (show b ≠ b + 3 by omega), mupd_ne _ _ _ (show b ≠ b + 3 by omega), w32_s (z := M b 5 + 1) (by omega) (by omega)]
  rfl
theorem alM_cht {M : mMem} {b : Nat} {kd a c w : Int} (h : Cht M b) (h5 : M b 5 < 5) (hk : 0 ≤ kd ∧ kd ≤ 3) (ha : 1 ≤ a ∧ a ≤ 3) (hc : 1 ≤ c ∧ c ≤ 3) (hw : 1 ≤ w ∧ w ≤ 9) : Cht (alM M b kd a c w) b := by
  obtain ⟨t0, l0, l1, p0, p1, sp⟩ := h
  unfold Cht
  rw [alM_ne M b kd a c w (k := b + 2) (by omega) (by omega), alM_ne M b kd a c w (k := b + 4) (by omega) (by omega), alM_ne M b kd a c w (k := b + 5) (by omega) (by omega), alM_0, alM_3, fup_at, fup_ne _ _ (show (6 : Int) ≠ 5 by decide)]
  refine ⟨?_, by omega, ?_, p0, p1, sp⟩
  · refine Tal_of t0 (fun i _ _ => ?_) (fun i _ _ => ?_) (fun i _ _ => ?_)
    · rw [alM_ne M b kd a c w (by omega) (by omega)]
    · rw [alM_ne M b kd a c w (by omega) (by omega)]
    · rw [alM_ne M b kd a c w (by omega) (by omega)]
  · intro l q0 q1
    generalize M b 5 = n at *
    by_cases e : l = n
    · rw [e, fup_at, fup_ne _ _ (show 4 * n + 2 ≠ 4 * n + 3 by omega), fup_at, fup_ne _ _ (show 4 * n + 1 ≠ 4 * n + 3 by omega), fup_ne _ _ (show 4 * n + 1 ≠ 4 * n + 2 by omega), fup_at, fup_ne _ _ (show 4 * n ≠ 4 * n + 3 by omega), fup_ne _ _ (show 4 * n ≠ 4 * n + 2 by omega), fup_ne _ _ (show 4 * n ≠ 4 * n + 1 by omega), fup_at]
      exact ⟨hk, ha, hc, hw⟩
    · have g : ∀ x : Int, 0 ≤ x → x ≤ 3 → fup (fup (fup (fup (M (b + 3)) (4 * n) kd) (4 * n + 1) a) (4 * n + 2) c) (4 * n + 3) w (4 * l + x) = M (b + 3) (4 * l + x) := by
        intro x x0 x1
        rw [fup_ne _ _ (by omega), fup_ne _ _ (by omega), fup_ne _ _ (by omega), fup_ne _ _ (by omega)]
      have g0 := g 0 (by omega) (by omega)
      rw [Int.add_zero] at g0
      rw [g0, g 1 (by omega) (by omega), g 2 (by omega) (by omega), g 3 (by omega) (by omega)]
      exact l1 l q0 (by omega)
def takeM (M : mMem) (b : Nat) (t c : Int) : mMem := mupd (putM M b t c) (b + 2) c (w32 (M (b + 2) c - 1))
theorem takeM_ne (M : mMem) (b : Nat) (t c : Int) {k : Nat} (h1 : k ≠ b + 1) (h2 : k ≠ b + 2) (h6 : k ≠ b + 6) (h7 : k ≠ b + 7) : takeM M b t c k = M k := by
  unfold takeM
  rw [mupd_ne _ _ _ h2, put_ne _ _ _ _ h1 h6 h7]
theorem takeM_1 (M : mMem) (b : Nat) (t c : Int) : takeM M b t c (b + 1) = fup (M (b + 1)) t c := by
  unfold takeM
  rw [mupd_ne _ _ _ (by omega), put_cel]
theorem takeM_2 (M : mMem) (b : Nat) (t c : Int) : takeM M b t c (b + 2) = fup (M (b + 2)) c (w32 (M (b + 2) c - 1)) := by
  unfold takeM
  rw [mupd_at, put_ne _ _ _ _ (by omega) (by omega) (by omega)]
theorem takeM_cht {M : mMem} {b : Nat} {t c : Int} (h : Cht M b) (ht : 0 ≤ t ∧ t < 36) (hc : 1 ≤ c ∧ c ≤ 3) (hs : 0 < M (b + 2) c) : Cht (takeM M b t c) b := by
  have h' := put_cht h ht (show 0 ≤ c ∧ c ≤ 4 by omega)
  have sp := h.2.2.2.2.2
  obtain ⟨t0, l0, l1, p0, p1, _⟩ := h'
  have e2 : takeM M b t c (b + 2) = fup (M (b + 2)) c (w32 (M (b + 2) c - 1)) := takeM_2 M b t c
  have e : ∀ k, k ≠ b + 2 → takeM M b t c k = putM M b t c k := fun k hk => mupd_ne _ _ _ hk
  unfold Cht
  rw [e2, e b (by omega), e (b + 3) (by omega), e (b + 4) (by omega), e (b + 5) (by omega)]
  refine ⟨Tal_of t0 (fun i _ _ => by rw [e _ (by omega)]) (fun i _ _ => by rw [e _ (by omega)]) (fun i _ _ => by rw [e _ (by omega)]), l0, l1, p0, p1, fun c' q0 q1 => ?_⟩
  have h1 := sp c hc.1 hc.2
  unfold fup
  split
  · rw [w32_s (by omega) (by omega)]
    omega
  · exact sp c' q0 q1
def tpM (M : mMem) (b : Nat) (i : Int) : mMem := if M (b + 1) (M (b + 4) i) = 0 ∧ 0 < M (b + 2) (M (b + 5) i) then mupd (takeM M b (M (b + 4) i) (M (b + 5) i)) b 7 (w32 (M b 7 + 1)) else if M b 8 = -4 then mupd M b 8 i else M
theorem R_takePlanned (d : Nat) (M : mMem) (b : Nat) (hb : b = 1 ∨ b = 9) (i : Int) (h : Cht M b) (hi : 0 ≤ i ∧ i < M b 6) : mR3 (d + 4) 8 [vr b, vi i] (S0, M) (none, (S0, tpM M b i)) := by
  obtain ⟨t0, l0, l1, p0, p1, sp⟩ := h
  obtain ⟨q0, q1⟩ := p1 i hi.1 hi.2
  refine ⟨⟨by decide, Nat.le_of_ble_eq_true rfl⟩, fun K hK => q_C_takePlanned_0 hK b i M hb (mIn_i (by omega) (by omega) (mIn_i (by omega) (by omega) ⟨_, _, R_canTake (d + 2) M b hb _ _ q0 q1, ?_⟩))⟩
  by_cases c : M (b + 1) (M (b + 4) i) = 0 ∧ 0 < M (b + 2) (M (b + 5) i)
  · refine br_f (fun z => b2_0.mp z c) (mIn_i (by omega) (by omega) (mIn_i (by omega) (by omega) ⟨_, R_take d M b hb _ _ q0 q1 t0.1, mret_n ?_⟩))
    have e1 : tpM M b i = _ := if_pos c
    have e2 := takeM_ne M b (M (b + 4) i) (M (b + 5) i) (k := b) (by omega) (by omega) (by omega) (by omega)
    rw [e1, ← e2]
    rfl
  · refine br_t (b2_f c) ?_
    have e1 : tpM M b i = _ := if_neg c
    by_cases c2 : M b 8 = -4
    · refine br_f (fun z => z c2) (mret_n ?_)
      rw [e1, if_pos c2]
    · refine br_t c2 (mret_n ?_)
      rw [e1, if_neg c2]
end
section
/-! PURE PROOFS 10: the other's pages -/
def pg (M : mMem) (p : Int) : Int → Int := fun i => M 54 (p + i)
def pgL (M : mMem) (p : Int) : Int → Int := fun j => M 54 (p + 40 + 5 * (j % 4) + j / 4)
theorem pgL_at (M : mMem) (p l x : Int) (h0 : 0 ≤ x) (h1 : x < 4) : pgL M p (4 * l + x) = M 54 (p + 40 + 5 * x + l) := by
  show M 54 (p + 40 + 5 * ((4 * l + x) % 4) + (4 * l + x) / 4) = _
  congr 1
  omega
theorem pgL_0 (M : mMem) (p l : Int) : pgL M p (4 * l) = M 54 (p + 40 + l) := by
  show M 54 (p + 40 + 5 * ((4 * l) % 4) + (4 * l) / 4) = _
  congr 1
  omega
theorem sm_rng {g : Nat → Int} (h : ∀ k, 0 ≤ g k ∧ g k ≤ 1) : ∀ n : Nat, 0 ≤ sm g n ∧ sm g n ≤ n
  | 0 => by
    have h : sm g 0 = 0 := rfl
    omega
  | n + 1 => by
    have h1 := sm_rng h n
    have h2 := h n
    have h4 : sm g (n + 1) = sm g n + g n := rfl
    omega
section
variable (d : Nat) (M : mMem)
theorem R_mIsColour (c : Int) : mR3 (d + 2) 130 [vi c] (S0, M) (some (vi (b2 (1 ≤ c ∧ c ≤ 3))), (S0, M)) := by
  refine ⟨⟨by decide, Nat.le_of_ble_eq_true rfl⟩, fun K hK => q_M_isColour_0 hK c M ⟨_, _, R_in d M _ _ _, mBo_i (b2_01 _) (mret_i (b2_iff ?_) rfl)⟩⟩
  omega
theorem R_mIsLaw (l : Int) (h : 0 ≤ M 54 39 ∧ M 54 39 ≤ 5) : mR3 (d + 2) 128 [vr 53, vi l] (S0, M) (some (vi (b2 (0 ≤ l ∧ l < M 54 39))), (S0, M)) := by
  refine ⟨⟨by decide, Nat.le_of_ble_eq_true rfl⟩, fun K hK => q_M_isLaw_0 hK l M ⟨_, _, R_in d M _ _ _, mBo_i (b2_01 _) (mret_i (b2_iff ?_) rfl)⟩⟩
  rw [w32_s (by omega) (by omega)]
  omega
theorem R_mIsCell (x y : Int) : mR3 (d + 2) 129 [vi x, vi y] (S0, M) (some (vi (b2 (0 ≤ x ∧ x < 6 ∧ 0 ≤ y ∧ y < 6))), (S0, M)) := by
  refine ⟨⟨by decide, Nat.le_of_ble_eq_true rfl⟩, fun K hK => q_M_isCell_0 hK x y M ⟨_, _, R_in d M _ _ _, ⟨fun h => ?_, fun h => ⟨_, _, R_in d M _ _ _, ⟨fun h2 => ?_, fun h2 => ?_⟩⟩⟩⟩⟩
  · have h := b2_0.mp h
    exact mret_i (b2_f (by omega)).symm rfl
  · have h := b2_n0.mp h
    have h2 := b2_0.mp h2
    exact mret_i (b2_f (by omega)).symm rfl
  · have h := b2_n0.mp h
    have h2 := b2_n0.mp h2
    exact mret_i (b2_t (by omega)).symm rfl
theorem R_besideOn (p a c : Int) (hp : 0 ≤ p ∧ p ≤ 425) : mR3 (d + 1) 131 [vr 53, vi p, vi a, vi c] (S0, M) (some (vi (cB (pg M p) a c)), (S0, M)) := by
  refine ⟨⟨by decide, Nat.le_of_ble_eq_true rfl⟩, fun K hK => q_M_besideOn_0 hK p a c M ?_⟩
  have loop : ∀ (j k : Nat), k + j = 30 → K 6 [(0, vr 53), (1, vi p), (2, vi a), (3, vi c), (4, vi (sm (fun k => b2 (pg M p (k : Nat) = a ∧ pg M p ((k : Nat) + 6) = c)) k)), (5, vi (k : Int))] [] (S0, M) := by
    intro j
    induction j with
    | zero =>
      intro k hk
      refine q_M_besideOn_6 hK p a c _ _ M (br_t (by omega) (mret_i ?_ rfl))
      rw [show k = 30 by omega]
      rfl
    | succ j ih =>
      intro k hk
      have h1 := ih (k + 1) (by omega)
      have e4 : w32 ((k : Int) + 1) = ((k + 1 : Nat) : Int) := by rw [w32_s (by omega) (by omega)]; omega
      have e1 : w32 (p + (k : Int)) = p + (k : Int) := w32_s (by omega) (by omega)
      have e2 : w32 (p + (k : Int) + 6) = p + ((k : Int) + 6) := by rw [w32_s (by omega) (by omega)]; omega
      have r0 := sm_rng (g := fun k : Nat => b2 (pg M p (k : Nat) = a ∧ pg M p ((k : Nat) + 6) = c)) (fun k => b2_le _) k
      have e5 : sm (fun k : Nat => b2 (pg M p (k : Nat) = a ∧ pg M p ((k : Nat) + 6) = c)) (k + 1) = sm (fun k : Nat => b2 (pg M p (k : Nat) = a ∧ pg M p ((k : Nat) + 6) = c)) k + b2 (pg M p (k : Nat) = a ∧ pg M p ((k : Nat) + 6) = c) := rfl
      rw [e5] at h1
      generalize sm (fun k : Nat => b2 (pg M p (k : Nat) = a ∧ pg M p ((k : Nat) + 6) = c)) k = s at h1 r0 ⊢
      refine q_M_besideOn_6 hK p a c _ _ M (br_f (by omega) ?_)
      rw [e4, e1, e2, w32_s (z := s + 0) (by omega) (by omega), w32_s (z := s + 1) (by omega) (by omega)]
      refine mIn_i (by omega) (by omega) ⟨fun q => ?_, fun q => mIn_i (by omega) (by omega) ⟨fun q2 => ?_, fun q2 => ?_⟩⟩
      · rw [b2_f (fun z => q z.1)] at h1
        exact h1
      · rw [b2_f (fun z => q2 z.2)] at h1
        exact h1
      · rw [b2_t ⟨Decidable.not_not.mp q, Decidable.not_not.mp q2⟩] at h1
        exact h1
  exact loop 30 0 (by omega)
theorem R_aboveOn (p a c : Int) (hp : 0 ≤ p ∧ p ≤ 425) : mR3 (d + 1) 132 [vr 53, vi p, vi a, vi c] (S0, M) (some (vi (cA (pg M p) a c)), (S0, M)) := by
  refine ⟨⟨by decide, Nat.le_of_ble_eq_true rfl⟩, fun K hK => q_M_aboveOn_0 hK p a c M ?_⟩
  have loop : ∀ (j k : Nat), k + j = 36 → K 6 [(0, vr 53), (1, vi p), (2, vi a), (3, vi c), (4, vi (sm (fun k => b2 ((k : Int) % 6 < 5 ∧ pg M p (k : Nat) = a ∧ pg M p ((k : Nat) + 1) = c)) k)), (5, vi (k : Int))] [] (S0, M) := by
    intro j
    induction j with
    | zero =>
      intro k hk
      refine q_M_aboveOn_6 hK p a c _ _ M (br_t (by omega) (mret_i ?_ rfl))
      rw [show k = 36 by omega]
      rfl
    | succ j ih =>
      intro k hk
      have h1 := ih (k + 1) (by omega)
      have e4 : w32 ((k : Int) + 1) = ((k + 1 : Nat) : Int) := by rw [w32_s (by omega) (by omega)]; omega
      have e1 : w32 (p + (k : Int)) = p + (k : Int) := w32_s (by omega) (by omega)
      have e2 : w32 (p + (k : Int) + 1) = p + ((k : Int) + 1) := by rw [w32_s (by omega) (by omega)]; omega
      have e3 : jrem (k : Int) 6 = (k : Int) % 6 := jrem_nn (by omega)
      have r0 := sm_rng (g := fun k : Nat => b2 ((k : Int) % 6 < 5 ∧ pg M p (k : Nat) = a ∧ pg M p ((k : Nat) + 1) = c)) (fun k => b2_le _) k
      have e5 : sm (fun k : Nat => b2 ((k : Int) % 6 < 5 ∧ pg M p (k : Nat) = a ∧ pg M p ((k : Nat) + 1) = c)) (k + 1) = sm (fun k : Nat => b2 ((k : Int) % 6 < 5 ∧ pg M p (k : Nat) = a ∧ pg M p ((k : Nat) + 1) = c)) k + b2 ((k : Int) % 6 < 5 ∧ pg M p (k : Nat) = a ∧ pg M p ((k : Nat) + 1) = c) := rfl
      rw [e5] at h1
      generalize sm (fun k : Nat => b2 ((k : Int) % 6 < 5 ∧ pg M p (k : Nat) = a ∧ pg M p ((k : Nat) + 1) = c)) k = s at h1 r0 ⊢
      refine q_M_aboveOn_6 hK p a c _ _ M (br_f (by omega) ?_)
      rw [e4, e1, e2, e3, w32_s (z := s + 0) (by omega) (by omega), w32_s (z := s + 1) (by omega) (by omega)]
      refine ⟨fun q0 => ?_, fun q0 => mIn_i (by omega) (by omega) ⟨fun q => ?_, fun q => mIn_i (by omega) (by omega) ⟨fun q2 => ?_, fun q2 => ?_⟩⟩⟩
      · rw [b2_f (fun z => absurd z.1 (by omega))] at h1
        exact h1
      · rw [b2_f (fun z => q z.2.1)] at h1
        exact h1
      · rw [b2_f (fun z => q2 z.2.2)] at h1
        exact h1
      · rw [b2_t ⟨by omega, Decidable.not_not.mp q, Decidable.not_not.mp q2⟩] at h1
        exact h1
  exact loop 36 0 (by omega)
theorem R_holesOn (p : Int) (hp : 0 ≤ p ∧ p ≤ 425) : mR3 (d + 1) 136 [vr 53, vi p] (S0, M) (some (vi (cO (pg M p) 4 36)), (S0, M)) := by
  refine ⟨⟨by decide, Nat.le_of_ble_eq_true rfl⟩, fun K hK => q_M_holesOn_0 hK p M ?_⟩
  have loop : ∀ (j k : Nat), k + j = 36 → K 4 [(0, vr 53), (1, vi p), (2, vi (cO (pg M p) 4 k)), (3, vi (k : Int))] [] (S0, M) := by
    intro j
    induction j with
    | zero =>
      intro k hk
      refine q_M_holesOn_4 hK p _ _ M (br_t (by omega) (mret_i ?_ rfl))
      rw [show k = 36 by omega]
    | succ j ih =>
      intro k hk
      have h1 := ih (k + 1) (by omega)
      have e4 : w32 ((k : Int) + 1) = ((k + 1 : Nat) : Int) := by rw [w32_s (by omega) (by omega)]; omega
      have e1 : w32 (p + (k : Int)) = p + (k : Int) := w32_s (by omega) (by omega)
      have r0 := cO_rng (pg M p) 4 k
      have e5 : cO (pg M p) 4 (k + 1) = cO (pg M p) 4 k + b2 (pg M p (k : Nat) = 4) := rfl
      rw [e5] at h1
      generalize cO (pg M p) 4 k = s at h1 r0 ⊢
      refine q_M_holesOn_4 hK p _ _ M (br_f (by omega) ?_)
      rw [e4, e1, w32_s (z := s + 0) (by omega) (by omega), w32_s (z := s + 1) (by omega) (by omega)]
      refine mIn_i (by omega) (by omega) ⟨fun q => ?_, fun q => ?_⟩
      · rw [b2_f (c := pg M p (k : Nat) = 4) q] at h1
        exact h1
      · rw [b2_t (c := pg M p (k : Nat) = 4) (Decidable.not_not.mp q)] at h1
        exact h1
  exact loop 36 0 (by omega)
theorem R_copies (s t : Int) (hs : 0 ≤ s ∧ s ≤ 425) (ht : 0 ≤ t ∧ t ≤ 425) (hd : s + 85 ≤ t ∨ t + 85 ≤ s) : mR3 (d + 1) 154 [vr 53, vi s, vi t] (S0, M) (none, (S0, mcpy M 54 s 54 t 85)) := by
  refine ⟨⟨by decide, Nat.le_of_ble_eq_true rfl⟩, fun K hK => q_M_copies_0 hK s t M ?_⟩
  have step : ∀ k : Nat, k < 85 → mupd (mcpy M 54 s 54 t k) 54 (t + k) (mcpy M 54 s 54 t k 54 (s + k)) = mcpy M 54 s 54 t ((k + 1 : Nat) : Int) := by
    intro k hk
    funext k' i
    unfold mupd mcpy
    rw [if_neg (show ¬ ((54 : Nat) = 54 ∧ t ≤ s + (k : Int) ∧ s + (k : Int) < t + k) by omega)]
    by_cases h1 : k' = 54
    · by_cases h2 : i = t + k
      · rw [if_pos ⟨h1, h2⟩, if_pos ⟨h1, by omega, by omega⟩]
        congr 1
        omega
      · rw [if_neg (fun q => h2 q.2)]
        by_cases h3 : t ≤ i ∧ i < t + k
        · rw [if_pos ⟨h1, h3⟩, if_pos ⟨h1, by omega, by omega⟩]
        · rw [if_neg (fun q => h3 q.2), if_neg (fun q => h3 ⟨q.2.1, by omega⟩)]
    · rw [if_neg (fun q => h1 q.1), if_neg (fun q => h1 q.1), if_neg (fun q => h1 q.1)]
  have m0 : mcpy M 54 s 54 t ((0 : Nat) : Int) = M := by
    funext k' i
    unfold mcpy
    rw [if_neg (by omega)]
  have loop : ∀ (j k : Nat), k + j = 85 → K 2 [(0, vr 53), (1, vi s), (2, vi t), (3, vi (k : Int))] [] (S0, mcpy M 54 s 54 t (k : Int)) := by
    intro j
    induction j with
    | zero =>
      intro k hk
      refine q_M_copies_2 hK s t _ _ (br_t (by omega) (mret_n ?_))
      rw [show k = 85 by omega]
      rfl
    | succ j ih =>
      intro k hk
      have h1 := ih (k + 1) (by omega)
      rw [← step k (by omega)] at h1
      have e4 : w32 ((k : Int) + 1) = ((k + 1 : Nat) : Int) := by rw [w32_s (by omega) (by omega)]; omega
      have e1 : w32 (s + (k : Int)) = s + (k : Int) := w32_s (by omega) (by omega)
      have e2 : w32 (t + (k : Int)) = t + (k : Int) := w32_s (by omega) (by omega)
      refine q_M_copies_2 hK s t _ _ (br_f (by omega) ?_)
      rw [e4, e1, e2]
      exact mIn_i (by omega) (by omega) (mIn_i (by omega) (by omega) h1)
  have h1 := loop 85 0 (by omega)
  rw [m0] at h1
  exact h1
end
end
section
/-! PURE PROOFS 11: what the other's pages read -/
theorem rA_ar {kd bk s u v w : Int} (hk : 0 ≤ kd ∧ kd ≤ 3) (hbk : bk = 0 ∨ bk = 1) (hs : s = 0 ↔ ((kd = 1 ∧ bk = 1) ∨ (kd ≠ 1 ∧ bk = 0))) : (if kd = 2 then 0 else if s = 0 then u else v) + (if kd ≤ 1 then 0 else w) = (if bk = 0 then rA kd u v w else rA kd v u w) := by
  unfold rA
  repeat' split
  all_goals omega
theorem R_readsOn (d : Nat) (M : mMem) (p l bk n : Int) (hp : 0 ≤ p ∧ p ≤ 425) (hL : lawOK (pgL M p) n) (hl : 0 ≤ l ∧ l < n) (hn : n ≤ 5) (hbk : bk = 0 ∨ bk = 1) : mR3 (d + 2) 133 [vr 53, vi p, vi l, vi bk] (S0, M) (some (vi (if bk = 0 then rdL (pgL M p) (pg M p) l else rdB (pgL M p) (pg M p) l)), (S0, M)) := by
  refine ⟨⟨by decide, Nat.le_of_ble_eq_true rfl⟩, fun K hK => q_M_readsOn_0 hK p l bk M ?_⟩
  obtain ⟨k0, k1, k2, _⟩ := hL l hl.1 hl.2
  have g0 := pgL_0 M p l
  have g1 := pgL_at M p l 1 (by omega) (by omega)
  have g2 := pgL_at M p l 2 (by omega) (by omega)
  have e0 : w32 (w32 (p + 40) + l) = p + 40 + l := by rw [w32_s (z := p + 40) (by omega) (by omega), w32_s (by omega) (by omega)]
  have e1 : w32 (w32 (p + 45) + l) = p + 40 + 5 * 1 + l := by rw [w32_s (z := p + 45) (by omega) (by omega), w32_s (by omega) (by omega)]; omega
  have e2 : w32 (w32 (p + 50) + l) = p + 40 + 5 * 2 + l := by rw [w32_s (z := p + 50) (by omega) (by omega), w32_s (by omega) (by omega)]; omega
  rw [e0, e1, e2, ← g0, ← g1, ← g2]
  have hR : (if bk = 0 then rdL (pgL M p) (pg M p) l else rdB (pgL M p) (pg M p) l) = if bk = 0 then rA (pgL M p (4 * l)) (cB (pg M p) (pgL M p (4 * l + 1)) (pgL M p (4 * l + 2))) (cB (pg M p) (pgL M p (4 * l + 2)) (pgL M p (4 * l + 1))) (cA (pg M p) (pgL M p (4 * l + 1)) (pgL M p (4 * l + 2))) else rA (pgL M p (4 * l)) (cB (pg M p) (pgL M p (4 * l + 2)) (pgL M p (4 * l + 1))) (cB (pg M p) (pgL M p (4 * l + 1)) (pgL M p (4 * l + 2))) (cA (pg M p) (pgL M p (4 * l + 1)) (pgL M p (4 * l + 2))) := rfl
  rw [hR] at hK
  generalize pgL M p (4 * l) = kd at *
  generalize pgL M p (4 * l + 1) = a at *
  generalize pgL M p (4 * l + 2) = c at *
  have r1 := cB_rng (pg M p) a c
  have r2 := cB_rng (pg M p) c a
  have r3 := cA_rng (pg M p) a c
  have s97 : ∀ s : Int, 0 ≤ s → s ≤ 30 → s + (if kd ≤ 1 then 0 else cA (pg M p) a c) = (if bk = 0 then rA kd (cB (pg M p) a c) (cB (pg M p) c a) (cA (pg M p) a c) else rA kd (cB (pg M p) c a) (cB (pg M p) a c) (cA (pg M p) a c)) → K 97 [(0, vr 53), (1, vi p), (4, vi kd), (5, vi a), (6, vi c)] [vi s] (S0, M) := by
    intro s h0 h1 hr
    refine q_M_readsOn_97 hK p kd a c s M ⟨fun q => ?_, fun q => ⟨_, _, R_aboveOn d M p a c hp, ?_⟩⟩
    · rw [if_pos q] at hr
      rw [w32_s (by omega) (by omega)]
      exact mret_i hr rfl
    · rw [if_neg q] at hr
      rw [w32_s (by omega) (by omega)]
      exact mret_i hr rfl
  have s59 : ∀ s : Int, (if kd = 2 then 0 else if s = 0 then cB (pg M p) a c else cB (pg M p) c a) + (if kd ≤ 1 then 0 else cA (pg M p) a c) = (if bk = 0 then rA kd (cB (pg M p) a c) (cB (pg M p) c a) (cA (pg M p) a c) else rA kd (cB (pg M p) c a) (cB (pg M p) a c) (cA (pg M p) a c)) → K 59 [(0, vr 53), (1, vi p), (4, vi kd), (5, vi a), (6, vi c)] [vi s] (S0, M) := by
    intro s hr
    refine q_M_readsOn_59 hK p kd a c s M ⟨fun q => ⟨fun q2 => ⟨_, _, R_besideOn d M p a c hp, s97 _ r1.1 r1.2 ?_⟩, fun q2 => ⟨_, _, R_besideOn d M p c a hp, s97 _ r2.1 r2.2 ?_⟩⟩, fun q => s97 0 (by omega) (by omega) ?_⟩
    · rw [if_neg q, if_pos q2] at hr
      exact hr
    · rw [if_neg q, if_neg q2] at hr
      exact hr
    · rw [if_pos (Decidable.not_not.mp q)] at hr
      exact hr
  have ar : ∀ s : Int, (s = 0 ↔ ((kd = 1 ∧ bk = 1) ∨ (kd ≠ 1 ∧ bk = 0))) → (if kd = 2 then 0 else if s = 0 then cB (pg M p) a c else cB (pg M p) c a) + (if kd ≤ 1 then 0 else cA (pg M p) a c) = (if bk = 0 then rA kd (cB (pg M p) a c) (cB (pg M p) c a) (cA (pg M p) a c) else rA kd (cB (pg M p) c a) (cB (pg M p) a c) (cA (pg M p) a c)) := by
    intro s hs
    exact rA_ar k0 hbk hs
  refine mIn_i (by omega) (by omega) (mIn_i (by omega) (by omega) (mIn_i (by omega) (by omega) ⟨fun q => ⟨fun q2 => s59 0 (ar 0 ?_), fun q2 => s59 1 (ar 1 ?_)⟩, fun q => ⟨fun q2 => s59 0 (ar 0 ?_), fun q2 => s59 1 (ar 1 ?_)⟩⟩))
  · omega
  · omega
  · omega
  · omega
theorem R_worthOn (d : Nat) (M : mMem) (p : Int) (n : Nat) (hp : 0 ≤ p ∧ p ≤ 425) (hn : M 54 (p + 39) = n) (h5 : n ≤ 5) (hL : lawOK (pgL M p) n) : mR3 (d + 3) 134 [vr 53, vi p] (S0, M) (some (vi (woS (pgL M p) (pg M p) n)), (S0, M)) := by
  refine ⟨⟨by decide, Nat.le_of_ble_eq_true rfl⟩, fun K hK => q_M_worthOn_0 hK p M ?_⟩
  have e9 : w32 (p + 39) = p + 39 := w32_s (by omega) (by omega)
  have loop : ∀ (j k : Nat), k + j = n → K 4 [(0, vr 53), (1, vi p), (2, vi (woS (pgL M p) (pg M p) k)), (3, vi (k : Int))] [] (S0, M) := by
    intro j
    induction j with
    | zero =>
      intro k hk
      refine q_M_worthOn_4 hK p _ _ M ?_
      rw [e9, hn]
      refine mIn_i (by omega) (by omega) (br_t (by omega) (mret_i ?_ rfl))
      rw [show k = n by omega]
    | succ j ih =>
      intro k hk
      refine q_M_worthOn_4 hK p _ _ M ?_
      have e0 : w32 (w32 (p + 55) + (k : Int)) = p + 40 + 5 * 3 + k := by rw [w32_s (z := p + 55) (by omega) (by omega), w32_s (by omega) (by omega)]; omega
      have g3 := pgL_at M p k 3 (by omega) (by omega)
      have e4 : w32 ((k : Int) + 1) = ((k + 1 : Nat) : Int) := by rw [w32_s (by omega) (by omega)]; omega
      rw [e9, hn, e0, ← g3, e4]
      refine mIn_i (by omega) (by omega) (br_f (by omega) (mIn_i (by omega) (by omega) ⟨_, _, R_readsOn d M p k 0 n hp hL (by omega) (by omega) (Or.inl rfl), ?_⟩))
      rw [if_pos rfl]
      have h1 := ih (k + 1) (by omega)
      have r0 := woS_rng (L := pgL M p) (f := pg M p) (n := k) (fun l h0 h1 => hL l h0 (by omega))
      have r1 := hL k (by omega) (by omega)
      have r2 := wr_rng r1.2.2.2 (rdL_rng (pgL M p) (pg M p) k)
      have e2 : w32 (pgL M p (4 * (k : Int) + 3) * rdL (pgL M p) (pg M p) k) = pgL M p (4 * (k : Int) + 3) * rdL (pgL M p) (pg M p) k := w32_s (by omega) (by omega)
      have e3 : w32 (woS (pgL M p) (pg M p) k + pgL M p (4 * (k : Int) + 3) * rdL (pgL M p) (pg M p) k) = woS (pgL M p) (pg M p) (k + 1) := by
        rw [w32_s (by omega) (by omega)]
        rfl
      rw [e2, e3]
      exact h1
  exact loop n 0 (by omega)
theorem R_heldOn (d : Nat) (M : mMem) (p : Int) (n : Nat) (hp : 0 ≤ p ∧ p ≤ 425) (hn : M 54 (p + 39) = n) (h5 : n ≤ 5) (hL : lawOK (pgL M p) n) : mR3 (d + 3) 135 [vr 53, vi p] (S0, M) (some (vi (hbF (fun l => rdL (pgL M p) (pg M p) l) n)), (S0, M)) := by
  refine ⟨⟨by decide, Nat.le_of_ble_eq_true rfl⟩, fun K hK => q_M_heldOn_0 hK p M ?_⟩
  have e9 : w32 (p + 39) = p + 39 := w32_s (by omega) (by omega)
  have loop : ∀ (j k : Nat), k + j = n → K 4 [(0, vr 53), (1, vi p), (2, vi (hbF (fun l => rdL (pgL M p) (pg M p) l) k)), (3, vi (k : Int))] [] (S0, M) := by
    intro j
    induction j with
    | zero =>
      intro k hk
      refine q_M_heldOn_4 hK p _ _ M ?_
      rw [e9, hn]
      refine mIn_i (by omega) (by omega) (br_t (by omega) (mret_i ?_ rfl))
      rw [show k = n by omega]
    | succ j ih =>
      intro k hk
      refine q_M_heldOn_4 hK p _ _ M ?_
      have e4 : w32 ((k : Int) + 1) = ((k + 1 : Nat) : Int) := by rw [w32_s (by omega) (by omega)]; omega
      rw [e9, hn, e4]
      have h1 := ih (k + 1) (by omega)
      have e5 : hbF (fun l => rdL (pgL M p) (pg M p) l) (k + 1) = jor (hbF (fun l => rdL (pgL M p) (pg M p) l) k) (if 0 < rdL (pgL M p) (pg M p) k then jshl 1 k else 0) := rfl
      rw [e5] at h1
      refine mIn_i (by omega) (by omega) (br_f (by omega) ⟨_, _, R_readsOn d M p k 0 n hp hL (by omega) (by omega) (Or.inl rfl), ?_⟩)
      rw [if_pos rfl]
      refine ⟨fun q => ?_, fun q => ?_⟩
      · rw [if_neg (by omega)] at h1
        exact h1
      · rw [if_pos (by omega)] at h1
        exact h1
  exact loop n 0 (by omega)
end
section
/-! PURE PROOFS 12: a charter and a page -/
theorem rdL_cong {L L' f f' : Int → Int} {l : Int} (h0 : L (4 * l) = L' (4 * l)) (h1 : L (4 * l + 1) = L' (4 * l + 1)) (h2 : L (4 * l + 2) = L' (4 * l + 2)) (hf : ∀ i, 0 ≤ i → i < 36 → f i = f' i) : rdL L f l = rdL L' f' l := by
  unfold rdL
  rw [h0, h1, h2, cB_cong hf, cB_cong hf, cA_cong hf]
theorem rdB_cong {L L' f f' : Int → Int} {l : Int} (h0 : L (4 * l) = L' (4 * l)) (h1 : L (4 * l + 1) = L' (4 * l + 1)) (h2 : L (4 * l + 2) = L' (4 * l + 2)) (hf : ∀ i, 0 ≤ i → i < 36 → f i = f' i) : rdB L f l = rdB L' f' l := by
  unfold rdB
  rw [h0, h1, h2, cB_cong hf, cB_cong hf, cA_cong hf]
theorem cO_cong {f f' : Int → Int} {s : Int} (h : ∀ i, 0 ≤ i → i < 36 → f i = f' i) : cO f s 36 = cO f' s 36 := by
  unfold cO
  refine sm_cong (fun k hk => ?_)
  rw [h k (by omega) (by omega)]
/-- the charter at b says what the page at p says -/
def Pg (M : mMem) (b : Nat) (p : Int) : Prop := (∀ i : Int, 0 ≤ i → i < 36 → M 54 (p + i) = M (b + 1) i) ∧ (∀ c : Int, 1 ≤ c → c ≤ 3 → M 54 (p + 35 + c) + 20 = M (b + 2) c) ∧ M 54 (p + 39) = M b 5 ∧ (∀ l x : Int, 0 ≤ l → l < M b 5 → 0 ≤ x → x < 4 → M 54 (p + 40 + 5 * x + l) = M (b + 3) (4 * l + x)) ∧ M 54 (p + 60) = M b 6 ∧ (∀ i : Int, 0 ≤ i → i < M b 6 → 6 * M 54 (p + 61 + 3 * i) + M 54 (p + 62 + 3 * i) = M (b + 4) i ∧ (0 ≤ M 54 (p + 62 + 3 * i) ∧ M 54 (p + 62 + 3 * i) < 6) ∧ M 54 (p + 63 + 3 * i) = M (b + 5) i)
theorem Pg_L {M : mMem} {b : Nat} {p : Int} (h : Pg M b p) {l : Int} (h0 : 0 ≤ l) (h1 : l < M b 5) : pgL M p (4 * l) = M (b + 3) (4 * l) ∧ pgL M p (4 * l + 1) = M (b + 3) (4 * l + 1) ∧ pgL M p (4 * l + 2) = M (b + 3) (4 * l + 2) ∧ pgL M p (4 * l + 3) = M (b + 3) (4 * l + 3) := by
  have g := h.2.2.2.1
  have g0 := g l 0 h0 h1 (by omega) (by omega)
  rw [Int.add_zero, Int.mul_zero, Int.add_zero] at g0
  refine ⟨?_, ?_, ?_, ?_⟩
  · rw [pgL_0]
    exact g0
  · rw [pgL_at M p l 1 (by omega) (by omega)]
    exact g l 1 h0 h1 (by omega) (by omega)
  · rw [pgL_at M p l 2 (by omega) (by omega)]
    exact g l 2 h0 h1 (by omega) (by omega)
  · rw [pgL_at M p l 3 (by omega) (by omega)]
    exact g l 3 h0 h1 (by omega) (by omega)
theorem Pg_law {M : mMem} {b : Nat} {p : Int} (h : Pg M b p) (hc : Cht M b) : lawOK (pgL M p) (M b 5) := by
  intro l h0 h1
  obtain ⟨e0, e1, e2, e3⟩ := Pg_L h h0 h1
  rw [e0, e1, e2, e3]
  exact hc.2.2.1 l h0 h1
theorem Pg_rd {M : mMem} {b : Nat} {p : Int} (h : Pg M b p) {l : Int} (h0 : 0 ≤ l) (h1 : l < M b 5) : rdL (pgL M p) (pg M p) l = rdL (M (b + 3)) (M (b + 1)) l := by
  obtain ⟨e0, e1, e2, _⟩ := Pg_L h h0 h1
  exact rdL_cong e0 e1 e2 h.1
theorem Pg_rdB {M : mMem} {b : Nat} {p : Int} (h : Pg M b p) {l : Int} (h0 : 0 ≤ l) (h1 : l < M b 5) : rdB (pgL M p) (pg M p) l = rdB (M (b + 3)) (M (b + 1)) l := by
  obtain ⟨e0, e1, e2, _⟩ := Pg_L h h0 h1
  exact rdB_cong e0 e1 e2 h.1
theorem Pg_wo {M : mMem} {b : Nat} {p : Int} (h : Pg M b p) {n : Nat} (hn : M b 5 = n) : woS (pgL M p) (pg M p) n = woS (M (b + 3)) (M (b + 1)) n := by
  unfold woS
  refine sm_cong (fun k hk => ?_)
  rw [Pg_rd h (by omega) (by omega), (Pg_L h (l := k) (by omega) (by omega)).2.2.2]
theorem Pg_hb {M : mMem} {b : Nat} {p : Int} (h : Pg M b p) {n : Nat} (hn : M b 5 = n) : hbF (fun l => rdL (pgL M p) (pg M p) l) n = hbF (fun l => rdL (M (b + 3)) (M (b + 1)) l) n :=
  hbF_cong (fun k hk => Pg_rd h (by omega) (by omega))
/-- a stitch on a page -/
def stM (M : mMem) (p k c : Int) : mMem := mupd (mupd M 54 (p + k) c) 54 (p + 35 + c) (M 54 (p + 35 + c) - 1)
theorem R_stitchesOn (d : Nat) (M : mMem) (p k c : Int) (hp : 0 ≤ p ∧ p ≤ 425) (hk : 0 ≤ k ∧ k < 36) (hc : 1 ≤ c ∧ c ≤ 3) (hs : -20 ≤ M 54 (p + 35 + c) ∧ M 54 (p + 35 + c) ≤ 79) : mR3 (d + 1) 148 [vr 53, vi p, vi k, vi c] (S0, M) (some (vi (b2 ((M 54 (p + k) = 0 ∧ 0 < M 54 (p + 35 + c) + 20)))), (S0, if (M 54 (p + k) = 0 ∧ 0 < M 54 (p + 35 + c) + 20) then stM M p k c else M)) := by
  refine ⟨⟨by decide, Nat.le_of_ble_eq_true rfl⟩, fun K hK => q_M_stitchesOn_0 hK p k c M ?_⟩
  have e1 : w32 (p + k) = p + k := w32_s (by omega) (by omega)
  have e2 : w32 (w32 (w32 (p + 36) + c) - 1) = p + 35 + c := by
    rw [w32_s (z := p + 36) (by omega) (by omega), w32_s (z := p + 36 + c) (by omega) (by omega), w32_s (by omega) (by omega)]
    omega
  have s0 : ¬ (M 54 (p + k) = 0 ∧ 0 < M 54 (p + 35 + c) + 20) → K 35 [(0, vr 53), (1, vi p), (2, vi k), (3, vi c)] [vi 0] (S0, M) := by
    intro h
    refine q_M_stitchesOn_35 hK p k c 0 M (br_t rfl (mBo_i (Or.inl rfl) (mret_i (b2_f h).symm ?_)))
    rw [if_neg h]
  rw [e1, e2, w32_s (z := M 54 (p + 35 + c) + 20) (by omega) (by omega)]
  refine mIn_i (by omega) (by omega) ⟨fun q => s0 (fun z => q z.1), fun q => mIn_i (by omega) (by omega) ⟨fun q2 => s0 (fun z => absurd z.2 (by omega)), fun q2 => ?_⟩⟩
  have h : (M 54 (p + k) = 0 ∧ 0 < M 54 (p + 35 + c) + 20) := ⟨Decidable.not_not.mp q, by omega⟩
  refine q_M_stitchesOn_35 hK p k c 1 M (br_f (by decide) ?_)
  rw [e1, e2]
  refine mIn_i (by omega) (by omega) (mIn_i (by omega) (by omega) (mIn_i (by omega) (by omega) (mBo_i (Or.inr rfl) (mret_i (b2_t h).symm ?_))))
  rw [if_pos h]
  unfold stM
  have e3 : mupd M 54 (p + k) c 54 (p + 35 + c) = M 54 (p + 35 + c) := by
    unfold mupd
    rw [if_neg (by omega)]
  rw [e3, w32_s (by omega) (by omega)]
theorem R_puts (d : Nat) (M : mMem) (g t v x : Int) (ht : g ≠ 0 → 0 ≤ t ∧ t < 510) : mR3 (d + 1) 142 [vr 53, vi g, vi t, vi v, vi x] (S0, M) (some (vi (if g ≠ 0 then w32 (M 54 t + x) else -1)), (S0, if g ≠ 0 then mupd M 54 t (w32 (v - x)) else M)) := by
  refine ⟨⟨by decide, Nat.le_of_ble_eq_true rfl⟩, fun K hK => q_M_puts_0 hK g t v x M ⟨fun q => ?_, fun q => ?_⟩⟩
  · have h := ht q
    refine mIn_i (by omega) (by omega) (mIn_i (by omega) (by omega) (mret_i ?_ ?_))
    · rw [if_pos q]
    · rw [if_pos q]
  · refine mret_i ?_ ?_
    · rw [if_neg q]
    · rw [if_neg q]
end
section
/-! PURE PROOFS 13: what holds between two calls -/
def ImI (M : mMem) (c b : Nat) (x p : Int) : Prop := (M c 1 = 0 ∨ M c 1 = 1) ∧ M 63 x = M c 1 ∧ (M c 1 = 1 → Cht M b ∧ Pg M b p)
def TaI (M : mMem) : Prop := (0 ≤ M 35 1 ∧ M 35 1 ≤ 160) ∧ M 53 5 = M 35 1 ∧ M 35 2 = M 53 6 ∧ ∀ i : Int, 0 ≤ i → i < M 35 1 → M 56 i = M 36 i ∧ 0 ≤ M 36 i ∧ M 36 i ≤ 127
def SeI (M : mMem) : Prop := (0 ≤ M 0 13 ∧ M 0 13 ≤ 6) ∧ M 53 22 = M 0 13 ∧ ∀ i : Int, 0 ≤ i → i < M 0 13 → M 60 (2 * i) = M 40 i ∧ M 60 (2 * i + 1) = M 41 i ∧ (0 ≤ M 40 i ∧ M 40 i ≤ 4) ∧ 0 ≤ M 41 i ∧ M 41 i ≤ 60
def ShI (M : mMem) (k : Nat) : Prop := (M (45 + 2 * k) 2 = -1 ∧ M 64 k = -4) ∨ ((0 ≤ M (45 + 2 * k) 2 ∧ M (45 + 2 * k) 2 ≤ 40) ∧ (0 ≤ M (45 + 2 * k) 1 ∧ M (45 + 2 * k) 1 ≤ 2) ∧ M 64 k = M (45 + 2 * k) 1 ∧ M 65 k = M (45 + 2 * k) 2 ∧ ∀ i : Int, 0 ≤ i → i < 40 → M 66 (40 * k + i) = M (46 + 2 * k) i)
def Inv (M : mMem) : Prop := Cht M 1 ∧ Pg M 1 0 ∧ ImI M 17 18 0 85 ∧ ImI M 26 27 1 170 ∧ TaI M ∧ SeI M ∧ (∀ k : Nat, k < 4 → ShI M k) ∧ M 0 16 = M 53 30 ∧ M 57 = M0 57 ∧ M 58 = M0 58
/-- rows that a call which only asks leaves as they are -/
def kept (k : Nat) : Prop := (1 ≤ k ∧ k ≤ 8) ∨ (17 ≤ k ∧ k ≤ 34) ∨ k = 36 ∨ k = 40 ∨ k = 41 ∨ (45 ≤ k ∧ k ≤ 52) ∨ (56 ≤ k ∧ k ≤ 58) ∨ k = 60 ∨ (63 ≤ k ∧ k ≤ 66)
def Fr (M N : mMem) : Prop := (∀ k : Nat, kept k → M k = N k) ∧ M 0 13 = N 0 13 ∧ M 0 16 = N 0 16 ∧ M 35 1 = N 35 1 ∧ M 35 2 = N 35 2 ∧ M 53 5 = N 53 5 ∧ M 53 6 = N 53 6 ∧ M 53 22 = N 53 22 ∧ M 53 30 = N 53 30 ∧ ∀ i : Int, 0 ≤ i → i < 255 → M 54 i = N 54 i
theorem Pg_fr {M N : mMem} {b : Nat} {p : Int} (h : Pg N b p) (h6 : N b 6 ≤ 8) (h5 : N b 5 ≤ 5) (e : ∀ k, b ≤ k → k < b + 8 → M k = N k) (e4 : ∀ i, p ≤ i → i < p + 85 → M 54 i = N 54 i) : Pg M b p := by
  obtain ⟨g1, g2, g3, g4, g5, g6⟩ := h
  unfold Pg
  rw [e (b + 1) (by omega) (by omega), e (b + 2) (by omega) (by omega), e (b + 3) (by omega) (by omega), e (b + 4) (by omega) (by omega), e (b + 5) (by omega) (by omega), e b (by omega) (by omega), e4 (p + 39) (by omega) (by omega), e4 (p + 60) (by omega) (by omega)]
  refine ⟨fun i h0 h1 => ?_, fun c h0 h1 => ?_, g3, fun l x h0 h1 h2 h3 => ?_, g5, fun i h0 h1 => ?_⟩
  · rw [e4 _ (by omega) (by omega)]
    exact g1 i h0 h1
  · rw [e4 _ (by omega) (by omega)]
    exact g2 c h0 h1
  · rw [e4 _ (by omega) (by omega)]
    exact g4 l x h0 h1 h2 h3
  · rw [e4 (p + 61 + 3 * i) (by omega) (by omega), e4 (p + 62 + 3 * i) (by omega) (by omega), e4 (p + 63 + 3 * i) (by omega) (by omega)]
    exact g6 i h0 h1
theorem Fr_refl (M : mMem) : Fr M M := ⟨fun _ _ => rfl, rfl, rfl, rfl, rfl, rfl, rfl, rfl, rfl, fun _ _ _ => rfl⟩
theorem Fr_trans {A B C : mMem} (h : Fr A B) (g : Fr B C) : Fr A C := by
  obtain ⟨h0, h1, h2, h3, h4, h5, h6, h7, h8, h9⟩ := h
  obtain ⟨g0, g1, g2, g3, g4, g5, g6, g7, g8, g9⟩ := g
  exact ⟨fun k q => (h0 k q).trans (g0 k q), h1.trans g1, h2.trans g2, h3.trans g3, h4.trans g4, h5.trans g5, h6.trans g6, h7.trans g7, h8.trans g8, fun i q r => (h9 i q r).trans (g9 i q r)⟩
theorem ImI_fr {M N : mMem} {c b : Nat} {x p : Int} (h : ImI N c b x p) (hc : M c = N c) (h3 : M 63 = N 63) (e : ∀ k, b ≤ k → k < b + 8 → M k = N k) (e4 : ∀ i, p ≤ i → i < p + 85 → M 54 i = N 54 i) : ImI M c b x p := by
  obtain ⟨g1, g2, g3⟩ := h
  unfold ImI
  rw [hc, h3]
  refine ⟨g1, g2, fun q => ?_⟩
  have g := g3 q
  have l := g.1.2.1
  have m := g.1.2.2.2.1
  exact ⟨Cht_eq g.1 e, Pg_fr g.2 m.2 l.2 e e4⟩
theorem Inv_fr {M N : mMem} (h : Inv N) (f : Fr M N) : Inv M := by
  obtain ⟨i1, i2, i3, i4, i5, i6, i7, i8, i9, i10⟩ := h
  obtain ⟨f0, f1, f2, f3, f4, f5, f6, f7, f8, f9⟩ := f
  have r : ∀ k : Nat, kept k → M k = N k := f0
  have l := i1.2.1
  have m := i1.2.2.2.1
  refine ⟨Cht_eq i1 (fun k h0 h1 => r k (by unfold kept; omega)), Pg_fr i2 m.2 l.2 (fun k h0 h1 => r k (by unfold kept; omega)) (fun i h0 h1 => f9 i (by omega) (by omega)), ?_, ?_, ?_, ?_, ?_, ?_, ?_, ?_⟩
  · exact ImI_fr i3 (r 17 (by unfold kept; omega)) (r 63 (by unfold kept; omega)) (fun k h0 h1 => r k (by unfold kept; omega)) (fun i h0 h1 => f9 i (by omega) (by omega))
  · exact ImI_fr i4 (r 26 (by unfold kept; omega)) (r 63 (by unfold kept; omega)) (fun k h0 h1 => r k (by unfold kept; omega)) (fun i h0 h1 => f9 i (by omega) (by omega))
  · unfold TaI
    rw [f3, f4, f5, f6, r 56 (by unfold kept; omega), r 36 (by unfold kept; omega)]
    exact i5
  · unfold SeI
    rw [f1, f7, r 60 (by unfold kept; omega), r 40 (by unfold kept; omega), r 41 (by unfold kept; omega)]
    exact i6
  · intro k hk
    unfold ShI
    rw [r (45 + 2 * k) (by unfold kept; omega), r (46 + 2 * k) (by unfold kept; omega), r 64 (by unfold kept; omega), r 65 (by unfold kept; omega), r 66 (by unfold kept; omega)]
    exact i7 k hk
  · rw [f2, f8]
    exact i8
  · rw [r 57 (by unfold kept; omega)]
    exact i9
  · rw [r 58 (by unfold kept; omega)]
    exact i10
end
section
/-! PURE PROOFS 14: pairs of calls -/
def PairI (y1 y2 : Nat) (as : List mVal) (M : mMem) : Prop := ∃ v m1 m2, mR3 10 y1 (vr 0 :: as) (S0, M) (some (vi v), (S0, m1)) ∧ mR3 10 y2 (vr 53 :: as) (S0, m1) (some (vi v), (S0, m2)) ∧ Inv m2
theorem P_fault {M : mMem} (h : Inv M) : PairI 48 127 [] M := by
  refine ⟨M 35 2, M, M, ⟨⟨by decide, Nat.le_of_ble_eq_true rfl⟩, fun K hK => q_L_fault_0 hK M (mret_i rfl rfl)⟩, ⟨⟨by decide, Nat.le_of_ble_eq_true rfl⟩, fun K hK => q_M_fault_0 hK M (mret_i ?_ rfl)⟩, h⟩
  exact h.2.2.2.2.1.2.2.1.symm
theorem P_torn {M : mMem} (h : Inv M) : PairI 85 188 [] M := by
  refine ⟨M 0 16, M, M, ⟨⟨by decide, Nat.le_of_ble_eq_true rfl⟩, fun K hK => q_L_torn_0 hK M (mret_i rfl rfl)⟩, ⟨⟨by decide, Nat.le_of_ble_eq_true rfl⟩, fun K hK => q_M_torn_0 hK M (mret_i ?_ rfl)⟩, h⟩
  exact h.2.2.2.2.2.2.2.1.symm
theorem R_L_end (d : Nat) (M : mMem) (n : Int) : mR3 (d + 1) 46 [vr 0, vi n] (S0, M) (some (vi (if 0 ≤ n ∧ n ≤ M 35 1 then M 35 1 else -1)), (S0, if 0 ≤ n ∧ n ≤ M 35 1 then mupd M 35 1 n else M)) := by
  refine ⟨⟨by decide, Nat.le_of_ble_eq_true rfl⟩, fun K hK => q_L_end_0 hK n M ⟨fun q => ?_, fun q => ⟨fun q2 => ?_, fun q2 => ?_⟩⟩⟩
  · exact mret_i (if_neg (by omega)).symm (if_neg (by omega)).symm
  · exact mret_i (if_pos (by omega)).symm (if_pos (by omega)).symm
  · exact mret_i (if_neg (by omega)).symm (if_neg (by omega)).symm
theorem R_M_end (d : Nat) (M : mMem) (n : Int) : mR3 (d + 2) 117 [vr 53, vi n] (S0, M) (some (vi (if 0 ≤ n ∧ n ≤ M 53 5 then M 53 5 else -1)), (S0, if 0 ≤ n ∧ n ≤ M 53 5 then mupd M 53 5 n else M)) := by
  refine ⟨⟨by decide, Nat.le_of_ble_eq_true rfl⟩, fun K hK => q_M_end_0 hK n M ⟨_, _, R_in d M _ _ _, ⟨fun q => ?_, fun q => ?_⟩⟩⟩
  · have q := b2_n0.mp q
    exact mret_i (if_pos (by omega)).symm (if_pos (by omega)).symm
  · have q := b2_0.mp (Decidable.not_not.mp q)
    exact mret_i (if_neg (by omega)).symm (if_neg (by omega)).symm
theorem R_L_forget (d : Nat) (M : mMem) (n : Int) : mR3 (d + 1) 74 [vr 0, vi n] (S0, M) (some (vi (if 0 ≤ n ∧ n ≤ M 0 13 then M 0 13 else -1)), (S0, if 0 ≤ n ∧ n ≤ M 0 13 then mupd M 0 13 n else M)) := by
  refine ⟨⟨by decide, Nat.le_of_ble_eq_true rfl⟩, fun K hK => q_L_forget_0 hK n M ⟨fun q => ?_, fun q => ⟨fun q2 => ?_, fun q2 => ?_⟩⟩⟩
  · exact mret_i (if_neg (by omega)).symm (if_neg (by omega)).symm
  · exact mret_i (if_pos (by omega)).symm (if_pos (by omega)).symm
  · exact mret_i (if_neg (by omega)).symm (if_neg (by omega)).symm
theorem R_M_forget (d : Nat) (M : mMem) (n : Int) : mR3 (d + 2) 173 [vr 53, vi n] (S0, M) (some (vi (if 0 ≤ n ∧ n ≤ M 53 22 then M 53 22 else -1)), (S0, if 0 ≤ n ∧ n ≤ M 53 22 then mupd M 53 22 n else M)) := by
  refine ⟨⟨by decide, Nat.le_of_ble_eq_true rfl⟩, fun K hK => q_M_forget_0 hK n M ⟨_, _, R_in d M _ _ _, ⟨fun q => ?_, fun q => ?_⟩⟩⟩
  · have q := b2_n0.mp q
    exact mret_i (if_pos (by omega)).symm (if_pos (by omega)).symm
  · have q := b2_0.mp (Decidable.not_not.mp q)
    exact mret_i (if_neg (by omega)).symm (if_neg (by omega)).symm
end
