section
/-- a private method of a class that the tables say can be made, by its rows of tables_1 -/
def lw_okq (q : MethodName × Nat) : Prop := (q.1.cls ≠ "java/lang/invoke/MethodHandle" ∧ q.1.cls ≠ "java/lang/invoke/VarHandle") ∧ Cond.instantiable q.1.cls q.2 ∈ tables_1 ∧ Cond.privateMethod q.1 ∈ tables_1 ∧ Cond.instanceMethod q.1 ∈ tables_1
theorem lw_p0 : lw_okq (⟨"ShedStages$Reader", "takeItem", "(LShedStages$Letters;IILShedStages$Plan;)Z"⟩, 1) := ⟨⟨by decide +kernel, by decide +kernel⟩, List.mem_of_getElem? (i := 42) (by decide +kernel), List.mem_of_getElem? (i := 302) (by decide +kernel), List.mem_of_getElem? (i := 303) (by decide +kernel)⟩
theorem lw_p1 : lw_okq (⟨"ShedStages$Reader", "readNumbers", "(LShedStages$Letters;II)I"⟩, 1) := ⟨⟨by decide +kernel, by decide +kernel⟩, List.mem_of_getElem? (i := 42) (by decide +kernel), List.mem_of_getElem? (i := 306) (by decide +kernel), List.mem_of_getElem? (i := 307) (by decide +kernel)⟩
theorem lw_p2 : lw_okq (⟨"ShedStages$Plan", "setRow", "(III)Z"⟩, 16) := ⟨⟨by decide +kernel, by decide +kernel⟩, List.mem_of_getElem? (i := 52) (by decide +kernel), List.mem_of_getElem? (i := 337) (by decide +kernel), List.mem_of_getElem? (i := 338) (by decide +kernel)⟩
theorem lw_p3 : lw_okq (⟨"ShedStages$Grid", "findRoots", "()V"⟩, 12) := ⟨⟨by decide +kernel, by decide +kernel⟩, List.mem_of_getElem? (i := 135) (by decide +kernel), List.mem_of_getElem? (i := 359) (by decide +kernel), List.mem_of_getElem? (i := 360) (by decide +kernel)⟩
theorem lw_p4 : lw_okq (⟨"ShedStages$Grid", "giveLoad", "()V"⟩, 12) := ⟨⟨by decide +kernel, by decide +kernel⟩, List.mem_of_getElem? (i := 135) (by decide +kernel), List.mem_of_getElem? (i := 373) (by decide +kernel), List.mem_of_getElem? (i := 374) (by decide +kernel)⟩
theorem lw_p5 : lw_okq (⟨"ShedStages$Grid", "sumOfPlants", "([II)I"⟩, 12) := ⟨⟨by decide +kernel, by decide +kernel⟩, List.mem_of_getElem? (i := 135) (by decide +kernel), List.mem_of_getElem? (i := 394) (by decide +kernel), List.mem_of_getElem? (i := 395) (by decide +kernel)⟩
theorem lw_p6 : lw_okq (⟨"ShedStages$Course", "follow", "(I)V"⟩, 5) := ⟨⟨by decide +kernel, by decide +kernel⟩, List.mem_of_getElem? (i := 196) (by decide +kernel), List.mem_of_getElem? (i := 480) (by decide +kernel), List.mem_of_getElem? (i := 481) (by decide +kernel)⟩
theorem lw_p7 : lw_okq (⟨"ShedStages$Course", "darken", "(I)V"⟩, 5) := ⟨⟨by decide +kernel, by decide +kernel⟩, List.mem_of_getElem? (i := 196) (by decide +kernel), List.mem_of_getElem? (i := 497) (by decide +kernel), List.mem_of_getElem? (i := 498) (by decide +kernel)⟩
theorem lw_p8 : lw_okq (⟨"ShedStages$Course", "dropSet", "(I)V"⟩, 5) := ⟨⟨by decide +kernel, by decide +kernel⟩, List.mem_of_getElem? (i := 196) (by decide +kernel), List.mem_of_getElem? (i := 502) (by decide +kernel), List.mem_of_getElem? (i := 503) (by decide +kernel)⟩
theorem lw_p9 : lw_okq (⟨"ShedStages$Course", "passStage", "(II)V"⟩, 5) := ⟨⟨by decide +kernel, by decide +kernel⟩, List.mem_of_getElem? (i := 196) (by decide +kernel), List.mem_of_getElem? (i := 512) (by decide +kernel), List.mem_of_getElem? (i := 513) (by decide +kernel)⟩
theorem lw_p10 : lw_okq (⟨"ShedStages$Course", "onOfStage", "(II)I"⟩, 5) := ⟨⟨by decide +kernel, by decide +kernel⟩, List.mem_of_getElem? (i := 196) (by decide +kernel), List.mem_of_getElem? (i := 516) (by decide +kernel), List.mem_of_getElem? (i := 517) (by decide +kernel)⟩
theorem lw_p11 : lw_okq (⟨"ShedStages$Course", "passBack", "(I)V"⟩, 5) := ⟨⟨by decide +kernel, by decide +kernel⟩, List.mem_of_getElem? (i := 196) (by decide +kernel), List.mem_of_getElem? (i := 520) (by decide +kernel), List.mem_of_getElem? (i := 521) (by decide +kernel)⟩
theorem lw_p12 : lw_okq (⟨"ShedStages$Course", "nextBack", "(I)I"⟩, 5) := ⟨⟨by decide +kernel, by decide +kernel⟩, List.mem_of_getElem? (i := 196) (by decide +kernel), List.mem_of_getElem? (i := 524) (by decide +kernel), List.mem_of_getElem? (i := 525) (by decide +kernel)⟩
theorem lw_p13 : lw_okq (⟨"ShedStages$Grid", "join", "(II)V"⟩, 12) := ⟨⟨by decide +kernel, by decide +kernel⟩, List.mem_of_getElem? (i := 135) (by decide +kernel), List.mem_of_getElem? (i := 557) (by decide +kernel), List.mem_of_getElem? (i := 558) (by decide +kernel)⟩
theorem lw_p14 : lw_okq (⟨"ShedStages$Grid", "copyCounts", "(II)V"⟩, 12) := ⟨⟨by decide +kernel, by decide +kernel⟩, List.mem_of_getElem? (i := 135) (by decide +kernel), List.mem_of_getElem? (i := 561) (by decide +kernel), List.mem_of_getElem? (i := 562) (by decide +kernel)⟩
theorem lw_p15 : lw_okq (⟨"ShedStages$Grid", "joinedFrequency", "(II)I"⟩, 12) := ⟨⟨by decide +kernel, by decide +kernel⟩, List.mem_of_getElem? (i := 135) (by decide +kernel), List.mem_of_getElem? (i := 565) (by decide +kernel), List.mem_of_getElem? (i := 566) (by decide +kernel)⟩
def lw_privs_1 : List (MethodName × Nat) := [(⟨"ShedStages$Reader", "takeItem", "(LShedStages$Letters;IILShedStages$Plan;)Z"⟩, 1), (⟨"ShedStages$Reader", "readNumbers", "(LShedStages$Letters;II)I"⟩, 1), (⟨"ShedStages$Plan", "setRow", "(III)Z"⟩, 16), (⟨"ShedStages$Grid", "findRoots", "()V"⟩, 12), (⟨"ShedStages$Grid", "giveLoad", "()V"⟩, 12), (⟨"ShedStages$Grid", "sumOfPlants", "([II)I"⟩, 12), (⟨"ShedStages$Course", "follow", "(I)V"⟩, 5), (⟨"ShedStages$Course", "darken", "(I)V"⟩, 5), (⟨"ShedStages$Course", "dropSet", "(I)V"⟩, 5), (⟨"ShedStages$Course", "passStage", "(II)V"⟩, 5), (⟨"ShedStages$Course", "onOfStage", "(II)I"⟩, 5), (⟨"ShedStages$Course", "passBack", "(I)V"⟩, 5), (⟨"ShedStages$Course", "nextBack", "(I)I"⟩, 5), (⟨"ShedStages$Grid", "join", "(II)V"⟩, 12), (⟨"ShedStages$Grid", "copyCounts", "(II)V"⟩, 12), (⟨"ShedStages$Grid", "joinedFrequency", "(II)I"⟩, 12)]
theorem lw_r1 : ∀ q ∈ lw_privs_1, lw_okq q := List.forall_mem_cons.mpr ⟨lw_p0, List.forall_mem_cons.mpr ⟨lw_p1, List.forall_mem_cons.mpr ⟨lw_p2, List.forall_mem_cons.mpr ⟨lw_p3, List.forall_mem_cons.mpr ⟨lw_p4, List.forall_mem_cons.mpr ⟨lw_p5, List.forall_mem_cons.mpr ⟨lw_p6, List.forall_mem_cons.mpr ⟨lw_p7, List.forall_mem_cons.mpr ⟨lw_p8, List.forall_mem_cons.mpr ⟨lw_p9, List.forall_mem_cons.mpr ⟨lw_p10, List.forall_mem_cons.mpr ⟨lw_p11, List.forall_mem_cons.mpr ⟨lw_p12, List.forall_mem_cons.mpr ⟨lw_p13, List.forall_mem_cons.mpr ⟨lw_p14, List.forall_mem_cons.mpr ⟨lw_p15, fun _ h => absurd h List.not_mem_nil⟩⟩⟩⟩⟩⟩⟩⟩⟩⟩⟩⟩⟩⟩⟩⟩
theorem lw_p16 : lw_okq (⟨"ShedStages", "leastSet", "(II)I"⟩, 9) := ⟨⟨by decide +kernel, by decide +kernel⟩, List.mem_of_getElem? (i := 17) (by decide +kernel), List.mem_of_getElem? (i := 666) (by decide +kernel), List.mem_of_getElem? (i := 667) (by decide +kernel)⟩
theorem lw_p17 : lw_okq (⟨"ShedStages", "isLess", "(II)Z"⟩, 9) := ⟨⟨by decide +kernel, by decide +kernel⟩, List.mem_of_getElem? (i := 17) (by decide +kernel), List.mem_of_getElem? (i := 670) (by decide +kernel), List.mem_of_getElem? (i := 671) (by decide +kernel)⟩
theorem lw_p18 : lw_okq (⟨"ShedStages", "holds", "(III)Z"⟩, 9) := ⟨⟨by decide +kernel, by decide +kernel⟩, List.mem_of_getElem? (i := 17) (by decide +kernel), List.mem_of_getElem? (i := 678) (by decide +kernel), List.mem_of_getElem? (i := 679) (by decide +kernel)⟩
theorem lw_p19 : lw_okq (⟨"ShedStagesModel", "clears", "()V"⟩, 17) := ⟨⟨by decide +kernel, by decide +kernel⟩, List.mem_of_getElem? (i := 699) (by decide +kernel), List.mem_of_getElem? (i := 705) (by decide +kernel), List.mem_of_getElem? (i := 706) (by decide +kernel)⟩
theorem lw_p20 : lw_okq (⟨"ShedStagesModel", "adds", "(IIIII)V"⟩, 17) := ⟨⟨by decide +kernel, by decide +kernel⟩, List.mem_of_getElem? (i := 699) (by decide +kernel), List.mem_of_getElem? (i := 709) (by decide +kernel), List.mem_of_getElem? (i := 710) (by decide +kernel)⟩
theorem lw_p21 : lw_okq (⟨"ShedStagesModel", "takes", "()V"⟩, 17) := ⟨⟨by decide +kernel, by decide +kernel⟩, List.mem_of_getElem? (i := 699) (by decide +kernel), List.mem_of_getElem? (i := 713) (by decide +kernel), List.mem_of_getElem? (i := 714) (by decide +kernel)⟩
theorem lw_p22 : lw_okq (⟨"ShedStagesModel", "isLowest", "(I)Z"⟩, 17) := ⟨⟨by decide +kernel, by decide +kernel⟩, List.mem_of_getElem? (i := 699) (by decide +kernel), List.mem_of_getElem? (i := 717) (by decide +kernel), List.mem_of_getElem? (i := 718) (by decide +kernel)⟩
theorem lw_p23 : lw_okq (⟨"ShedStagesModel", "busesOf", "(I)I"⟩, 17) := ⟨⟨by decide +kernel, by decide +kernel⟩, List.mem_of_getElem? (i := 699) (by decide +kernel), List.mem_of_getElem? (i := 721) (by decide +kernel), List.mem_of_getElem? (i := 722) (by decide +kernel)⟩
theorem lw_p24 : lw_okq (⟨"ShedStagesModel", "begins", "(I)V"⟩, 17) := ⟨⟨by decide +kernel, by decide +kernel⟩, List.mem_of_getElem? (i := 699) (by decide +kernel), List.mem_of_getElem? (i := 728) (by decide +kernel), List.mem_of_getElem? (i := 729) (by decide +kernel)⟩
theorem lw_p25 : lw_okq (⟨"ShedStagesModel", "load", "(I)I"⟩, 17) := ⟨⟨by decide +kernel, by decide +kernel⟩, List.mem_of_getElem? (i := 699) (by decide +kernel), List.mem_of_getElem? (i := 732) (by decide +kernel), List.mem_of_getElem? (i := 733) (by decide +kernel)⟩
theorem lw_p26 : lw_okq (⟨"ShedStagesModel", "reads", "()I"⟩, 17) := ⟨⟨by decide +kernel, by decide +kernel⟩, List.mem_of_getElem? (i := 699) (by decide +kernel), List.mem_of_getElem? (i := 800) (by decide +kernel), List.mem_of_getElem? (i := 801) (by decide +kernel)⟩
theorem lw_p27 : lw_okq (⟨"ShedStagesModel", "readsItem", "(IIZ)Z"⟩, 17) := ⟨⟨by decide +kernel, by decide +kernel⟩, List.mem_of_getElem? (i := 699) (by decide +kernel), List.mem_of_getElem? (i := 804) (by decide +kernel), List.mem_of_getElem? (i := 805) (by decide +kernel)⟩
theorem lw_p28 : lw_okq (⟨"ShedStagesModel", "number", "(III)Z"⟩, 17) := ⟨⟨by decide +kernel, by decide +kernel⟩, List.mem_of_getElem? (i := 699) (by decide +kernel), List.mem_of_getElem? (i := 808) (by decide +kernel), List.mem_of_getElem? (i := 809) (by decide +kernel)⟩
theorem lw_p29 : lw_okq (⟨"ShedStagesModel", "letterAt", "(I)I"⟩, 17) := ⟨⟨by decide +kernel, by decide +kernel⟩, List.mem_of_getElem? (i := 699) (by decide +kernel), List.mem_of_getElem? (i := 812) (by decide +kernel), List.mem_of_getElem? (i := 813) (by decide +kernel)⟩
theorem lw_p30 : lw_okq (⟨"ShedStagesModel", "readsLink", "(I)Z"⟩, 17) := ⟨⟨by decide +kernel, by decide +kernel⟩, List.mem_of_getElem? (i := 699) (by decide +kernel), List.mem_of_getElem? (i := 819) (by decide +kernel), List.mem_of_getElem? (i := 820) (by decide +kernel)⟩
theorem lw_p31 : lw_okq (⟨"ShedStagesModel", "more", "(II)Z"⟩, 17) := ⟨⟨by decide +kernel, by decide +kernel⟩, List.mem_of_getElem? (i := 699) (by decide +kernel), List.mem_of_getElem? (i := 823) (by decide +kernel), List.mem_of_getElem? (i := 824) (by decide +kernel)⟩
def lw_privs_2 : List (MethodName × Nat) := [(⟨"ShedStages", "leastSet", "(II)I"⟩, 9), (⟨"ShedStages", "isLess", "(II)Z"⟩, 9), (⟨"ShedStages", "holds", "(III)Z"⟩, 9), (⟨"ShedStagesModel", "clears", "()V"⟩, 17), (⟨"ShedStagesModel", "adds", "(IIIII)V"⟩, 17), (⟨"ShedStagesModel", "takes", "()V"⟩, 17), (⟨"ShedStagesModel", "isLowest", "(I)Z"⟩, 17), (⟨"ShedStagesModel", "busesOf", "(I)I"⟩, 17), (⟨"ShedStagesModel", "begins", "(I)V"⟩, 17), (⟨"ShedStagesModel", "load", "(I)I"⟩, 17), (⟨"ShedStagesModel", "reads", "()I"⟩, 17), (⟨"ShedStagesModel", "readsItem", "(IIZ)Z"⟩, 17), (⟨"ShedStagesModel", "number", "(III)Z"⟩, 17), (⟨"ShedStagesModel", "letterAt", "(I)I"⟩, 17), (⟨"ShedStagesModel", "readsLink", "(I)Z"⟩, 17), (⟨"ShedStagesModel", "more", "(II)Z"⟩, 17)]
theorem lw_r2 : ∀ q ∈ lw_privs_2, lw_okq q := List.forall_mem_cons.mpr ⟨lw_p16, List.forall_mem_cons.mpr ⟨lw_p17, List.forall_mem_cons.mpr ⟨lw_p18, List.forall_mem_cons.mpr ⟨lw_p19, List.forall_mem_cons.mpr ⟨lw_p20, List.forall_mem_cons.mpr ⟨lw_p21, List.forall_mem_cons.mpr ⟨lw_p22, List.forall_mem_cons.mpr ⟨lw_p23, List.forall_mem_cons.mpr ⟨lw_p24, List.forall_mem_cons.mpr ⟨lw_p25, List.forall_mem_cons.mpr ⟨lw_p26, List.forall_mem_cons.mpr ⟨lw_p27, List.forall_mem_cons.mpr ⟨lw_p28, List.forall_mem_cons.mpr ⟨lw_p29, List.forall_mem_cons.mpr ⟨lw_p30, List.forall_mem_cons.mpr ⟨lw_p31, fun _ h => absurd h List.not_mem_nil⟩⟩⟩⟩⟩⟩⟩⟩⟩⟩⟩⟩⟩⟩⟩⟩
theorem lw_p32 : lw_okq (⟨"ShedStagesModel", "readsPlant", "(I)Z"⟩, 17) := ⟨⟨by decide +kernel, by decide +kernel⟩, List.mem_of_getElem? (i := 699) (by decide +kernel), List.mem_of_getElem? (i := 827) (by decide +kernel), List.mem_of_getElem? (i := 828) (by decide +kernel)⟩
theorem lw_p33 : lw_okq (⟨"ShedStagesModel", "readsFeeder", "(I)Z"⟩, 17) := ⟨⟨by decide +kernel, by decide +kernel⟩, List.mem_of_getElem? (i := 699) (by decide +kernel), List.mem_of_getElem? (i := 831) (by decide +kernel), List.mem_of_getElem? (i := 832) (by decide +kernel)⟩
theorem lw_p34 : lw_okq (⟨"ShedStagesModel", "readsStage", "(I)Z"⟩, 17) := ⟨⟨by decide +kernel, by decide +kernel⟩, List.mem_of_getElem? (i := 699) (by decide +kernel), List.mem_of_getElem? (i := 835) (by decide +kernel), List.mem_of_getElem? (i := 836) (by decide +kernel)⟩
theorem lw_p35 : lw_okq (⟨"ShedStagesModel", "readsBack", "(I)Z"⟩, 17) := ⟨⟨by decide +kernel, by decide +kernel⟩, List.mem_of_getElem? (i := 699) (by decide +kernel), List.mem_of_getElem? (i := 839) (by decide +kernel), List.mem_of_getElem? (i := 840) (by decide +kernel)⟩
theorem lw_p36 : lw_okq (⟨"ShedStagesModel", "islands", "()I"⟩, 17) := ⟨⟨by decide +kernel, by decide +kernel⟩, List.mem_of_getElem? (i := 699) (by decide +kernel), List.mem_of_getElem? (i := 847) (by decide +kernel), List.mem_of_getElem? (i := 848) (by decide +kernel)⟩
theorem lw_p37 : lw_okq (⟨"ShedStagesModel", "keeps", "()V"⟩, 17) := ⟨⟨by decide +kernel, by decide +kernel⟩, List.mem_of_getElem? (i := 699) (by decide +kernel), List.mem_of_getElem? (i := 859) (by decide +kernel), List.mem_of_getElem? (i := 860) (by decide +kernel)⟩
theorem lw_p38 : lw_okq (⟨"ShedStagesModel", "fresh", "()V"⟩, 17) := ⟨⟨by decide +kernel, by decide +kernel⟩, List.mem_of_getElem? (i := 699) (by decide +kernel), List.mem_of_getElem? (i := 863) (by decide +kernel), List.mem_of_getElem? (i := 864) (by decide +kernel)⟩
theorem lw_p39 : lw_okq (⟨"ShedStagesModel", "ticks", "()V"⟩, 17) := ⟨⟨by decide +kernel, by decide +kernel⟩, List.mem_of_getElem? (i := 699) (by decide +kernel), List.mem_of_getElem? (i := 867) (by decide +kernel), List.mem_of_getElem? (i := 868) (by decide +kernel)⟩
theorem lw_p40 : lw_okq (⟨"ShedStagesModel", "goes", "(I)V"⟩, 17) := ⟨⟨by decide +kernel, by decide +kernel⟩, List.mem_of_getElem? (i := 699) (by decide +kernel), List.mem_of_getElem? (i := 871) (by decide +kernel), List.mem_of_getElem? (i := 872) (by decide +kernel)⟩
theorem lw_p41 : lw_okq (⟨"ShedStagesModel", "aim", "(II)I"⟩, 17) := ⟨⟨by decide +kernel, by decide +kernel⟩, List.mem_of_getElem? (i := 699) (by decide +kernel), List.mem_of_getElem? (i := 875) (by decide +kernel), List.mem_of_getElem? (i := 876) (by decide +kernel)⟩
theorem lw_p42 : lw_okq (⟨"ShedStagesModel", "follow", "(II)V"⟩, 17) := ⟨⟨by decide +kernel, by decide +kernel⟩, List.mem_of_getElem? (i := 699) (by decide +kernel), List.mem_of_getElem? (i := 879) (by decide +kernel), List.mem_of_getElem? (i := 880) (by decide +kernel)⟩
theorem lw_p43 : lw_okq (⟨"ShedStagesModel", "plants", "(II)I"⟩, 17) := ⟨⟨by decide +kernel, by decide +kernel⟩, List.mem_of_getElem? (i := 699) (by decide +kernel), List.mem_of_getElem? (i := 883) (by decide +kernel), List.mem_of_getElem? (i := 884) (by decide +kernel)⟩
theorem lw_p44 : lw_okq (⟨"ShedStagesModel", "goesDark", "(I)V"⟩, 17) := ⟨⟨by decide +kernel, by decide +kernel⟩, List.mem_of_getElem? (i := 699) (by decide +kernel), List.mem_of_getElem? (i := 887) (by decide +kernel), List.mem_of_getElem? (i := 888) (by decide +kernel)⟩
theorem lw_p45 : lw_okq (⟨"ShedStagesModel", "frequency", "(II)V"⟩, 17) := ⟨⟨by decide +kernel, by decide +kernel⟩, List.mem_of_getElem? (i := 699) (by decide +kernel), List.mem_of_getElem? (i := 891) (by decide +kernel), List.mem_of_getElem? (i := 892) (by decide +kernel)⟩
theorem lw_p46 : lw_okq (⟨"ShedStagesModel", "dropAll", "(II)Z"⟩, 17) := ⟨⟨by decide +kernel, by decide +kernel⟩, List.mem_of_getElem? (i := 699) (by decide +kernel), List.mem_of_getElem? (i := 895) (by decide +kernel), List.mem_of_getElem? (i := 896) (by decide +kernel)⟩
theorem lw_p47 : lw_okq (⟨"ShedStagesModel", "drop", "(I)V"⟩, 17) := ⟨⟨by decide +kernel, by decide +kernel⟩, List.mem_of_getElem? (i := 699) (by decide +kernel), List.mem_of_getElem? (i := 899) (by decide +kernel), List.mem_of_getElem? (i := 900) (by decide +kernel)⟩
def lw_privs_3 : List (MethodName × Nat) := [(⟨"ShedStagesModel", "readsPlant", "(I)Z"⟩, 17), (⟨"ShedStagesModel", "readsFeeder", "(I)Z"⟩, 17), (⟨"ShedStagesModel", "readsStage", "(I)Z"⟩, 17), (⟨"ShedStagesModel", "readsBack", "(I)Z"⟩, 17), (⟨"ShedStagesModel", "islands", "()I"⟩, 17), (⟨"ShedStagesModel", "keeps", "()V"⟩, 17), (⟨"ShedStagesModel", "fresh", "()V"⟩, 17), (⟨"ShedStagesModel", "ticks", "()V"⟩, 17), (⟨"ShedStagesModel", "goes", "(I)V"⟩, 17), (⟨"ShedStagesModel", "aim", "(II)I"⟩, 17), (⟨"ShedStagesModel", "follow", "(II)V"⟩, 17), (⟨"ShedStagesModel", "plants", "(II)I"⟩, 17), (⟨"ShedStagesModel", "goesDark", "(I)V"⟩, 17), (⟨"ShedStagesModel", "frequency", "(II)V"⟩, 17), (⟨"ShedStagesModel", "dropAll", "(II)Z"⟩, 17), (⟨"ShedStagesModel", "drop", "(I)V"⟩, 17)]
theorem lw_r3 : ∀ q ∈ lw_privs_3, lw_okq q := List.forall_mem_cons.mpr ⟨lw_p32, List.forall_mem_cons.mpr ⟨lw_p33, List.forall_mem_cons.mpr ⟨lw_p34, List.forall_mem_cons.mpr ⟨lw_p35, List.forall_mem_cons.mpr ⟨lw_p36, List.forall_mem_cons.mpr ⟨lw_p37, List.forall_mem_cons.mpr ⟨lw_p38, List.forall_mem_cons.mpr ⟨lw_p39, List.forall_mem_cons.mpr ⟨lw_p40, List.forall_mem_cons.mpr ⟨lw_p41, List.forall_mem_cons.mpr ⟨lw_p42, List.forall_mem_cons.mpr ⟨lw_p43, List.forall_mem_cons.mpr ⟨lw_p44, List.forall_mem_cons.mpr ⟨lw_p45, List.forall_mem_cons.mpr ⟨lw_p46, List.forall_mem_cons.mpr ⟨lw_p47, fun _ h => absurd h List.not_mem_nil⟩⟩⟩⟩⟩⟩⟩⟩⟩⟩⟩⟩⟩⟩⟩⟩
theorem lw_p48 : lw_okq (⟨"ShedStagesModel", "counts", "(III)V"⟩, 17) := ⟨⟨by decide +kernel, by decide +kernel⟩, List.mem_of_getElem? (i := 699) (by decide +kernel), List.mem_of_getElem? (i := 903) (by decide +kernel), List.mem_of_getElem? (i := 904) (by decide +kernel)⟩
theorem lw_p49 : lw_okq (⟨"ShedStagesModel", "fitting", "(I)I"⟩, 17) := ⟨⟨by decide +kernel, by decide +kernel⟩, List.mem_of_getElem? (i := 699) (by decide +kernel), List.mem_of_getElem? (i := 907) (by decide +kernel), List.mem_of_getElem? (i := 908) (by decide +kernel)⟩
theorem lw_p50 : lw_okq (⟨"ShedStagesModel", "on", "(I)V"⟩, 17) := ⟨⟨by decide +kernel, by decide +kernel⟩, List.mem_of_getElem? (i := 699) (by decide +kernel), List.mem_of_getElem? (i := 911) (by decide +kernel), List.mem_of_getElem? (i := 912) (by decide +kernel)⟩
theorem lw_p51 : lw_okq (⟨"ShedStagesModel", "canClose", "(II)Z"⟩, 17) := ⟨⟨by decide +kernel, by decide +kernel⟩, List.mem_of_getElem? (i := 699) (by decide +kernel), List.mem_of_getElem? (i := 919) (by decide +kernel), List.mem_of_getElem? (i := 920) (by decide +kernel)⟩
theorem lw_p52 : lw_okq (⟨"ShedStagesModel", "joins", "(II)V"⟩, 17) := ⟨⟨by decide +kernel, by decide +kernel⟩, List.mem_of_getElem? (i := 699) (by decide +kernel), List.mem_of_getElem? (i := 923) (by decide +kernel), List.mem_of_getElem? (i := 924) (by decide +kernel)⟩
theorem lw_p53 : lw_okq (⟨"ShedStagesModel", "bothF", "(IIII)I"⟩, 17) := ⟨⟨by decide +kernel, by decide +kernel⟩, List.mem_of_getElem? (i := 699) (by decide +kernel), List.mem_of_getElem? (i := 927) (by decide +kernel), List.mem_of_getElem? (i := 928) (by decide +kernel)⟩
theorem lw_p54 : lw_okq (⟨"ShedStagesModel", "isBus", "(I)Z"⟩, 17) := ⟨⟨by decide +kernel, by decide +kernel⟩, List.mem_of_getElem? (i := 699) (by decide +kernel), List.mem_of_getElem? (i := 939) (by decide +kernel), List.mem_of_getElem? (i := 940) (by decide +kernel)⟩
theorem lw_p55 : lw_okq (⟨"ShedStagesModel", "busOf", "(I)I"⟩, 17) := ⟨⟨by decide +kernel, by decide +kernel⟩, List.mem_of_getElem? (i := 699) (by decide +kernel), List.mem_of_getElem? (i := 951) (by decide +kernel), List.mem_of_getElem? (i := 952) (by decide +kernel)⟩
theorem lw_p56 : lw_okq (⟨"ShedStagesModel", "feedersOf", "(I)I"⟩, 17) := ⟨⟨by decide +kernel, by decide +kernel⟩, List.mem_of_getElem? (i := 699) (by decide +kernel), List.mem_of_getElem? (i := 955) (by decide +kernel), List.mem_of_getElem? (i := 956) (by decide +kernel)⟩
theorem lw_p57 : lw_okq (⟨"ShedStagesModel", "bits", "(I)I"⟩, 17) := ⟨⟨by decide +kernel, by decide +kernel⟩, List.mem_of_getElem? (i := 699) (by decide +kernel), List.mem_of_getElem? (i := 959) (by decide +kernel), List.mem_of_getElem? (i := 960) (by decide +kernel)⟩
theorem lw_p58 : lw_okq (⟨"ShedStagesModel", "saves", "()V"⟩, 17) := ⟨⟨by decide +kernel, by decide +kernel⟩, List.mem_of_getElem? (i := 699) (by decide +kernel), List.mem_of_getElem? (i := 991) (by decide +kernel), List.mem_of_getElem? (i := 992) (by decide +kernel)⟩
theorem lw_p59 : lw_okq (⟨"ShedStagesModel", "restores", "()V"⟩, 17) := ⟨⟨by decide +kernel, by decide +kernel⟩, List.mem_of_getElem? (i := 699) (by decide +kernel), List.mem_of_getElem? (i := 995) (by decide +kernel), List.mem_of_getElem? (i := 996) (by decide +kernel)⟩
theorem lw_p60 : lw_okq (⟨"ShedStagesModel", "loadOf", "(I)I"⟩, 17) := ⟨⟨by decide +kernel, by decide +kernel⟩, List.mem_of_getElem? (i := 699) (by decide +kernel), List.mem_of_getElem? (i := 1003) (by decide +kernel), List.mem_of_getElem? (i := 1004) (by decide +kernel)⟩
theorem lw_p61 : lw_okq (⟨"ShedStagesModel", "isBorne", "(III)Z"⟩, 17) := ⟨⟨by decide +kernel, by decide +kernel⟩, List.mem_of_getElem? (i := 699) (by decide +kernel), List.mem_of_getElem? (i := 1007) (by decide +kernel), List.mem_of_getElem? (i := 1008) (by decide +kernel)⟩
def lw_privs_4 : List (MethodName × Nat) := [(⟨"ShedStagesModel", "counts", "(III)V"⟩, 17), (⟨"ShedStagesModel", "fitting", "(I)I"⟩, 17), (⟨"ShedStagesModel", "on", "(I)V"⟩, 17), (⟨"ShedStagesModel", "canClose", "(II)Z"⟩, 17), (⟨"ShedStagesModel", "joins", "(II)V"⟩, 17), (⟨"ShedStagesModel", "bothF", "(IIII)I"⟩, 17), (⟨"ShedStagesModel", "isBus", "(I)Z"⟩, 17), (⟨"ShedStagesModel", "busOf", "(I)I"⟩, 17), (⟨"ShedStagesModel", "feedersOf", "(I)I"⟩, 17), (⟨"ShedStagesModel", "bits", "(I)I"⟩, 17), (⟨"ShedStagesModel", "saves", "()V"⟩, 17), (⟨"ShedStagesModel", "restores", "()V"⟩, 17), (⟨"ShedStagesModel", "loadOf", "(I)I"⟩, 17), (⟨"ShedStagesModel", "isBorne", "(III)Z"⟩, 17)]
theorem lw_r4 : ∀ q ∈ lw_privs_4, lw_okq q := List.forall_mem_cons.mpr ⟨lw_p48, List.forall_mem_cons.mpr ⟨lw_p49, List.forall_mem_cons.mpr ⟨lw_p50, List.forall_mem_cons.mpr ⟨lw_p51, List.forall_mem_cons.mpr ⟨lw_p52, List.forall_mem_cons.mpr ⟨lw_p53, List.forall_mem_cons.mpr ⟨lw_p54, List.forall_mem_cons.mpr ⟨lw_p55, List.forall_mem_cons.mpr ⟨lw_p56, List.forall_mem_cons.mpr ⟨lw_p57, List.forall_mem_cons.mpr ⟨lw_p58, List.forall_mem_cons.mpr ⟨lw_p59, List.forall_mem_cons.mpr ⟨lw_p60, List.forall_mem_cons.mpr ⟨lw_p61, fun _ h => absurd h List.not_mem_nil⟩⟩⟩⟩⟩⟩⟩⟩⟩⟩⟩⟩⟩⟩
def lw_privs : List (MethodName × Nat) := lw_privs_1 ++ (lw_privs_2 ++ (lw_privs_3 ++ (lw_privs_4)))
def lw_tbl : List Cond := k2_sels lw_privs ++ tables_1
theorem lw_privs_ok : ∀ q ∈ lw_privs, lw_okq q := by
  show ∀ q ∈ lw_privs_1 ++ (lw_privs_2 ++ (lw_privs_3 ++ (lw_privs_4))), lw_okq q
  exact List.forall_mem_append.mpr ⟨lw_r1, List.forall_mem_append.mpr ⟨lw_r2, List.forall_mem_append.mpr ⟨lw_r3, lw_r4⟩⟩⟩
end
section
def RX0 : String := "ShedStages$Course"
def TX0 : u_T := fun k => match k with
  | 0 => ("ShedStages$Course", "plan", "LShedStages$Plan;", true)
  | 1 => ("ShedStages$Course", "grid", "LShedStages$Grid;", true)
  | 2 => ("ShedStages$Course", "drops", "I", false)
  | 3 => ("ShedStages$Course", "dropLoad", "I", false)
  | _ => ("ShedStages$Course", "backs", "I", false)
def tyX0 : Nat → FieldType := fun k => match k with
  | 0 => .object "ShedStages$Plan"
  | 1 => .object "ShedStages$Grid"
  | 2 => .int
  | 3 => .int
  | _ => .int
abbrev wsX00 : List Cond := u_ws RX0 TX0 5
theorem nmX0 : ∀ a, a < 5 → ∀ b, b < 5 → a ≠ b → (TX0 a).2.1 ≠ (TX0 b).2.1 := by decide +kernel
theorem tyX0_ok : ∀ k, k < 5 → parseFieldDescriptor (TX0 k).2.2.1 = some (tyX0 k) := by decide +kernel
abbrev cX0_init : ByteArray := prog_2_method_1_code
def yX0_init : MethodName := ⟨RX0, "<init>", "(LShedStages$Plan;LShedStages$Grid;)V"⟩
abbrev cX0_forget : ByteArray := prog_2_method_2_code
def yX0_forget : MethodName := ⟨RX0, "forget", "()V"⟩
abbrev cX0_pass : ByteArray := prog_2_method_3_code
def yX0_pass : MethodName := ⟨RX0, "pass", "()V"⟩
abbrev cX0_passIsland : ByteArray := prog_2_method_4_code
def yX0_passIsland : MethodName := ⟨RX0, "passIsland", "(I)V"⟩
abbrev cX0_follow : ByteArray := prog_2_method_5_code
def yX0_follow : MethodName := ⟨RX0, "follow", "(I)V"⟩
abbrev cX0_darken : ByteArray := prog_2_method_6_code
def yX0_darken : MethodName := ⟨RX0, "darken", "(I)V"⟩
abbrev cX0_dropSet : ByteArray := prog_2_method_7_code
def yX0_dropSet : MethodName := ⟨RX0, "dropSet", "(I)V"⟩
abbrev cX0_passStage : ByteArray := prog_2_method_8_code
def yX0_passStage : MethodName := ⟨RX0, "passStage", "(II)V"⟩
abbrev cX0_onOfStage : ByteArray := prog_2_method_9_code
def yX0_onOfStage : MethodName := ⟨RX0, "onOfStage", "(II)I"⟩
abbrev cX0_passBack : ByteArray := prog_2_method_10_code
def yX0_passBack : MethodName := ⟨RX0, "passBack", "(I)V"⟩
abbrev cX0_nextBack : ByteArray := prog_2_method_11_code
def yX0_nextBack : MethodName := ⟨RX0, "nextBack", "(I)I"⟩
def RX1 : String := "ShedStages$Grid"
def TX1 : u_T := fun k => match k with
  | 0 => ("ShedStages$Grid", "plan", "LShedStages$Plan;", true)
  | 1 => ("ShedStages$Grid", "closedSet", "I", false)
  | 2 => ("ShedStages$Grid", "roots", "[I", true)
  | 3 => ("ShedStages$Grid", "rootsBefore", "[I", true)
  | 4 => ("ShedStages$Grid", "frequency", "[I", true)
  | 5 => ("ShedStages$Grid", "counts", "[I", true)
  | 6 => ("ShedStages$Grid", "gives", "[I", true)
  | 7 => ("ShedStages$Grid", "onSet", "I", false)
  | 8 => ("ShedStages$Grid", "off", "[I", true)
  | 9 => ("ShedStages$Grid", "offMany", "I", false)
  | 10 => ("ShedStages$Grid", "marks", "[I", true)
  | _ => ("ShedStages$Grid", "ticks", "I", false)
def tyX1 : Nat → FieldType := fun k => match k with
  | 0 => .object "ShedStages$Plan"
  | 1 => .int
  | 2 => .array .int
  | 3 => .array .int
  | 4 => .array .int
  | 5 => .array .int
  | 6 => .array .int
  | 7 => .int
  | 8 => .array .int
  | 9 => .int
  | 10 => .array .int
  | _ => .int
abbrev wsX10 : List Cond := u_ws RX1 TX1 12
theorem nmX1 : ∀ a, a < 12 → ∀ b, b < 12 → a ≠ b → (TX1 a).2.1 ≠ (TX1 b).2.1 := by decide +kernel
theorem tyX1_ok : ∀ k, k < 12 → parseFieldDescriptor (TX1 k).2.2.1 = some (tyX1 k) := by decide +kernel
abbrev cX1_init : ByteArray := prog_3_method_1_code
def yX1_init : MethodName := ⟨RX1, "<init>", "(LShedStages$Plan;)V"⟩
abbrev cX1_copy : ByteArray := prog_3_method_2_code
def yX1_copy : MethodName := ⟨RX1, "copy", "(LShedStages$Grid;)V"⟩
abbrev cX1_layOut : ByteArray := prog_3_method_3_code
def yX1_layOut : MethodName := ⟨RX1, "layOut", "()V"⟩
abbrev cX1_giveLoad : ByteArray := prog_3_method_4_code
def yX1_giveLoad : MethodName := ⟨RX1, "giveLoad", "()V"⟩
abbrev cX1_findRoots : ByteArray := prog_3_method_5_code
def yX1_findRoots : MethodName := ⟨RX1, "findRoots", "()V"⟩
abbrev cX1_clearCounts : ByteArray := prog_3_method_6_code
def yX1_clearCounts : MethodName := ⟨RX1, "clearCounts", "(I)V"⟩
abbrev cX1_copyCounts : ByteArray := prog_3_method_7_code
def yX1_copyCounts : MethodName := ⟨RX1, "copyCounts", "(II)V"⟩
abbrev cX1_isDark : ByteArray := prog_3_method_8_code
def yX1_isDark : MethodName := ⟨RX1, "isDark", "(I)Z"⟩
abbrev cX1_islands : ByteArray := prog_3_method_9_code
def yX1_islands : MethodName := ⟨RX1, "islands", "()I"⟩
abbrev cX1_darkIslands : ByteArray := prog_3_method_10_code
def yX1_darkIslands : MethodName := ⟨RX1, "darkIslands", "()I"⟩
abbrev cX1_rootOf : ByteArray := prog_3_method_11_code
def yX1_rootOf : MethodName := ⟨RX1, "rootOf", "(I)I"⟩
abbrev cX1_numberOf : ByteArray := prog_3_method_12_code
def yX1_numberOf : MethodName := ⟨RX1, "numberOf", "(I)I"⟩
abbrev cX1_busBits : ByteArray := prog_3_method_13_code
def yX1_busBits : MethodName := ⟨RX1, "busBits", "(I)I"⟩
abbrev cX1_feederBits : ByteArray := prog_3_method_14_code
def yX1_feederBits : MethodName := ⟨RX1, "feederBits", "(IZ)I"⟩
abbrev cX1_loadOf : ByteArray := prog_3_method_15_code
def yX1_loadOf : MethodName := ⟨RX1, "loadOf", "(I)I"⟩
abbrev cX1_loadOfAll : ByteArray := prog_3_method_16_code
def yX1_loadOfAll : MethodName := ⟨RX1, "loadOfAll", "()I"⟩
abbrev cX1_givenOf : ByteArray := prog_3_method_17_code
def yX1_givenOf : MethodName := ⟨RX1, "givenOf", "(I)I"⟩
abbrev cX1_capOf : ByteArray := prog_3_method_18_code
def yX1_capOf : MethodName := ⟨RX1, "capOf", "(I)I"⟩
abbrev cX1_heavyOf : ByteArray := prog_3_method_19_code
def yX1_heavyOf : MethodName := ⟨RX1, "heavyOf", "(I)I"⟩
abbrev cX1_sumOfPlants : ByteArray := prog_3_method_20_code
def yX1_sumOfPlants : MethodName := ⟨RX1, "sumOfPlants", "([II)I"⟩
abbrev cX1_aimOf : ByteArray := prog_3_method_21_code
def yX1_aimOf : MethodName := ⟨RX1, "aimOf", "(I)I"⟩
abbrev cX1_drop : ByteArray := prog_3_method_22_code
def yX1_drop : MethodName := ⟨RX1, "drop", "(I)V"⟩
abbrev cX1_putOn : ByteArray := prog_3_method_23_code
def yX1_putOn : MethodName := ⟨RX1, "putOn", "(I)V"⟩
abbrev cX1_open : ByteArray := prog_3_method_24_code
def yX1_open : MethodName := ⟨RX1, "open", "(I)V"⟩
abbrev cX1_canClose : ByteArray := prog_3_method_25_code
def yX1_canClose : MethodName := ⟨RX1, "canClose", "(I)Z"⟩
abbrev cX1_close : ByteArray := prog_3_method_26_code
def yX1_close : MethodName := ⟨RX1, "close", "(I)V"⟩
abbrev cX1_join : ByteArray := prog_3_method_27_code
def yX1_join : MethodName := ⟨RX1, "join", "(II)V"⟩
abbrev cX1_joinedFrequency : ByteArray := prog_3_method_28_code
def yX1_joinedFrequency : MethodName := ⟨RX1, "joinedFrequency", "(II)I"⟩
def RX2 : String := "ShedStages$Letters"
def TX2 : u_T := fun k => match k with
  | 0 => ("ShedStages$Letters", "letters", "[I", true)
  | _ => ("ShedStages$Letters", "length", "I", false)
def tyX2 : Nat → FieldType := fun k => match k with
  | 0 => .array .int
  | _ => .int
abbrev wsX20 : List Cond := u_ws RX2 TX2 2
theorem nmX2 : ∀ a, a < 2 → ∀ b, b < 2 → a ≠ b → (TX2 a).2.1 ≠ (TX2 b).2.1 := by decide +kernel
theorem tyX2_ok : ∀ k, k < 2 → parseFieldDescriptor (TX2 k).2.2.1 = some (tyX2 k) := by decide +kernel
abbrev cX2_init : ByteArray := prog_4_method_1_code
def yX2_init : MethodName := ⟨RX2, "<init>", "()V"⟩
abbrev cX2_add : ByteArray := prog_4_method_2_code
def yX2_add : MethodName := ⟨RX2, "add", "(I)Z"⟩
abbrev cX2_clear : ByteArray := prog_4_method_3_code
def yX2_clear : MethodName := ⟨RX2, "clear", "()V"⟩
def RX3 : String := "ShedStages$Past"
def TX3 : u_T := fun k => match k with
  | 0 => ("ShedStages$Past", "kept", "[LShedStages$Grid;", true)
  | 1 => ("ShedStages$Past", "next", "I", false)
  | _ => ("ShedStages$Past", "many", "I", false)
def tyX3 : Nat → FieldType := fun k => match k with
  | 0 => .array (.object "ShedStages$Grid")
  | 1 => .int
  | _ => .int
abbrev wsX30 : List Cond := u_ws RX3 TX3 3
theorem nmX3 : ∀ a, a < 3 → ∀ b, b < 3 → a ≠ b → (TX3 a).2.1 ≠ (TX3 b).2.1 := by decide +kernel
theorem tyX3_ok : ∀ k, k < 3 → parseFieldDescriptor (TX3 k).2.2.1 = some (tyX3 k) := by decide +kernel
abbrev cX3_init : ByteArray := prog_5_method_1_code
def yX3_init : MethodName := ⟨RX3, "<init>", "(LShedStages$Plan;)V"⟩
abbrev cX3_clear : ByteArray := prog_5_method_2_code
def yX3_clear : MethodName := ⟨RX3, "clear", "()V"⟩
abbrev cX3_keep : ByteArray := prog_5_method_3_code
def yX3_keep : MethodName := ⟨RX3, "keep", "(LShedStages$Grid;)V"⟩
abbrev cX3_giveBack : ByteArray := prog_5_method_4_code
def yX3_giveBack : MethodName := ⟨RX3, "giveBack", "(LShedStages$Grid;)V"⟩
def RX4 : String := "ShedStages$Plan"
def TX4 : u_T := fun k => match k with
  | 0 => ("ShedStages$Plan", "buses", "I", false)
  | 1 => ("ShedStages$Plan", "links", "I", false)
  | 2 => ("ShedStages$Plan", "plants", "I", false)
  | 3 => ("ShedStages$Plan", "feeders", "I", false)
  | 4 => ("ShedStages$Plan", "stages", "I", false)
  | 5 => ("ShedStages$Plan", "linkFrom", "[I", true)
  | 6 => ("ShedStages$Plan", "linkTo", "[I", true)
  | 7 => ("ShedStages$Plan", "plantBus", "[I", true)
  | 8 => ("ShedStages$Plan", "cap", "[I", true)
  | 9 => ("ShedStages$Plan", "pace", "[I", true)
  | 10 => ("ShedStages$Plan", "heavy", "[I", true)
  | 11 => ("ShedStages$Plan", "feederBus", "[I", true)
  | 12 => ("ShedStages$Plan", "load", "[I", true)
  | 13 => ("ShedStages$Plan", "stage", "[I", true)
  | 14 => ("ShedStages$Plan", "marksTold", "[I", true)
  | _ => ("ShedStages$Plan", "waits", "[I", true)
def tyX4 : Nat → FieldType := fun k => match k with
  | 0 => .int
  | 1 => .int
  | 2 => .int
  | 3 => .int
  | 4 => .int
  | 5 => .array .int
  | 6 => .array .int
  | 7 => .array .int
  | 8 => .array .int
  | 9 => .array .int
  | 10 => .array .int
  | 11 => .array .int
  | 12 => .array .int
  | 13 => .array .int
  | 14 => .array .int
  | _ => .array .int
abbrev wsX40 : List Cond := u_ws RX4 TX4 16
theorem nmX4 : ∀ a, a < 16 → ∀ b, b < 16 → a ≠ b → (TX4 a).2.1 ≠ (TX4 b).2.1 := by decide +kernel
theorem tyX4_ok : ∀ k, k < 16 → parseFieldDescriptor (TX4 k).2.2.1 = some (tyX4 k) := by decide +kernel
abbrev cX4_init : ByteArray := prog_6_method_1_code
def yX4_init : MethodName := ⟨RX4, "<init>", "()V"⟩
abbrev cX4_clear : ByteArray := prog_6_method_2_code
def yX4_clear : MethodName := ⟨RX4, "clear", "()V"⟩
abbrev cX4_isBus : ByteArray := prog_6_method_3_code
def yX4_isBus : MethodName := ⟨RX4, "isBus", "(I)Z"⟩
abbrev cX4_isRow : ByteArray := prog_6_method_4_code
def yX4_isRow : MethodName := ⟨RX4, "isRow", "(I)Z"⟩
abbrev cX4_isMark : ByteArray := prog_6_method_5_code
def yX4_isMark : MethodName := ⟨RX4, "isMark", "(II)Z"⟩
abbrev cX4_isFrom : ByteArray := prog_6_method_6_code
def yX4_isFrom : MethodName := ⟨RX4, "isFrom", "(III)Z"⟩
abbrev cX4_addBuses : ByteArray := prog_6_method_7_code
def yX4_addBuses : MethodName := ⟨RX4, "addBuses", "(I)Z"⟩
abbrev cX4_addLink : ByteArray := prog_6_method_8_code
def yX4_addLink : MethodName := ⟨RX4, "addLink", "(II)Z"⟩
abbrev cX4_addPlant : ByteArray := prog_6_method_9_code
def yX4_addPlant : MethodName := ⟨RX4, "addPlant", "(IIII)Z"⟩
abbrev cX4_addFeeder : ByteArray := prog_6_method_10_code
def yX4_addFeeder : MethodName := ⟨RX4, "addFeeder", "(III)Z"⟩
abbrev cX4_addStage : ByteArray := prog_6_method_11_code
def yX4_addStage : MethodName := ⟨RX4, "addStage", "(II)Z"⟩
abbrev cX4_setBack : ByteArray := prog_6_method_12_code
def yX4_setBack : MethodName := ⟨RX4, "setBack", "(II)Z"⟩
abbrev cX4_setRow : ByteArray := prog_6_method_13_code
def yX4_setRow : MethodName := ⟨RX4, "setRow", "(III)Z"⟩
abbrev cX4_loadOfSet : ByteArray := prog_6_method_14_code
def yX4_loadOfSet : MethodName := ⟨RX4, "loadOfSet", "(I)I"⟩
def RX5 : String := "ShedStages$Reader"
def TX5 : u_T := fun k => match k with
  | _ => ("ShedStages$Reader", "numbers", "[I", true)
def tyX5 : Nat → FieldType := fun k => match k with
  | _ => .array .int
abbrev wsX50 : List Cond := u_ws RX5 TX5 1
theorem nmX5 : ∀ a, a < 1 → ∀ b, b < 1 → a ≠ b → (TX5 a).2.1 ≠ (TX5 b).2.1 := by decide +kernel
theorem tyX5_ok : ∀ k, k < 1 → parseFieldDescriptor (TX5 k).2.2.1 = some (tyX5 k) := by decide +kernel
abbrev cX5_init : ByteArray := prog_7_method_1_code
def yX5_init : MethodName := ⟨RX5, "<init>", "()V"⟩
abbrev cX5_read : ByteArray := prog_7_method_2_code
def yX5_read : MethodName := ⟨RX5, "read", "(LShedStages$Letters;LShedStages$Plan;)I"⟩
abbrev cX5_takeItem : ByteArray := prog_7_method_3_code
def yX5_takeItem : MethodName := ⟨RX5, "takeItem", "(LShedStages$Letters;IILShedStages$Plan;)Z"⟩
abbrev cX5_readNumbers : ByteArray := prog_7_method_4_code
def yX5_readNumbers : MethodName := ⟨RX5, "readNumbers", "(LShedStages$Letters;II)I"⟩
def RX6 : String := "ShedStages"
def TX6 : u_T := fun k => match k with
  | 0 => ("ShedStages", "text", "LShedStages$Letters;", true)
  | 1 => ("ShedStages", "reader", "LShedStages$Reader;", true)
  | 2 => ("ShedStages", "draft", "LShedStages$Plan;", true)
  | 3 => ("ShedStages", "plan", "LShedStages$Plan;", true)
  | 4 => ("ShedStages", "now", "LShedStages$Grid;", true)
  | 5 => ("ShedStages", "trial", "LShedStages$Grid;", true)
  | 6 => ("ShedStages", "course", "LShedStages$Course;", true)
  | 7 => ("ShedStages", "trialCourse", "LShedStages$Course;", true)
  | _ => ("ShedStages", "past", "LShedStages$Past;", true)
def tyX6 : Nat → FieldType := fun k => match k with
  | 0 => .object "ShedStages$Letters"
  | 1 => .object "ShedStages$Reader"
  | 2 => .object "ShedStages$Plan"
  | 3 => .object "ShedStages$Plan"
  | 4 => .object "ShedStages$Grid"
  | 5 => .object "ShedStages$Grid"
  | 6 => .object "ShedStages$Course"
  | 7 => .object "ShedStages$Course"
  | _ => .object "ShedStages$Past"
abbrev wsX60 : List Cond := u_ws RX6 TX6 9
theorem nmX6 : ∀ a, a < 9 → ∀ b, b < 9 → a ≠ b → (TX6 a).2.1 ≠ (TX6 b).2.1 := by decide +kernel
theorem tyX6_ok : ∀ k, k < 9 → parseFieldDescriptor (TX6 k).2.2.1 = some (tyX6 k) := by decide +kernel
abbrev cX6_init : ByteArray := prog_1_method_1_code
def yX6_init : MethodName := ⟨RX6, "<init>", "()V"⟩
abbrev cX6_write : ByteArray := prog_1_method_2_code
def yX6_write : MethodName := ⟨RX6, "write", "(I)I"⟩
abbrev cX6_wipe : ByteArray := prog_1_method_3_code
def yX6_wipe : MethodName := ⟨RX6, "wipe", "()I"⟩
abbrev cX6_fault : ByteArray := prog_1_method_4_code
def yX6_fault : MethodName := ⟨RX6, "fault", "()I"⟩
abbrev cX6_lay : ByteArray := prog_1_method_5_code
def yX6_lay : MethodName := ⟨RX6, "lay", "()I"⟩
abbrev cX6_tick : ByteArray := prog_1_method_6_code
def yX6_tick : MethodName := ⟨RX6, "tick", "(I)I"⟩
abbrev cX6_link : ByteArray := prog_1_method_7_code
def yX6_link : MethodName := ⟨RX6, "link", "(II)I"⟩
abbrev cX6_feeder : ByteArray := prog_1_method_8_code
def yX6_feeder : MethodName := ⟨RX6, "feeder", "(II)I"⟩
abbrev cX6_begin : ByteArray := prog_1_method_9_code
def yX6_begin : MethodName := ⟨RX6, "begin", "(I)I"⟩
abbrev cX6_mark : ByteArray := prog_1_method_10_code
def yX6_mark : MethodName := ⟨RX6, "mark", "(II)I"⟩
abbrev cX6_undo : ByteArray := prog_1_method_11_code
def yX6_undo : MethodName := ⟨RX6, "undo", "()I"⟩
abbrev cX6_island : ByteArray := prog_1_method_12_code
def yX6_island : MethodName := ⟨RX6, "island", "(II)I"⟩
abbrev cX6_counted : ByteArray := prog_1_method_13_code
def yX6_counted : MethodName := ⟨RX6, "counted", "(II)I"⟩
abbrev cX6_at : ByteArray := prog_1_method_14_code
def yX6_at : MethodName := ⟨RX6, "at", "(I)I"⟩
abbrev cX6_plant : ByteArray := prog_1_method_15_code
def yX6_plant : MethodName := ⟨RX6, "plant", "(I)I"⟩
abbrev cX6_isOn : ByteArray := prog_1_method_16_code
def yX6_isOn : MethodName := ⟨RX6, "isOn", "(I)I"⟩
abbrev cX6_isClosed : ByteArray := prog_1_method_17_code
def yX6_isClosed : MethodName := ⟨RX6, "isClosed", "(I)I"⟩
abbrev cX6_dropped : ByteArray := prog_1_method_18_code
def yX6_dropped : MethodName := ⟨RX6, "dropped", "(I)I"⟩
abbrev cX6_ahead : ByteArray := prog_1_method_19_code
def yX6_ahead : MethodName := ⟨RX6, "ahead", "(III)I"⟩
abbrev cX6_least : ByteArray := prog_1_method_20_code
def yX6_least : MethodName := ⟨RX6, "least", "(III)I"⟩
abbrev cX6_dark : ByteArray := prog_1_method_21_code
def yX6_dark : MethodName := ⟨RX6, "dark", "(I)I"⟩
abbrev cX6_count : ByteArray := prog_1_method_22_code
def yX6_count : MethodName := ⟨RX6, "count", "(I)I"⟩
abbrev cX6_isSwitch : ByteArray := prog_1_method_23_code
def yX6_isSwitch : MethodName := ⟨RX6, "isSwitch", "(I)Z"⟩
abbrev cX6_has : ByteArray := prog_1_method_24_code
def yX6_has : MethodName := ⟨RX6, "has", "(II)Z"⟩
abbrev cX6_leastSet : ByteArray := prog_1_method_25_code
def yX6_leastSet : MethodName := ⟨RX6, "leastSet", "(II)I"⟩
abbrev cX6_isLess : ByteArray := prog_1_method_26_code
def yX6_isLess : MethodName := ⟨RX6, "isLess", "(II)Z"⟩
abbrev cX6_holds : ByteArray := prog_1_method_27_code
def yX6_holds : MethodName := ⟨RX6, "holds", "(III)Z"⟩
def RX7 : String := "ShedStagesModel"
def TX7 : u_T := fun k => match k with
  | 0 => ("ShedStagesModel", "length", "I", false)
  | 1 => ("ShedStagesModel", "text", "[I", true)
  | 2 => ("ShedStagesModel", "many", "[I", true)
  | 3 => ("ShedStagesModel", "link", "[I", true)
  | 4 => ("ShedStagesModel", "plant", "[I", true)
  | 5 => ("ShedStagesModel", "feeder", "[I", true)
  | 6 => ("ShedStagesModel", "stage", "[I", true)
  | 7 => ("ShedStagesModel", "row", "[I", true)
  | 8 => ("ShedStagesModel", "was", "[I", true)
  | 9 => ("ShedStagesModel", "aside", "[I", true)
  | 10 => ("ShedStagesModel", "changes", "I", false)
  | 11 => ("ShedStagesModel", "value", "I", false)
  | 12 => ("ShedStagesModel", "ends", "I", false)
  | 13 => ("ShedStagesModel", "drops", "I", false)
  | 14 => ("ShedStagesModel", "dropLoad", "I", false)
  | 15 => ("ShedStagesModel", "backs", "I", false)
  | _ => ("ShedStagesModel", "dropSet", "I", false)
def tyX7 : Nat → FieldType := fun k => match k with
  | 0 => .int
  | 1 => .array .int
  | 2 => .array .int
  | 3 => .array .int
  | 4 => .array .int
  | 5 => .array .int
  | 6 => .array .int
  | 7 => .array .int
  | 8 => .array .int
  | 9 => .array .int
  | 10 => .int
  | 11 => .int
  | 12 => .int
  | 13 => .int
  | 14 => .int
  | 15 => .int
  | _ => .int
abbrev wsX70 : List Cond := u_ws RX7 TX7 17
theorem nmX7 : ∀ a, a < 17 → ∀ b, b < 17 → a ≠ b → (TX7 a).2.1 ≠ (TX7 b).2.1 := by decide +kernel
theorem tyX7_ok : ∀ k, k < 17 → parseFieldDescriptor (TX7 k).2.2.1 = some (tyX7 k) := by decide +kernel
abbrev cX7_init : ByteArray := prog_9_method_1_code
def yX7_init : MethodName := ⟨RX7, "<init>", "()V"⟩
abbrev cX7_isIn : ByteArray := prog_9_method_2_code
def yX7_isIn : MethodName := ⟨RX7, "isIn", "(III)Z"⟩
abbrev cX7_has : ByteArray := prog_9_method_3_code
def yX7_has : MethodName := ⟨RX7, "has", "(II)Z"⟩
abbrev cX7_clears : ByteArray := prog_9_method_4_code
def yX7_clears : MethodName := ⟨RX7, "clears", "()V"⟩
abbrev cX7_adds : ByteArray := prog_9_method_5_code
def yX7_adds : MethodName := ⟨RX7, "adds", "(IIIII)V"⟩
abbrev cX7_takes : ByteArray := prog_9_method_6_code
def yX7_takes : MethodName := ⟨RX7, "takes", "()V"⟩
abbrev cX7_begins : ByteArray := prog_9_method_7_code
def yX7_begins : MethodName := ⟨RX7, "begins", "(I)V"⟩
abbrev cX7_letterAt : ByteArray := prog_9_method_8_code
def yX7_letterAt : MethodName := ⟨RX7, "letterAt", "(I)I"⟩
abbrev cX7_number : ByteArray := prog_9_method_9_code
def yX7_number : MethodName := ⟨RX7, "number", "(III)Z"⟩
abbrev cX7_more : ByteArray := prog_9_method_10_code
def yX7_more : MethodName := ⟨RX7, "more", "(II)Z"⟩
abbrev cX7_readsLink : ByteArray := prog_9_method_11_code
def yX7_readsLink : MethodName := ⟨RX7, "readsLink", "(I)Z"⟩
abbrev cX7_readsPlant : ByteArray := prog_9_method_12_code
def yX7_readsPlant : MethodName := ⟨RX7, "readsPlant", "(I)Z"⟩
abbrev cX7_readsFeeder : ByteArray := prog_9_method_13_code
def yX7_readsFeeder : MethodName := ⟨RX7, "readsFeeder", "(I)Z"⟩
abbrev cX7_readsStage : ByteArray := prog_9_method_14_code
def yX7_readsStage : MethodName := ⟨RX7, "readsStage", "(I)Z"⟩
abbrev cX7_readsBack : ByteArray := prog_9_method_15_code
def yX7_readsBack : MethodName := ⟨RX7, "readsBack", "(I)Z"⟩
abbrev cX7_readsItem : ByteArray := prog_9_method_16_code
def yX7_readsItem : MethodName := ⟨RX7, "readsItem", "(IIZ)Z"⟩
abbrev cX7_reads : ByteArray := prog_9_method_17_code
def yX7_reads : MethodName := ⟨RX7, "reads", "()I"⟩
abbrev cX7_write : ByteArray := prog_9_method_18_code
def yX7_write : MethodName := ⟨RX7, "write", "(I)I"⟩
abbrev cX7_wipe : ByteArray := prog_9_method_19_code
def yX7_wipe : MethodName := ⟨RX7, "wipe", "()I"⟩
abbrev cX7_fault : ByteArray := prog_9_method_20_code
def yX7_fault : MethodName := ⟨RX7, "fault", "()I"⟩
abbrev cX7_lay : ByteArray := prog_9_method_21_code
def yX7_lay : MethodName := ⟨RX7, "lay", "()I"⟩
abbrev cX7_busesOf : ByteArray := prog_9_method_22_code
def yX7_busesOf : MethodName := ⟨RX7, "busesOf", "(I)I"⟩
abbrev cX7_isLowest : ByteArray := prog_9_method_23_code
def yX7_isLowest : MethodName := ⟨RX7, "isLowest", "(I)Z"⟩
abbrev cX7_islands : ByteArray := prog_9_method_24_code
def yX7_islands : MethodName := ⟨RX7, "islands", "()I"⟩
abbrev cX7_busOf : ByteArray := prog_9_method_25_code
def yX7_busOf : MethodName := ⟨RX7, "busOf", "(I)I"⟩
abbrev cX7_load : ByteArray := prog_9_method_26_code
def yX7_load : MethodName := ⟨RX7, "load", "(I)I"⟩
abbrev cX7_plants : ByteArray := prog_9_method_27_code
def yX7_plants : MethodName := ⟨RX7, "plants", "(II)I"⟩
abbrev cX7_aim : ByteArray := prog_9_method_28_code
def yX7_aim : MethodName := ⟨RX7, "aim", "(II)I"⟩
abbrev cX7_frequency : ByteArray := prog_9_method_29_code
def yX7_frequency : MethodName := ⟨RX7, "frequency", "(II)V"⟩
abbrev cX7_counts : ByteArray := prog_9_method_30_code
def yX7_counts : MethodName := ⟨RX7, "counts", "(III)V"⟩
abbrev cX7_drop : ByteArray := prog_9_method_31_code
def yX7_drop : MethodName := ⟨RX7, "drop", "(I)V"⟩
abbrev cX7_on : ByteArray := prog_9_method_32_code
def yX7_on : MethodName := ⟨RX7, "on", "(I)V"⟩
abbrev cX7_dropAll : ByteArray := prog_9_method_33_code
def yX7_dropAll : MethodName := ⟨RX7, "dropAll", "(II)Z"⟩
abbrev cX7_follow : ByteArray := prog_9_method_34_code
def yX7_follow : MethodName := ⟨RX7, "follow", "(II)V"⟩
abbrev cX7_goesDark : ByteArray := prog_9_method_35_code
def yX7_goesDark : MethodName := ⟨RX7, "goesDark", "(I)V"⟩
abbrev cX7_fitting : ByteArray := prog_9_method_36_code
def yX7_fitting : MethodName := ⟨RX7, "fitting", "(I)I"⟩
abbrev cX7_goes : ByteArray := prog_9_method_37_code
def yX7_goes : MethodName := ⟨RX7, "goes", "(I)V"⟩
abbrev cX7_ticks : ByteArray := prog_9_method_38_code
def yX7_ticks : MethodName := ⟨RX7, "ticks", "()V"⟩
abbrev cX7_fresh : ByteArray := prog_9_method_39_code
def yX7_fresh : MethodName := ⟨RX7, "fresh", "()V"⟩
abbrev cX7_keeps : ByteArray := prog_9_method_40_code
def yX7_keeps : MethodName := ⟨RX7, "keeps", "()V"⟩
abbrev cX7_undo : ByteArray := prog_9_method_41_code
def yX7_undo : MethodName := ⟨RX7, "undo", "()I"⟩
abbrev cX7_tick : ByteArray := prog_9_method_42_code
def yX7_tick : MethodName := ⟨RX7, "tick", "(I)I"⟩
abbrev cX7_canClose : ByteArray := prog_9_method_43_code
def yX7_canClose : MethodName := ⟨RX7, "canClose", "(II)Z"⟩
abbrev cX7_bothF : ByteArray := prog_9_method_44_code
def yX7_bothF : MethodName := ⟨RX7, "bothF", "(IIII)I"⟩
abbrev cX7_joins : ByteArray := prog_9_method_45_code
def yX7_joins : MethodName := ⟨RX7, "joins", "(II)V"⟩
abbrev cX7_link : ByteArray := prog_9_method_46_code
def yX7_link : MethodName := ⟨RX7, "link", "(II)I"⟩
abbrev cX7_feeder : ByteArray := prog_9_method_47_code
def yX7_feeder : MethodName := ⟨RX7, "feeder", "(II)I"⟩
abbrev cX7_isBus : ByteArray := prog_9_method_48_code
def yX7_isBus : MethodName := ⟨RX7, "isBus", "(I)Z"⟩
abbrev cX7_begin : ByteArray := prog_9_method_49_code
def yX7_begin : MethodName := ⟨RX7, "begin", "(I)I"⟩
abbrev cX7_mark : ByteArray := prog_9_method_50_code
def yX7_mark : MethodName := ⟨RX7, "mark", "(II)I"⟩
abbrev cX7_bits : ByteArray := prog_9_method_51_code
def yX7_bits : MethodName := ⟨RX7, "bits", "(I)I"⟩
abbrev cX7_feedersOf : ByteArray := prog_9_method_52_code
def yX7_feedersOf : MethodName := ⟨RX7, "feedersOf", "(I)I"⟩
abbrev cX7_island : ByteArray := prog_9_method_53_code
def yX7_island : MethodName := ⟨RX7, "island", "(II)I"⟩
abbrev cX7_counted : ByteArray := prog_9_method_54_code
def yX7_counted : MethodName := ⟨RX7, "counted", "(II)I"⟩
abbrev cX7_at : ByteArray := prog_9_method_55_code
def yX7_at : MethodName := ⟨RX7, "at", "(I)I"⟩
abbrev cX7_plant : ByteArray := prog_9_method_56_code
def yX7_plant : MethodName := ⟨RX7, "plant", "(I)I"⟩
abbrev cX7_isOn : ByteArray := prog_9_method_57_code
def yX7_isOn : MethodName := ⟨RX7, "isOn", "(I)I"⟩
abbrev cX7_isClosed : ByteArray := prog_9_method_58_code
def yX7_isClosed : MethodName := ⟨RX7, "isClosed", "(I)I"⟩
abbrev cX7_dropped : ByteArray := prog_9_method_59_code
def yX7_dropped : MethodName := ⟨RX7, "dropped", "(I)I"⟩
abbrev cX7_saves : ByteArray := prog_9_method_60_code
def yX7_saves : MethodName := ⟨RX7, "saves", "()V"⟩
abbrev cX7_restores : ByteArray := prog_9_method_61_code
def yX7_restores : MethodName := ⟨RX7, "restores", "()V"⟩
abbrev cX7_ahead : ByteArray := prog_9_method_62_code
def yX7_ahead : MethodName := ⟨RX7, "ahead", "(III)I"⟩
abbrev cX7_isBorne : ByteArray := prog_9_method_63_code
def yX7_isBorne : MethodName := ⟨RX7, "isBorne", "(III)Z"⟩
abbrev cX7_loadOf : ByteArray := prog_9_method_64_code
def yX7_loadOf : MethodName := ⟨RX7, "loadOf", "(I)I"⟩
abbrev cX7_least : ByteArray := prog_9_method_65_code
def yX7_least : MethodName := ⟨RX7, "least", "(III)I"⟩
abbrev cX7_dark : ByteArray := prog_9_method_66_code
def yX7_dark : MethodName := ⟨RX7, "dark", "(I)I"⟩
abbrev cX7_count : ByteArray := prog_9_method_67_code
def yX7_count : MethodName := ⟨RX7, "count", "(I)I"⟩
def RJ6 : String := "java/lang/Integer"
def TJ6 : u_T := fun k => match k with
  | _ => ("", "", "", false)
def tyJ6 : Nat → FieldType := fun k => match k with
  | _ => .int
theorem nmJ6 : ∀ a, a < 0 → ∀ b, b < 0 → a ≠ b → (TJ6 a).2.1 ≠ (TJ6 b).2.1 := by decide +kernel
theorem tyJ6_ok : ∀ k, k < 0 → parseFieldDescriptor (TJ6 k).2.2.1 = some (tyJ6 k) := by decide +kernel
abbrev cJ6_compare_7cf53 : ByteArray := prog_10_method_40_code
def yJ6_compare_7cf53 : MethodName := ⟨RJ6, "compare", "(II)I"⟩
abbrev cJ6_bitCount_0f7a4 : ByteArray := prog_10_method_49_code
def yJ6_bitCount_0f7a4 : MethodName := ⟨RJ6, "bitCount", "(I)I"⟩
def RJ9 : String := "java/lang/Math"
def TJ9 : u_T := fun k => match k with
  | _ => ("", "", "", false)
def tyJ9 : Nat → FieldType := fun k => match k with
  | _ => .int
theorem nmJ9 : ∀ a, a < 0 → ∀ b, b < 0 → a ≠ b → (TJ9 a).2.1 ≠ (TJ9 b).2.1 := by decide +kernel
theorem tyJ9_ok : ∀ k, k < 0 → parseFieldDescriptor (TJ9 k).2.2.1 = some (tyJ9 k) := by decide +kernel
abbrev cJ9_abs_0f7a4 : ByteArray := prog_11_method_59_code
def yJ9_abs_0f7a4 : MethodName := ⟨RJ9, "abs", "(I)I"⟩
abbrev cJ9_max_7cf53 : ByteArray := prog_11_method_65_code
def yJ9_max_7cf53 : MethodName := ⟨RJ9, "max", "(II)I"⟩
abbrev cJ9_min_7cf53 : ByteArray := prog_11_method_69_code
def yJ9_min_7cf53 : MethodName := ⟨RJ9, "min", "(II)I"⟩
def RJ0 : String := "java/lang/String"
def TJ0 : u_T := fun k => match k with
  | _ => ("", "", "", false)
def tyJ0 : Nat → FieldType := fun k => match k with
  | _ => .int
theorem nmJ0 : ∀ a, a < 0 → ∀ b, b < 0 → a ≠ b → (TJ0 a).2.1 ≠ (TJ0 b).2.1 := by decide +kernel
theorem tyJ0_ok : ∀ k, k < 0 → parseFieldDescriptor (TJ0 k).2.2.1 = some (tyJ0 k) := by decide +kernel
abbrev cJ0_length_8abf5 : ByteArray := prog_12_method_54_code
def yJ0_length_8abf5 : MethodName := ⟨RJ0, "length", "()I"⟩
abbrev cJ0_charAt_5068e : ByteArray := prog_12_method_56_code
def yJ0_charAt_5068e : MethodName := ⟨RJ0, "charAt", "(I)C"⟩
abbrev cJ0_coder_7d493 : ByteArray := prog_12_method_152_code
def yJ0_coder_7d493 : MethodName := ⟨RJ0, "coder", "()B"⟩
abbrev cJ0_isLatin1_aae02 : ByteArray := prog_12_method_154_code
def yJ0_isLatin1_aae02 : MethodName := ⟨RJ0, "isLatin1", "()Z"⟩
abbrev cJ0_checkIndex_df160 : ByteArray := prog_12_method_155_code
def yJ0_checkIndex_df160 : MethodName := ⟨RJ0, "checkIndex", "(II)V"⟩
def RJ1 : String := "java/lang/StringLatin1"
def TJ1 : u_T := fun k => match k with
  | _ => ("", "", "", false)
def tyJ1 : Nat → FieldType := fun k => match k with
  | _ => .int
theorem nmJ1 : ∀ a, a < 0 → ∀ b, b < 0 → a ≠ b → (TJ1 a).2.1 ≠ (TJ1 b).2.1 := by decide +kernel
theorem tyJ1_ok : ∀ k, k < 0 → parseFieldDescriptor (TJ1 k).2.2.1 = some (tyJ1 k) := by decide +kernel
abbrev cJ1_charAt_3b067 : ByteArray := prog_13_method_2_code
def yJ1_charAt_3b067 : MethodName := ⟨RJ1, "charAt", "([BI)C"⟩
def RJ2 : String := "java/lang/StringUTF16"
def TJ2 : u_T := fun k => match k with
  | _ => ("", "", "", false)
def tyJ2 : Nat → FieldType := fun k => match k with
  | _ => .int
theorem nmJ2 : ∀ a, a < 0 → ∀ b, b < 0 → a ≠ b → (TJ2 a).2.1 ≠ (TJ2 b).2.1 := by decide +kernel
theorem tyJ2_ok : ∀ k, k < 0 → parseFieldDescriptor (TJ2 k).2.2.1 = some (tyJ2 k) := by decide +kernel
abbrev cJ2_getChar_3b067 : ByteArray := prog_14_method_5_code
def yJ2_getChar_3b067 : MethodName := ⟨RJ2, "getChar", "([BI)C"⟩
abbrev cJ2_length_9d52b : ByteArray := prog_14_method_6_code
def yJ2_length_9d52b : MethodName := ⟨RJ2, "length", "([B)I"⟩
abbrev cJ2_charAt_3b067 : ByteArray := prog_14_method_83_code
def yJ2_charAt_3b067 : MethodName := ⟨RJ2, "charAt", "([BI)C"⟩
abbrev cJ2_checkIndex_2214a : ByteArray := prog_14_method_91_code
def yJ2_checkIndex_2214a : MethodName := ⟨RJ2, "checkIndex", "(I[B)V"⟩
def RJ10 : String := "java/lang/System"
def TJ10 : u_T := fun k => match k with
  | _ => ("", "", "", false)
def tyJ10 : Nat → FieldType := fun k => match k with
  | _ => .int
theorem nmJ10 : ∀ a, a < 0 → ∀ b, b < 0 → a ≠ b → (TJ10 a).2.1 ≠ (TJ10 b).2.1 := by decide +kernel
theorem tyJ10_ok : ∀ k, k < 0 → parseFieldDescriptor (TJ10 k).2.2.1 = some (tyJ10 k) := by decide +kernel
def RJ3 : String := "jdk/internal/util/Preconditions"
def TJ3 : u_T := fun k => match k with
  | _ => ("", "", "", false)
def tyJ3 : Nat → FieldType := fun k => match k with
  | _ => .int
theorem nmJ3 : ∀ a, a < 0 → ∀ b, b < 0 → a ≠ b → (TJ3 a).2.1 ≠ (TJ3 b).2.1 := by decide +kernel
theorem tyJ3_ok : ∀ k, k < 0 → parseFieldDescriptor (TJ3 k).2.2.1 = some (tyJ3 k) := by decide +kernel
abbrev cJ3_checkIndex_8e157 : ByteArray := prog_16_method_11_code
def yJ3_checkIndex_8e157 : MethodName := ⟨RJ3, "checkIndex", "(IILjava/util/function/BiFunction;)I"⟩
def RL : String := "ShedStagesLaw"
abbrev cL_law : ByteArray := code
def yL_law : MethodName := ⟨RL, "law", "([I)Z"⟩
abbrev vwCl : List vw_C := [(RX0, TX0, 5), (RX1, TX1, 12), (RX2, TX2, 2), (RX3, TX3, 3), (RX4, TX4, 16), (RX5, TX5, 1), (RX6, TX6, 9), (RX7, TX7, 17)]
end
section
/-! THE CORE: a state of the class or of the reference after its making is a fixed list of cells ('sh': what each is) and the ints in them ('h'); a method's meaning is an Option of its answer and of the ints behind it; 'zG' says that the machine, at a frame, comes to what such an Option holds. -/
def zWd : List Cond := lw_tbl.filter goodWord
theorem zmem {w : Cond} (i : Nat) (h : lw_tbl[i]? = some w) (g : goodWord w = true) : w ∈ zWd := List.mem_filter.mpr ⟨List.mem_of_getElem? h, g⟩
theorem z_good {a b : Cond} (hb : b ∈ zWd) : GoodIn (a :: zWd) (b :: zWd) := by
  have k : ∀ w ∈ zWd, (w.onTables && w.keeps) = true ∨ ∃ ty, w = .arrayClass ty := fun w h => good_of_word (List.mem_filter.mp h).2
  intro w hw
  rcases List.mem_cons.mp hw with h | h
  · subst h; exact ⟨List.mem_cons_of_mem _ hb, k _ hb⟩
  · exact ⟨List.mem_cons_of_mem _ h, k _ h⟩
/-- the private methods of nest mates -/
def zNs : List (String × Nat × MethodName) := [(RX0, 117, yX6_has), (RX1, 102, yX6_has), (RX4, 76, yX6_has)]
def zNw (U : State) : Prop := ∀ q ∈ zNs, va_Nw (.methodLinkNest q.1 q.2.1 q.2.2 "ShedStages") U
theorem zNw.warm {s U : State} (hW : s.WarmedH U.vm) (h : zNw s) : zNw U := fun q hq => va_Nw.warmM hW (h q hq)
theorem zNw.same {u U : State} (hv : u.vm = U.vm) (h : zNw u) : zNw U := fun q hq => va_Nw.same rfl hv (h q hq)
abbrev zH : Type := Nat → Nat → Int32
abbrev zK : Type := Nat ⊕ ((Nat × List (Option Nat)) ⊕ List Nat)
def zF1 (ad : Nat → Nat) (h : zH) (k j : Nat) (o : Option Nat) : Value := match o with
  | none => .int (h k j)
  | some q => .ref (ad q)
def zF (ad : Nat → Nat) (h : zH) (k : Nat) (fs : List (Option Nat)) : List Value := fs.mapIdx (fun j o => zF1 ad h k j o)
def zE (cI cG : ClassId) (ad : Nat → Nat) (h : zH) (k : Nat) (x : zK) : va_E := match x with
  | .inl n => .inl (cI, n, .inl (h k))
  | .inr (.inl q) => .inr (q.1, zF ad h k q.2)
  | .inr (.inr L) => .inl (cG, L.length, .inr (.inr (.inr (.inr (fun j => (L[j]?).map ad)))))
def zW (cI cG : ClassId) (ad : Nat → Nat) (sh : List zK) (h : zH) : va_W := sh.mapIdx (fun k x => (ad k, zE cI cG ad h k x))
theorem zW_at {cI cG : ClassId} {ad : Nat → Nat} {sh : List zK} {h : zH} {k : Nat} {x : zK} (hk : sh[k]? = some x) : (zW cI cG ad sh h)[k]? = some (ad k, zE cI cG ad h k x) := by
  simp [zW, List.getElem?_mapIdx, hk]
def upd2 (h : zH) (a i : Nat) (v : Int32) : zH := fun k => if k = a then upd (h a) i v else h k
theorem zW_set {cI cG : ClassId} {ad : Nat → Nat} {sh : List zK} {h h' : zH} {a : Nat} {x : zK} (ha : sh[a]? = some x) (hh : ∀ k, k ≠ a → h' k = h k) : (zW cI cG ad sh h).set a (ad a, zE cI cG ad h' a x) = zW cI cG ad sh h' := by
  apply List.ext_getElem?
  intro k
  by_cases hk : k = a
  · subst hk
    rw [zW_at ha, List.getElem?_set_self]
    simp [zW]
    exact (List.getElem?_eq_some_iff.mp ha).1
  · rw [List.getElem?_set_ne (Ne.symm hk)]
    simp only [zW, List.getElem?_mapIdx]
    cases hs : sh[k]? with
    | none => rfl
    | some y =>
      simp only [Option.map_some]
      congr 2
      have e := hh k hk
      rcases y with n | q | L
      · simp only [zE, e]
      · simp only [zE, zF]
        congr 2
        apply List.ext_getElem?
        intro j
        simp only [List.getElem?_mapIdx]
        cases q.2[j]? with
        | none => rfl
        | some o => cases o <;> simp [zF1, e]
      · rfl
def zA (ad : Nat → Nat) (sh : List zK) : Nat → Prop := fun q => ∃ k, k < sh.length ∧ q = ad k
def zJ (ad : Nat → Nat) (sh : List zK) : Prop := ∀ i j, i < sh.length → j < sh.length → ad i = ad j → i = j
theorem zJ.D {cI cG : ClassId} {ad : Nat → Nat} {sh : List zK} {h : zH} (hj : zJ ad sh) : va_D (zA ad sh) (zW cI cG ad sh h) := by
  have key : ∀ (k : Nat) (q : Nat × va_E), (zW cI cG ad sh h)[k]? = some q → k < sh.length ∧ q.1 = ad k := by
    intro k q hk
    simp only [zW, List.getElem?_mapIdx] at hk
    cases hs : sh[k]? with
    | none => rw [hs] at hk; cases hk
    | some y =>
      rw [hs] at hk
      simp only [Option.map_some, Option.some.injEq] at hk
      exact ⟨(List.getElem?_eq_some_iff.mp hs).1, by rw [← hk]⟩
  refine ⟨fun i j p q hi hj' e => ?_, fun k q hk => ?_⟩
  · obtain ⟨a1, b1⟩ := key i p hi
    obtain ⟨a2, b2⟩ := key j q hj'
    exact hj i j a1 a2 (by rw [← b1, ← b2]; exact e)
  · obtain ⟨a1, b1⟩ := key k q hk
    exact ⟨k, a1, b1⟩
/-- locals: what each place holds, where that is known -/
def zL (ls : Array Slot) (nL : Nat) (lv : List (Option Value)) : Prop := ls.size = nL ∧ lv_wf ls ∧ ∀ (k : Nat) (v : Value), lv[k]? = some (some v) → ls[k]? = some (.val v) ∧ v.category = 1
def zl1 (lv : List (Option Value)) : List (Nat × Value) := (List.range lv.length).filterMap (fun k => match lv[k]? with
  | some (some v) => some (k, v)
  | _ => none)
theorem zl1_mem {lv : List (Option Value)} {q : Nat × Value} : q ∈ zl1 lv ↔ lv[q.1]? = some (some q.2) := by
  simp only [zl1, List.mem_filterMap, List.mem_range]
  constructor
  · rintro ⟨k, -, h⟩
    split at h
    · cases h; assumption
    · cases h
  · intro h
    refine ⟨q.1, (List.getElem?_eq_some_iff.mp h).1, ?_⟩
    rw [h]
theorem zL.has {ls : Array Slot} {nL : Nat} {lv : List (Option Value)} (h : zL ls nL lv) : lv_has ls nL (zl1 lv) := ⟨h.1, h.2.1, fun q hq => (h.2.2 q.1 q.2 (zl1_mem.mp hq)).1⟩
theorem zL.store {ls : Array Slot} {nL : Nat} {lv : List (Option Value)} {i : Nat} {v : Value} (h : zL ls nL lv) (hi : i < nL) (hc : v.category = 1) : ∃ ls', storeLocals ls i v = some ls' ∧ zL ls' nL (lv.set i (some v)) := by
  obtain ⟨ls', e, h1, h2, h3⟩ := lv_store1 h.has hi hc
  refine ⟨ls', e, h1, h2, fun k w hk => ?_⟩
  by_cases hki : k = i
  · subst hki
    have hw : w = v := by
      by_cases hl : k < lv.length
      · rw [List.getElem?_set_self hl] at hk; cases hk; rfl
      · rw [List.getElem?_eq_none (by simp; omega)] at hk; cases hk
    subst hw
    exact ⟨h3 (k, w) List.mem_cons_self, hc⟩
  · rw [List.getElem?_set_ne (Ne.symm hki)] at hk
    have hcat := (h.2.2 k w hk).2
    refine ⟨h3 (k, w) (List.mem_cons_of_mem _ (List.mem_filter.mpr ⟨zl1_mem.mpr hk, ?_⟩)), hcat⟩
    simp [hki, hcat]
theorem zL.weak {ls : Array Slot} {nL : Nat} {lv lv' : List (Option Value)} (h : zL ls nL lv) (hw : ∀ (k : Nat) (v : Value), lv'[k]? = some (some v) → lv[k]? = some (some v)) : zL ls nL lv' := ⟨h.1, h.2.1, fun k v hk => h.2.2 k v (hw k v hk)⟩
/-- a method's answer and the ints behind it, out of what its function gives -/
abbrev zR (d : Nat) : Room := { frames := d, cells := 0, slots := 0, locals := 35 * d }
def zQ (D : va_G) (cI cG : ClassId) (ad : Nat → Nat) (sh : List zK) (x : Option Value × zH) : Array Value → State → Outcome → State → Prop := fun _ st oc t => oc = .returned x.1 ∧ va_P D vwCl (zW cI cG ad sh x.2) t.heap ∧ va_F (zA ad sh) st t
/-- the machine's own things at a frame -/
abbrev zX : Type := Program × Launch × Env × Room × State × MethodId × Array Value × List Frame × Method × Code × Nat × va_G × ClassId × ClassId
abbrev zTy (cI cG : ClassId) : List (ClassId × FieldType) := [(cI, .int), (cG, .object RX1)]
def zC (X : zX) (ad : Nat → Nat) (sh : List zK) (cc : ByteArray) (own : String) (ret : Option FieldType) (d : Nat) : Prop := match X with
  | (p, _, _, R, s, m, args, _, meth, c, nL, D, cI, cG) => p.tables.exec = Jvm.exec ∧ c.code = cc ∧ c.maxLocals = nL ∧ s.vm.findClass own = some m.cls ∧ (∀ w ∈ zWd, w.before args s = true) ∧ va_K D vwCl (zTy cI cG) s ∧ zNw s ∧ meth.locks = false ∧ meth.sig.returnType = ret ∧ zJ ad sh ∧ R = zR d
def zG {ρ : Type} (X : zX) (ad : Nat → Nat) (sh : List zK) (emb : ρ → Option Value × zH) (pc : Nat) (lv : List (Option Value)) (st : List Value) (h : zH) (o : Option ρ) : Prop := match X with
  | (p, l, e, R, s, m, args, below, meth, c, nL, D, cI, cG) => ∀ x, o = some x → ∀ (H : Heap) (locs : List Loc) (ls : Array Slot), va_P D vwCl (zW cI cG ad sh h) H → va_S (zA ad sh) s.heap H locs → zL ls nL lv →
    W p l e R s m args below meth c H locs 0 0 (MQ below (zQ D cI cG ad sh (emb x)) args s 0 0 (zA ad sh)) (F0 m pc ls st)
/-- an instruction at its place, and the place behind it -/
def zI (cc : ByteArray) (pc : Nat) (i : Instr) (n q : Nat) : Prop := decode cc pc = .ok (i, n) ∧ pc + n = q
/-- a guard: what the machine tests by itself -/
def gd {ρ : Type} (b : Bool) (o : Option ρ) : Option ρ := match b with
  | true => o
  | false => none
theorem gd_true {ρ : Type} (o : Option ρ) : gd true o = o := rfl
theorem gd_some {ρ : Type} {b : Bool} {o : Option ρ} {x : ρ} (h : gd b o = some x) : b = true ∧ o = some x := by
  cases b with
  | true => exact ⟨rfl, h⟩
  | false => cases h
def zr (i : Int32) (n : Nat) : Bool := !(decide (i < 0) || decide (n ≤ i.toNatClampNeg))
theorem zr_in {i : Int32} {n : Nat} (h : zr i n = true) : vp_in i n := by
  simp only [zr, Bool.not_eq_true', Bool.or_eq_false_iff, decide_eq_false_iff_not] at h
  exact fun q => q.elim h.1 h.2
def zlet {α ρ : Type} (e : α) (f : α → Option ρ) : Option ρ := f e
def zmin (x y : Int32) : Int32 := if y < x then y else x
def zmax (x y : Int32) : Int32 := if x < y then y else x
def zabs (x : Int32) : Int32 := if 0 ≤ x then x else 0 - x
end
section
def zshl (x y : Int32) : Int32 := x <<< (y &&& 31)
def zshr (x y : Int32) : Int32 := x >>> (y &&& 31)
def zushr (x y : Int32) : Int32 := (x.toUInt32 >>> (y.toUInt32 &&& Int32.toUInt32 31)).toInt32
def zrem (x y : Int32) : Int32 := x - x / y * y
section ZR
variable {ρ : Type} {X : zX} {ad : Nat → Nat} {sh : List zK} {cc : ByteArray} {own : String} {ret : Option FieldType} {d : Nat} {emb : ρ → Option Value × zH} {pc q : Nat} {lv : List (Option Value)} {st : List Value} {h : zH} {o : Option ρ}
theorem g_ite {c : Prop} {ic : Decidable c} {o1 o2 : Option ρ} (k1 : c → zG X ad sh emb pc lv st h o1) (k2 : ¬ c → zG X ad sh emb pc lv st h o2) : zG X ad sh emb pc lv st h (@ite _ c ic o1 o2) := by
  by_cases hc : c
  · rw [if_pos hc]; exact k1 hc
  · rw [if_neg hc]; exact k2 hc
theorem g_none : zG X ad sh emb pc lv st h none := by
  obtain ⟨p, l, e, R, s, m, args, below, meth, c, nL, D, cI, cG⟩ := X
  intro x hx; cases hx
theorem g_weak {lv' : List (Option Value)} (hw : ∀ (k : Nat) (v : Value), lv'[k]? = some (some v) → lv[k]? = some (some v)) (k : zG X ad sh emb pc lv' st h o) : zG X ad sh emb pc lv st h o := by
  obtain ⟨p, l, e, R, s, m, args, below, meth, c, nL, D, cI, cG⟩ := X
  intro x hx H locs ls hP hS hL
  exact k x hx H locs ls hP hS (hL.weak hw)
def zsub : List (Option Value) → List (Option Value) → Prop
  | [], _ => True
  | none :: a, _ :: b => zsub a b
  | some v :: a, w :: b => some v = w ∧ zsub a b
  | _ :: _, [] => False
theorem zsub_ok : ∀ {a b : List (Option Value)}, zsub a b → ∀ (k : Nat) (v : Value), a[k]? = some (some v) → b[k]? = some (some v)
  | [], _, _, k, v, h => by simp at h
  | none :: a, _ :: b, hs, k, v, h => by
    cases k with
    | zero => simp at h
    | succ k => simp only [List.getElem?_cons_succ] at h ⊢; exact zsub_ok (a := a) hs k v h
  | some w :: a, y :: b, hs, k, v, h => by
    cases k with
    | zero => simp only [List.getElem?_cons_zero] at h ⊢; cases h; rw [hs.1]
    | succ k => simp only [List.getElem?_cons_succ] at h ⊢; exact zsub_ok (a := a) hs.2 k v h
  | _ :: _, [], hs, k, v, h => by exact absurd hs (by simp [zsub])
theorem g_sub {lv' : List (Option Value)} (hw : zsub lv' lv) (k : zG X ad sh emb pc lv' st h o) : zG X ad sh emb pc lv st h o := g_weak (zsub_ok hw) k
theorem g_iconst (C : zC X ad sh cc own ret d) {n : Int} (v : Int32) (i : zI cc pc (.iconst n) 1 q) (hv : Int32.ofInt n = v) (k : zG X ad sh emb q lv (.int v :: st) h o) : zG X ad sh emb pc lv (st) h o := by
  obtain ⟨p, l, e, R, s, m, args, below, meth, c, nL, D, cI, cG⟩ := X
  obtain ⟨hx, hb, hml, hown, hts, hK, hN, hlk, hr, hj, hR⟩ := C
  obtain ⟨di, rfl⟩ := i
  intro x9 hx9 H locs ls hP hS hL
  exact lv_iconst hx hb di hv (k x9 hx9 H locs ls hP hS hL)
theorem g_bipush (C : zC X ad sh cc own ret d) {n : Int} (v : Int32) (i : zI cc pc (.bipush n) 2 q) (hv : (Int8.ofInt n).toInt32 = v) (k : zG X ad sh emb q lv (.int v :: st) h o) : zG X ad sh emb pc lv (st) h o := by
  obtain ⟨p, l, e, R, s, m, args, below, meth, c, nL, D, cI, cG⟩ := X
  obtain ⟨hx, hb, hml, hown, hts, hK, hN, hlk, hr, hj, hR⟩ := C
  obtain ⟨di, rfl⟩ := i
  intro x9 hx9 H locs ls hP hS hL
  exact lv_bipush hx hb di hv (k x9 hx9 H locs ls hP hS hL)
theorem g_sipush (C : zC X ad sh cc own ret d) {n : Int} (v : Int32) (i : zI cc pc (.sipush n) 3 q) (hv : (Int16.ofInt n).toInt32 = v) (k : zG X ad sh emb q lv (.int v :: st) h o) : zG X ad sh emb pc lv (st) h o := by
  obtain ⟨p, l, e, R, s, m, args, below, meth, c, nL, D, cI, cG⟩ := X
  obtain ⟨hx, hb, hml, hown, hts, hK, hN, hlk, hr, hj, hR⟩ := C
  obtain ⟨di, rfl⟩ := i
  intro x9 hx9 H locs ls hP hS hL
  exact lv_sipush hx hb di hv (k x9 hx9 H locs ls hP hS hL)
theorem g_iload_n (C : zC X ad sh cc own ret d) {k : Fin 4} {x : Int32} (i : zI cc pc (.iload_n k) 1 q) (hl : lv[(k : Nat)]? = some (some (.int x))) (k : zG X ad sh emb q lv (.int x :: st) h o) : zG X ad sh emb pc lv (st) h o := by
  obtain ⟨p, l, e, R, s, m, args, below, meth, c, nL, D, cI, cG⟩ := X
  obtain ⟨hx, hb, hml, hown, hts, hK, hN, hlk, hr, hj, hR⟩ := C
  obtain ⟨di, rfl⟩ := i
  intro x9 hx9 H locs ls hP hS hL
  exact lv_iload_n hx hb di rfl (hL.2.2 _ _ hl).1 (k x9 hx9 H locs ls hP hS hL)
theorem g_iload (C : zC X ad sh cc own ret d) {k : Nat} {x : Int32} (i : zI cc pc (.iload k) 2 q) (hl : lv[k]? = some (some (.int x))) (k : zG X ad sh emb q lv (.int x :: st) h o) : zG X ad sh emb pc lv (st) h o := by
  obtain ⟨p, l, e, R, s, m, args, below, meth, c, nL, D, cI, cG⟩ := X
  obtain ⟨hx, hb, hml, hown, hts, hK, hN, hlk, hr, hj, hR⟩ := C
  obtain ⟨di, rfl⟩ := i
  intro x9 hx9 H locs ls hP hS hL
  exact lv_iload hx hb di (hL.2.2 _ _ hl).1 (k x9 hx9 H locs ls hP hS hL)
theorem g_aload_n (C : zC X ad sh cc own ret d) {k : Fin 4} {x : Nat} (i : zI cc pc (.aload_n k) 1 q) (hl : lv[(k : Nat)]? = some (some (.ref x))) (k : zG X ad sh emb q lv (.ref x :: st) h o) : zG X ad sh emb pc lv (st) h o := by
  obtain ⟨p, l, e, R, s, m, args, below, meth, c, nL, D, cI, cG⟩ := X
  obtain ⟨hx, hb, hml, hown, hts, hK, hN, hlk, hr, hj, hR⟩ := C
  obtain ⟨di, rfl⟩ := i
  intro x9 hx9 H locs ls hP hS hL
  exact lv_aload_n hx hb di rfl (hL.2.2 _ _ hl).1 (k x9 hx9 H locs ls hP hS hL)
theorem g_aload (C : zC X ad sh cc own ret d) {k : Nat} {x : Nat} (i : zI cc pc (.aload k) 2 q) (hl : lv[k]? = some (some (.ref x))) (k : zG X ad sh emb q lv (.ref x :: st) h o) : zG X ad sh emb pc lv (st) h o := by
  obtain ⟨p, l, e, R, s, m, args, below, meth, c, nL, D, cI, cG⟩ := X
  obtain ⟨hx, hb, hml, hown, hts, hK, hN, hlk, hr, hj, hR⟩ := C
  obtain ⟨di, rfl⟩ := i
  intro x9 hx9 H locs ls hP hS hL
  exact lv_aload hx hb di (hL.2.2 _ _ hl).1 (k x9 hx9 H locs ls hP hS hL)
theorem g_iadd (C : zC X ad sh cc own ret d) {x y : Int32} (i : zI cc pc .iadd 1 q) (k : zG X ad sh emb q lv (.int (x + y) :: st) h o) : zG X ad sh emb pc lv (.int y :: .int x :: st) h o := by
  obtain ⟨p, l, e, R, s, m, args, below, meth, c, nL, D, cI, cG⟩ := X
  obtain ⟨hx, hb, hml, hown, hts, hK, hN, hlk, hr, hj, hR⟩ := C
  obtain ⟨di, rfl⟩ := i
  intro x9 hx9 H locs ls hP hS hL
  exact lv_iadd hx hb di (k x9 hx9 H locs ls hP hS hL)
theorem g_isub (C : zC X ad sh cc own ret d) {x y : Int32} (i : zI cc pc .isub 1 q) (k : zG X ad sh emb q lv (.int (x - y) :: st) h o) : zG X ad sh emb pc lv (.int y :: .int x :: st) h o := by
  obtain ⟨p, l, e, R, s, m, args, below, meth, c, nL, D, cI, cG⟩ := X
  obtain ⟨hx, hb, hml, hown, hts, hK, hN, hlk, hr, hj, hR⟩ := C
  obtain ⟨di, rfl⟩ := i
  intro x9 hx9 H locs ls hP hS hL
  exact lv_isub hx hb di (k x9 hx9 H locs ls hP hS hL)
theorem g_imul (C : zC X ad sh cc own ret d) {x y : Int32} (i : zI cc pc .imul 1 q) (k : zG X ad sh emb q lv (.int (x * y) :: st) h o) : zG X ad sh emb pc lv (.int y :: .int x :: st) h o := by
  obtain ⟨p, l, e, R, s, m, args, below, meth, c, nL, D, cI, cG⟩ := X
  obtain ⟨hx, hb, hml, hown, hts, hK, hN, hlk, hr, hj, hR⟩ := C
  obtain ⟨di, rfl⟩ := i
  intro x9 hx9 H locs ls hP hS hL
  exact lv_imul hx hb di (k x9 hx9 H locs ls hP hS hL)
theorem g_iand (C : zC X ad sh cc own ret d) {x y : Int32} (i : zI cc pc .iand 1 q) (k : zG X ad sh emb q lv (.int (x &&& y) :: st) h o) : zG X ad sh emb pc lv (.int y :: .int x :: st) h o := by
  obtain ⟨p, l, e, R, s, m, args, below, meth, c, nL, D, cI, cG⟩ := X
  obtain ⟨hx, hb, hml, hown, hts, hK, hN, hlk, hr, hj, hR⟩ := C
  obtain ⟨di, rfl⟩ := i
  intro x9 hx9 H locs ls hP hS hL
  exact lv_iand hx hb di (k x9 hx9 H locs ls hP hS hL)
theorem g_ior (C : zC X ad sh cc own ret d) {x y : Int32} (i : zI cc pc .ior 1 q) (k : zG X ad sh emb q lv (.int (x ||| y) :: st) h o) : zG X ad sh emb pc lv (.int y :: .int x :: st) h o := by
  obtain ⟨p, l, e, R, s, m, args, below, meth, c, nL, D, cI, cG⟩ := X
  obtain ⟨hx, hb, hml, hown, hts, hK, hN, hlk, hr, hj, hR⟩ := C
  obtain ⟨di, rfl⟩ := i
  intro x9 hx9 H locs ls hP hS hL
  exact lv_ior hx hb di (k x9 hx9 H locs ls hP hS hL)
theorem g_ixor (C : zC X ad sh cc own ret d) {x y : Int32} (i : zI cc pc .ixor 1 q) (k : zG X ad sh emb q lv (.int (x ^^^ y) :: st) h o) : zG X ad sh emb pc lv (.int y :: .int x :: st) h o := by
  obtain ⟨p, l, e, R, s, m, args, below, meth, c, nL, D, cI, cG⟩ := X
  obtain ⟨hx, hb, hml, hown, hts, hK, hN, hlk, hr, hj, hR⟩ := C
  obtain ⟨di, rfl⟩ := i
  intro x9 hx9 H locs ls hP hS hL
  exact lv_ixor hx hb di (k x9 hx9 H locs ls hP hS hL)
theorem g_ineg (C : zC X ad sh cc own ret d) {x : Int32} (i : zI cc pc .ineg 1 q) (k : zG X ad sh emb q lv (.int (-x) :: st) h o) : zG X ad sh emb pc lv (.int x :: st) h o := by
  obtain ⟨p, l, e, R, s, m, args, below, meth, c, nL, D, cI, cG⟩ := X
  obtain ⟨hx, hb, hml, hown, hts, hK, hN, hlk, hr, hj, hR⟩ := C
  obtain ⟨di, rfl⟩ := i
  intro x9 hx9 H locs ls hP hS hL
  exact lv_ineg hx hb di (k x9 hx9 H locs ls hP hS hL)
theorem g_dup (C : zC X ad sh cc own ret d) {v : Value} (i : zI cc pc .dup 1 q) (hv : v.category = 1) (k : zG X ad sh emb q lv (v :: v :: st) h o) : zG X ad sh emb pc lv (v :: st) h o := by
  obtain ⟨p, l, e, R, s, m, args, below, meth, c, nL, D, cI, cG⟩ := X
  obtain ⟨hx, hb, hml, hown, hts, hK, hN, hlk, hr, hj, hR⟩ := C
  obtain ⟨di, rfl⟩ := i
  intro x9 hx9 H locs ls hP hS hL
  exact lv_dup hx hb di hv (k x9 hx9 H locs ls hP hS hL)
theorem g_dup2 (C : zC X ad sh cc own ret d) {v w : Value} (i : zI cc pc .dup2 1 q) (hv : v.category = 1) (hw : w.category = 1) (k : zG X ad sh emb q lv (v :: w :: v :: w :: st) h o) : zG X ad sh emb pc lv (v :: w :: st) h o := by
  obtain ⟨p, l, e, R, s, m, args, below, meth, c, nL, D, cI, cG⟩ := X
  obtain ⟨hx, hb, hml, hown, hts, hK, hN, hlk, hr, hj, hR⟩ := C
  obtain ⟨di, rfl⟩ := i
  intro x9 hx9 H locs ls hP hS hL
  exact lv_dup2_11 hx hb di hv hw (k x9 hx9 H locs ls hP hS hL)
theorem g_pop (C : zC X ad sh cc own ret d) {v : Value} (i : zI cc pc .pop 1 q) (hv : v.category = 1) (k : zG X ad sh emb q lv (st) h o) : zG X ad sh emb pc lv (v :: st) h o := by
  obtain ⟨p, l, e, R, s, m, args, below, meth, c, nL, D, cI, cG⟩ := X
  obtain ⟨hx, hb, hml, hown, hts, hK, hN, hlk, hr, hj, hR⟩ := C
  obtain ⟨di, rfl⟩ := i
  intro x9 hx9 H locs ls hP hS hL
  exact lv_pop hx hb di hv (k x9 hx9 H locs ls hP hS hL)
theorem g_ishl (C : zC X ad sh cc own ret d) {x y : Int32} (i : zI cc pc .ishl 1 q) (k : zG X ad sh emb q lv (.int (zshl x y) :: st) h o) : zG X ad sh emb pc lv (.int y :: .int x :: st) h o := by
  obtain ⟨p, l, e, R, s, m, args, below, meth, c, nL, D, cI, cG⟩ := X
  obtain ⟨hx, hb, hml, hown, hts, hK, hN, hlk, hr, hj, hR⟩ := C
  obtain ⟨di, rfl⟩ := i
  intro x9 hx9 H locs ls hP hS hL
  exact lv_ishl hx hb di (k x9 hx9 H locs ls hP hS hL)
theorem g_ishr (C : zC X ad sh cc own ret d) {x y : Int32} (i : zI cc pc .ishr 1 q) (k : zG X ad sh emb q lv (.int (zshr x y) :: st) h o) : zG X ad sh emb pc lv (.int y :: .int x :: st) h o := by
  obtain ⟨p, l, e, R, s, m, args, below, meth, c, nL, D, cI, cG⟩ := X
  obtain ⟨hx, hb, hml, hown, hts, hK, hN, hlk, hr, hj, hR⟩ := C
  obtain ⟨di, rfl⟩ := i
  intro x9 hx9 H locs ls hP hS hL
  exact lv_ishr hx hb di (k x9 hx9 H locs ls hP hS hL)
theorem g_iushr (C : zC X ad sh cc own ret d) {x y : Int32} (i : zI cc pc .iushr 1 q) (k : zG X ad sh emb q lv (.int (zushr x y) :: st) h o) : zG X ad sh emb pc lv (.int y :: .int x :: st) h o := by
  obtain ⟨p, l, e, R, s, m, args, below, meth, c, nL, D, cI, cG⟩ := X
  obtain ⟨hx, hb, hml, hown, hts, hK, hN, hlk, hr, hj, hR⟩ := C
  obtain ⟨di, rfl⟩ := i
  intro x9 hx9 H locs ls hP hS hL
  exact lv_iushr hx hb di rfl (k x9 hx9 H locs ls hP hS hL)
theorem g_idiv (C : zC X ad sh cc own ret d) {x y : Int32} (i : zI cc pc .idiv 1 q) (k : zG X ad sh emb q lv (.int (x / y) :: st) h o) : zG X ad sh emb pc lv (.int y :: .int x :: st) h (gd (decide (¬ y = 0)) o) := by
  obtain ⟨p, l, e, R, s, m, args, below, meth, c, nL, D, cI, cG⟩ := X
  obtain ⟨hx, hb, hml, hown, hts, hK, hN, hlk, hr, hj, hR⟩ := C
  obtain ⟨di, rfl⟩ := i
  intro x9 hx9 H locs ls hP hS hL
  obtain ⟨hg, hx9⟩ := gd_some hx9
  exact lv_idiv hx hb di (of_decide_eq_true hg) (k x9 hx9 H locs ls hP hS hL)
theorem g_irem (C : zC X ad sh cc own ret d) {x y : Int32} (i : zI cc pc .irem 1 q) (k : zG X ad sh emb q lv (.int (zrem x y) :: st) h o) : zG X ad sh emb pc lv (.int y :: .int x :: st) h (gd (decide (¬ y = 0)) o) := by
  obtain ⟨p, l, e, R, s, m, args, below, meth, c, nL, D, cI, cG⟩ := X
  obtain ⟨hx, hb, hml, hown, hts, hK, hN, hlk, hr, hj, hR⟩ := C
  obtain ⟨di, rfl⟩ := i
  intro x9 hx9 H locs ls hP hS hL
  obtain ⟨hg, hx9⟩ := gd_some hx9
  exact lv_irem hx hb di (of_decide_eq_true hg) (k x9 hx9 H locs ls hP hS hL)
theorem g_idivL (C : zC X ad sh cc own ret d) {x y : Int32} (i : zI cc pc .idiv 1 q) (hy : ¬ y = 0) (k : zG X ad sh emb q lv (.int (x / y) :: st) h o) : zG X ad sh emb pc lv (.int y :: .int x :: st) h o := by
  obtain ⟨p, l, e, R, s, m, args, below, meth, c, nL, D, cI, cG⟩ := X
  obtain ⟨hx, hb, hml, hown, hts, hK, hN, hlk, hr, hj, hR⟩ := C
  obtain ⟨di, rfl⟩ := i
  intro x9 hx9 H locs ls hP hS hL
  exact lv_idiv hx hb di hy (k x9 hx9 H locs ls hP hS hL)
theorem g_iremL (C : zC X ad sh cc own ret d) {x y : Int32} (i : zI cc pc .irem 1 q) (hy : ¬ y = 0) (k : zG X ad sh emb q lv (.int (zrem x y) :: st) h o) : zG X ad sh emb pc lv (.int y :: .int x :: st) h o := by
  obtain ⟨p, l, e, R, s, m, args, below, meth, c, nL, D, cI, cG⟩ := X
  obtain ⟨hx, hb, hml, hown, hts, hK, hN, hlk, hr, hj, hR⟩ := C
  obtain ⟨di, rfl⟩ := i
  intro x9 hx9 H locs ls hP hS hL
  exact lv_irem hx hb di hy (k x9 hx9 H locs ls hP hS hL)
theorem g_istore_n (C : zC X ad sh cc own ret d) {k : Fin 4} {nL : Nat} (hnL : nL = X.2.2.2.2.2.2.2.2.2.2.1) {x : Int32} {lv' : List (Option Value)} (i : zI cc pc (.istore_n k) 1 q) (hk : (k : Nat) < nL) (hlv : lv.set (k : Nat) (some (.int x)) = lv') (kt : zG X ad sh emb q lv' st h o) : zG X ad sh emb pc lv (.int x :: st) h o := by
  obtain ⟨p, l, e, R, s, m, args, below, meth, c, nL, D, cI, cG⟩ := X
  obtain ⟨hx, hb, hml, hown, hts, hK, hN, hlk, hr, hj, hR⟩ := C
  obtain ⟨di, rfl⟩ := i
  subst hnL
  subst hlv
  intro x9 hx9 H locs ls hP hS hL
  obtain ⟨ls', e', hL'⟩ := hL.store (v := .int x) hk rfl
  intro T hT X
  obtain ⟨t, a, b⟩ := kt x9 hx9 H locs ls' hP hS hL' T hT X
  refine ⟨t, ?_, b⟩
  jvm_step X.here [X.here.top, ↓top_set X.here.top, hx, hb, di, e']
  exact a
theorem g_istore (C : zC X ad sh cc own ret d) {k : Nat} {nL : Nat} (hnL : nL = X.2.2.2.2.2.2.2.2.2.2.1) {x : Int32} {lv' : List (Option Value)} (i : zI cc pc (.istore k) 2 q) (hk : k < nL) (hlv : lv.set k (some (.int x)) = lv') (kt : zG X ad sh emb q lv' st h o) : zG X ad sh emb pc lv (.int x :: st) h o := by
  obtain ⟨p, l, e, R, s, m, args, below, meth, c, nL, D, cI, cG⟩ := X
  obtain ⟨hx, hb, hml, hown, hts, hK, hN, hlk, hr, hj, hR⟩ := C
  obtain ⟨di, rfl⟩ := i
  subst hnL
  subst hlv
  intro x9 hx9 H locs ls hP hS hL
  obtain ⟨ls', e', hL'⟩ := hL.store (v := .int x) hk rfl
  intro T hT X
  obtain ⟨t, a, b⟩ := kt x9 hx9 H locs ls' hP hS hL' T hT X
  refine ⟨t, ?_, b⟩
  jvm_step X.here [X.here.top, ↓top_set X.here.top, hx, hb, di, e']
  exact a
theorem g_iinc (C : zC X ad sh cc own ret d) {k : Nat} {n : Int} {nL : Nat} (hnL : nL = X.2.2.2.2.2.2.2.2.2.2.1) {x v : Int32} {lv' : List (Option Value)} (i : zI cc pc (.iinc k n) 3 q) (hk : k < nL) (hl : lv[k]? = some (some (.int x))) (hv : x + Int32.ofInt n = v) (hlv : lv.set k (some (.int v)) = lv') (kt : zG X ad sh emb q lv' st h o) : zG X ad sh emb pc lv st h o := by
  obtain ⟨p, l, e, R, s, m, args, below, meth, c, nL, D, cI, cG⟩ := X
  obtain ⟨hx, hb, hml, hown, hts, hK, hN, hlk, hr, hj, hR⟩ := C
  obtain ⟨di, rfl⟩ := i
  subst hnL
  subst hv
  subst hlv
  intro x9 hx9 H locs ls hP hS hL
  obtain ⟨ls', e', hL'⟩ := hL.store (v := .int (x + Int32.ofInt n)) hk rfl
  have hg := (hL.2.2 _ _ hl).1
  intro T hT X
  obtain ⟨t, a, b⟩ := kt x9 hx9 H locs ls' hP hS hL' T hT X
  refine ⟨t, ?_, b⟩
  jvm_step X.here [X.here.top, ↓top_set X.here.top, hx, hb, di, hg, e']
  exact a
theorem g_if_eq (C : zC X ad sh cc own ret d) {x : Int32} {off : Int} (tgt : Nat) {o1 o2 : Option ρ} {ic : Decidable (x = 0)} (i : zI cc pc (.ifCond .eq off) 3 q) (ht : (pc : Int) + off = (tgt : Int)) (k1 : x = 0 → zG X ad sh emb tgt lv st h o1) (k2 : ¬ (x = 0) → zG X ad sh emb q lv st h o2) : zG X ad sh emb pc lv (.int x :: st) h (@ite _ (x = 0) ic o1 o2) := by
  refine g_ite (fun hc => ?_) (fun hc => ?_)
  · have k1 := k1 hc
    clear k2
    obtain ⟨p, l, e, R, s, m, args, below, meth, c, nL, D, cI, cG⟩ := X
    obtain ⟨hx, hb, hml, hown, hts, hK, hN, hlk, hr, hj, hR⟩ := C
    obtain ⟨di, rfl⟩ := i
    intro x9 hx9 H locs ls hP hS hL
    exact lv_if_eq hx hb di ht (fun _ => k1 x9 hx9 H locs ls hP hS hL) (fun h9 => absurd hc h9)
  · have k2 := k2 hc
    clear k1
    obtain ⟨p, l, e, R, s, m, args, below, meth, c, nL, D, cI, cG⟩ := X
    obtain ⟨hx, hb, hml, hown, hts, hK, hN, hlk, hr, hj, hR⟩ := C
    obtain ⟨di, rfl⟩ := i
    intro x9 hx9 H locs ls hP hS hL
    exact lv_if_eq hx hb di ht (fun h9 => absurd h9 hc) (fun _ => k2 x9 hx9 H locs ls hP hS hL)
theorem g_icmp_eq (C : zC X ad sh cc own ret d) {x y : Int32} {off : Int} (tgt : Nat) {o1 o2 : Option ρ} {ic : Decidable (x = y)} (i : zI cc pc (.if_icmp .eq off) 3 q) (ht : (pc : Int) + off = (tgt : Int)) (k1 : x = y → zG X ad sh emb tgt lv st h o1) (k2 : ¬ (x = y) → zG X ad sh emb q lv st h o2) : zG X ad sh emb pc lv (.int y :: .int x :: st) h (@ite _ (x = y) ic o1 o2) := by
  refine g_ite (fun hc => ?_) (fun hc => ?_)
  · have k1 := k1 hc
    clear k2
    obtain ⟨p, l, e, R, s, m, args, below, meth, c, nL, D, cI, cG⟩ := X
    obtain ⟨hx, hb, hml, hown, hts, hK, hN, hlk, hr, hj, hR⟩ := C
    obtain ⟨di, rfl⟩ := i
    intro x9 hx9 H locs ls hP hS hL
    exact lv_icmp_eq hx hb di ht (fun _ => k1 x9 hx9 H locs ls hP hS hL) (fun h9 => absurd hc h9)
  · have k2 := k2 hc
    clear k1
    obtain ⟨p, l, e, R, s, m, args, below, meth, c, nL, D, cI, cG⟩ := X
    obtain ⟨hx, hb, hml, hown, hts, hK, hN, hlk, hr, hj, hR⟩ := C
    obtain ⟨di, rfl⟩ := i
    intro x9 hx9 H locs ls hP hS hL
    exact lv_icmp_eq hx hb di ht (fun h9 => absurd h9 hc) (fun _ => k2 x9 hx9 H locs ls hP hS hL)
theorem g_if_ne (C : zC X ad sh cc own ret d) {x : Int32} {off : Int} (tgt : Nat) {o1 o2 : Option ρ} {ic : Decidable (x = 0)} (i : zI cc pc (.ifCond .ne off) 3 q) (ht : (pc : Int) + off = (tgt : Int)) (k1 : x = 0 → zG X ad sh emb q lv st h o1) (k2 : ¬ (x = 0) → zG X ad sh emb tgt lv st h o2) : zG X ad sh emb pc lv (.int x :: st) h (@ite _ (x = 0) ic o1 o2) := by
  refine g_ite (fun hc => ?_) (fun hc => ?_)
  · have k1 := k1 hc
    clear k2
    obtain ⟨p, l, e, R, s, m, args, below, meth, c, nL, D, cI, cG⟩ := X
    obtain ⟨hx, hb, hml, hown, hts, hK, hN, hlk, hr, hj, hR⟩ := C
    obtain ⟨di, rfl⟩ := i
    intro x9 hx9 H locs ls hP hS hL
    exact lv_if_ne hx hb di ht (fun h9 => absurd hc h9) (fun _ => k1 x9 hx9 H locs ls hP hS hL)
  · have k2 := k2 hc
    clear k1
    obtain ⟨p, l, e, R, s, m, args, below, meth, c, nL, D, cI, cG⟩ := X
    obtain ⟨hx, hb, hml, hown, hts, hK, hN, hlk, hr, hj, hR⟩ := C
    obtain ⟨di, rfl⟩ := i
    intro x9 hx9 H locs ls hP hS hL
    exact lv_if_ne hx hb di ht (fun _ => k2 x9 hx9 H locs ls hP hS hL) (fun h9 => absurd h9 hc)
theorem g_icmp_ne (C : zC X ad sh cc own ret d) {x y : Int32} {off : Int} (tgt : Nat) {o1 o2 : Option ρ} {ic : Decidable (x = y)} (i : zI cc pc (.if_icmp .ne off) 3 q) (ht : (pc : Int) + off = (tgt : Int)) (k1 : x = y → zG X ad sh emb q lv st h o1) (k2 : ¬ (x = y) → zG X ad sh emb tgt lv st h o2) : zG X ad sh emb pc lv (.int y :: .int x :: st) h (@ite _ (x = y) ic o1 o2) := by
  refine g_ite (fun hc => ?_) (fun hc => ?_)
  · have k1 := k1 hc
    clear k2
    obtain ⟨p, l, e, R, s, m, args, below, meth, c, nL, D, cI, cG⟩ := X
    obtain ⟨hx, hb, hml, hown, hts, hK, hN, hlk, hr, hj, hR⟩ := C
    obtain ⟨di, rfl⟩ := i
    intro x9 hx9 H locs ls hP hS hL
    exact lv_icmp_ne hx hb di ht (fun h9 => absurd hc h9) (fun _ => k1 x9 hx9 H locs ls hP hS hL)
  · have k2 := k2 hc
    clear k1
    obtain ⟨p, l, e, R, s, m, args, below, meth, c, nL, D, cI, cG⟩ := X
    obtain ⟨hx, hb, hml, hown, hts, hK, hN, hlk, hr, hj, hR⟩ := C
    obtain ⟨di, rfl⟩ := i
    intro x9 hx9 H locs ls hP hS hL
    exact lv_icmp_ne hx hb di ht (fun _ => k2 x9 hx9 H locs ls hP hS hL) (fun h9 => absurd h9 hc)
theorem g_if_lt (C : zC X ad sh cc own ret d) {x : Int32} {off : Int} (tgt : Nat) {o1 o2 : Option ρ} {ic : Decidable (x < 0)} (i : zI cc pc (.ifCond .lt off) 3 q) (ht : (pc : Int) + off = (tgt : Int)) (k1 : x < 0 → zG X ad sh emb tgt lv st h o1) (k2 : ¬ (x < 0) → zG X ad sh emb q lv st h o2) : zG X ad sh emb pc lv (.int x :: st) h (@ite _ (x < 0) ic o1 o2) := by
  refine g_ite (fun hc => ?_) (fun hc => ?_)
  · have k1 := k1 hc
    clear k2
    obtain ⟨p, l, e, R, s, m, args, below, meth, c, nL, D, cI, cG⟩ := X
    obtain ⟨hx, hb, hml, hown, hts, hK, hN, hlk, hr, hj, hR⟩ := C
    obtain ⟨di, rfl⟩ := i
    intro x9 hx9 H locs ls hP hS hL
    exact lv_if_lt hx hb di ht (fun _ => k1 x9 hx9 H locs ls hP hS hL) (fun h9 => absurd hc h9)
  · have k2 := k2 hc
    clear k1
    obtain ⟨p, l, e, R, s, m, args, below, meth, c, nL, D, cI, cG⟩ := X
    obtain ⟨hx, hb, hml, hown, hts, hK, hN, hlk, hr, hj, hR⟩ := C
    obtain ⟨di, rfl⟩ := i
    intro x9 hx9 H locs ls hP hS hL
    exact lv_if_lt hx hb di ht (fun h9 => absurd h9 hc) (fun _ => k2 x9 hx9 H locs ls hP hS hL)
theorem g_icmp_lt (C : zC X ad sh cc own ret d) {x y : Int32} {off : Int} (tgt : Nat) {o1 o2 : Option ρ} {ic : Decidable (x < y)} (i : zI cc pc (.if_icmp .lt off) 3 q) (ht : (pc : Int) + off = (tgt : Int)) (k1 : x < y → zG X ad sh emb tgt lv st h o1) (k2 : ¬ (x < y) → zG X ad sh emb q lv st h o2) : zG X ad sh emb pc lv (.int y :: .int x :: st) h (@ite _ (x < y) ic o1 o2) := by
  refine g_ite (fun hc => ?_) (fun hc => ?_)
  · have k1 := k1 hc
    clear k2
    obtain ⟨p, l, e, R, s, m, args, below, meth, c, nL, D, cI, cG⟩ := X
    obtain ⟨hx, hb, hml, hown, hts, hK, hN, hlk, hr, hj, hR⟩ := C
    obtain ⟨di, rfl⟩ := i
    intro x9 hx9 H locs ls hP hS hL
    exact lv_icmp_lt hx hb di ht (fun _ => k1 x9 hx9 H locs ls hP hS hL) (fun h9 => absurd hc h9)
  · have k2 := k2 hc
    clear k1
    obtain ⟨p, l, e, R, s, m, args, below, meth, c, nL, D, cI, cG⟩ := X
    obtain ⟨hx, hb, hml, hown, hts, hK, hN, hlk, hr, hj, hR⟩ := C
    obtain ⟨di, rfl⟩ := i
    intro x9 hx9 H locs ls hP hS hL
    exact lv_icmp_lt hx hb di ht (fun h9 => absurd h9 hc) (fun _ => k2 x9 hx9 H locs ls hP hS hL)
theorem g_if_ge (C : zC X ad sh cc own ret d) {x : Int32} {off : Int} (tgt : Nat) {o1 o2 : Option ρ} {ic : Decidable (0 ≤ x)} (i : zI cc pc (.ifCond .ge off) 3 q) (ht : (pc : Int) + off = (tgt : Int)) (k1 : 0 ≤ x → zG X ad sh emb tgt lv st h o1) (k2 : ¬ (0 ≤ x) → zG X ad sh emb q lv st h o2) : zG X ad sh emb pc lv (.int x :: st) h (@ite _ (0 ≤ x) ic o1 o2) := by
  refine g_ite (fun hc => ?_) (fun hc => ?_)
  · have k1 := k1 hc
    clear k2
    obtain ⟨p, l, e, R, s, m, args, below, meth, c, nL, D, cI, cG⟩ := X
    obtain ⟨hx, hb, hml, hown, hts, hK, hN, hlk, hr, hj, hR⟩ := C
    obtain ⟨di, rfl⟩ := i
    intro x9 hx9 H locs ls hP hS hL
    exact lv_if_ge hx hb di ht (fun _ => k1 x9 hx9 H locs ls hP hS hL) (fun h9 => absurd hc h9)
  · have k2 := k2 hc
    clear k1
    obtain ⟨p, l, e, R, s, m, args, below, meth, c, nL, D, cI, cG⟩ := X
    obtain ⟨hx, hb, hml, hown, hts, hK, hN, hlk, hr, hj, hR⟩ := C
    obtain ⟨di, rfl⟩ := i
    intro x9 hx9 H locs ls hP hS hL
    exact lv_if_ge hx hb di ht (fun h9 => absurd h9 hc) (fun _ => k2 x9 hx9 H locs ls hP hS hL)
theorem g_icmp_ge (C : zC X ad sh cc own ret d) {x y : Int32} {off : Int} (tgt : Nat) {o1 o2 : Option ρ} {ic : Decidable (y ≤ x)} (i : zI cc pc (.if_icmp .ge off) 3 q) (ht : (pc : Int) + off = (tgt : Int)) (k1 : y ≤ x → zG X ad sh emb tgt lv st h o1) (k2 : ¬ (y ≤ x) → zG X ad sh emb q lv st h o2) : zG X ad sh emb pc lv (.int y :: .int x :: st) h (@ite _ (y ≤ x) ic o1 o2) := by
  refine g_ite (fun hc => ?_) (fun hc => ?_)
  · have k1 := k1 hc
    clear k2
    obtain ⟨p, l, e, R, s, m, args, below, meth, c, nL, D, cI, cG⟩ := X
    obtain ⟨hx, hb, hml, hown, hts, hK, hN, hlk, hr, hj, hR⟩ := C
    obtain ⟨di, rfl⟩ := i
    intro x9 hx9 H locs ls hP hS hL
    exact lv_icmp_ge hx hb di ht (fun _ => k1 x9 hx9 H locs ls hP hS hL) (fun h9 => absurd hc h9)
  · have k2 := k2 hc
    clear k1
    obtain ⟨p, l, e, R, s, m, args, below, meth, c, nL, D, cI, cG⟩ := X
    obtain ⟨hx, hb, hml, hown, hts, hK, hN, hlk, hr, hj, hR⟩ := C
    obtain ⟨di, rfl⟩ := i
    intro x9 hx9 H locs ls hP hS hL
    exact lv_icmp_ge hx hb di ht (fun h9 => absurd h9 hc) (fun _ => k2 x9 hx9 H locs ls hP hS hL)
theorem g_if_gt (C : zC X ad sh cc own ret d) {x : Int32} {off : Int} (tgt : Nat) {o1 o2 : Option ρ} {ic : Decidable (0 < x)} (i : zI cc pc (.ifCond .gt off) 3 q) (ht : (pc : Int) + off = (tgt : Int)) (k1 : 0 < x → zG X ad sh emb tgt lv st h o1) (k2 : ¬ (0 < x) → zG X ad sh emb q lv st h o2) : zG X ad sh emb pc lv (.int x :: st) h (@ite _ (0 < x) ic o1 o2) := by
  refine g_ite (fun hc => ?_) (fun hc => ?_)
  · have k1 := k1 hc
    clear k2
    obtain ⟨p, l, e, R, s, m, args, below, meth, c, nL, D, cI, cG⟩ := X
    obtain ⟨hx, hb, hml, hown, hts, hK, hN, hlk, hr, hj, hR⟩ := C
    obtain ⟨di, rfl⟩ := i
    intro x9 hx9 H locs ls hP hS hL
    exact lv_if_gt hx hb di ht (fun _ => k1 x9 hx9 H locs ls hP hS hL) (fun h9 => absurd hc h9)
  · have k2 := k2 hc
    clear k1
    obtain ⟨p, l, e, R, s, m, args, below, meth, c, nL, D, cI, cG⟩ := X
    obtain ⟨hx, hb, hml, hown, hts, hK, hN, hlk, hr, hj, hR⟩ := C
    obtain ⟨di, rfl⟩ := i
    intro x9 hx9 H locs ls hP hS hL
    exact lv_if_gt hx hb di ht (fun h9 => absurd h9 hc) (fun _ => k2 x9 hx9 H locs ls hP hS hL)
theorem g_icmp_gt (C : zC X ad sh cc own ret d) {x y : Int32} {off : Int} (tgt : Nat) {o1 o2 : Option ρ} {ic : Decidable (y < x)} (i : zI cc pc (.if_icmp .gt off) 3 q) (ht : (pc : Int) + off = (tgt : Int)) (k1 : y < x → zG X ad sh emb tgt lv st h o1) (k2 : ¬ (y < x) → zG X ad sh emb q lv st h o2) : zG X ad sh emb pc lv (.int y :: .int x :: st) h (@ite _ (y < x) ic o1 o2) := by
  refine g_ite (fun hc => ?_) (fun hc => ?_)
  · have k1 := k1 hc
    clear k2
    obtain ⟨p, l, e, R, s, m, args, below, meth, c, nL, D, cI, cG⟩ := X
    obtain ⟨hx, hb, hml, hown, hts, hK, hN, hlk, hr, hj, hR⟩ := C
    obtain ⟨di, rfl⟩ := i
    intro x9 hx9 H locs ls hP hS hL
    exact lv_icmp_gt hx hb di ht (fun _ => k1 x9 hx9 H locs ls hP hS hL) (fun h9 => absurd hc h9)
  · have k2 := k2 hc
    clear k1
    obtain ⟨p, l, e, R, s, m, args, below, meth, c, nL, D, cI, cG⟩ := X
    obtain ⟨hx, hb, hml, hown, hts, hK, hN, hlk, hr, hj, hR⟩ := C
    obtain ⟨di, rfl⟩ := i
    intro x9 hx9 H locs ls hP hS hL
    exact lv_icmp_gt hx hb di ht (fun h9 => absurd h9 hc) (fun _ => k2 x9 hx9 H locs ls hP hS hL)
theorem g_if_le (C : zC X ad sh cc own ret d) {x : Int32} {off : Int} (tgt : Nat) {o1 o2 : Option ρ} {ic : Decidable (x ≤ 0)} (i : zI cc pc (.ifCond .le off) 3 q) (ht : (pc : Int) + off = (tgt : Int)) (k1 : x ≤ 0 → zG X ad sh emb tgt lv st h o1) (k2 : ¬ (x ≤ 0) → zG X ad sh emb q lv st h o2) : zG X ad sh emb pc lv (.int x :: st) h (@ite _ (x ≤ 0) ic o1 o2) := by
  refine g_ite (fun hc => ?_) (fun hc => ?_)
  · have k1 := k1 hc
    clear k2
    obtain ⟨p, l, e, R, s, m, args, below, meth, c, nL, D, cI, cG⟩ := X
    obtain ⟨hx, hb, hml, hown, hts, hK, hN, hlk, hr, hj, hR⟩ := C
    obtain ⟨di, rfl⟩ := i
    intro x9 hx9 H locs ls hP hS hL
    exact lv_if_le hx hb di ht (fun _ => k1 x9 hx9 H locs ls hP hS hL) (fun h9 => absurd hc h9)
  · have k2 := k2 hc
    clear k1
    obtain ⟨p, l, e, R, s, m, args, below, meth, c, nL, D, cI, cG⟩ := X
    obtain ⟨hx, hb, hml, hown, hts, hK, hN, hlk, hr, hj, hR⟩ := C
    obtain ⟨di, rfl⟩ := i
    intro x9 hx9 H locs ls hP hS hL
    exact lv_if_le hx hb di ht (fun h9 => absurd h9 hc) (fun _ => k2 x9 hx9 H locs ls hP hS hL)
theorem g_icmp_le (C : zC X ad sh cc own ret d) {x y : Int32} {off : Int} (tgt : Nat) {o1 o2 : Option ρ} {ic : Decidable (x ≤ y)} (i : zI cc pc (.if_icmp .le off) 3 q) (ht : (pc : Int) + off = (tgt : Int)) (k1 : x ≤ y → zG X ad sh emb tgt lv st h o1) (k2 : ¬ (x ≤ y) → zG X ad sh emb q lv st h o2) : zG X ad sh emb pc lv (.int y :: .int x :: st) h (@ite _ (x ≤ y) ic o1 o2) := by
  refine g_ite (fun hc => ?_) (fun hc => ?_)
  · have k1 := k1 hc
    clear k2
    obtain ⟨p, l, e, R, s, m, args, below, meth, c, nL, D, cI, cG⟩ := X
    obtain ⟨hx, hb, hml, hown, hts, hK, hN, hlk, hr, hj, hR⟩ := C
    obtain ⟨di, rfl⟩ := i
    intro x9 hx9 H locs ls hP hS hL
    exact lv_icmp_le hx hb di ht (fun _ => k1 x9 hx9 H locs ls hP hS hL) (fun h9 => absurd hc h9)
  · have k2 := k2 hc
    clear k1
    obtain ⟨p, l, e, R, s, m, args, below, meth, c, nL, D, cI, cG⟩ := X
    obtain ⟨hx, hb, hml, hown, hts, hK, hN, hlk, hr, hj, hR⟩ := C
    obtain ⟨di, rfl⟩ := i
    intro x9 hx9 H locs ls hP hS hL
    exact lv_icmp_le hx hb di ht (fun h9 => absurd h9 hc) (fun _ => k2 x9 hx9 H locs ls hP hS hL)
theorem g_goto (C : zC X ad sh cc own ret d) {off : Int} (tgt : Nat) (i : zI cc pc (.goto off) 3 q) (ht : (pc : Int) + off = (tgt : Int)) (k : zG X ad sh emb tgt lv st h o) : zG X ad sh emb pc lv st h o := by
  obtain ⟨p, l, e, R, s, m, args, below, meth, c, nL, D, cI, cG⟩ := X
  obtain ⟨hx, hb, hml, hown, hts, hK, hN, hlk, hr, hj, hR⟩ := C
  obtain ⟨di, rfl⟩ := i
  intro x9 hx9 H locs ls hP hS hL
  exact lv_goto hx hb di ht (k x9 hx9 H locs ls hP hS hL)
theorem g_top {e0 : Int32} {ko : Int32 → Option ρ} (k : ∀ v, zG X ad sh emb pc lv (.int v :: st) h (ko v)) : zG X ad sh emb pc lv (.int e0 :: st) h (zlet e0 ko) := k e0
theorem g_let {α : Type} {f : α} {ko : α → Option ρ} (k : ∀ j, j = f → zG X ad sh emb pc lv st h (ko j)) : zG X ad sh emb pc lv st h (zlet f ko) := k f rfl
end ZR
abbrev eP (h : zH) : Int32 → Option Value × zH := fun r => (some (.int r), h)
abbrev eI : Int32 × zH → Option Value × zH := fun q => (some (.int q.1), q.2)
abbrev eV : zH → Option Value × zH := fun h => (none, h)
end
section
/-- a field's link, its class and place -/
def zFl (own : String) (idx ci k : Nat) : Prop := ∃ (Cn : String) (T : u_T) (N : Nat), vwCl[ci]? = some (Cn, T, N) ∧ k < N ∧ Cond.fieldLink own idx (T k).1 (T k).2.1 (T k).2.2.1 ∈ zWd ∧ (∀ w ∈ u_ws Cn T N, w ∈ zWd)
def zFp (own : String) (idx ci k : Nat) : Prop := ∃ (Cn : String) (T : u_T) (N : Nat), vwCl[ci]? = some (Cn, T, N) ∧ k < N ∧ Cond.fieldLink own idx (T k).1 (T k).2.1 (T k).2.2.1 ∈ zWd ∧ (∀ w ∈ u_ws Cn T N, w ∈ zWd) ∧ (T k).2.2.2 = false ∧ parseFieldDescriptor (T k).2.2.1 = some .int ∧ (∃ ty0 : Nat → FieldType, ∀ k, k < N → parseFieldDescriptor (T k).2.2.1 = some (ty0 k)) ∧ ∀ a, a < N → ∀ b, b < N → a ≠ b → (T a).2.1 ≠ (T b).2.1
theorem zF_at {ad : Nat → Nat} {h : zH} {a k : Nat} {fs : List (Option Nat)} {o : Option Nat} (hf : fs[k]? = some o) : (zF ad h a fs)[k]? = some (zF1 ad h a k o) := by simp [zF, List.getElem?_mapIdx, hf]
theorem upd2_ne {h : zH} {a i k : Nat} {v : Int32} (hk : k ≠ a) : upd2 h a i v k = h k := by simp [upd2, hk]
theorem upd2_eq {h : zH} {a i : Nat} {v : Int32} : upd2 h a i v a = upd (h a) i v := by simp [upd2]
theorem zF_set {ad : Nat → Nat} {h : zH} {a k : Nat} {fs : List (Option Nat)} {v : Int32} (hf : fs[k]? = some none) : (zF ad h a fs).set k (.int v) = zF ad (upd2 h a k v) a fs := by
  apply List.ext_getElem?
  intro j
  have hl := (List.getElem?_eq_some_iff.mp hf).1
  by_cases hj : j = k
  · subst hj
    rw [List.getElem?_set_self (by simpa [zF] using hl), zF_at hf]
    simp [zF1, upd2_eq, upd]
  · rw [List.getElem?_set_ne (Ne.symm hj)]
    simp only [zF, List.getElem?_mapIdx]
    cases fs[j]? with
    | none => rfl
    | some o => cases o <;> simp [zF1, upd2_eq, upd, hj]
def zTg (pc : Nat) (dflt lo hi : Int) (offs : Array Int) (x : Int32) : Int := if x.toInt < lo ∨ hi < x.toInt then (pc : Int) + dflt else match offs[(x.toInt - lo).toNat]? with
  | some off => (pc : Int) + off
  | none => -1
theorem zTg_def {pc : Nat} {dflt lo hi : Int} {offs : Array Int} {x : Int32} (ks : List Int) (hk : ∀ k ∈ ks, ¬ x.toInt = k) (hc : (List.range ((hi - lo).toNat + 1)).all (fun j => ks.contains (lo + j) || offs[j]? == some dflt) = true) : zTg pc dflt lo hi offs x = (pc : Int) + dflt := by
  unfold zTg
  split
  · rfl
  · rename_i hn
    have h1 : lo ≤ x.toInt := by omega
    have h2 : x.toInt ≤ hi := by omega
    have h3 := List.all_eq_true.mp hc (x.toInt - lo).toNat (List.mem_range.mpr (by omega))
    rcases Bool.or_eq_true_iff.mp h3 with h4 | h4
    · have e : lo + ((x.toInt - lo).toNat : Int) = x.toInt := by omega
      rw [e] at h4
      exact absurd rfl (hk _ (by simpa using h4))
    · have h5 : offs[(x.toInt - lo).toNat]? = some dflt := by simpa using h4
      rw [h5]
section ZR2
variable {ρ : Type} {X : zX} {ad : Nat → Nat} {sh : List zK} {cc : ByteArray} {own : String} {ret : Option FieldType} {d : Nat} {emb : ρ → Option Value × zH} {pc q : Nat} {lv : List (Option Value)} {st : List Value} {h : zH} {o : Option ρ}
theorem g_getI (C : zC X ad sh cc own ret d) {idx ci k a : Nat} {fs : List (Option Nat)} (f : zFl own idx ci k) (i : zI cc pc (.getfield idx) 3 q) (ha : sh[a]? = some (.inr (.inl (ci, fs)))) (hf : fs[k]? = some none) (kt : zG X ad sh emb q lv (.int (h a k) :: st) h o) : zG X ad sh emb pc lv (.ref (ad a) :: st) h o := by
  obtain ⟨p, l, e, R, s, m, args, below, meth, c, nL, D, cI, cG⟩ := X
  obtain ⟨hx, hb, hml, hown, hts, hK, hN, hlk, hr, hj, hR⟩ := C
  obtain ⟨di, rfl⟩ := i
  obtain ⟨Cn, T, N, f1, f2, f3, f4⟩ := f
  intro x9 hx9 H locs ls hP hS hL
  exact va_get hx hb hts f4 hown hK hP a (zW_at ha) f1 k f2 (hts _ f3) (fun _ h9 => h9) (zF_at hf) di (kt x9 hx9 H locs ls hP hS hL)
theorem g_getR (C : zC X ad sh cc own ret d) {idx ci k a b : Nat} {fs : List (Option Nat)} (f : zFl own idx ci k) (i : zI cc pc (.getfield idx) 3 q) (ha : sh[a]? = some (.inr (.inl (ci, fs)))) (hf : fs[k]? = some (some b)) (kt : zG X ad sh emb q lv (.ref (ad b) :: st) h o) : zG X ad sh emb pc lv (.ref (ad a) :: st) h o := by
  obtain ⟨p, l, e, R, s, m, args, below, meth, c, nL, D, cI, cG⟩ := X
  obtain ⟨hx, hb, hml, hown, hts, hK, hN, hlk, hr, hj, hR⟩ := C
  obtain ⟨di, rfl⟩ := i
  obtain ⟨Cn, T, N, f1, f2, f3, f4⟩ := f
  intro x9 hx9 H locs ls hP hS hL
  exact va_get hx hb hts f4 hown hK hP a (zW_at ha) f1 k f2 (hts _ f3) (fun _ h9 => h9) (zF_at hf) di (kt x9 hx9 H locs ls hP hS hL)
theorem g_putI (C : zC X ad sh cc own ret d) {idx ci k a : Nat} {fs : List (Option Nat)} {v : Int32} {ko : zH → Option ρ} (f : zFp own idx ci k) (i : zI cc pc (.putfield idx) 3 q) (ha : sh[a]? = some (.inr (.inl (ci, fs)))) (hf : fs[k]? = some none) (kt : ∀ h', zG X ad sh emb q lv st h' (ko h')) : zG X ad sh emb pc lv (.int v :: .ref (ad a) :: st) h (zlet (upd2 h a k v) ko) := by
  have kt := kt (upd2 h a k v)
  obtain ⟨p, l, e, R, s, m, args, below, meth, c, nL, D, cI, cG⟩ := X
  obtain ⟨hx, hb, hml, hown, hts, hK, hN, hlk, hr, hj, hR⟩ := C
  obtain ⟨di, rfl⟩ := i
  obtain ⟨Cn, T, N, f1, f2, f3, f4, f5, f6, ⟨ty0, f7⟩, f8⟩ := f
  intro x9 hx9 H locs ls hP hS hL
  refine va_put (ty := .int) hx hb hts f4 ty0 f7 f8 hown hK hP hj.D hS a (zW_at ha) f1 k f2 (hts _ f3) (fun _ h9 => h9) f5 f6 rfl rfl (by simpa [zF] using (List.getElem?_eq_some_iff.mp hf).1) di (fun H1 locs1 hP1 _ hS1 => ?_)
  refine kt x9 hx9 H1 locs1 ls ?_ hS1 hL
  rw [zF_set hf] at hP1
  rw [← zW_set (h := h) (h' := upd2 h a k v) ha (fun k hk => upd2_ne hk)]
  exact hP1
theorem g_iaload (C : zC X ad sh cc own ret d) {a n : Nat} {j : Int32} (i : zI cc pc .iaload 1 q) (ha : sh[a]? = some (.inl n)) (kt : zG X ad sh emb q lv (.int (h a j.toNatClampNeg) :: st) h o) : zG X ad sh emb pc lv (.int j :: .ref (ad a) :: st) h (gd (zr j n) o) := by
  obtain ⟨p, l, e, R, s, m, args, below, meth, c, nL, D, cI, cG⟩ := X
  obtain ⟨hx, hb, hml, hown, hts, hK, hN, hlk, hr, hj, hR⟩ := C
  obtain ⟨di, rfl⟩ := i
  intro x9 hx9 H locs ls hP hS hL
  obtain ⟨hg, hx9⟩ := gd_some hx9
  exact va_iald hx hb hK hP a 0 (zW_at ha) rfl (zr_in hg) di (kt x9 hx9 H locs ls hP hS hL)
theorem g_iastore (C : zC X ad sh cc own ret d) {a n : Nat} {j v : Int32} {ko : zH → Option ρ} (i : zI cc pc .iastore 1 q) (ha : sh[a]? = some (.inl n)) (kt : ∀ h', zG X ad sh emb q lv st h' (ko h')) : zG X ad sh emb pc lv (.int v :: .int j :: .ref (ad a) :: st) h (gd (zr j n) (zlet (upd2 h a j.toNatClampNeg v) ko)) := by
  have kt := kt (upd2 h a j.toNatClampNeg v)
  obtain ⟨p, l, e, R, s, m, args, below, meth, c, nL, D, cI, cG⟩ := X
  obtain ⟨hx, hb, hml, hown, hts, hK, hN, hlk, hr, hj, hR⟩ := C
  obtain ⟨di, rfl⟩ := i
  intro x9 hx9 H locs ls hP hS hL
  obtain ⟨hg, hx9⟩ := gd_some hx9
  refine va_iast hx hb hK hP hj.D hS a 0 (zW_at ha) rfl (zr_in hg) di (fun H1 locs1 hP1 _ hS1 => ?_)
  refine kt x9 hx9 H1 locs1 ls ?_ hS1 hL
  rw [← upd2_eq (h := h) (a := a)] at hP1
  rw [← zW_set (h := h) (h' := upd2 h a j.toNatClampNeg v) ha (fun k hk => upd2_ne hk)]
  exact hP1
theorem g_ialoadL (C : zC X ad sh cc own ret d) {a n : Nat} {j : Int32} (kj : Nat) (i : zI cc pc .iaload 1 q) (ha : sh[a]? = some (.inl n)) (hj : j.toNatClampNeg = kj) (hr : zr j n = true) (kt : zG X ad sh emb q lv (.int (h a kj) :: st) h o) : zG X ad sh emb pc lv (.int j :: .ref (ad a) :: st) h o := by
  subst hj
  have := g_iaload (j := j) C i ha kt
  rwa [hr] at this
theorem g_iastoreL (C : zC X ad sh cc own ret d) {a n : Nat} {j v : Int32} {ko : zH → Option ρ} (kj : Nat) (i : zI cc pc .iastore 1 q) (ha : sh[a]? = some (.inl n)) (hj : j.toNatClampNeg = kj) (hr : zr j n = true) (kt : ∀ h', zG X ad sh emb q lv st h' (ko h')) : zG X ad sh emb pc lv (.int v :: .int j :: .ref (ad a) :: st) h (zlet (upd2 h a kj v) ko) := by
  subst hj
  have := g_iastore (h := h) (j := j) (v := v) C i ha kt
  rwa [hr] at this
theorem g_aaload (C : zC X ad sh cc own ret d) {a : Nat} {L : List Nat} {j : Int32} (i : zI cc pc .aaload 1 q) (ha : sh[a]? = some (.inr (.inr L))) (kt : zr j L.length = true → zG X ad sh emb q lv (.ref (ad (L.getD j.toNatClampNeg 0)) :: st) h o) : zG X ad sh emb pc lv (.int j :: .ref (ad a) :: st) h (gd (zr j L.length) o) := by
  obtain ⟨p, l, e, R, s, m, args, below, meth, c, nL, D, cI, cG⟩ := X
  obtain ⟨hx, hb, hml, hown, hts, hK, hN, hlk, hr, hj, hR⟩ := C
  obtain ⟨di, rfl⟩ := i
  intro x9 hx9 H locs ls hP hS hL
  obtain ⟨hg, hx9⟩ := gd_some hx9
  have hlt : j.toNatClampNeg < L.length := Nat.not_le.mp fun q => zr_in hg (Or.inr q)
  refine va_aldq (C := RX1) hx hb hK hP a 1 (zW_at ha) rfl (zr_in hg) di ?_
  have e1 : va_rf ((L[j.toNatClampNeg]?).map ad) = .ref (ad (L.getD j.toNatClampNeg 0)) := by
    simp [List.getD_eq_getElem?_getD, List.getElem?_eq_getElem hlt, va_rf]
  show W _ _ _ _ _ _ _ _ _ _ _ _ _ _ _ (F0 _ _ _ (va_rf ((L[j.toNatClampNeg]?).map ad) :: _))
  rw [e1]
  exact kt hg x9 hx9 H locs ls hP hS hL
theorem g_tab (C : zC X ad sh cc own ret d) {dflt lo hi : Int} {offs : Array Int} {n : Nat} {x : Int32} (tgt : Nat) (i : zI cc pc (.tableswitch dflt lo hi offs) n q) (ht : zTg pc dflt lo hi offs x = (tgt : Int)) (k : zG X ad sh emb tgt lv st h o) : zG X ad sh emb pc lv (.int x :: st) h o := by
  obtain ⟨p, l, e, R, s, m, args, below, meth, c, nL, D, cI, cG⟩ := X
  obtain ⟨hx, hb, hml, hown, hts, hK, hN, hlk, hr, hj, hR⟩ := C
  obtain ⟨di, rfl⟩ := i
  intro x9 hx9 H locs ls hP hS hL
  have k := k x9 hx9 H locs ls hP hS hL
  unfold zTg at ht
  split at ht
  · rename_i hc
    exact lv_tableOut hx hb di hc ht k
  · rename_i hc
    split at ht
    · rename_i off ho
      exact lv_tableIn hx hb di (fun z => hc (Or.inl z)) (fun z => hc (Or.inr z)) ho ht k
    · omega
theorem g_iret (C : zC X ad sh cc own (some .int) d) {v : Int32} {x : ρ} (i : zI cc pc .ireturn 1 q) (he : emb x = (some (.int v), h)) : zG X ad sh emb pc lv [.int v] h (some x) := by
  obtain ⟨p, l, e, R, s, m, args, below, meth, c, nL, D, cI, cG⟩ := X
  obtain ⟨hx, hb, hml, hown, hts, hK, hN, hlk, hr, hj, hR⟩ := C
  obtain ⟨di, rfl⟩ := i
  intro x9 hx9 H locs ls hP hS hL
  cases hx9
  rw [he]
  exact W.iret hx hb hr (fun t ht hW => ⟨rfl, by rw [ht]; exact hP, hS.F ht⟩) hS.2.2 di hlk
theorem g_zret (C : zC X ad sh cc own (some .boolean) d) {v : Int32} {x : ρ} (i : zI cc pc .ireturn 1 q) (hn : narrow .boolean (.int v) = .int v) (he : emb x = (some (.int v), h)) : zG X ad sh emb pc lv [.int v] h (some x) := by
  obtain ⟨p, l, e, R, s, m, args, below, meth, c, nL, D, cI, cG⟩ := X
  obtain ⟨hx, hb, hml, hown, hts, hK, hN, hlk, hr, hj, hR⟩ := C
  obtain ⟨di, rfl⟩ := i
  intro x9 hx9 H locs ls hP hS hL
  cases hx9
  rw [he]
  exact W.zret hx hb hr hn (fun t ht hW => ⟨rfl, by rw [ht]; exact hP, hS.F ht⟩) hS.2.2 di hlk
def zb (v : Int32) : Bool := decide (v = 0 ∨ v = 1)
theorem g_zretG (C : zC X ad sh cc own (some .boolean) d) {v : Int32} {x : ρ} (i : zI cc pc .ireturn 1 q) (he : emb x = (some (.int v), h)) : zG X ad sh emb pc lv [.int v] h (gd (zb v) (some x)) := by
  by_cases hv : v = 0 ∨ v = 1
  · rw [show zb v = true from decide_eq_true hv]
    refine g_zret C i ?_ he
    rcases hv with rfl | rfl <;> rfl
  · rw [show zb v = false from decide_eq_false hv]
    exact g_none
theorem g_vret (C : zC X ad sh cc own none d) {x : ρ} (i : zI cc pc .return_ 1 q) (he : emb x = (none, h)) : zG X ad sh emb pc lv [] h (some x) := by
  obtain ⟨p, l, e, R, s, m, args, below, meth, c, nL, D, cI, cG⟩ := X
  obtain ⟨hx, hb, hml, hown, hts, hK, hN, hlk, hr, hj, hR⟩ := C
  obtain ⟨di, rfl⟩ := i
  intro x9 hx9 H locs ls hP hS hL
  cases hx9
  rw [he]
  exact W.vret hx hb hr (fun t ht hW => ⟨rfl, by rw [ht]; exact hP, hS.F ht⟩) hS.2.2 di hlk
theorem g_bindI {e0 : Int32} {lvf : Int32 → List (Option Value)} {stf : Int32 → List Value} {ko : Int32 → Option ρ} (k : ∀ v, zG X ad sh emb pc (lvf v) (stf v) h (ko v)) : zG X ad sh emb pc (lvf e0) (stf e0) h (zlet e0 ko) := k e0
end ZR2
end
section
/-- what a method's caller must hold, and the contract of a method: its function's value -/
def zPc (D : va_G) (cI cG : ClassId) (ad : Nat → Nat) (sh : List zK) (h : zH) (U : State) : Prop := va_P D vwCl (zW cI cG ad sh h) U.heap ∧ va_K D vwCl (zTy cI cG) U ∧ zNw U
def zM {ρ : Type} (y : MethodName) (bytes : ByteArray) (maxL : Nat) (ret : Option FieldType) (d : Nat) (sh : List zK) (av : (Nat → Nat) → List Value) (h : zH) (emb : ρ → Option Value × zH) (o : Option ρ) : Prop :=
  ∀ x, o = some x → ∀ (l : Launch) (D : va_G) (cI cG : ClassId) (ad : Nat → Nat), zJ ad sh → Met l y (Cond.code y bytes maxL ret :: zWd) (zR d) (va_Pc (av ad) (zPc D cI cG ad sh h)) (zQ D cI cG ad sh (emb x)) 0 0 (zA ad sh)
def zlv0 (vs : List Value) (n : Nat) : List (Option Value) := vs.map some ++ List.replicate (n - vs.length) none
theorem lg_sl1 : ∀ (vs : List Value), (∀ v ∈ vs, v.category = 1) → lg_sl vs = vs.map Slot.val
  | [], _ => rfl
  | v :: vs, h => by
    have h1 : v.category = 1 := h v List.mem_cons_self
    have ih := lg_sl1 vs (fun w hw => h w (List.mem_cons_of_mem _ hw))
    show (v :: vs).flatMap _ = _
    rw [List.flatMap_cons, if_neg (by omega)]
    show Slot.val v :: lg_sl vs = _
    rw [ih, List.map_cons]
theorem zL_entry {vs : List Value} {n : Nat} (hc : ∀ v ∈ vs, v.category = 1) (hn : vs.length ≤ n) : zL ((lg_sl vs ++ List.replicate (n - (lg_sl vs).length) Slot.unset).toArray) n (zlv0 vs n) := by
  have e := lg_sl1 vs hc
  have hl : (lg_sl vs).length = vs.length := by rw [e, List.length_map]
  have h0 := lv_entry vs (n := n) (by rw [hl]; exact hn)
  refine ⟨h0.1, h0.2.1, fun k v hk => ?_⟩
  by_cases hk2 : k < vs.length
  · rw [zlv0, List.getElem?_append_left (by simpa using hk2), List.getElem?_map, List.getElem?_eq_getElem hk2] at hk
    simp only [Option.map_some, Option.some.injEq] at hk
    refine ⟨?_, by rw [← hk]; exact hc _ (List.getElem_mem hk2)⟩
    rw [List.getElem?_toArray, e, List.getElem?_append_left (by simpa using hk2), List.getElem?_map, List.getElem?_eq_getElem hk2, ← hk]
    rfl
  · rw [zlv0, List.getElem?_append_right (by simpa using hk2), List.getElem?_replicate] at hk
    split at hk
    · simp at hk
    · cases hk
theorem zM.of {ρ : Type} {y : MethodName} {bytes : ByteArray} {maxL : Nat} {ret : Option FieldType} {d : Nat} {sh : List zK} {av : (Nat → Nat) → List Value} {h : zH} {emb : ρ → Option Value × zH} {o : Option ρ} (hy : plainName y.cls = true) (hc : ∀ ad, (av ad).all (fun v => v.category == 1) = true) (hn : ∀ ad, (av ad).length ≤ maxL)
    (k : ∀ (X : zX) (ad : Nat → Nat), maxL = X.2.2.2.2.2.2.2.2.2.2.1 → zC X ad sh bytes y.cls ret d → zG X ad sh emb 0 (zlv0 (av ad) maxL) [] h o) : zM y bytes maxL ret d sh av h emb o := by
  intro x hx l D cI cG ad hj
  refine Met.ofW (cc := bytes) (maxL := maxL) (ret := ret) hy rfl ?_
  intro p e s m args below meth c s₁ B hml hv
  obtain ⟨rfl, hP, hK, hN⟩ := hv
  have hts := atoms_spec (ws := Cond.code y bytes maxL ret :: zWd) B.pre
  have kk := k (p, l, e, zR d, s, m, (av ad).toArray, below, meth, c, maxL, D, cI, cG) ad rfl ⟨B.exec, B.bytes, hml, findClass_of_methodNamed B.named, fun w hw => hts w (List.mem_cons_of_mem _ hw), hK, hN, B.notSynchronized, B.returns, hj, rfl⟩
  rw [lg_entry_eq]
  exact kk x hx s.heap [] _ hP va_S.rf (zL_entry (fun v hv => by simpa using List.all_eq_true.mp (hc ad) v hv) (hn ad))
/-- the words of a call -/
def zCk (own : String) (idx : Nat) (y : MethodName) (bytes : ByteArray) (maxL : Nat) (ret : Option FieldType) (n : Nat) : Prop := Cond.methodLink own idx y ∈ zWd ∧ Cond.initialized y.cls ∈ zWd ∧ Cond.code y bytes maxL ret ∈ zWd ∧ (y.cls ≠ "java/lang/invoke/MethodHandle" ∧ y.cls ≠ "java/lang/invoke/VarHandle" ∧ (parseMethodDescriptor y.desc).map (fun d => d.parameters.length) = some n) ∧ maxL ≤ 16
def zCv (own : String) (idx : Nat) (y : MethodName) (bytes : ByteArray) (maxL : Nat) (ret : Option FieldType) (n : Nat) : Prop := zCk own idx y bytes maxL ret n ∧ Cond.instanceMethod y ∈ zWd ∧ Cond.selects y.cls y y ∈ zWd
def zCs (own : String) (idx : Nat) (y : MethodName) (bytes : ByteArray) (maxL : Nat) (ret : Option FieldType) (n : Nat) : Prop := zCk own idx y bytes maxL ret n ∧ Cond.static y ∈ zWd
def zCn (own : String) (idx : Nat) (y : MethodName) (bytes : ByteArray) (maxL : Nat) (ret : Option FieldType) (n : Nat) : Prop := (own, idx, y) ∈ zNs ∧ Cond.initialized y.cls ∈ zWd ∧ Cond.code y bytes maxL ret ∈ zWd ∧ (y.cls ≠ "java/lang/invoke/MethodHandle" ∧ y.cls ≠ "java/lang/invoke/VarHandle" ∧ (parseMethodDescriptor y.desc).map (fun d => d.parameters.length) = some n) ∧ maxL ≤ 16 ∧ Cond.static y ∈ zWd
theorem z_goodT {b : Cond} (hb : b ∈ zWd) : GoodIn zWd (b :: zWd) := by
  have k : ∀ w ∈ zWd, (w.onTables && w.keeps) = true ∨ ∃ ty, w = .arrayClass ty := fun w h => good_of_word (List.mem_filter.mp h).2
  intro w hw
  rcases List.mem_cons.mp hw with h | h
  · subst h; exact ⟨hb, k _ hb⟩
  · exact ⟨h, k _ h⟩
theorem zPc_blind {D : va_G} {cI cG : ClassId} {ad : Nat → Nat} {sh : List zK} {h : zH} {as : List Value} : FrameBlind (va_Pc as (zPc D cI cG ad sh h)) := fun a U g mk q => by
  obtain ⟨q0, qP, qK, qN⟩ := q
  exact ⟨q0, qP, va_K.moved (u := U) (U := U.calling g mk a) (Vm.Alike.refl U.vm) qK, qN.same rfl⟩
section ZC
variable {p : Program} {l : Launch} {e : Env} {R : Room} {s : State} {m : MethodId} {args : Array Value} {below : List Frame} {meth : Method} {c : Code} {H : Heap} {locs : List Loc} {Q : State → Prop}
/-- behind a call -/
theorem z_after {D : va_G} {cI cG : ClassId} {ad : Nat → Nat} {sh : List zK} {y : Option Value × zH} {pc : Nat} {ls : Array Slot} {st0 rest : List Value} {a : Array Value} {H0 : Heap} (hr : va_Run p l e R s m args below meth c H locs 0 0 0 0 (F0 m pc ls st0) rest (zQ D cI cG ad sh y a) (zA ad sh)) (hS : va_S (zA ad sh) H0 H locs)
    (kk : ∀ (H1 : Heap) (locs1 : List Loc), va_P D vwCl (zW cI cG ad sh y.2) H1 → va_S (zA ad sh) H0 H1 locs1 → W p l e R s m args below meth c H1 locs1 0 0 Q (F0 m (pc + 3) ls (y.1.toList ++ rest))) : W p l e R s m args below meth c H locs 0 0 Q (F0 m pc ls st0) := by
  intro T hT X
  obtain ⟨v, st₀, t, T', L, h0, X', hL, e1, e2, ⟨hv, hp, hz, hk⟩, st⟩ := hr T hT X
  cases hv
  rw [h0] at hz hk
  obtain ⟨t2, a1, b1⟩ := kk T'.heap (locs ++ L) (by rw [e1]; exact hp)
    ⟨Nat.le_trans hS.1 (by rw [e1]; exact hz), fun q h1 h2 => by rw [e1, hk q (Nat.lt_of_lt_of_le h1 hS.1) h2]; exact hS.2.1 q h1 h2, fun q hq => by
      rcases List.mem_append.mp hq with h | h
      · exact hS.2.2 q h
      · exact hL q h⟩ T' rfl X'
  exact ⟨t2, st t2 a1, b1⟩
end ZC
section ZR3
variable {ρ : Type} {X : zX} {ad : Nat → Nat} {sh : List zK} {cc : ByteArray} {own : String} {ret : Option FieldType} {d : Nat} {emb : ρ → Option Value × zH} {pc q : Nat} {lv : List (Option Value)} {st : List Value} {h : zH} {o : Option ρ}
variable {σ : Type} {y : MethodName} {bytes : ByteArray} {maxL idx n d' : Nat} {rt : Option FieldType} {embc : σ → Option Value × zH} {oc : Option σ} {ko : σ → Option ρ} {av : (Nat → Nat) → List Value} {As st0 : List Value}
theorem g_callV (C : zC X ad sh cc own ret d) (w : zCv own idx y bytes maxL rt n) (i : zI cc pc (.invokevirtual idx) 3 q) (hM : zM y bytes maxL rt d' sh av h embc oc) (hd : d' + 1 ≤ d) {a ci : Nat} {fs : List (Option Nat)} {T : u_T} {N : Nat} (ha : sh[a]? = some (.inr (.inl (ci, fs)))) (hci : vwCl[ci]? = some (y.cls, T, N)) (hav : av ad = .ref (ad a) :: As) (hn : As.length = n) (hst : st0 = As.reverse ++ .ref (ad a) :: st) (hrm : (st.map fun v => v.category).sum ≤ 8)
    (k : ∀ x, zG X ad sh emb q lv ((embc x).1.toList ++ st) (embc x).2 (ko x)) : zG X ad sh emb pc lv st0 h (oc.bind ko) := by
  obtain ⟨p, l, e, R, s, m, args, below, meth, c, nL, D, cI, cG⟩ := X
  obtain ⟨hx, hb, hml, hown, hts, hK, hN, hlk, hr, hj, hR⟩ := C
  obtain ⟨di, rfl⟩ := i
  obtain ⟨⟨w1, w2, w3, w4, w5⟩, w6, w7⟩ := w
  subst hR
  intro x9 hx9 H locs ls hP hS hL
  obtain ⟨x8, hx8, hx9⟩ := Option.bind_eq_some_iff.mp hx9
  have M := hM x8 hx8 l D cI cG ad hj
  rw [hav] at M
  have hcw : CallW (zR d) s args own y.cls idx y bytes maxL rt (Cond.code y bytes maxL rt :: zWd) (zR d') 0 0 n := ⟨callB_of n hts (z_goodT w3) rfl rfl rfl (hts _ w2) (hts _ w1) w4 ⟨hd, by show 8 + (maxL + 11) + 35 * d' ≤ 35 * d; omega⟩, hts _ w6, hts _ w7⟩
  refine z_after (va_runV (Ts := zWd) (As := As) (rest := st) ⟨hx, hb, hml, hown, hts⟩ M hcw ⟨zPc_blind, va_recv hK hP hci (zW_at ha), fun U hU hW => ⟨rfl, by rw [hU]; exact hP, va_K.moved hW.alike hK, hN.warm hW⟩⟩ rfl hn hL.1 hst (lv_room hrm) di ⟨Nat.zero_le _, Nat.zero_le _⟩) hS (fun H1 locs1 hP1 hS1 => ?_)
  exact k x8 x9 hx9 H1 locs1 ls hP1 hS1 hL
theorem g_callS (C : zC X ad sh cc own ret d) (w : zCs own idx y bytes maxL rt n) (i : zI cc pc (.invokestatic idx) 3 q) (hM : zM y bytes maxL rt d' sh av h embc oc) (hd : d' + 1 ≤ d) (hav : av ad = As) (hn : As.length = n) (hst : st0 = As.reverse ++ st) (hrm : (st.map fun v => v.category).sum ≤ 8)
    (k : ∀ x, zG X ad sh emb q lv ((embc x).1.toList ++ st) (embc x).2 (ko x)) : zG X ad sh emb pc lv st0 h (oc.bind ko) := by
  obtain ⟨p, l, e, R, s, m, args, below, meth, c, nL, D, cI, cG⟩ := X
  obtain ⟨hx, hb, hml, hown, hts, hK, hN, hlk, hr, hj, hR⟩ := C
  obtain ⟨di, rfl⟩ := i
  obtain ⟨⟨w1, w2, w3, w4, w5⟩, w6⟩ := w
  subst hR
  intro x9 hx9 H locs ls hP hS hL
  obtain ⟨x8, hx8, hx9⟩ := Option.bind_eq_some_iff.mp hx9
  have M := hM x8 hx8 l D cI cG ad hj
  rw [hav] at M
  refine z_after (va_runS (Ts := zWd) (As := As) (rest := st) (n := n) ⟨hx, hb, hml, hown, hts⟩ M ⟨callB_of n hts (z_goodT w3) rfl rfl rfl (hts _ w2) (hts _ w1) w4 ⟨hd, by show 8 + (maxL + 11) + 35 * d' ≤ 35 * d; omega⟩, hts _ w6⟩ ⟨zPc_blind, fun U hU hW => ⟨rfl, by rw [hU]; exact hP, va_K.moved hW.alike hK, hN.warm hW⟩⟩ rfl hn hL.1 hst (lv_room hrm) di ⟨Nat.zero_le _, Nat.zero_le _⟩) hS (fun H1 locs1 hP1 hS1 => ?_)
  exact k x8 x9 hx9 H1 locs1 ls hP1 hS1 hL
theorem g_callN (C : zC X ad sh cc own ret d) (w : zCn own idx y bytes maxL rt n) (i : zI cc pc (.invokestatic idx) 3 q) (hM : zM y bytes maxL rt d' sh av h embc oc) (hd : d' + 1 ≤ d) (hav : av ad = As) (hn : As.length = n) (hst : st0 = As.reverse ++ st) (hrm : (st.map fun v => v.category).sum ≤ 8)
    (k : ∀ x, zG X ad sh emb q lv ((embc x).1.toList ++ st) (embc x).2 (ko x)) : zG X ad sh emb pc lv st0 h (oc.bind ko) := by
  obtain ⟨p, l, e, R, s, m, args, below, meth, c, nL, D, cI, cG⟩ := X
  obtain ⟨hx, hb, hml, hown, hts, hK, hN, hlk, hr, hj, hR⟩ := C
  obtain ⟨di, rfl⟩ := i
  obtain ⟨w1, w2, w3, w4, w5, w6⟩ := w
  subst hR
  intro x9 hx9 H locs ls hP hS hL
  obtain ⟨x8, hx8, hx9⟩ := Option.bind_eq_some_iff.mp hx9
  have M := hM x8 hx8 l D cI cG ad hj
  rw [hav] at M
  refine z_after (va_runSN (Ts := zWd) (As := As) (rest := st) (n := n) (host := "ShedStages") ⟨hx, hb, hml, hown, hts⟩ M ⟨va_cnB n hts (z_goodT w3) rfl rfl rfl (hN _ w1) (hts _ w2) w4 ⟨hd, by show 8 + (maxL + 11) + 35 * d' ≤ 35 * d; omega⟩, hts _ w6, trivial⟩ ⟨zPc_blind, fun U hU hW => ⟨rfl, by rw [hU]; exact hP, va_K.moved hW.alike hK, hN.warm hW⟩⟩ rfl hn hL.1 hst (lv_room hrm) di ⟨Nat.zero_le _, Nat.zero_le _⟩) hS (fun H1 locs1 hP1 hS1 => ?_)
  exact k x8 x9 hx9 H1 locs1 ls hP1 hS1 hL
def zMw (own : String) (idx : Nat) (y : MethodName) (bytes : ByteArray) (maxL : Nat) : Prop := Cond.methodLink own idx y ∈ zWd ∧ Cond.static y ∈ zWd ∧ Cond.initialized "java/lang/Math" ∈ zWd ∧ Cond.code y bytes maxL (some .int) ∈ zWd
theorem g_min (C : zC X ad sh cc own ret d) {x z : Int32} (w : zMw own idx Lib.Math.min.name Lib.Math.min.code 2) (i : zI cc pc (.invokestatic idx) 3 q) (hd : 1 ≤ d) (hrm : (st.map fun v => v.category).sum ≤ 8) (k : zG X ad sh emb q lv (.int (zmin x z) :: st) h o) : zG X ad sh emb pc lv (.int z :: .int x :: st) h o := by
  obtain ⟨p, l, e, R, s, m, args, below, meth, c, nL, D, cI, cG⟩ := X
  obtain ⟨hx, hb, hml, hown, hts, hK, hN, hlk, hr, hj, hR⟩ := C
  obtain ⟨di, rfl⟩ := i
  obtain ⟨w1, w2, w3, w4⟩ := w
  subst hR
  intro x9 hx9 H locs ls hP hS hL
  exact va_mmin hx hb (hml.trans hL.1.symm) hown (hts _ w1) (hts _ w2) (hts _ w3) (hts _ w4) hd (by show _ ≤ 35 * d; omega) (Nat.zero_le _) (Nat.zero_le _) di (k x9 hx9 H locs ls hP hS hL)
theorem g_max (C : zC X ad sh cc own ret d) {x z : Int32} (w : zMw own idx Lib.Math.max.name Lib.Math.max.code 2) (i : zI cc pc (.invokestatic idx) 3 q) (hd : 1 ≤ d) (hrm : (st.map fun v => v.category).sum ≤ 8) (k : zG X ad sh emb q lv (.int (zmax x z) :: st) h o) : zG X ad sh emb pc lv (.int z :: .int x :: st) h o := by
  obtain ⟨p, l, e, R, s, m, args, below, meth, c, nL, D, cI, cG⟩ := X
  obtain ⟨hx, hb, hml, hown, hts, hK, hN, hlk, hr, hj, hR⟩ := C
  obtain ⟨di, rfl⟩ := i
  obtain ⟨w1, w2, w3, w4⟩ := w
  subst hR
  intro x9 hx9 H locs ls hP hS hL
  exact va_mmax hx hb (hml.trans hL.1.symm) hown (hts _ w1) (hts _ w2) (hts _ w3) (hts _ w4) hd (by show _ ≤ 35 * d; omega) (Nat.zero_le _) (Nat.zero_le _) di (k x9 hx9 H locs ls hP hS hL)
theorem g_abs (C : zC X ad sh cc own ret d) {x : Int32} (w : zMw own idx Lib.Math.abs.name Lib.Math.abs.code 1) (i : zI cc pc (.invokestatic idx) 3 q) (hd : 1 ≤ d) (hrm : (st.map fun v => v.category).sum ≤ 8) (k : zG X ad sh emb q lv (.int (zabs x) :: st) h o) : zG X ad sh emb pc lv (.int x :: st) h o := by
  obtain ⟨p, l, e, R, s, m, args, below, meth, c, nL, D, cI, cG⟩ := X
  obtain ⟨hx, hb, hml, hown, hts, hK, hN, hlk, hr, hj, hR⟩ := C
  obtain ⟨di, rfl⟩ := i
  obtain ⟨w1, w2, w3, w4⟩ := w
  subst hR
  intro x9 hx9 H locs ls hP hS hL
  exact va_mabs hx hb (hml.trans hL.1.symm) hown (hts _ w1) (hts _ w2) (hts _ w3) (hts _ w4) hd (by show _ ≤ 35 * d; omega) (Nat.zero_le _) (Nat.zero_le _) di (k x9 hx9 H locs ls hP hS hL)
def zCp (own : String) (idx : Nat) : Prop := Cond.methodLink own idx arraycopyName ∈ zWd ∧ Cond.native arraycopyName ∈ zWd ∧ Cond.static arraycopyName ∈ zWd ∧ Cond.initialized "java/lang/System" ∈ zWd
/-- the row b becomes the first n of the row a -/
def cpy2 (h : zH) (a b n : Nat) : zH := fun k => if k = b then va_cpy (h a) (h b) 0 0 n else h k
theorem g_copy (C : zC X ad sh cc own ret d) {a b na nb nn : Nat} {n0 : Int32} {ko : zH → Option ρ} (w : zCp own idx) (i : zI cc pc (.invokestatic idx) 3 q) (hd : 2 ≤ d) (hrm : (st.map fun v => v.category).sum ≤ 8) (ha : sh[a]? = some (.inl na)) (hb2 : sh[b]? = some (.inl nb)) (hn : n0.toNatClampNeg = nn) (h0 : ¬ n0 < 0) (h1 : nn ≤ na) (h2 : nn ≤ nb) (kt : ∀ h', zG X ad sh emb q lv st h' (ko h')) : zG X ad sh emb pc lv (.int n0 :: .int 0 :: .ref (ad b) :: .int 0 :: .ref (ad a) :: st) h (zlet (cpy2 h a b nn) ko) := by
  have kt := kt (cpy2 h a b nn)
  obtain ⟨p, l, e, R, s, m, args, below, meth, c, nL, D, cI, cG⟩ := X
  obtain ⟨hx, hb, hml, hown, hts, hK, hN, hlk, hr, hj, hR⟩ := C
  obtain ⟨di, rfl⟩ := i
  obtain ⟨w1, w2, w3, w4⟩ := w
  subst hR
  subst hn
  intro x9 hx9 H locs ls hP hS hL
  refine va_copyi (ty := .int) hx hb (hml.trans hL.1.symm) hown (hts _ w1) (hts _ w2) (hts _ w3) (hts _ w4) hK hP hj.D hS a b 0 0 (zW_at ha) (zW_at hb2) rfl rfl rfl (by decide) (by decide) h0 (by simpa using h1) (by simpa using h2) (fun _ _ => rfl) (by show 1 ≤ d; omega) (by
    have e1 : nativeFrameWords "java/lang/System" "arraycopy" 5 + 11 ≤ 50 := by decide +kernel
    show _ ≤ 35 * d; omega) di (fun H1 locs1 hP1 _ hS1 => ?_)
  refine kt x9 hx9 H1 locs1 ls ?_ hS1 hL
  rw [← zW_set (h := h) (h' := cpy2 h a b n0.toNatClampNeg) hb2 (fun k hk => by simp [cpy2, hk])]
  have e2 : cpy2 h a b n0.toNatClampNeg b = va_cpy (h a) (h b) 0 0 n0.toNatClampNeg := by simp [cpy2]
  show va_P D vwCl ((zW cI cG ad sh h).set b (ad b, .inl (cI, nb, .inl (cpy2 h a b n0.toNatClampNeg b)))) H1
  rw [e2]
  exact hP1
theorem g_ldc (C : zC X ad sh cc own ret d) {v : Int32} (w : Cond.constant own idx v ∈ zWd) (i : zI cc pc (.ldc idx) 2 q) (k : zG X ad sh emb q lv (.int v :: st) h o) : zG X ad sh emb pc lv st h o := by
  obtain ⟨p, l, e, R, s, m, args, below, meth, c, nL, D, cI, cG⟩ := X
  obtain ⟨hx, hb, hml, hown, hts, hK, hN, hlk, hr, hj, hR⟩ := C
  obtain ⟨di, rfl⟩ := i
  intro x9 hx9 H locs ls hP hS hL
  exact lv_ldc hx hb hown (hts _ w) di (k x9 hx9 H locs ls hP hS hL)
theorem g_ldcw (C : zC X ad sh cc own ret d) {v : Int32} (w : Cond.constant own idx v ∈ zWd) (i : zI cc pc (.ldc_w idx) 3 q) (k : zG X ad sh emb q lv (.int v :: st) h o) : zG X ad sh emb pc lv st h o := by
  obtain ⟨p, l, e, R, s, m, args, below, meth, c, nL, D, cI, cG⟩ := X
  obtain ⟨hx, hb, hml, hown, hts, hK, hN, hlk, hr, hj, hR⟩ := C
  obtain ⟨di, rfl⟩ := i
  intro x9 hx9 H locs ls hP hS hL
  exact lv_ldcw hx hb hown (hts _ w) di (k x9 hx9 H locs ls hP hS hL)
end ZR3
end
section
def shX : List zK := [.inr (.inl (6, [some 1, some 3, some 5, some 17, some 29, some 37, some 45, some 46, some 47])), .inr (.inl (2, [some 2, none])), .inl 200, .inr (.inl (5, [some 4])), .inl 4, .inr (.inl (4, [none, none, none, none, none, some 6, some 7, some 8, some 9, some 10, some 11, some 12, some 13, some 14, some 15, some 16])), .inl 9, .inl 9, .inl 6, .inl 6, .inl 6, .inl 6, .inl 9, .inl 9, .inl 9, .inl 6, .inl 6, .inr (.inl (4, [none, none, none, none, none, some 18, some 19, some 20, some 21, some 22, some 23, some 24, some 25, some 26, some 27, some 28])), .inl 9, .inl 9, .inl 6, .inl 6, .inl 6, .inl 6, .inl 9, .inl 9, .inl 9, .inl 6, .inl 6, .inr (.inl (1, [some 17, none, some 30, some 31, some 32, some 33, some 34, none, some 35, none, some 36, none])), .inl 6, .inl 6, .inl 6, .inl 36, .inl 6, .inl 9, .inl 6, .inr (.inl (1, [some 17, none, some 38, some 39, some 40, some 41, some 42, none, some 43, none, some 44, none])), .inl 6, .inl 6, .inl 6, .inl 36, .inl 6, .inl 9, .inl 6, .inr (.inl (0, [some 17, some 29, none, none, none])), .inr (.inl (0, [some 17, some 37, none, none, none])), .inr (.inl (3, [some 48, none, none])), .inr (.inr [49, 57, 65, 73]), .inr (.inl (1, [some 17, none, some 50, some 51, some 52, some 53, some 54, none, some 55, none, some 56, none])), .inl 6, .inl 6, .inl 6, .inl 36, .inl 6, .inl 9, .inl 6, .inr (.inl (1, [some 17, none, some 58, some 59, some 60, some 61, some 62, none, some 63, none, some 64, none])), .inl 6, .inl 6, .inl 6, .inl 36, .inl 6, .inl 9, .inl 6, .inr (.inl (1, [some 17, none, some 66, some 67, some 68, some 69, some 70, none, some 71, none, some 72, none])), .inl 6, .inl 6, .inl 6, .inl 36, .inl 6, .inl 9, .inl 6, .inr (.inl (1, [some 17, none, some 74, some 75, some 76, some 77, some 78, none, some 79, none, some 80, none])), .inl 6, .inl 6, .inl 6, .inl 36, .inl 6, .inl 9, .inl 6]
def shM : List zK := [.inr (.inl (7, [none, some 1, some 2, some 3, some 4, some 5, some 6, some 7, some 8, some 9, none, none, none, none, none, none, none])), .inl 200, .inl 10, .inl 36, .inl 48, .inl 54, .inl 24, .inl 67, .inl 268, .inl 67]
def isG (g : Nat) : Prop := shX[g]? = some (.inr (.inl (1, [some 17, none, some (g + 1), some (g + 2), some (g + 3), some (g + 4), some (g + 5), none, some (g + 6), none, some (g + 7), none]))) ∧ shX[g + 1]? = some (.inl 6) ∧ shX[g + 2]? = some (.inl 6) ∧ shX[g + 3]? = some (.inl 6) ∧ shX[g + 4]? = some (.inl 36) ∧ shX[g + 5]? = some (.inl 6) ∧ shX[g + 6]? = some (.inl 9) ∧ shX[g + 7]? = some (.inl 6)
def isP (p : Nat) : Prop := shX[p]? = some (.inr (.inl (4, [none, none, none, none, none, some (p + 1), some (p + 2), some (p + 3), some (p + 4), some (p + 5), some (p + 6), some (p + 7), some (p + 8), some (p + 9), some (p + 10), some (p + 11)]))) ∧ shX[p + 1]? = some (.inl 9) ∧ shX[p + 2]? = some (.inl 9) ∧ shX[p + 3]? = some (.inl 6) ∧ shX[p + 4]? = some (.inl 6) ∧ shX[p + 5]? = some (.inl 6) ∧ shX[p + 6]? = some (.inl 6) ∧ shX[p + 7]? = some (.inl 9) ∧ shX[p + 8]? = some (.inl 9) ∧ shX[p + 9]? = some (.inl 9) ∧ shX[p + 10]? = some (.inl 6) ∧ shX[p + 11]? = some (.inl 6)
def isC (c g : Nat) : Prop := shX[c]? = some (.inr (.inl (0, [some 17, some g, none, none, none])))
theorem isG29 : isG 29 := ⟨rfl, rfl, rfl, rfl, rfl, rfl, rfl, rfl⟩
theorem isG37 : isG 37 := ⟨rfl, rfl, rfl, rfl, rfl, rfl, rfl, rfl⟩
theorem isG49 : isG 49 := ⟨rfl, rfl, rfl, rfl, rfl, rfl, rfl, rfl⟩
theorem isG57 : isG 57 := ⟨rfl, rfl, rfl, rfl, rfl, rfl, rfl, rfl⟩
theorem isG65 : isG 65 := ⟨rfl, rfl, rfl, rfl, rfl, rfl, rfl, rfl⟩
theorem isG73 : isG 73 := ⟨rfl, rfl, rfl, rfl, rfl, rfl, rfl, rfl⟩
theorem isP5 : isP 5 := ⟨rfl, rfl, rfl, rfl, rfl, rfl, rfl, rfl, rfl, rfl, rfl, rfl⟩
theorem isP17 : isP 17 := ⟨rfl, rfl, rfl, rfl, rfl, rfl, rfl, rfl, rfl, rfl, rfl, rfl⟩
theorem isC45 : isC 45 29 := rfl
theorem isC46 : isC 46 37 := rfl
theorem sh0 : shX[0]? = some (.inr (.inl (6, [some 1, some 3, some 5, some 17, some 29, some 37, some 45, some 46, some 47]))) := rfl
theorem sh1 : shX[1]? = some (.inr (.inl (2, [some 2, none]))) := rfl
theorem sh2 : shX[2]? = some (.inl 200) := rfl
theorem sh3 : shX[3]? = some (.inr (.inl (5, [some 4]))) := rfl
theorem sh4 : shX[4]? = some (.inl 4) := rfl
theorem sh47 : shX[47]? = some (.inr (.inl (3, [some 48, none, none]))) := rfl
theorem sh48 : shX[48]? = some (.inr (.inr [49, 57, 65, 73])) := rfl
theorem mh0 : shM[0]? = some (.inr (.inl (7, [none, some 1, some 2, some 3, some 4, some 5, some 6, some 7, some 8, some 9, none, none, none, none, none, none, none]))) := rfl
theorem mh1 : shM[1]? = some (.inl 200) := rfl
theorem mh2 : shM[2]? = some (.inl 10) := rfl
theorem mh3 : shM[3]? = some (.inl 36) := rfl
theorem mh4 : shM[4]? = some (.inl 48) := rfl
theorem mh5 : shM[5]? = some (.inl 54) := rfl
theorem mh6 : shM[6]? = some (.inl 24) := rfl
theorem mh7 : shM[7]? = some (.inl 67) := rfl
theorem mh8 : shM[8]? = some (.inl 268) := rfl
theorem mh9 : shM[9]? = some (.inl 67) := rfl
theorem isG_kept {j : Int32} (h : zr j ([49, 57, 65, 73] : List Nat).length = true) : isG (([49, 57, 65, 73] : List Nat).getD j.toNatClampNeg 0) := by
  have h1 : j.toNatClampNeg < 4 := Nat.not_le.mp fun q => zr_in h (Or.inr q)
  rcases (show j.toNatClampNeg = 0 ∨ j.toNatClampNeg = 1 ∨ j.toNatClampNeg = 2 ∨ j.toNatClampNeg = 3 by omega) with e | e | e | e <;> rw [e]
  · exact isG49
  · exact isG57
  · exact isG65
  · exact isG73
theorem u_inX0 : ∀ w ∈ u_ws RX0 TX0 5, w ∈ zWd := by decide +kernel
theorem u_inX1 : ∀ w ∈ u_ws RX1 TX1 12, w ∈ zWd := by decide +kernel
theorem u_inX2 : ∀ w ∈ u_ws RX2 TX2 2, w ∈ zWd := by decide +kernel
theorem u_inX3 : ∀ w ∈ u_ws RX3 TX3 3, w ∈ zWd := by decide +kernel
theorem u_inX4 : ∀ w ∈ u_ws RX4 TX4 16, w ∈ zWd := by decide +kernel
theorem u_inX5 : ∀ w ∈ u_ws RX5 TX5 1, w ∈ zWd := by decide +kernel
theorem u_inX6 : ∀ w ∈ u_ws RX6 TX6 9, w ∈ zWd := by decide +kernel
theorem u_inX7 : ∀ w ∈ u_ws RX7 TX7 17, w ∈ zWd := by decide +kernel
end
section
def Co_forget (c g : Nat) (h : zH) : Option (zH) :=
  zlet (upd2 h c 2 0) fun h_1 =>
  zlet (upd2 h_1 c 3 0) fun h_2 =>
  zlet (upd2 h_2 c 4 0) fun h_3 =>
  some h_3

def Gr_isDark (g : Nat) (x1 : Int32) (h : zH) : Option (Int32) :=
  gd (zr x1 6) (
   if (h (g + 3) x1.toNatClampNeg) = 0 then (
    some 1)
   else (
    some 0))

def SS_has (x0 : Int32) (x1 : Int32) : Option (Int32) :=
  if ((zshr x0 x1) &&& 1) = 1 then (
   some 1)
  else (
   some 0)

def Gr_feederBits_L5 (g : Nat) (x1 : Int32) (x2 : Int32) (h : zH) (k62 : Int32 → Option (Int32)) : Nat → Int32 → Int32 → Option (Int32)
  | 0, _, _ => none
  | n + 1, x3, x4 =>
    if (h 17 3) ≤ x4 then (
     k62 x3)
    else (
     (SS_has (h g 7) x4).bind fun r =>
     if r = x2 then (
      gd (zr x4 9) (
       gd (zr (h 24 x4.toNatClampNeg) 6) (
        if (h (g + 1) (h 24 x4.toNatClampNeg).toNatClampNeg) = x1 then (
         zlet (x3 ||| (zshl 1 x4)) fun x3_1 =>
         Gr_feederBits_L5 g x1 x2 h k62 n x3_1 (x4 + 1))
        else (
         Gr_feederBits_L5 g x1 x2 h k62 n x3 (x4 + 1)))))
     else (
      Gr_feederBits_L5 g x1 x2 h k62 n x3 (x4 + 1)))
def Gr_feederBits (g : Nat) (x1 : Int32) (x2 : Int32) (h : zH) : Option (Int32) :=
  Gr_feederBits_L5 g x1 x2 h (fun x3_2 =>
   some x3_2) 1000 0 0

def Pl_loadOfSet_L4 (p : Nat) (x1 : Int32) (h : zH) (k35 : Int32 → Option (Int32)) : Nat → Int32 → Int32 → Option (Int32)
  | 0, _, _ => none
  | n + 1, x2, x3 =>
    if (h p 3) ≤ x3 then (
     k35 x2)
    else (
     (SS_has x1 x3).bind fun r =>
     if r = 0 then (
      Pl_loadOfSet_L4 p x1 h k35 n x2 (x3 + 1))
     else (
      gd (zr x3 9) (
       zlet (x2 + (h (p + 8) x3.toNatClampNeg)) fun x2_1 =>
       Pl_loadOfSet_L4 p x1 h k35 n x2_1 (x3 + 1))))
def Pl_loadOfSet (p : Nat) (x1 : Int32) (h : zH) : Option (Int32) :=
  Pl_loadOfSet_L4 p x1 h (fun x2_2 =>
   some x2_2) 1000 0 0

def Gr_loadOf (g : Nat) (x1 : Int32) (h : zH) : Option (Int32) :=
  (Gr_feederBits g x1 1 h).bind fun r =>
  (Pl_loadOfSet 17 r h).bind fun r_1 =>
  some r_1

def Gr_aimOf (g : Nat) (x1 : Int32) (h : zH) : Option (Int32) :=
  (Gr_loadOf g x1 h).bind fun r =>
  gd (zr x1 6) (
   some (r + ((5000 - (h (g + 3) x1.toNatClampNeg)) / 20)))

def Gr_sumOfPlants_L5 (g : Nat) (a : Nat) (x2 : Int32) (h : zH) (k49 : Int32 → Option (Int32)) : Nat → Int32 → Int32 → Option (Int32)
  | 0, _, _ => none
  | n + 1, x3, x4 =>
    if (h 17 2) ≤ x4 then (
     k49 x3)
    else (
     gd (zr x4 6) (
      gd (zr (h 20 x4.toNatClampNeg) 6) (
       if (h (g + 1) (h 20 x4.toNatClampNeg).toNatClampNeg) = x2 then (
        gd (zr x4 6) (
         zlet (x3 + (h a x4.toNatClampNeg)) fun x3_1 =>
         Gr_sumOfPlants_L5 g a x2 h k49 n x3_1 (x4 + 1)))
       else (
        Gr_sumOfPlants_L5 g a x2 h k49 n x3 (x4 + 1)))))
def Gr_sumOfPlants (g : Nat) (a : Nat) (x2 : Int32) (h : zH) : Option (Int32) :=
  Gr_sumOfPlants_L5 g a x2 h (fun x3_2 =>
   some x3_2) 1000 0 0

def Gr_givenOf (g : Nat) (x1 : Int32) (h : zH) : Option (Int32) :=
  (Gr_sumOfPlants g (g + 5) x1 h).bind fun r =>
  some r

def Co_follow_L20 (g : Nat) (x1 : Int32) (k144 : zH → Option (zH)) : Nat → Int32 → Int32 → zH → Option (zH)
  | 0, _, _, _ => none
  | n + 1, x2_1, x3, h_1 =>
    if (h_1 17 2) ≤ x3 then (
     k144 h_1)
    else (
     gd (zr x3 6) (
      gd (zr (h_1 20 x3.toNatClampNeg) 6) (
       if (h_1 (g + 1) (h_1 20 x3.toNatClampNeg).toNatClampNeg) = x1 then (
        gd (zr x3 6) (
         zlet (h_1 (g + 5) x3.toNatClampNeg) fun x4 =>
         gd (zr x3 6) (
          gd (zr x3 6) (
           zlet (zmin (h_1 22 x3.toNatClampNeg) ((h_1 21 x3.toNatClampNeg) - x4)) fun x5 =>
           gd (zr x3 6) (
            zlet (-(zmin (h_1 22 x3.toNatClampNeg) x4)) fun x6 =>
            zlet (zmax x6 (zmin x5 x2_1)) fun x7 =>
            gd (zr x3 6) (zlet (upd2 h_1 (g + 5) x3.toNatClampNeg (x4 + x7)) fun h_2 =>
             zlet (x2_1 - x7) fun x2_2 =>
             Co_follow_L20 g x1 k144 n x2_2 (x3 + 1) h_2))))))
       else (
        Co_follow_L20 g x1 k144 n x2_1 (x3 + 1) h_1))))
def Co_follow (c g : Nat) (x1 : Int32) (h : zH) : Option (zH) :=
  (Gr_aimOf g x1 h).bind fun r =>
  (Gr_givenOf g x1 h).bind fun r_1 =>
  zlet (r - r_1) fun x2 =>
  Co_follow_L20 g x1 (fun h_3 =>
   some h_3) 1000 x2 0 h

def Gr_heavyOf (g : Nat) (x1 : Int32) (h : zH) : Option (Int32) :=
  (Gr_sumOfPlants g 23 x1 h).bind fun r =>
  some r

def Gr_drop (g : Nat) (x1 : Int32) (h : zH) : Option (zH) :=
  (SS_has (h g 7) x1).bind fun r =>
  if r = 0 then (
   some h)
  else (
   if 9 ≤ (h g 9) then (
    some h)
   else (
    zlet (upd2 h g 7 ((h g 7) &&& ((zshl 1 x1) ^^^ (-1)))) fun h_1 =>
    gd (zr (h_1 g 9) 9) (zlet (upd2 h_1 (g + 6) (h_1 g 9).toNatClampNeg x1) fun h_2 =>
     zlet (upd2 h_2 g 9 ((h_2 g 9) + 1)) fun h_3 =>
     some h_3)))

def Co_dropSet_L2 (c : Nat) (g : Nat) (x1 : Int32) (k63 : zH → Option (zH)) : Nat → Int32 → zH → Option (zH)
  | 0, _, _ => none
  | n + 1, x2, h_1 =>
    if (h_1 17 3) ≤ x2 then (
     k63 h_1)
    else (
     (SS_has x1 x2).bind fun r =>
     if r = 0 then (
      Co_dropSet_L2 c g x1 k63 n (x2 + 1) h_1)
     else (
      (Gr_drop g x2 h_1).bind fun h_2 =>
      zlet (upd2 h_2 c 2 ((h_2 c 2) + 1)) fun h_3 =>
      gd (zr x2 9) (
       zlet (upd2 h_3 c 3 ((h_3 c 3) + (h_3 25 x2.toNatClampNeg))) fun h_4 =>
       Co_dropSet_L2 c g x1 k63 n (x2 + 1) h_4)))
def Co_dropSet (c g : Nat) (x1 : Int32) (h : zH) : Option (zH) :=
  Co_dropSet_L2 c g x1 (fun h_5 =>
   some h_5) 1000 0 h

def Co_darken_L25 (g : Nat) (x1 : Int32) (k73 : zH → Option (zH)) : Nat → Int32 → zH → Option (zH)
  | 0, _, _ => none
  | n + 1, x2, h_3 =>
    if (h_3 17 2) ≤ x2 then (
     k73 h_3)
    else (
     gd (zr x2 6) (
      gd (zr (h_3 20 x2.toNatClampNeg) 6) (
       if (h_3 (g + 1) (h_3 20 x2.toNatClampNeg).toNatClampNeg) = x1 then (
        gd (zr x2 6) (zlet (upd2 h_3 (g + 5) x2.toNatClampNeg 0) fun h_4 =>
         Co_darken_L25 g x1 k73 n (x2 + 1) h_4))
       else (
        Co_darken_L25 g x1 k73 n (x2 + 1) h_3))))
def Co_darken (c g : Nat) (x1 : Int32) (h : zH) : Option (zH) :=
  gd (zr x1 6) (zlet (upd2 h (g + 3) x1.toNatClampNeg 0) fun h_1 =>
   (Gr_feederBits g x1 1 h_1).bind fun r =>
   (Co_dropSet c g r h_1).bind fun h_2 =>
   Co_darken_L25 g x1 (fun h_5 =>
    some h_5) 1000 0 h_2)

def Co_onOfStage_L13 (x2 : Int32) (h : zH) (k54 : Int32 → Option (Int32)) : Nat → Int32 → Int32 → Option (Int32)
  | 0, _, _ => none
  | n + 1, x3, x4 =>
    if (h 17 3) ≤ x4 then (
     k54 x3)
    else (
     gd (zr x4 9) (
      if (h 26 x4.toNatClampNeg) = x2 then (
       Co_onOfStage_L13 x2 h k54 n x3 (x4 + 1))
      else (
       zlet (x3 &&& ((zshl 1 x4) ^^^ (-1))) fun x3_1 =>
       Co_onOfStage_L13 x2 h k54 n x3_1 (x4 + 1))))
def Co_onOfStage (c g : Nat) (x1 : Int32) (x2 : Int32) (h : zH) : Option (Int32) :=
  (Gr_feederBits g x1 1 h).bind fun r =>
  Co_onOfStage_L13 x2 h (fun x3_2 =>
   some x3_2) 1000 r 0

def Co_passStage (c g : Nat) (x1 : Int32) (x2 : Int32) (h : zH) : Option (zH) :=
  zlet ((x1 * 6) + x2) fun x3 =>
  gd (zr x1 6) (
   gd (zr x2 6) (
    zlet (fun (v51 : Int32) =>
      gd (zr x3 36) (zlet (upd2 h (g + 4) x3.toNatClampNeg v51) fun h_1 =>
       gd (zr x3 36) (
        gd (zr x2 6) (
         if (h_1 (g + 4) x3.toNatClampNeg) < (h_1 28 x2.toNatClampNeg) then (
          some h_1)
         else (
          (Co_onOfStage c g x1 x2 h_1).bind fun r =>
          if r = 0 then (
           some h_1)
          else (
           (Co_dropSet c g r h_1).bind fun h_2 =>
           gd (zr x3 36) (zlet (upd2 h_2 (g + 4) x3.toNatClampNeg 0) fun h_3 =>
            some h_3))))))) fun j51 =>
    if (h (g + 7) x2.toNatClampNeg) ≤ (h (g + 3) x1.toNatClampNeg) then (
     j51 0)
    else (
     gd (zr x3 36) (
      j51 ((h (g + 4) x3.toNatClampNeg) + 1)))))

def Gr_capOf (g : Nat) (x1 : Int32) (h : zH) : Option (Int32) :=
  (Gr_sumOfPlants g 21 x1 h).bind fun r =>
  some r

def Co_nextBack_L28 (g : Nat) (x1 : Int32) (h : zH) (x2 : Int32) (k79 : Int32 → Option (Int32)) (k88 : Option (Int32)) : Nat → Int32 → Option (Int32)
  | 0, _ => none
  | n + 1, x3_1 =>
    if x3_1 < 0 then (
     k88)
    else (
     gd (zr x3_1 9) (
      zlet (h (g + 6) x3_1.toNatClampNeg) fun x4 =>
      gd (zr x4 9) (
       gd (zr (h 24 x4.toNatClampNeg) 6) (
        if (h (g + 1) (h 24 x4.toNatClampNeg).toNatClampNeg) = x1 then (
         gd (zr x4 9) (
          if x2 < (h 25 x4.toNatClampNeg) then (
           Co_nextBack_L28 g x1 h x2 k79 k88 n (x3_1 + (-1)))
          else (
           k79 x4)))
        else (
         Co_nextBack_L28 g x1 h x2 k79 k88 n (x3_1 + (-1)))))))
def Co_nextBack (c g : Nat) (x1 : Int32) (h : zH) : Option (Int32) :=
  (Gr_capOf g x1 h).bind fun r =>
  (Gr_loadOf g x1 h).bind fun r_1 =>
  zlet (r - r_1) fun x2 =>
  zlet ((h g 9) - 1) fun x3 =>
  Co_nextBack_L28 g x1 h x2 (fun x4_1 =>
   some x4_1) (some (-1)) 1000 x3

def Gr_putOn_L16 (g : Nat) (x1 : Int32) (k55 : Int32 → zH → Option (zH)) : Nat → Int32 → Int32 → zH → Option (zH)
  | 0, _, _, _ => none
  | n + 1, x2, x3, h_2 =>
    if (h_2 g 9) ≤ x3 then (
     k55 x2 h_2)
    else (
     gd (zr x3 9) (
      if (h_2 (g + 6) x3.toNatClampNeg) = x1 then (
       Gr_putOn_L16 g x1 k55 n x2 (x3 + 1) h_2)
      else (
       gd (zr x3 9) (
        gd (zr x2 9) (zlet (upd2 h_2 (g + 6) x2.toNatClampNeg (h_2 (g + 6) x3.toNatClampNeg)) fun h_3 =>
         Gr_putOn_L16 g x1 k55 n (x2 + 1) (x3 + 1) h_3)))))
def Gr_putOn (g : Nat) (x1 : Int32) (h : zH) : Option (zH) :=
  zlet (upd2 h g 7 ((h g 7) ||| (zshl 1 x1))) fun h_1 =>
  Gr_putOn_L16 g x1 (fun x2_1 h_4 =>
   zlet (upd2 h_4 g 9 x2_1) fun h_5 =>
   some h_5) 1000 0 0 h_1

def Co_passBack (c g : Nat) (x1 : Int32) (h : zH) : Option (zH) :=
  zlet ((x1 * 6) + 0) fun x2 =>
  gd (zr x1 6) (
   zlet (fun (v51 : Int32) =>
     gd (zr x2 36) (zlet (upd2 h (g + 4) x2.toNatClampNeg v51) fun h_1 =>
      gd (zr x2 36) (
       if (h_1 (g + 4) x2.toNatClampNeg) < (h_1 28 0) then (
        some h_1)
       else (
        (Co_nextBack c g x1 h_1).bind fun r =>
        if r < 0 then (
         some h_1)
        else (
         (Gr_putOn g r h_1).bind fun h_2 =>
         zlet (upd2 h_2 c 4 ((h_2 c 4) + 1)) fun h_3 =>
         gd (zr x2 36) (zlet (upd2 h_3 (g + 4) x2.toNatClampNeg 0) fun h_4 =>
          some h_4)))))) fun j51 =>
   if (h (g + 3) x1.toNatClampNeg) < (h (g + 7) 0) then (
    j51 0)
   else (
    gd (zr x2 36) (
     j51 ((h (g + 4) x2.toNatClampNeg) + 1))))

def Co_passIsland_L106 (c : Nat) (g : Nat) (x1 : Int32) (k131 : zH → Option (zH)) : Nat → Int32 → zH → Option (zH)
  | 0, _, _ => none
  | n + 1, x5, h_3 =>
    if (h_3 17 4) < x5 then (
     k131 h_3)
    else (
     (Co_passStage c g x1 x5 h_3).bind fun h_4 =>
     Co_passIsland_L106 c g x1 k131 n (x5 + 1) h_4)
def Co_passIsland (c g : Nat) (x1 : Int32) (h : zH) : Option (zH) :=
  (Gr_isDark g x1 h).bind fun r =>
  if r = 0 then (
   (Co_follow c g x1 h).bind fun h_1 =>
   (Gr_heavyOf g x1 h_1).bind fun r_1 =>
   if r_1 = 0 then (
    (Co_darken c g x1 h_1).bind fun h_8 =>
    some h_8)
   else (
    (Gr_givenOf g x1 h_1).bind fun r_2 =>
    (Gr_loadOf g x1 h_1).bind fun r_3 =>
    zlet (r_2 - r_3) fun x3 =>
    gd (zr x1 6) (
     gd (decide (¬ r_1 = 0)) (
      zlet (zmin 5200 ((h_1 (g + 3) x1.toNatClampNeg) + ((10 * x3) / r_1))) fun x4 =>
      if 4700 ≤ x4 then (
       gd (zr x1 6) (zlet (upd2 h_1 (g + 3) x1.toNatClampNeg x4) fun h_2 =>
        Co_passIsland_L106 c g x1 (fun h_5 =>
         (Co_passBack c g x1 h_5).bind fun h_6 =>
         some h_6) 1000 1 h_2))
      else (
       (Co_darken c g x1 h_1).bind fun h_7 =>
       some h_7)))))
  else (
   some h)

def Co_pass_L15 (c : Nat) (g : Nat) (k50 : zH → Option (zH)) : Nat → Int32 → zH → Option (zH)
  | 0, _, _ => none
  | n + 1, x1, h_2 =>
    if (h_2 17 0) ≤ x1 then (
     k50 h_2)
    else (
     gd (zr x1 6) (
      if (h_2 (g + 1) x1.toNatClampNeg) = x1 then (
       (Co_passIsland c g x1 h_2).bind fun h_3 =>
       Co_pass_L15 c g k50 n (x1 + 1) h_3)
      else (
       Co_pass_L15 c g k50 n (x1 + 1) h_2)))
def Co_pass (c g : Nat) (h : zH) : Option (zH) :=
  zlet (upd2 h g 11 ((h g 11) + 1)) fun h_1 =>
  Co_pass_L15 c g (fun h_4 =>
   some h_4) 1000 0 h_1

def Gr_copy (g : Nat) (o : Nat) (h : zH) : Option (zH) :=
  zlet (cpy2 h (o + 1) (g + 1) 6) fun h_1 =>
  zlet (cpy2 h_1 (o + 3) (g + 3) 6) fun h_2 =>
  zlet (cpy2 h_2 (o + 4) (g + 4) 36) fun h_3 =>
  zlet (cpy2 h_3 (o + 5) (g + 5) 6) fun h_4 =>
  zlet (cpy2 h_4 (o + 6) (g + 6) 9) fun h_5 =>
  zlet (cpy2 h_5 (o + 7) (g + 7) 6) fun h_6 =>
  zlet (upd2 h_6 g 1 (h_6 o 1)) fun h_7 =>
  zlet (upd2 h_7 g 7 (h_7 o 7)) fun h_8 =>
  zlet (upd2 h_8 g 9 (h_8 o 9)) fun h_9 =>
  zlet (upd2 h_9 g 11 (h_9 o 11)) fun h_10 =>
  some h_10

def Gr_findRoots_L2 (g : Nat) (k21 : zH → Option (zH)) : Nat → Int32 → zH → Option (zH)
  | 0, _, _ => none
  | n + 1, x1, h_1 =>
    if 6 ≤ x1 then (
     k21 h_1)
    else (
     gd (zr x1 6) (zlet (upd2 h_1 (g + 1) x1.toNatClampNeg x1) fun h_2 =>
      Gr_findRoots_L2 g k21 n (x1 + 1) h_2))
def Gr_findRoots_L36 (g : Nat) (k120 : zH → Option (zH)) : Nat → Int32 → zH → Option (zH)
  | 0, _, _ => none
  | n_2 + 1, x2, h_5 =>
    if (h_5 17 1) ≤ x2 then (
     k120 h_5)
    else (
     (SS_has (h_5 g 1) x2).bind fun r =>
     if r = 0 then (
      Gr_findRoots_L36 g k120 n_2 (x2 + 1) h_5)
     else (
      gd (zr x2 9) (
       zlet (h_5 18 x2.toNatClampNeg) fun x3 =>
       gd (zr x2 9) (
        zlet (h_5 19 x2.toNatClampNeg) fun x4 =>
        gd (zr x3 6) (
         gd (zr x4 6) (
          zlet (zmin (h_5 (g + 1) x3.toNatClampNeg) (h_5 (g + 1) x4.toNatClampNeg)) fun x5 =>
          gd (zr x3 6) (zlet (upd2 h_5 (g + 1) x3.toNatClampNeg x5) fun h_6 =>
           gd (zr x4 6) (zlet (upd2 h_6 (g + 1) x4.toNatClampNeg x5) fun h_7 =>
            Gr_findRoots_L36 g k120 n_2 (x2 + 1) h_7))))))))
def Gr_findRoots_L23 (g : Nat) (k126 : zH → Option (zH)) : Nat → Int32 → zH → Option (zH)
  | 0, _, _ => none
  | n_1 + 1, x1_1, h_4 =>
    if (h_4 17 0) ≤ x1_1 then (
     k126 h_4)
    else (
     Gr_findRoots_L36 g (fun h_8 =>
      Gr_findRoots_L23 g k126 n_1 (x1_1 + 1) h_8) 1000 0 h_4)
def Gr_findRoots (g : Nat) (h : zH) : Option (zH) :=
  Gr_findRoots_L2 g (fun h_3 =>
   Gr_findRoots_L23 g (fun h_9 =>
    some h_9) 1000 0 h_3) 1000 0 h

def Gr_clearCounts_L2 (g : Nat) (x1 : Int32) (k26 : zH → Option (zH)) : Nat → Int32 → zH → Option (zH)
  | 0, _, _ => none
  | n + 1, x2, h_1 =>
    if 6 ≤ x2 then (
     k26 h_1)
    else (
     gd (zr ((x1 * 6) + x2) 36) (zlet (upd2 h_1 (g + 4) ((x1 * 6) + x2).toNatClampNeg 0) fun h_2 =>
      Gr_clearCounts_L2 g x1 k26 n (x2 + 1) h_2))
def Gr_clearCounts (g : Nat) (x1 : Int32) (h : zH) : Option (zH) :=
  Gr_clearCounts_L2 g x1 (fun h_3 =>
   some h_3) 1000 0 h

def Gr_giveLoad_L2 (g : Nat) (k21 : zH → Option (zH)) : Nat → Int32 → zH → Option (zH)
  | 0, _, _ => none
  | n + 1, x1, h_1 =>
    if 6 ≤ x1 then (
     k21 h_1)
    else (
     gd (zr x1 6) (zlet (upd2 h_1 (g + 5) x1.toNatClampNeg 0) fun h_2 =>
      Gr_giveLoad_L2 g k21 n (x1 + 1) h_2))
def Gr_giveLoad_L23 (g : Nat) (k84 : zH → Option (zH)) : Nat → Int32 → zH → Option (zH)
  | 0, _, _ => none
  | n_1 + 1, x1_1, h_4 =>
    if (h_4 17 2) ≤ x1_1 then (
     k84 h_4)
    else (
     gd (zr x1_1 6) (
      gd (zr (h_4 20 x1_1.toNatClampNeg) 6) (
       zlet (h_4 (g + 1) (h_4 20 x1_1.toNatClampNeg).toNatClampNeg) fun x2 =>
       gd (zr x1_1 6) (
        (Gr_loadOf g x2 h_4).bind fun r =>
        (Gr_givenOf g x2 h_4).bind fun r_1 =>
        gd (zr x1_1 6) (zlet (upd2 h_4 (g + 5) x1_1.toNatClampNeg (zmin (h_4 21 x1_1.toNatClampNeg) (r - r_1))) fun h_5 =>
         Gr_giveLoad_L23 g k84 n_1 (x1_1 + 1) h_5)))))
def Gr_giveLoad (g : Nat) (h : zH) : Option (zH) :=
  Gr_giveLoad_L2 g (fun h_3 =>
   Gr_giveLoad_L23 g (fun h_6 =>
    some h_6) 1000 0 h_3) 1000 0 h

def Gr_layOut_L64 (g : Nat) (k90 : zH → Option (zH)) : Nat → Int32 → zH → Option (zH)
  | 0, _, _ => none
  | n + 1, x1, h_7 =>
    if 6 ≤ x1 then (
     k90 h_7)
    else (
     gd (zr x1 6) (zlet (upd2 h_7 (g + 3) x1.toNatClampNeg 5000) fun h_8 =>
      (Gr_clearCounts g x1 h_8).bind fun h_9 =>
      Gr_layOut_L64 g k90 n (x1 + 1) h_9))
def Gr_layOut (g : Nat) (h : zH) : Option (zH) :=
  zlet (upd2 h g 1 ((zshl 1 (h 17 1)) - 1)) fun h_1 =>
  zlet (upd2 h_1 g 7 ((zshl 1 (h_1 17 3)) - 1)) fun h_2 =>
  zlet (upd2 h_2 g 9 0) fun h_3 =>
  zlet (upd2 h_3 g 11 0) fun h_4 =>
  zlet (cpy2 h_4 27 (g + 7) 6) fun h_5 =>
  (Gr_findRoots g h_5).bind fun h_6 =>
  Gr_layOut_L64 g (fun h_10 =>
   (Gr_giveLoad g h_10).bind fun h_11 =>
   some h_11) 1000 0 h_6

def Gr_copyCounts_L2 (g : Nat) (x1 : Int32) (x2 : Int32) (k36 : zH → Option (zH)) : Nat → Int32 → zH → Option (zH)
  | 0, _, _ => none
  | n + 1, x3, h_1 =>
    if 6 ≤ x3 then (
     k36 h_1)
    else (
     gd (zr ((x1 * 6) + x3) 36) (
      gd (zr ((x2 * 6) + x3) 36) (zlet (upd2 h_1 (g + 4) ((x2 * 6) + x3).toNatClampNeg (h_1 (g + 4) ((x1 * 6) + x3).toNatClampNeg)) fun h_2 =>
       Gr_copyCounts_L2 g x1 x2 k36 n (x3 + 1) h_2)))
def Gr_copyCounts (g : Nat) (x1 : Int32) (x2 : Int32) (h : zH) : Option (zH) :=
  Gr_copyCounts_L2 g x1 x2 (fun h_3 =>
   some h_3) 1000 0 h

def Gr_islands_L4 (g : Nat) (h : zH) (k34 : Int32 → Option (Int32)) : Nat → Int32 → Int32 → Option (Int32)
  | 0, _, _ => none
  | n + 1, x1, x2 =>
    if (h 17 0) ≤ x2 then (
     k34 x1)
    else (
     gd (zr x2 6) (
      if (h (g + 1) x2.toNatClampNeg) = x2 then (
       Gr_islands_L4 g h k34 n (x1 + 1) (x2 + 1))
      else (
       Gr_islands_L4 g h k34 n x1 (x2 + 1))))
def Gr_islands (g : Nat) (h : zH) : Option (Int32) :=
  Gr_islands_L4 g h (fun x1_1 =>
   some x1_1) 1000 0 0

def Gr_darkIslands_L4 (g : Nat) (h : zH) (k42 : Int32 → Option (Int32)) : Nat → Int32 → Int32 → Option (Int32)
  | 0, _, _ => none
  | n + 1, x1, x2 =>
    if (h 17 0) ≤ x2 then (
     k42 x1)
    else (
     gd (zr x2 6) (
      if (h (g + 1) x2.toNatClampNeg) = x2 then (
       (Gr_isDark g x2 h).bind fun r =>
       if r = 0 then (
        Gr_darkIslands_L4 g h k42 n x1 (x2 + 1))
       else (
        Gr_darkIslands_L4 g h k42 n (x1 + 1) (x2 + 1)))
      else (
       Gr_darkIslands_L4 g h k42 n x1 (x2 + 1))))
def Gr_darkIslands (g : Nat) (h : zH) : Option (Int32) :=
  Gr_darkIslands_L4 g h (fun x1_1 =>
   some x1_1) 1000 0 0

def Gr_rootOf_L4 (g : Nat) (x1 : Int32) (h : zH) (k30 : Int32 → Option (Int32)) (k41 : Option (Int32)) : Nat → Int32 → Int32 → Option (Int32)
  | 0, _, _ => none
  | n + 1, x2, x3 =>
    if (h 17 0) ≤ x3 then (
     k41)
    else (
     gd (zr x3 6) (
      if (h (g + 1) x3.toNatClampNeg) = x3 then (
       if x2 = x1 then (
        k30 x3)
       else (
        Gr_rootOf_L4 g x1 h k30 k41 n (x2 + 1) (x3 + 1)))
      else (
       Gr_rootOf_L4 g x1 h k30 k41 n x2 (x3 + 1))))
def Gr_rootOf (g : Nat) (x1 : Int32) (h : zH) : Option (Int32) :=
  Gr_rootOf_L4 g x1 h (fun x3_1 =>
   some x3_1) (some (-1)) 1000 0 0

def Gr_numberOf_L4 (g : Nat) (x1 : Int32) (h : zH) (k28 : Int32 → Option (Int32)) : Nat → Int32 → Int32 → Option (Int32)
  | 0, _, _ => none
  | n + 1, x2, x3 =>
    if x1 ≤ x3 then (
     k28 x2)
    else (
     gd (zr x3 6) (
      if (h (g + 1) x3.toNatClampNeg) = x3 then (
       Gr_numberOf_L4 g x1 h k28 n (x2 + 1) (x3 + 1))
      else (
       Gr_numberOf_L4 g x1 h k28 n x2 (x3 + 1))))
def Gr_numberOf (g : Nat) (x1 : Int32) (h : zH) : Option (Int32) :=
  Gr_numberOf_L4 g x1 h (fun x2_1 =>
   some x2_1) 1000 0 0

def Gr_busBits_L4 (g : Nat) (x1 : Int32) (h : zH) (k37 : Int32 → Option (Int32)) : Nat → Int32 → Int32 → Option (Int32)
  | 0, _, _ => none
  | n + 1, x2, x3 =>
    if (h 17 0) ≤ x3 then (
     k37 x2)
    else (
     gd (zr x3 6) (
      if (h (g + 1) x3.toNatClampNeg) = x1 then (
       zlet (x2 ||| (zshl 1 x3)) fun x2_1 =>
       Gr_busBits_L4 g x1 h k37 n x2_1 (x3 + 1))
      else (
       Gr_busBits_L4 g x1 h k37 n x2 (x3 + 1))))
def Gr_busBits (g : Nat) (x1 : Int32) (h : zH) : Option (Int32) :=
  Gr_busBits_L4 g x1 h (fun x2_2 =>
   some x2_2) 1000 0 0

def Gr_loadOfAll (g : Nat) (h : zH) : Option (Int32) :=
  (Pl_loadOfSet 17 (h g 7) h).bind fun r =>
  some r

def Gr_open_L35 (g : Nat) (k100 : zH → Option (zH)) : Nat → Int32 → zH → Option (zH)
  | 0, _, _ => none
  | n + 1, x2, h_4 =>
    if (h_4 17 0) ≤ x2 then (
     k100 h_4)
    else (
     gd (zr x2 6) (
      if (h_4 (g + 1) x2.toNatClampNeg) = x2 then (
       gd (zr x2 6) (
        if (h_4 (g + 2) x2.toNatClampNeg) = x2 then (
         Gr_open_L35 g k100 n (x2 + 1) h_4)
        else (
         gd (zr x2 6) (
          gd (zr (h_4 (g + 2) x2.toNatClampNeg) 6) (
           gd (zr x2 6) (zlet (upd2 h_4 (g + 3) x2.toNatClampNeg (h_4 (g + 3) (h_4 (g + 2) x2.toNatClampNeg).toNatClampNeg)) fun h_5 =>
            gd (zr x2 6) (
             (Gr_copyCounts g (h_5 (g + 2) x2.toNatClampNeg) x2 h_5).bind fun h_6 =>
             Gr_open_L35 g k100 n (x2 + 1) h_6)))))))
      else (
       Gr_open_L35 g k100 n (x2 + 1) h_4)))
def Gr_open (g : Nat) (x1 : Int32) (h : zH) : Option (zH) :=
  zlet (upd2 h g 1 ((h g 1) &&& ((zshl 1 x1) ^^^ (-1)))) fun h_1 =>
  zlet (cpy2 h_1 (g + 1) (g + 2) 6) fun h_2 =>
  (Gr_findRoots g h_2).bind fun h_3 =>
  Gr_open_L35 g (fun h_7 =>
   some h_7) 1000 0 h_3

def Gr_canClose (g : Nat) (x1 : Int32) (h : zH) : Option (Int32) :=
  gd (zr x1 9) (
   gd (zr (h 18 x1.toNatClampNeg) 6) (
    zlet (h (g + 1) (h 18 x1.toNatClampNeg).toNatClampNeg) fun x2 =>
    gd (zr x1 9) (
     gd (zr (h 19 x1.toNatClampNeg) 6) (
      zlet (h (g + 1) (h 19 x1.toNatClampNeg).toNatClampNeg) fun x3 =>
      if x2 = x3 then (
       some 1)
      else (
       (Gr_isDark g x2 h).bind fun r =>
       if r = 0 then (
        (Gr_isDark g x3 h).bind fun r_1 =>
        if r_1 = 0 then (
         gd (zr x2 6) (
          gd (zr x3 6) (
           if 20 < (zabs ((h (g + 3) x2.toNatClampNeg) - (h (g + 3) x3.toNatClampNeg))) then (
            some 0)
           else (
            some 1))))
        else (
         some 1))
       else (
        some 1))))))

def Gr_joinedFrequency (g : Nat) (x1 : Int32) (x2 : Int32) (h : zH) : Option (Int32) :=
  (Gr_heavyOf g x1 h).bind fun r =>
  (Gr_heavyOf g x2 h).bind fun r_1 =>
  zlet (r + r_1) fun x5 =>
  if x5 = 0 then (
   gd (zr x1 6) (
    gd (zr x2 6) (
     some (zmin (h (g + 3) x1.toNatClampNeg) (h (g + 3) x2.toNatClampNeg)))))
  else (
   gd (zr x1 6) (
    gd (zr x2 6) (
     gd (decide (¬ x5 = 0)) (
      some ((((h (g + 3) x1.toNatClampNeg) * r) + ((h (g + 3) x2.toNatClampNeg) * r_1)) / x5)))))

def Gr_join (g : Nat) (x1 : Int32) (x2 : Int32) (h : zH) : Option (zH) :=
  (Gr_isDark g x1 h).bind fun r =>
  if r = 0 then (
   (Gr_isDark g x2 h).bind fun r_1 =>
   if r_1 = 0 then (
    (Gr_clearCounts g x1 h).bind fun h_1 =>
    (Gr_joinedFrequency g x1 x2 h_1).bind fun r_2 =>
    gd (zr x1 6) (zlet (upd2 h_1 (g + 3) x1.toNatClampNeg r_2) fun h_2 =>
     some h_2))
   else (
    some h))
  else (
   (Gr_isDark g x2 h).bind fun r_3 =>
   zlet (fun (h_3 : zH) =>
     gd (zr x2 6) (
      gd (zr x1 6) (zlet (upd2 h_3 (g + 3) x1.toNatClampNeg (h_3 (g + 3) x2.toNatClampNeg)) fun h_4 =>
       some h_4))) fun j30 =>
   if r_3 = 0 then (
    (Gr_copyCounts g x2 x1 h).bind fun h_5 =>
    j30 h_5)
   else (
    (Gr_clearCounts g x1 h).bind fun h_6 =>
    j30 h_6))

def Gr_close (g : Nat) (x1 : Int32) (h : zH) : Option (zH) :=
  gd (zr x1 9) (
   gd (zr (h 18 x1.toNatClampNeg) 6) (
    zlet (h (g + 1) (h 18 x1.toNatClampNeg).toNatClampNeg) fun x2 =>
    gd (zr x1 9) (
     gd (zr (h 19 x1.toNatClampNeg) 6) (
      zlet (h (g + 1) (h 19 x1.toNatClampNeg).toNatClampNeg) fun x3 =>
      zlet (fun (h_1 : zH) =>
        zlet (upd2 h_1 g 1 ((h_1 g 1) ||| (zshl 1 x1))) fun h_2 =>
        (Gr_findRoots g h_2).bind fun h_3 =>
        some h_3) fun j49 =>
      if x2 = x3 then (
       j49 h)
      else (
       (Gr_join g (zmin x2 x3) (zmax x2 x3) h).bind fun h_4 =>
       j49 h_4)))))

def Le_add (x1 : Int32) (h : zH) : Option (Int32 × zH) :=
  if (h 1 1) < 200 then (
   gd (zr (h 1 1) 200) (zlet (upd2 h 2 (h 1 1).toNatClampNeg x1) fun h_1 =>
    zlet (upd2 h_1 1 1 ((h_1 1 1) + 1)) fun h_2 =>
    some (1, h_2)))
  else (
   some (0, h))

def Le_clear (h : zH) : Option (zH) :=
  zlet (upd2 h 1 1 0) fun h_1 =>
  some h_1

def Pa_clear (h : zH) : Option (zH) :=
  zlet (upd2 h 47 2 0) fun h_1 =>
  some h_1

def Pa_keep (o : Nat) (h : zH) : Option (zH) :=
  gd (zr (h 47 1) 4) (
   (Gr_copy ([49, 57, 65, 73].getD (h 47 1).toNatClampNeg 0) o h).bind fun h_1 =>
   zlet (upd2 h_1 47 1 (zrem ((h_1 47 1) + 1) 4)) fun h_2 =>
   zlet (upd2 h_2 47 2 (zmin ((h_2 47 2) + 1) 4)) fun h_3 =>
   some h_3)

def Pa_giveBack (o : Nat) (h : zH) : Option (zH) :=
  zlet (upd2 h 47 1 (zrem (((h 47 1) + 4) - 1) 4)) fun h_1 =>
  zlet (upd2 h_1 47 2 ((h_1 47 2) - 1)) fun h_2 =>
  gd (zr (h_2 47 1) 4) (
   (Gr_copy o ([49, 57, 65, 73].getD (h_2 47 1).toNatClampNeg 0) h_2).bind fun h_3 =>
   some h_3)

def Pl_clear (p : Nat) (h : zH) : Option (zH) :=
  zlet (upd2 h p 0 0) fun h_1 =>
  zlet (upd2 h_1 p 1 0) fun h_2 =>
  zlet (upd2 h_2 p 2 0) fun h_3 =>
  zlet (upd2 h_3 p 3 0) fun h_4 =>
  zlet (upd2 h_4 p 4 0) fun h_5 =>
  zlet (upd2 h_5 (p + 10) 0 4980) fun h_6 =>
  zlet (upd2 h_6 (p + 11) 0 4) fun h_7 =>
  some h_7

def Pl_isBus (p : Nat) (x1 : Int32) (h : zH) : Option (Int32) :=
  if x1 < 0 then (
   some 0)
  else (
   if (h p 0) ≤ x1 then (
    some 0)
   else (
    some 1))

def Pl_isRow (p : Nat) (x1 : Int32) (h : zH) : Option (Int32) :=
  if x1 < 0 then (
   some 0)
  else (
   if (h p 4) < x1 then (
    some 0)
   else (
    some 1))

def Pl_isFrom (x0 : Int32) (x1 : Int32) (x2 : Int32) : Option (Int32) :=
  if x0 < x1 then (
   some 0)
  else (
   if x2 < x0 then (
    some 0)
   else (
    some 1))

def Pl_isMark (x0 : Int32) (x1 : Int32) : Option (Int32) :=
  if x0 = 0 then (
   (Pl_isFrom x1 4900 5000).bind fun r_1 =>
   gd (zb r_1) (some r_1))
  else (
   (Pl_isFrom x1 4700 4999).bind fun r =>
   gd (zb r) (some r))

def Pl_addBuses (p : Nat) (x1 : Int32) (h : zH) : Option (Int32 × zH) :=
  if 0 < (h p 0) then (
   some (0, h))
  else (
   (Pl_isFrom x1 1 6).bind fun r =>
   if r = 0 then (
    some (0, h))
   else (
    zlet (upd2 h p 0 x1) fun h_1 =>
    some (1, h_1)))

def Pl_addLink (p : Nat) (x1 : Int32) (x2 : Int32) (h : zH) : Option (Int32 × zH) :=
  if 9 ≤ (h p 1) then (
   some (0, h))
  else (
   (Pl_isBus p x1 h).bind fun r =>
   if r = 0 then (
    some (0, h))
   else (
    (Pl_isBus p x2 h).bind fun r_1 =>
    if r_1 = 0 then (
     some (0, h))
    else (
     if x1 = x2 then (
      some (0, h))
     else (
      gd (zr (h p 1) 9) (zlet (upd2 h (p + 1) (h p 1).toNatClampNeg x1) fun h_1 =>
       gd (zr (h_1 p 1) 9) (zlet (upd2 h_1 (p + 2) (h_1 p 1).toNatClampNeg x2) fun h_2 =>
        zlet (upd2 h_2 p 1 ((h_2 p 1) + 1)) fun h_3 =>
        some (1, h_3)))))))

def Pl_addPlant (p : Nat) (x1 : Int32) (x2 : Int32) (x3 : Int32) (x4 : Int32) (h : zH) : Option (Int32 × zH) :=
  if 6 ≤ (h p 2) then (
   some (0, h))
  else (
   (Pl_isBus p x1 h).bind fun r =>
   if r = 0 then (
    some (0, h))
   else (
    (Pl_isFrom x2 1 99).bind fun r_1 =>
    if r_1 = 0 then (
     some (0, h))
    else (
     (Pl_isFrom x3 1 9).bind fun r_2 =>
     if r_2 = 0 then (
      some (0, h))
     else (
      (Pl_isFrom x4 1 9).bind fun r_3 =>
      if r_3 = 0 then (
       some (0, h))
      else (
       gd (zr (h p 2) 6) (zlet (upd2 h (p + 3) (h p 2).toNatClampNeg x1) fun h_1 =>
        gd (zr (h_1 p 2) 6) (zlet (upd2 h_1 (p + 4) (h_1 p 2).toNatClampNeg x2) fun h_2 =>
         gd (zr (h_2 p 2) 6) (zlet (upd2 h_2 (p + 5) (h_2 p 2).toNatClampNeg x3) fun h_3 =>
          gd (zr (h_3 p 2) 6) (zlet (upd2 h_3 (p + 6) (h_3 p 2).toNatClampNeg x4) fun h_4 =>
           zlet (upd2 h_4 p 2 ((h_4 p 2) + 1)) fun h_5 =>
           some (1, h_5))))))))))

def Pl_addFeeder (p : Nat) (x1 : Int32) (x2 : Int32) (x3 : Int32) (h : zH) : Option (Int32 × zH) :=
  if 9 ≤ (h p 3) then (
   some (0, h))
  else (
   (Pl_isBus p x1 h).bind fun r =>
   if r = 0 then (
    some (0, h))
   else (
    (Pl_isFrom x2 1 50).bind fun r_1 =>
    if r_1 = 0 then (
     some (0, h))
    else (
     (Pl_isFrom x3 0 5).bind fun r_2 =>
     if r_2 = 0 then (
      some (0, h))
     else (
      gd (zr (h p 3) 9) (zlet (upd2 h (p + 7) (h p 3).toNatClampNeg x1) fun h_1 =>
       gd (zr (h_1 p 3) 9) (zlet (upd2 h_1 (p + 8) (h_1 p 3).toNatClampNeg x2) fun h_2 =>
        gd (zr (h_2 p 3) 9) (zlet (upd2 h_2 (p + 9) (h_2 p 3).toNatClampNeg x3) fun h_3 =>
         zlet (upd2 h_3 p 3 ((h_3 p 3) + 1)) fun h_4 =>
         some (1, h_4))))))))

def Pl_setRow (p : Nat) (x1 : Int32) (x2 : Int32) (x3 : Int32) (h : zH) : Option (Int32 × zH) :=
  if (h p 0) = 0 then (
   some (0, h))
  else (
   (Pl_isMark x1 x2).bind fun r =>
   if r = 0 then (
    some (0, h))
   else (
    (Pl_isFrom x3 1 9).bind fun r_1 =>
    if r_1 = 0 then (
     some (0, h))
    else (
     gd (zr x1 6) (zlet (upd2 h (p + 10) x1.toNatClampNeg x2) fun h_1 =>
      gd (zr x1 6) (zlet (upd2 h_1 (p + 11) x1.toNatClampNeg x3) fun h_2 =>
       some (1, h_2))))))

def Pl_addStage (p : Nat) (x1 : Int32) (x2 : Int32) (h : zH) : Option (Int32 × zH) :=
  if 5 ≤ (h p 4) then (
   some (0, h))
  else (
   (Pl_setRow p ((h p 4) + 1) x1 x2 h).bind fun r =>
   if r.1 = 0 then (
    some (0, r.2))
   else (
    zlet (upd2 r.2 p 4 ((r.2 p 4) + 1)) fun h_1 =>
    some (1, h_1)))

def Pl_setBack (p : Nat) (x1 : Int32) (x2 : Int32) (h : zH) : Option (Int32 × zH) :=
  (Pl_setRow p 0 x1 x2 h).bind fun r =>
  gd (zb r.1) (some (r.1, r.2))

def Re_readNumbers_L12 (x3 : Int32) (k56 : zH → Option (Int32 × zH)) (k118 : zH → Option (Int32 × zH)) (k126 : Int32 → zH → Option (Int32 × zH)) : Nat → Int32 → Int32 → Int32 → Int32 → zH → Option (Int32 × zH)
  | 0, _, _, _, _, _ => none
  | n + 1, x4, x5, x6, x7, h_1 =>
    if x3 < x7 then (
     k126 x4 h_1)
    else (
     zlet (fun (v36 : Int32) =>
       if v36 = 44 then (
        if x5 = 0 then (
         k56 h_1)
        else (
         if x4 < 4 then (
          gd (zr x4 4) (zlet (upd2 h_1 4 x4.toNatClampNeg x6) fun h_2 =>
           Re_readNumbers_L12 x3 k56 k118 k126 n (x4 + 1) 0 0 (x7 + 1) h_2))
         else (
          k56 h_1)))
       else (
        if v36 < 48 then (
         k118 h_1)
        else (
         if 57 < v36 then (
          k118 h_1)
         else (
          if 4 ≤ x5 then (
           k118 h_1)
          else (
           zlet (((x6 * 10) + v36) - 48) fun x6_1 =>
           Re_readNumbers_L12 x3 k56 k118 k126 n x4 (x5 + 1) x6_1 (x7 + 1) h_1))))) fun j36 =>
     if x3 ≤ x7 then (
      j36 44)
     else (
      gd (zr x7 200) (
       j36 (h_1 2 x7.toNatClampNeg))))
def Re_readNumbers (x2 : Int32) (x3 : Int32) (h : zH) : Option (Int32 × zH) :=
  Re_readNumbers_L12 x3 (fun h_3 =>
   some ((-1), h_3)) (fun h_4 =>
   some ((-1), h_4)) (fun x4_1 h_5 =>
   some (x4_1, h_5)) 1000 0 0 0 x2 h

def Re_takeItem (x2 : Int32) (x3 : Int32) (p : Nat) (h : zH) : Option (Int32 × zH) :=
  (Re_readNumbers (x2 + 1) x3 h).bind fun r =>
  gd (zr x2 200) (
   if (r.2 2 x2.toNatClampNeg) = 98 then (
    if r.1 = 1 then (
     (Pl_addBuses p (r.2 4 0) r.2).bind fun r_1 =>
     if r_1.1 = 0 then (
      some (0, r_1.2))
     else (
      some (1, r_1.2)))
    else (
     some (0, r.2)))
   else if (r.2 2 x2.toNatClampNeg) = 102 then (
    if r.1 = 3 then (
     (Pl_addFeeder p (r.2 4 0) (r.2 4 1) (r.2 4 2) r.2).bind fun r_2 =>
     if r_2.1 = 0 then (
      some (0, r_2.2))
     else (
      some (1, r_2.2)))
    else (
     some (0, r.2)))
   else if (r.2 2 x2.toNatClampNeg) = 108 then (
    if r.1 = 2 then (
     (Pl_addLink p (r.2 4 0) (r.2 4 1) r.2).bind fun r_3 =>
     if r_3.1 = 0 then (
      some (0, r_3.2))
     else (
      some (1, r_3.2)))
    else (
     some (0, r.2)))
   else if (r.2 2 x2.toNatClampNeg) = 112 then (
    if r.1 = 4 then (
     (Pl_addPlant p (r.2 4 0) (r.2 4 1) (r.2 4 2) (r.2 4 3) r.2).bind fun r_4 =>
     if r_4.1 = 0 then (
      some (0, r_4.2))
     else (
      some (1, r_4.2)))
    else (
     some (0, r.2)))
   else if (r.2 2 x2.toNatClampNeg) = 114 then (
    if r.1 = 2 then (
     (Pl_setBack p (r.2 4 0) (r.2 4 1) r.2).bind fun r_5 =>
     if r_5.1 = 0 then (
      some (0, r_5.2))
     else (
      some (1, r_5.2)))
    else (
     some (0, r.2)))
   else if (r.2 2 x2.toNatClampNeg) = 115 then (
    if r.1 = 2 then (
     (Pl_addStage p (r.2 4 0) (r.2 4 1) r.2).bind fun r_6 =>
     if r_6.1 = 0 then (
      some (0, r_6.2))
     else (
      some (1, r_6.2)))
    else (
     some (0, r.2)))
   else (
    some (0, r.2)))

def Re_read_L9 (p : Nat) (k42 : Int32 → zH → Option (Int32 × zH)) (k55 : Int32 → zH → Option (Int32 × zH)) : Nat → Int32 → Int32 → zH → Option (Int32 × zH)
  | 0, _, _, _ => none
  | n + 1, x3, x4, h_2 =>
    if (h_2 1 1) ≤ x4 then (
     k55 x3 h_2)
    else (
     gd (zr x4 200) (
      if (h_2 2 x4.toNatClampNeg) = 59 then (
       (Re_takeItem x3 x4 p h_2).bind fun r =>
       if r.1 = 0 then (
        k42 x3 r.2)
       else (
        zlet (x4 + 1) fun x3_1 =>
        Re_read_L9 p k42 k55 n x3_1 (x4 + 1) r.2))
      else (
       Re_read_L9 p k42 k55 n x3 (x4 + 1) h_2)))
def Re_read (p : Nat) (h : zH) : Option (Int32 × zH) :=
  (Pl_clear p h).bind fun h_1 =>
  Re_read_L9 p (fun x3_2 h_3 =>
   some (x3_2, h_3)) (fun x3_3 h_4 =>
   if (h_4 1 1) ≤ x3_3 then (
    some ((-4), h_4))
   else (
    some (x3_3, h_4))) 1000 0 0 h_1

def SS_write (x1 : Int32) (h : zH) : Option (Int32 × zH) :=
  if x1 < 32 then (
   some ((-1), h))
  else (
   if x1 ≤ 126 then (
    (Le_add x1 h).bind fun r =>
    if r.1 = 0 then (
     some ((-3), r.2))
    else (
     some ((r.2 1 1), r.2)))
   else (
    some ((-1), h)))

def SS_wipe (h : zH) : Option (Int32 × zH) :=
  zlet (h 1 1) fun x1 =>
  (Le_clear h).bind fun h_1 =>
  some (x1, h_1)

def SS_fault (h : zH) : Option (Int32 × zH) :=
  (Re_read 5 h).bind fun r =>
  some (r.1, r.2)

def SS_lay (h : zH) : Option (Int32 × zH) :=
  (Re_read 5 h).bind fun r =>
  if r.1 = (-4) then (
   if (r.2 5 0) = 0 then (
    some ((-2), r.2))
   else (
    (Re_read 17 r.2).bind fun r_1 =>
    (Gr_layOut 29 r_1.2).bind fun h_1 =>
    (Pa_clear h_1).bind fun h_2 =>
    (Gr_islands 29 h_2).bind fun r_2 =>
    some (r_2, h_2)))
  else (
   some ((-2), r.2))

def SS_tick_L51 (x1 : Int32) (k69 : zH → Option (Int32 × zH)) : Nat → Int32 → zH → Option (Int32 × zH)
  | 0, _, _ => none
  | n + 1, x2, h_3 =>
    if x1 ≤ x2 then (
     k69 h_3)
    else (
     (Co_pass 45 29 h_3).bind fun h_4 =>
     SS_tick_L51 x1 k69 n (x2 + 1) h_4)
def SS_tick (x1 : Int32) (h : zH) : Option (Int32 × zH) :=
  if x1 < 1 then (
   some ((-1), h))
  else (
   if x1 ≤ 60 then (
    if ((h 29 11) + x1) ≤ 9999 then (
     (Pa_keep 29 h).bind fun h_1 =>
     (Co_forget 45 29 h_1).bind fun h_2 =>
     SS_tick_L51 x1 (fun h_5 =>
      some ((h_5 45 2), h_5)) 1000 0 h_2)
    else (
     some ((-2), h)))
   else (
    some ((-1), h)))

def SS_isSwitch (x0 : Int32) : Option (Int32) :=
  if x0 = 0 then (
   some 1)
  else (
   if x0 = 1 then (
    some 1)
   else (
    some 0))

def SS_link (x1 : Int32) (x2 : Int32) (h : zH) : Option (Int32 × zH) :=
  if x1 < 0 then (
   some ((-1), h))
  else (
   if (h 17 1) ≤ x1 then (
    some ((-1), h))
   else (
    (SS_isSwitch x2).bind fun r =>
    if r = 0 then (
     some ((-1), h))
    else (
     zlet (fun (v34 : Int32) =>
       (SS_has (h 29 1) x1).bind fun r_1 =>
       if r_1 = v34 then (
        some ((-2), h))
       else (
        zlet (
          (Pa_keep 29 h).bind fun h_1 =>
          if v34 = 0 then (
           (Gr_open 29 x1 h_1).bind fun h_2 =>
           (Gr_islands 29 h_2).bind fun r_2 =>
           some (r_2, h_2))
          else (
           (Gr_close 29 x1 h_1).bind fun h_3 =>
           (Gr_islands 29 h_3).bind fun r_3 =>
           some (r_3, h_3))) fun j68 =>
        if v34 = 0 then (
         j68)
        else (
         (Gr_canClose 29 x1 h).bind fun r_4 =>
         if r_4 = 0 then (
          some ((-2), h))
         else (
          j68)))) fun j34 =>
     if x2 = 1 then (
      j34 1)
     else (
      j34 0))))

def SS_feeder (x1 : Int32) (x2 : Int32) (h : zH) : Option (Int32 × zH) :=
  if x1 < 0 then (
   some ((-1), h))
  else (
   if (h 17 3) ≤ x1 then (
    some ((-1), h))
   else (
    (SS_isSwitch x2).bind fun r =>
    if r = 0 then (
     some ((-1), h))
    else (
     gd (zr x1 9) (
      gd (zr (h 24 x1.toNatClampNeg) 6) (
       zlet (h 30 (h 24 x1.toNatClampNeg).toNatClampNeg) fun x3 =>
       zlet (fun (v52 : Int32) =>
         (SS_has (h 29 7) x1).bind fun r_1 =>
         if r_1 = v52 then (
          some ((-2), h))
         else (
          zlet (
            (Pa_keep 29 h).bind fun h_1 =>
            if v52 = 0 then (
             (Gr_drop 29 x1 h_1).bind fun h_2 =>
             (Gr_loadOf 29 x3 h_2).bind fun r_2 =>
             some (r_2, h_2))
            else (
             (Gr_putOn 29 x1 h_1).bind fun h_3 =>
             (Gr_loadOf 29 x3 h_3).bind fun r_3 =>
             some (r_3, h_3))) fun j89 =>
          if v52 = 0 then (
           j89)
          else (
           (Gr_isDark 29 x3 h).bind fun r_4 =>
           if r_4 = 0 then (
            j89)
           else (
            some ((-2), h))))) fun j52 =>
       if x2 = 1 then (
        j52 1)
       else (
        j52 0))))))

def SS_begin (x1 : Int32) (h : zH) : Option (Int32 × zH) :=
  (Pl_isBus 17 x1 h).bind fun r =>
  if r = 0 then (
   some ((-1), h))
  else (
   gd (zr x1 6) (
    zlet (h 30 x1.toNatClampNeg) fun x2 =>
    (Gr_isDark 29 x2 h).bind fun r_1 =>
    if r_1 = 0 then (
     some ((-2), h))
    else (
     (Gr_heavyOf 29 x2 h).bind fun r_2 =>
     if r_2 = 0 then (
      some ((-2), h))
     else (
      (Pa_keep 29 h).bind fun h_1 =>
      gd (zr x2 6) (zlet (upd2 h_1 32 x2.toNatClampNeg 5000) fun h_2 =>
       (Gr_clearCounts 29 x2 h_2).bind fun h_3 =>
       (Gr_heavyOf 29 x2 h_3).bind fun r_3 =>
       some (r_3, h_3))))))

def SS_mark (x1 : Int32) (x2 : Int32) (h : zH) : Option (Int32 × zH) :=
  (Pl_isRow 17 x1 h).bind fun r =>
  if r = 0 then (
   some ((-1), h))
  else (
   (Pl_isMark x1 x2).bind fun r_1 =>
   if r_1 = 0 then (
    some ((-1), h))
   else (
    gd (zr x1 6) (
     zlet (h 36 x1.toNatClampNeg) fun x3 =>
     if x3 = x2 then (
      some ((-2), h))
     else (
      (Pa_keep 29 h).bind fun h_1 =>
      gd (zr x1 6) (zlet (upd2 h_1 36 x1.toNatClampNeg x2) fun h_2 =>
       some (x3, h_2))))))

def SS_undo (h : zH) : Option (Int32 × zH) :=
  if (h 47 2) = 0 then (
   some ((-2), h))
  else (
   (Pa_giveBack 29 h).bind fun h_1 =>
   some ((h_1 47 2), h_1))

def In_bitCount (x0 : Int32) : Option (Int32) :=
  zlet (x0 - ((zushr x0 1) &&& 1431655765)) fun x0_1 =>
  zlet ((x0_1 &&& 858993459) + ((zushr x0_1 2) &&& 858993459)) fun x0_2 =>
  zlet ((x0_2 + (zushr x0_2 4)) &&& 252645135) fun x0_3 =>
  zlet (x0_3 + (zushr x0_3 8)) fun x0_4 =>
  zlet (x0_4 + (zushr x0_4 16)) fun x0_5 =>
  some (x0_5 &&& 63)

def SS_island (x1 : Int32) (x2 : Int32) (h : zH) : Option (Int32) :=
  (Gr_rootOf 29 x1 h).bind fun r =>
  if 0 ≤ r then (
   if x2 = 0 then (
    (Gr_busBits 29 r h).bind fun r_1 =>
    some r_1)
   else if x2 = 1 then (
    gd (zr r 6) (
     some (h 32 r.toNatClampNeg)))
   else if x2 = 2 then (
    (Gr_loadOf 29 r h).bind fun r_2 =>
    some r_2)
   else if x2 = 3 then (
    (Gr_givenOf 29 r h).bind fun r_3 =>
    some r_3)
   else if x2 = 4 then (
    (Gr_capOf 29 r h).bind fun r_4 =>
    some r_4)
   else if x2 = 5 then (
    (Gr_heavyOf 29 r h).bind fun r_5 =>
    some r_5)
   else if x2 = 6 then (
    (Gr_feederBits 29 r 1 h).bind fun r_6 =>
    (In_bitCount r_6).bind fun r_7 =>
    some r_7)
   else if x2 = 7 then (
    (Gr_feederBits 29 r 0 h).bind fun r_8 =>
    (In_bitCount r_8).bind fun r_9 =>
    some r_9)
   else if x2 = 8 then (
    (Gr_isDark 29 r h).bind fun r_10 =>
    if r_10 = 0 then (
     (Gr_aimOf 29 r h).bind fun r_11 =>
     some r_11)
    else (
     some 0))
   else (
    some (-1)))
  else (
   some (-1))

def SS_counted (x1 : Int32) (x2 : Int32) (h : zH) : Option (Int32) :=
  (Gr_rootOf 29 x1 h).bind fun r =>
  if r < 0 then (
   some (-1))
  else (
   (Pl_isRow 17 x2 h).bind fun r_1 =>
   if r_1 = 0 then (
    some (-1))
   else (
    gd (zr ((r * 6) + x2) 36) (
     some (h 33 ((r * 6) + x2).toNatClampNeg))))

def SS_at (x1 : Int32) (h : zH) : Option (Int32) :=
  (Pl_isBus 17 x1 h).bind fun r =>
  if r = 0 then (
   some (-1))
  else (
   gd (zr x1 6) (
    (Gr_numberOf 29 (h 30 x1.toNatClampNeg) h).bind fun r_1 =>
    some r_1))

def SS_plant (x1 : Int32) (h : zH) : Option (Int32) :=
  if x1 < 0 then (
   some (-1))
  else (
   if x1 < (h 17 2) then (
    gd (zr x1 6) (
     some (h 34 x1.toNatClampNeg)))
   else (
    some (-1)))

def SS_isOn (x1 : Int32) (h : zH) : Option (Int32) :=
  if x1 < 0 then (
   some (-1))
  else (
   if x1 < (h 17 3) then (
    (SS_has (h 29 7) x1).bind fun r =>
    if r = 0 then (
     some 0)
    else (
     some 1))
   else (
    some (-1)))

def SS_isClosed (x1 : Int32) (h : zH) : Option (Int32) :=
  if x1 < 0 then (
   some (-1))
  else (
   if x1 < (h 17 1) then (
    (SS_has (h 29 1) x1).bind fun r =>
    if r = 0 then (
     some 0)
    else (
     some 1))
   else (
    some (-1)))

def SS_dropped (x1 : Int32) (h : zH) : Option (Int32) :=
  if 0 ≤ x1 then (
   if (h 29 9) ≤ x1 then (
    some (-4))
   else (
    gd (zr (((h 29 9) - 1) - x1) 9) (
     some (h 35 (((h 29 9) - 1) - x1).toNatClampNeg))))
  else (
   some (-1))

def SS_ahead_L70 (x1 : Int32) (x4 : Int32) (k106 : Int32 → zH → Option (Int32 × zH)) : Nat → Int32 → Int32 → zH → Option (Int32 × zH)
  | 0, _, _, _ => none
  | n + 1, x5, x6, h_3 =>
    if x1 ≤ x6 then (
     k106 x5 h_3)
    else (
     (Co_pass 46 37 h_3).bind fun h_4 =>
     gd (zr x4 6) (
      zlet (zmin x5 (h_4 40 x4.toNatClampNeg)) fun x5_1 =>
      SS_ahead_L70 x1 x4 k106 n x5_1 (x6 + 1) h_4))
def SS_ahead (x1 : Int32) (x2 : Int32) (x3 : Int32) (h : zH) : Option (Int32 × zH) :=
  if x1 < 1 then (
   some ((-1), h))
  else (
   if 60 < x1 then (
    some ((-1), h))
   else (
    (Pl_isBus 17 x2 h).bind fun r =>
    if r = 0 then (
     some ((-1), h))
    else (
     if x3 < 0 then (
      some ((-1), h))
     else (
      if x3 ≤ 4 then (
       (Gr_copy 37 29 h).bind fun h_1 =>
       (Co_forget 46 37 h_1).bind fun h_2 =>
       gd (zr x2 6) (
        zlet (h_2 38 x2.toNatClampNeg) fun x4 =>
        SS_ahead_L70 x1 x4 (fun x5_2 h_5 =>
         if x3 = 0 then (
          gd (zr x4 6) (
           some ((h_5 40 x4.toNatClampNeg), h_5)))
         else if x3 = 1 then (
          some (x5_2, h_5))
         else if x3 = 2 then (
          some ((h_5 46 2), h_5))
         else if x3 = 3 then (
          some ((h_5 46 3), h_5))
         else (
          some ((h_5 46 4), h_5))) 1000 5200 0 h_2))
      else (
       some ((-1), h))))))

def In_compare (x0 : Int32) (x1 : Int32) : Option (Int32) :=
  if x1 ≤ x0 then (
   if x0 = x1 then (
    some 0)
   else (
    some 1))
  else (
   some (-1))

def SS_isLess (x1 : Int32) (x2 : Int32) (h : zH) : Option (Int32) :=
  (Pl_loadOfSet 17 x1 h).bind fun r =>
  (Pl_loadOfSet 17 x2 h).bind fun r_1 =>
  (In_compare r r_1).bind fun r_2 =>
  if r_2 < 0 then (
   some 1)
  else (
   if r_2 = 0 then (
    (In_bitCount x1).bind fun r_3 =>
    (In_bitCount x2).bind fun r_4 =>
    if r_4 ≤ r_3 then (
     some 0)
    else (
     some 1))
   else (
    some 0))

def SS_holds_L14 (x2 : Int32) (k50 : zH → Option (Int32 × zH)) : Nat → Int32 → zH → Option (Int32 × zH)
  | 0, _, _ => none
  | n + 1, x4, h_2 =>
    if (h_2 17 3) ≤ x4 then (
     k50 h_2)
    else (
     (SS_has x2 x4).bind fun r =>
     if r = 0 then (
      SS_holds_L14 x2 k50 n (x4 + 1) h_2)
     else (
      (Gr_drop 37 x4 h_2).bind fun h_3 =>
      SS_holds_L14 x2 k50 n (x4 + 1) h_3))
def SS_holds_L60 (x1 : Int32) (x3 : Int32) (k95 : zH → Option (Int32 × zH)) (k103 : zH → Option (Int32 × zH)) : Nat → Int32 → zH → Option (Int32 × zH)
  | 0, _, _ => none
  | n_1 + 1, x4_1, h_6 =>
    if x3 ≤ x4_1 then (
     k103 h_6)
    else (
     (Co_passIsland 46 37 x1 h_6).bind fun h_7 =>
     if 0 < (h_7 46 2) then (
      k95 h_7)
     else (
      (Gr_isDark 37 x1 h_7).bind fun r_1 =>
      if r_1 = 0 then (
       SS_holds_L60 x1 x3 k95 k103 n_1 (x4_1 + 1) h_7)
      else (
       k95 h_7)))
def SS_holds (x1 : Int32) (x2 : Int32) (x3 : Int32) (h : zH) : Option (Int32 × zH) :=
  (Gr_copy 37 29 h).bind fun h_1 =>
  SS_holds_L14 x2 (fun h_4 =>
   (Co_forget 46 37 h_4).bind fun h_5 =>
   SS_holds_L60 x1 x3 (fun h_8 =>
    some (0, h_8)) (fun h_9 =>
    some (1, h_9)) 1000 0 h_5) 1000 0 h_1

def SS_leastSet_L31 (x1 : Int32) (x2 : Int32) (r_1 : Int32) (k95 : Int32 → zH → Option (Int32 × zH)) : Nat → Int32 → Int32 → zH → Option (Int32 × zH)
  | 0, _, _, _ => none
  | n + 1, x4, x5, h_1 =>
    if r_1 < x5 then (
     k95 x4 h_1)
    else (
     zlet (fun (v51 : Int32) =>
       if v51 = 0 then (
        SS_leastSet_L31 x1 x2 r_1 k95 n x4 (x5 + 1) h_1)
       else (
        zlet (
          (SS_holds x1 x5 x2 h_1).bind fun r_2 =>
          if r_2.1 = 0 then (
           SS_leastSet_L31 x1 x2 r_1 k95 n x4 (x5 + 1) r_2.2)
          else (
           SS_leastSet_L31 x1 x2 r_1 k95 n x5 (x5 + 1) r_2.2)) fun j74 =>
        if x4 < 0 then (
         j74)
        else (
         (SS_isLess x5 x4 h_1).bind fun r_3 =>
         if r_3 = 0 then (
          SS_leastSet_L31 x1 x2 r_1 k95 n x4 (x5 + 1) h_1)
         else (
          j74)))) fun j51 =>
     if (x5 &&& (r_1 ^^^ (-1))) = 0 then (
      j51 1)
     else (
      j51 0))
def SS_leastSet (x1 : Int32) (x2 : Int32) (h : zH) : Option (Int32 × zH) :=
  (Gr_isDark 29 x1 h).bind fun r =>
  if r = 0 then (
   (Gr_feederBits 29 x1 1 h).bind fun r_1 =>
   SS_leastSet_L31 x1 x2 r_1 (fun x4_1 h_2 =>
    some (x4_1, h_2)) 1000 (-4) 0 h)
  else (
   some ((-4), h))

def SS_least (x1 : Int32) (x2 : Int32) (x3 : Int32) (h : zH) : Option (Int32 × zH) :=
  (Gr_rootOf 29 x1 h).bind fun r =>
  if r < 0 then (
   some ((-1), h))
  else (
   if x2 < 1 then (
    some ((-1), h))
   else (
    if 30 < x2 then (
     some ((-1), h))
    else (
     if x3 < 0 then (
      some ((-1), h))
     else (
      if x3 ≤ 1 then (
       (SS_leastSet r x2 h).bind fun r_1 =>
       if 0 ≤ r_1.1 then (
        if x3 = 0 then (
         some (r_1.1, r_1.2))
        else (
         (Pl_loadOfSet 17 r_1.1 r_1.2).bind fun r_2 =>
         some (r_2, r_1.2)))
       else (
        some ((-4), r_1.2)))
      else (
       some ((-1), h))))))

def SS_dark_L50 (x2 : Int32) (k75 : Int32 → zH → Option (Int32 × zH)) (k83 : zH → Option (Int32 × zH)) : Nat → Int32 → zH → Option (Int32 × zH)
  | 0, _, _ => none
  | n + 1, x3, h_2 =>
    if 60 < x3 then (
     k83 h_2)
    else (
     (Co_passIsland 46 37 x2 h_2).bind fun h_3 =>
     (Gr_isDark 37 x2 h_3).bind fun r_2 =>
     if r_2 = 0 then (
      SS_dark_L50 x2 k75 k83 n (x3 + 1) h_3)
     else (
      k75 x3 h_3))
def SS_dark (x1 : Int32) (h : zH) : Option (Int32 × zH) :=
  (Pl_isBus 17 x1 h).bind fun r =>
  if r = 0 then (
   some ((-1), h))
  else (
   gd (zr x1 6) (
    zlet (h 30 x1.toNatClampNeg) fun x2 =>
    (Gr_isDark 29 x2 h).bind fun r_1 =>
    if r_1 = 0 then (
     (Gr_copy 37 29 h).bind fun h_1 =>
     SS_dark_L50 x2 (fun x3_1 h_4 =>
      some (x3_1, h_4)) (fun h_5 =>
      some ((-4), h_5)) 1000 1 h_1)
    else (
     some ((-2), h))))

def SS_count (x1 : Int32) (h : zH) : Option (Int32) :=
  if x1 = 0 then (
   some (h 17 0))
  else if x1 = 1 then (
   some (h 17 1))
  else if x1 = 2 then (
   some (h 17 2))
  else if x1 = 3 then (
   some (h 17 3))
  else if x1 = 4 then (
   some (h 17 4))
  else if x1 = 5 then (
   (Gr_islands 29 h).bind fun r =>
   some r)
  else if x1 = 6 then (
   (Gr_darkIslands 29 h).bind fun r_1 =>
   some r_1)
  else if x1 = 7 then (
   some (h 29 11))
  else if x1 = 8 then (
   some ((h 17 3) - (h 29 9)))
  else if x1 = 9 then (
   (Gr_loadOfAll 29 h).bind fun r_2 =>
   some r_2)
  else if x1 = 10 then (
   some (h 47 2))
  else if x1 = 11 then (
   some (h 1 1))
  else (
   some (-1))

def Mo_isIn (x0 : Int32) (x1 : Int32) (x2 : Int32) : Option (Int32) :=
  if x0 < x1 then (
   some 0)
  else (
   if x2 < x0 then (
    some 0)
   else (
    some 1))

def Mo_has (x0 : Int32) (x1 : Int32) : Option (Int32) :=
  if ((zshr x0 x1) &&& 1) = 1 then (
   some 1)
  else (
   some 0)

def Mo_clears_L2 (k21 : zH → Option (zH)) : Nat → Int32 → zH → Option (zH)
  | 0, _, _ => none
  | n + 1, x1, h_1 =>
    if 10 ≤ x1 then (
     k21 h_1)
    else (
     gd (zr x1 10) (zlet (upd2 h_1 2 x1.toNatClampNeg 0) fun h_2 =>
      Mo_clears_L2 k21 n (x1 + 1) h_2))
def Mo_clears (h : zH) : Option (zH) :=
  Mo_clears_L2 (fun h_3 =>
   zlet (upd2 h_3 6 12 4980) fun h_4 =>
   zlet (upd2 h_4 6 13 4) fun h_5 =>
   some h_5) 1000 5 h

def Mo_adds (x1 : Int32) (x2 : Int32) (x3 : Int32) (x4 : Int32) (x5 : Int32) (h : zH) : Option (zH) :=
  gd (zr (5 + x1) 10) (
   zlet (h 2 (5 + x1).toNatClampNeg) fun x6 =>
   gd (zr (5 + x1) 10) (
    gd (zr (5 + x1) 10) (zlet (upd2 h 2 (5 + x1).toNatClampNeg ((h 2 (5 + x1).toNatClampNeg) + 1)) fun h_1 =>
     if x1 = 1 then (
      gd (zr (18 + (2 * x6)) 36) (zlet (upd2 h_1 3 (18 + (2 * x6)).toNatClampNeg x2) fun h_11 =>
       gd (zr (19 + (2 * x6)) 36) (zlet (upd2 h_11 3 (19 + (2 * x6)).toNatClampNeg x3) fun h_12 =>
        some h_12)))
     else (
      if x1 = 2 then (
       gd (zr (24 + (4 * x6)) 48) (zlet (upd2 h_1 4 (24 + (4 * x6)).toNatClampNeg x2) fun h_7 =>
        gd (zr (25 + (4 * x6)) 48) (zlet (upd2 h_7 4 (25 + (4 * x6)).toNatClampNeg x3) fun h_8 =>
         gd (zr (26 + (4 * x6)) 48) (zlet (upd2 h_8 4 (26 + (4 * x6)).toNatClampNeg x4) fun h_9 =>
          gd (zr (27 + (4 * x6)) 48) (zlet (upd2 h_9 4 (27 + (4 * x6)).toNatClampNeg x5) fun h_10 =>
           some h_10)))))
      else (
       if x1 = 3 then (
        gd (zr (27 + (3 * x6)) 54) (zlet (upd2 h_1 5 (27 + (3 * x6)).toNatClampNeg x2) fun h_4 =>
         gd (zr (28 + (3 * x6)) 54) (zlet (upd2 h_4 5 (28 + (3 * x6)).toNatClampNeg x3) fun h_5 =>
          gd (zr (29 + (3 * x6)) 54) (zlet (upd2 h_5 5 (29 + (3 * x6)).toNatClampNeg x4) fun h_6 =>
           some h_6))))
       else (
        gd (zr (14 + (2 * x6)) 24) (zlet (upd2 h_1 6 (14 + (2 * x6)).toNatClampNeg x2) fun h_2 =>
         gd (zr (15 + (2 * x6)) 24) (zlet (upd2 h_2 6 (15 + (2 * x6)).toNatClampNeg x3) fun h_3 =>
          some h_3))))))))

def Mo_busesOf_L16 (h : zH) (k91 : Int32 → Option (Int32)) : Nat → Int32 → Int32 → Option (Int32)
  | 0, _, _ => none
  | n_1 + 1, x2_2, x4 =>
    if (h 2 1) ≤ x4 then (
     k91 x2_2)
    else (
     gd (zr (2 * x4) 36) (
      gd (zr ((2 * x4) + 1) 36) (
       zlet ((zshl 1 (h 3 (2 * x4).toNatClampNeg)) ||| (zshl 1 (h 3 ((2 * x4) + 1).toNatClampNeg))) fun x5 =>
       (Mo_has (h 7 43) x4).bind fun r =>
       if r = 0 then (
        zlet (x2_2 ||| 0) fun x2_3 =>
        Mo_busesOf_L16 h k91 n_1 x2_3 (x4 + 1))
       else (
        if (x2_2 &&& x5) = 0 then (
         zlet (x2_2 ||| 0) fun x2_4 =>
         Mo_busesOf_L16 h k91 n_1 x2_4 (x4 + 1))
        else (
         zlet (x2_2 ||| x5) fun x2_5 =>
         Mo_busesOf_L16 h k91 n_1 x2_5 (x4 + 1))))))
def Mo_busesOf_L6 (h : zH) (k94 : Int32 → Option (Int32)) : Nat → Int32 → Int32 → Option (Int32)
  | 0, _, _ => none
  | n + 1, x2_1, x3 =>
    if x3 = x2_1 then (
     k94 x2_1)
    else (
     Mo_busesOf_L16 h (fun x2_6 =>
      Mo_busesOf_L6 h k94 n x2_6 x2_1) 1000 x2_1 0)
def Mo_busesOf (x1 : Int32) (h : zH) : Option (Int32) :=
  zlet (zshl 1 x1) fun x2 =>
  Mo_busesOf_L6 h (fun x2_7 =>
   some x2_7) 1000 x2 0

def Mo_isLowest (x1 : Int32) (h : zH) : Option (Int32) :=
  (Mo_busesOf x1 h).bind fun r =>
  if (r &&& ((zshl 1 x1) - 1)) = 0 then (
   some 1)
  else (
   some 0)

def Mo_load_L4 (x1 : Int32) (h : zH) (k66 : Int32 → Option (Int32)) : Nat → Int32 → Int32 → Option (Int32)
  | 0, _, _ => none
  | n + 1, x2, x3 =>
    if (h 2 3) ≤ x3 then (
     k66 x2)
    else (
     gd (zr (3 * x3) 54) (
      (Mo_has x1 (h 5 (3 * x3).toNatClampNeg)).bind fun r =>
      if r = 0 then (
       zlet (x2 + 0) fun x2_1 =>
       Mo_load_L4 x1 h k66 n x2_1 (x3 + 1))
      else (
       (Mo_has (h 7 42) x3).bind fun r_1 =>
       if r_1 = 0 then (
        zlet (x2 + 0) fun x2_2 =>
        Mo_load_L4 x1 h k66 n x2_2 (x3 + 1))
       else (
        gd (zr ((3 * x3) + 1) 54) (
         zlet (x2 + (h 5 ((3 * x3) + 1).toNatClampNeg)) fun x2_3 =>
         Mo_load_L4 x1 h k66 n x2_3 (x3 + 1))))))
def Mo_load (x1 : Int32) (h : zH) : Option (Int32) :=
  Mo_load_L4 x1 h (fun x2_4 =>
   some x2_4) 1000 0 0

def Mo_begins_L8 (x1 : Int32) (k84 : zH → Option (zH)) : Nat → Int32 → Int32 → zH → Option (zH)
  | 0, _, _, _ => none
  | n + 1, x2, x3, h_1 =>
    if (h_1 2 2) ≤ x3 then (
     k84 h_1)
    else (
     gd (zr (4 * x3) 48) (
      (Mo_has x1 (h_1 4 (4 * x3).toNatClampNeg)).bind fun r_1 =>
      if r_1 = 0 then (
       Mo_begins_L8 x1 k84 n x2 (x3 + 1) h_1)
      else (
       gd (zr ((4 * x3) + 1) 48) (
        zlet (h_1 4 ((4 * x3) + 1).toNatClampNeg) fun x4 =>
        zlet (fun (v65 : Int32) =>
          gd (zr (44 + x3) 67) (zlet (upd2 h_1 7 (44 + x3).toNatClampNeg v65) fun h_2 =>
           gd (zr (44 + x3) 67) (
            zlet (x2 - (h_2 7 (44 + x3).toNatClampNeg)) fun x2_1 =>
            Mo_begins_L8 x1 k84 n x2_1 (x3 + 1) h_2))) fun j65 =>
        if x4 ≤ x2 then (
         j65 x4)
        else (
         j65 x2)))))
def Mo_begins (x1 : Int32) (h : zH) : Option (zH) :=
  (Mo_load x1 h).bind fun r =>
  Mo_begins_L8 x1 (fun h_3 =>
   some h_3) 1000 r 0 h

def Mo_takes_L2 (k27 : zH → Option (zH)) : Nat → Int32 → zH → Option (zH)
  | 0, _, _ => none
  | n + 1, x1, h_1 =>
    if 5 ≤ x1 then (
     k27 h_1)
    else (
     gd (zr (5 + x1) 10) (
      gd (zr x1 10) (zlet (upd2 h_1 2 x1.toNatClampNeg (h_1 2 (5 + x1).toNatClampNeg)) fun h_2 =>
       Mo_takes_L2 k27 n (x1 + 1) h_2)))
def Mo_takes_L29 (k119 : zH → Option (zH)) : Nat → Int32 → zH → Option (zH)
  | 0, _, _ => none
  | n_1 + 1, x1_1, h_4 =>
    if 27 ≤ x1_1 then (
     k119 h_4)
    else (
     zlet (fun (h_5 : zH) =>
       zlet (fun (h_6 : zH) =>
         gd (zr (27 + x1_1) 54) (
          gd (zr x1_1 54) (zlet (upd2 h_6 5 x1_1.toNatClampNeg (h_6 5 (27 + x1_1).toNatClampNeg)) fun h_7 =>
           if 12 ≤ x1_1 then (
            Mo_takes_L29 k119 n_1 (x1_1 + 1) h_7)
           else (
            gd (zr (12 + x1_1) 24) (
             gd (zr x1_1 24) (zlet (upd2 h_7 6 x1_1.toNatClampNeg (h_7 6 (12 + x1_1).toNatClampNeg)) fun h_8 =>
              Mo_takes_L29 k119 n_1 (x1_1 + 1) h_8)))))) fun j77 =>
       if 24 ≤ x1_1 then (
        j77 h_5)
       else (
        gd (zr (24 + x1_1) 48) (
         gd (zr x1_1 48) (zlet (upd2 h_5 4 x1_1.toNatClampNeg (h_5 4 (24 + x1_1).toNatClampNeg)) fun h_9 =>
          j77 h_9)))) fun j56 =>
     if 18 ≤ x1_1 then (
      j56 h_4)
     else (
      gd (zr (18 + x1_1) 36) (
       gd (zr x1_1 36) (zlet (upd2 h_4 3 x1_1.toNatClampNeg (h_4 3 (18 + x1_1).toNatClampNeg)) fun h_10 =>
        j56 h_10))))
def Mo_takes_L121 (k140 : zH → Option (zH)) : Nat → Int32 → zH → Option (zH)
  | 0, _, _ => none
  | n_2 + 1, x1_2, h_12 =>
    if 67 ≤ x1_2 then (
     k140 h_12)
    else (
     gd (zr x1_2 67) (zlet (upd2 h_12 7 x1_2.toNatClampNeg 0) fun h_13 =>
      Mo_takes_L121 k140 n_2 (x1_2 + 1) h_13))
def Mo_takes_L142 (k167 : zH → Option (zH)) : Nat → Int32 → zH → Option (zH)
  | 0, _, _ => none
  | n_3 + 1, x1_3, h_15 =>
    if (h_15 2 0) ≤ x1_3 then (
     k167 h_15)
    else (
     gd (zr x1_3 67) (zlet (upd2 h_15 7 x1_3.toNatClampNeg 5000) fun h_16 =>
      Mo_takes_L142 k167 n_3 (x1_3 + 1) h_16))
def Mo_takes_L203 (k236 : zH → Option (zH)) : Nat → Int32 → zH → Option (zH)
  | 0, _, _ => none
  | n_4 + 1, x1_4, h_20 =>
    if (h_20 2 4) < x1_4 then (
     k236 h_20)
    else (
     gd (zr (2 * x1_4) 24) (
      gd (zr (60 + x1_4) 67) (zlet (upd2 h_20 7 (60 + x1_4).toNatClampNeg (h_20 6 (2 * x1_4).toNatClampNeg)) fun h_21 =>
       Mo_takes_L203 k236 n_4 (x1_4 + 1) h_21)))
def Mo_takes_L238 (k271 : zH → Option (zH)) : Nat → Int32 → zH → Option (zH)
  | 0, _, _ => none
  | n_5 + 1, x1_5, h_23 =>
    if (h_23 2 0) ≤ x1_5 then (
     k271 h_23)
    else (
     (Mo_isLowest x1_5 h_23).bind fun r =>
     if r = 0 then (
      Mo_takes_L238 k271 n_5 (x1_5 + 1) h_23)
     else (
      (Mo_busesOf x1_5 h_23).bind fun r_1 =>
      (Mo_begins r_1 h_23).bind fun h_24 =>
      Mo_takes_L238 k271 n_5 (x1_5 + 1) h_24))
def Mo_takes (h : zH) : Option (zH) :=
  Mo_takes_L2 (fun h_3 =>
   Mo_takes_L29 (fun h_11 =>
    Mo_takes_L121 (fun h_14 =>
     Mo_takes_L142 (fun h_17 =>
      zlet (upd2 h_17 7 42 ((zshl 1 (h_17 2 3)) - 1)) fun h_18 =>
      zlet (upd2 h_18 7 43 ((zshl 1 (h_18 2 1)) - 1)) fun h_19 =>
      Mo_takes_L203 (fun h_22 =>
       Mo_takes_L238 (fun h_25 =>
        zlet (upd2 h_25 0 10 0) fun h_26 =>
        some h_26) 1000 0 h_22) 1000 0 h_19) 1000 0 h_14) 1000 0 h_11) 1000 0 h_3) 1000 0 h

def Mo_letterAt (x1 : Int32) (h : zH) : Option (Int32) :=
  if (h 0 0) ≤ x1 then (
   some 0)
  else (
   gd (zr x1 200) (
    some (h 1 x1.toNatClampNeg)))

def Mo_number_L10 (x1 : Int32) (k83 : zH → Option (Int32 × zH)) : Nat → zH → Option (Int32 × zH)
  | 0, _ => none
  | n + 1, h_3 =>
    if (x1 + 4) ≤ (h_3 0 12) then (
     k83 h_3)
    else (
     (Mo_letterAt (h_3 0 12) h_3).bind fun r =>
     if r < 48 then (
      k83 h_3)
     else (
      (Mo_letterAt (h_3 0 12) h_3).bind fun r_1 =>
      if 57 < r_1 then (
       k83 h_3)
      else (
       gd (zr (h_3 0 12) 200) (
        zlet (upd2 h_3 0 11 (((10 * (h_3 0 11)) + (h_3 1 (h_3 0 12).toNatClampNeg)) - 48)) fun h_4 =>
        zlet (upd2 h_4 0 12 ((h_4 0 12) + 1)) fun h_5 =>
        Mo_number_L10 x1 k83 n h_5))))
def Mo_number (x1 : Int32) (x2 : Int32) (x3 : Int32) (h : zH) : Option (Int32 × zH) :=
  zlet (upd2 h 0 11 0) fun h_1 =>
  zlet (upd2 h_1 0 12 x1) fun h_2 =>
  Mo_number_L10 x1 (fun h_6 =>
   if (h_6 0 12) ≤ x1 then (
    some (0, h_6))
   else (
    (Mo_isIn (h_6 0 11) x2 x3).bind fun r_2 =>
    if r_2 = 0 then (
     some (0, h_6))
    else (
     some (1, h_6)))) 1000 h_2

def Mo_more (x1 : Int32) (x2 : Int32) (h : zH) : Option (Int32 × zH) :=
  (Mo_letterAt (h 0 12) h).bind fun r =>
  if r = 44 then (
   (Mo_number ((h 0 12) + 1) x1 x2 h).bind fun r_1 =>
   if r_1.1 = 0 then (
    some (0, r_1.2))
   else (
    some (1, r_1.2)))
  else (
   some (0, h))

def Mo_readsLink (x1 : Int32) (h : zH) : Option (Int32 × zH) :=
  if (h 2 6) = 9 then (
   some (0, h))
  else (
   (Mo_number x1 0 ((h 2 5) - 1) h).bind fun r =>
   if r.1 = 0 then (
    some (0, r.2))
   else (
    zlet (r.2 0 11) fun x2 =>
    (Mo_more 0 ((r.2 2 5) - 1) r.2).bind fun r_1 =>
    zlet (fun (v65 : Int32) =>
      if v65 = 0 then (
       gd (zb v65) (some (v65, r_1.2)))
      else (
       (Mo_adds 1 x2 (r_1.2 0 11) 0 0 r_1.2).bind fun h_1 =>
       gd (zb v65) (some (v65, h_1)))) fun j65 =>
    if r_1.1 = 0 then (
     j65 0)
    else (
     if (r_1.2 0 11) = x2 then (
      j65 0)
     else (
      j65 1))))

def Mo_readsPlant (x1 : Int32) (h : zH) : Option (Int32 × zH) :=
  if (h 2 7) = 6 then (
   some (0, h))
  else (
   (Mo_number x1 0 ((h 2 5) - 1) h).bind fun r =>
   if r.1 = 0 then (
    some (0, r.2))
   else (
    zlet (r.2 0 11) fun x2 =>
    (Mo_more 1 99 r.2).bind fun r_1 =>
    if r_1.1 = 0 then (
     some (0, r_1.2))
    else (
     zlet (r_1.2 0 11) fun x3 =>
     (Mo_more 1 9 r_1.2).bind fun r_2 =>
     if r_2.1 = 0 then (
      some (0, r_2.2))
     else (
      zlet (r_2.2 0 11) fun x4 =>
      (Mo_more 1 9 r_2.2).bind fun r_3 =>
      if r_3.1 = 0 then (
       gd (zb r_3.1) (some (r_3.1, r_3.2)))
      else (
       (Mo_adds 2 x2 x3 x4 (r_3.2 0 11) r_3.2).bind fun h_1 =>
       gd (zb r_3.1) (some (r_3.1, h_1)))))))

def Mo_readsFeeder (x1 : Int32) (h : zH) : Option (Int32 × zH) :=
  if (h 2 8) = 9 then (
   some (0, h))
  else (
   (Mo_number x1 0 ((h 2 5) - 1) h).bind fun r =>
   if r.1 = 0 then (
    some (0, r.2))
   else (
    zlet (r.2 0 11) fun x2 =>
    (Mo_more 1 50 r.2).bind fun r_1 =>
    if r_1.1 = 0 then (
     some (0, r_1.2))
    else (
     zlet (r_1.2 0 11) fun x3 =>
     (Mo_more 0 5 r_1.2).bind fun r_2 =>
     if r_2.1 = 0 then (
      gd (zb r_2.1) (some (r_2.1, r_2.2)))
     else (
      (Mo_adds 3 x2 x3 (r_2.2 0 11) 0 r_2.2).bind fun h_1 =>
      gd (zb r_2.1) (some (r_2.1, h_1))))))

def Mo_readsStage (x1 : Int32) (h : zH) : Option (Int32 × zH) :=
  if (h 2 9) = 5 then (
   some (0, h))
  else (
   (Mo_number x1 4700 4999 h).bind fun r =>
   if r.1 = 0 then (
    some (0, r.2))
   else (
    zlet (r.2 0 11) fun x2 =>
    (Mo_more 1 9 r.2).bind fun r_1 =>
    if r_1.1 = 0 then (
     gd (zb r_1.1) (some (r_1.1, r_1.2)))
    else (
     (Mo_adds 4 x2 (r_1.2 0 11) 0 0 r_1.2).bind fun h_1 =>
     gd (zb r_1.1) (some (r_1.1, h_1)))))

def Mo_readsBack (x1 : Int32) (h : zH) : Option (Int32 × zH) :=
  (Mo_number x1 4900 5000 h).bind fun r =>
  if r.1 = 0 then (
   some (0, r.2))
  else (
   zlet (upd2 r.2 6 12 (r.2 0 11)) fun h_1 =>
   (Mo_more 1 9 h_1).bind fun r_1 =>
   zlet (upd2 r_1.2 6 13 (r_1.2 0 11)) fun h_2 =>
   gd (zb r_1.1) (some (r_1.1, h_2)))

def Mo_readsItem (x1 : Int32) (x2 : Int32) (x3 : Int32) (h : zH) : Option (Int32 × zH) :=
  zlet (fun (v12 : Int32) =>
    if x3 = v12 then (
     if x1 = 98 then (
      (Mo_number x2 1 6 h).bind fun r =>
      if r.1 = 0 then (
       zlet (upd2 r.2 2 5 0) fun h_1 =>
       gd (zb r.1) (some (r.1, h_1)))
      else (
       zlet (upd2 r.2 2 5 (r.2 0 11)) fun h_2 =>
       gd (zb r.1) (some (r.1, h_2))))
     else if x1 = 102 then (
      (Mo_readsFeeder x2 h).bind fun r_1 =>
      gd (zb r_1.1) (some (r_1.1, r_1.2)))
     else if x1 = 108 then (
      (Mo_readsLink x2 h).bind fun r_2 =>
      gd (zb r_2.1) (some (r_2.1, r_2.2)))
     else if x1 = 112 then (
      (Mo_readsPlant x2 h).bind fun r_3 =>
      gd (zb r_3.1) (some (r_3.1, r_3.2)))
     else if x1 = 114 then (
      (Mo_readsBack x2 h).bind fun r_4 =>
      gd (zb r_4.1) (some (r_4.1, r_4.2)))
     else if x1 = 115 then (
      (Mo_readsStage x2 h).bind fun r_5 =>
      gd (zb r_5.1) (some (r_5.1, r_5.2)))
     else (
      some (0, h)))
    else (
     some (0, h))) fun j12 =>
  if x1 = 98 then (
   j12 1)
  else (
   j12 0)

def Mo_reads_L6 (k52 : Int32 → zH → Option (Int32 × zH)) (k64 : zH → Option (Int32 × zH)) : Nat → Int32 → zH → Option (Int32 × zH)
  | 0, _, _ => none
  | n + 1, x1, h_2 =>
    if (h_2 0 0) ≤ x1 then (
     k64 h_2)
    else (
     gd (zr x1 200) (
      zlet (fun (v33 : Int32) =>
        (Mo_readsItem (h_2 1 x1.toNatClampNeg) (x1 + 1) v33 h_2).bind fun r =>
        if r.1 = 0 then (
         k52 x1 r.2)
        else (
         (Mo_letterAt (r.2 0 12) r.2).bind fun r_1 =>
         if r_1 = 59 then (
          zlet ((r.2 0 12) + 1) fun x1_1 =>
          Mo_reads_L6 k52 k64 n x1_1 r.2)
         else (
          k52 x1 r.2))) fun j33 =>
      if x1 = 0 then (
       j33 1)
      else (
       j33 0)))
def Mo_reads (h : zH) : Option (Int32 × zH) :=
  (Mo_clears h).bind fun h_1 =>
  Mo_reads_L6 (fun x1_2 h_3 =>
   some (x1_2, h_3)) (fun h_4 =>
   some ((-4), h_4)) 1000 0 h_1

def Mo_write (x1 : Int32) (h : zH) : Option (Int32 × zH) :=
  if x1 < 32 then (
   some ((-1), h))
  else (
   if x1 ≤ 126 then (
    if (h 0 0) = 200 then (
     some ((-3), h))
    else (
     gd (zr (h 0 0) 200) (zlet (upd2 h 1 (h 0 0).toNatClampNeg x1) fun h_1 =>
      zlet (upd2 h_1 0 0 ((h_1 0 0) + 1)) fun h_2 =>
      some ((h_2 0 0), h_2))))
   else (
    some ((-1), h)))

def Mo_wipe (h : zH) : Option (Int32 × zH) :=
  zlet (h 0 0) fun x1 =>
  zlet (upd2 h 0 0 0) fun h_1 =>
  some (x1, h_1)

def Mo_fault (h : zH) : Option (Int32 × zH) :=
  (Mo_reads h).bind fun r =>
  some (r.1, r.2)

def Mo_islands_L4 (h : zH) (k36 : Int32 → Option (Int32)) : Nat → Int32 → Int32 → Option (Int32)
  | 0, _, _ => none
  | n + 1, x1, x2 =>
    if (h 2 0) ≤ x2 then (
     k36 x1)
    else (
     (Mo_isLowest x2 h).bind fun r =>
     if r = 0 then (
      zlet (x1 + 0) fun x1_1 =>
      Mo_islands_L4 h k36 n x1_1 (x2 + 1))
     else (
      zlet (x1 + 1) fun x1_2 =>
      Mo_islands_L4 h k36 n x1_2 (x2 + 1)))
def Mo_islands (h : zH) : Option (Int32) :=
  Mo_islands_L4 h (fun x1_3 =>
   some x1_3) 1000 0 0

def Mo_lay (h : zH) : Option (Int32 × zH) :=
  (Mo_reads h).bind fun r =>
  if r.1 = (-4) then (
   if (r.2 2 5) = 0 then (
    some ((-2), r.2))
   else (
    (Mo_takes r.2).bind fun h_1 =>
    (Mo_islands h_1).bind fun r_1 =>
    some (r_1, h_1)))
  else (
   some ((-2), r.2))

def Mo_busOf_L4 (x1 : Int32) (h : zH) (k27 : Int32 → Option (Int32)) (k38 : Option (Int32)) : Nat → Int32 → Int32 → Option (Int32)
  | 0, _, _ => none
  | n + 1, x2, x3 =>
    if (h 2 0) ≤ x3 then (
     k38)
    else (
     (Mo_isLowest x3 h).bind fun r =>
     if r = 0 then (
      Mo_busOf_L4 x1 h k27 k38 n x2 (x3 + 1))
     else (
      if x2 = x1 then (
       k27 x3)
      else (
       Mo_busOf_L4 x1 h k27 k38 n (x2 + 1) (x3 + 1))))
def Mo_busOf (x1 : Int32) (h : zH) : Option (Int32) :=
  Mo_busOf_L4 x1 h (fun x3_1 =>
   some x3_1) (some (-4)) 1000 0 0

def Mo_plants_L5 (x1 : Int32) (x2 : Int32) (h : zH) (k78 : Int32 → Option (Int32)) : Nat → Int32 → Int32 → Option (Int32)
  | 0, _, _ => none
  | n + 1, x3, x4 =>
    if (h 2 2) ≤ x4 then (
     k78 x3)
    else (
     gd (zr (4 * x4) 48) (
      (Mo_has x1 (h 4 (4 * x4).toNatClampNeg)).bind fun r =>
      if r = 0 then (
       Mo_plants_L5 x1 x2 h k78 n x3 (x4 + 1))
      else (
       if x2 = 0 then (
        gd (zr (44 + x4) 67) (
         zlet (x3 + (h 7 (44 + x4).toNatClampNeg)) fun x3_3 =>
         Mo_plants_L5 x1 x2 h k78 n x3_3 (x4 + 1)))
       else (
        if x2 = 4 then (
         zlet (x3 + 1) fun x3_2 =>
         Mo_plants_L5 x1 x2 h k78 n x3_2 (x4 + 1))
        else (
         gd (zr ((4 * x4) + x2) 48) (
          zlet (x3 + (h 4 ((4 * x4) + x2).toNatClampNeg)) fun x3_1 =>
          Mo_plants_L5 x1 x2 h k78 n x3_1 (x4 + 1)))))))
def Mo_plants (x1 : Int32) (x2 : Int32) (h : zH) : Option (Int32) :=
  Mo_plants_L5 x1 x2 h (fun x3_4 =>
   some x3_4) 1000 0 0

def Mo_aim (x1 : Int32) (x2 : Int32) (h : zH) : Option (Int32) :=
  (Mo_load x1 h).bind fun r =>
  some (r + ((5000 - x2) / 20))

def Mo_frequency_L2 (x1 : Int32) (x2 : Int32) (k42 : zH → Option (zH)) : Nat → Int32 → zH → Option (zH)
  | 0, _, _ => none
  | n + 1, x3, h_1 =>
    if (h_1 2 0) ≤ x3 then (
     k42 h_1)
    else (
     (Mo_has x1 x3).bind fun r =>
     if r = 0 then (
      gd (zr x3 67) (
       gd (zr x3 67) (zlet (upd2 h_1 7 x3.toNatClampNeg (h_1 7 x3.toNatClampNeg)) fun h_2 =>
        Mo_frequency_L2 x1 x2 k42 n (x3 + 1) h_2)))
     else (
      gd (zr x3 67) (zlet (upd2 h_1 7 x3.toNatClampNeg x2) fun h_3 =>
       Mo_frequency_L2 x1 x2 k42 n (x3 + 1) h_3)))
def Mo_frequency (x1 : Int32) (x2 : Int32) (h : zH) : Option (zH) :=
  Mo_frequency_L2 x1 x2 (fun h_4 =>
   some h_4) 1000 0 h

def Mo_counts_L3 (x1 : Int32) (x2 : Int32) (x3 : Int32) (k59 : zH → Option (zH)) : Nat → Int32 → zH → Option (zH)
  | 0, _, _ => none
  | n + 1, x4, h_1 =>
    if (h_1 2 0) ≤ x4 then (
     k59 h_1)
    else (
     zlet ((6 + (6 * x4)) + x2) fun x5 =>
     (Mo_has x1 x4).bind fun r =>
     if r = 0 then (
      gd (zr x5 67) (
       gd (zr x5 67) (zlet (upd2 h_1 7 x5.toNatClampNeg (h_1 7 x5.toNatClampNeg)) fun h_2 =>
        Mo_counts_L3 x1 x2 x3 k59 n (x4 + 1) h_2)))
     else (
      gd (zr x5 67) (zlet (upd2 h_1 7 x5.toNatClampNeg x3) fun h_3 =>
       Mo_counts_L3 x1 x2 x3 k59 n (x4 + 1) h_3)))
def Mo_counts (x1 : Int32) (x2 : Int32) (x3 : Int32) (h : zH) : Option (zH) :=
  Mo_counts_L3 x1 x2 x3 (fun h_4 =>
   some h_4) 1000 0 h

def Mo_drop (x1 : Int32) (h : zH) : Option (zH) :=
  zlet (upd2 h 7 42 ((h 7 42) &&& ((zshl 1 x1) ^^^ (-1)))) fun h_1 =>
  gd (zr (51 + (h_1 7 50)) 67) (zlet (upd2 h_1 7 (51 + (h_1 7 50)).toNatClampNeg x1) fun h_2 =>
   zlet (upd2 h_2 7 50 ((h_2 7 50) + 1)) fun h_3 =>
   zlet (upd2 h_3 0 13 ((h_3 0 13) + 1)) fun h_4 =>
   gd (zr ((3 * x1) + 1) 54) (
    zlet (upd2 h_4 0 14 ((h_4 0 14) + (h_4 5 ((3 * x1) + 1).toNatClampNeg))) fun h_5 =>
    zlet (upd2 h_5 0 16 ((h_5 0 16) ||| (zshl 1 x1))) fun h_6 =>
    some h_6))

def Mo_on_L2 (x1 : Int32) (h : zH) (k21 : Int32 → Option (zH)) : Nat → Int32 → Option (zH)
  | 0, _ => none
  | n + 1, x2 =>
    gd (zr (51 + x2) 67) (
     if (h 7 (51 + x2).toNatClampNeg) = x1 then (
      k21 x2)
     else (
      Mo_on_L2 x1 h k21 n (x2 + 1)))
def Mo_on_L34 (k71 : zH → Option (zH)) : Nat → Int32 → zH → Option (zH)
  | 0, _, _ => none
  | n_1 + 1, x3, h_2 =>
    if (h_2 7 50) ≤ x3 then (
     k71 h_2)
    else (
     gd (zr ((51 + x3) + 1) 67) (
      gd (zr (51 + x3) 67) (zlet (upd2 h_2 7 (51 + x3).toNatClampNeg (h_2 7 ((51 + x3) + 1).toNatClampNeg)) fun h_3 =>
       Mo_on_L34 k71 n_1 (x3 + 1) h_3)))
def Mo_on (x1 : Int32) (h : zH) : Option (zH) :=
  Mo_on_L2 x1 h (fun x2_1 =>
   zlet (upd2 h 7 50 ((h 7 50) - 1)) fun h_1 =>
   Mo_on_L34 (fun h_4 =>
    zlet (upd2 h_4 7 42 ((h_4 7 42) ||| (zshl 1 x1))) fun h_5 =>
    some h_5) 1000 x2_1 h_1) 1000 0

def Mo_dropAll_L5 (x1 : Int32) (x2 : Int32) (k80 : Int32 → zH → Option (Int32 × zH)) : Nat → Int32 → Int32 → zH → Option (Int32 × zH)
  | 0, _, _, _ => none
  | n + 1, x3, x4, h_1 =>
    if (h_1 2 3) ≤ x4 then (
     k80 x3 h_1)
    else (
     gd (zr (3 * x4) 54) (
      (Mo_has x1 (h_1 5 (3 * x4).toNatClampNeg)).bind fun r =>
      if r = 0 then (
       Mo_dropAll_L5 x1 x2 k80 n x3 (x4 + 1) h_1)
      else (
       (Mo_has (h_1 7 42) x4).bind fun r_1 =>
       if r_1 = 0 then (
        Mo_dropAll_L5 x1 x2 k80 n x3 (x4 + 1) h_1)
       else (
        zlet (
          (Mo_drop x4 h_1).bind fun h_2 =>
          Mo_dropAll_L5 x1 x2 k80 n 1 (x4 + 1) h_2) fun j66 =>
        if x2 < 0 then (
         j66)
        else (
         gd (zr ((3 * x4) + 2) 54) (
          if (h_1 5 ((3 * x4) + 2).toNatClampNeg) = x2 then (
           j66)
          else (
           Mo_dropAll_L5 x1 x2 k80 n x3 (x4 + 1) h_1)))))))
def Mo_dropAll (x1 : Int32) (x2 : Int32) (h : zH) : Option (Int32 × zH) :=
  Mo_dropAll_L5 x1 x2 (fun x3_1 h_3 =>
   gd (zb x3_1) (some (x3_1, h_3))) 1000 0 0 h

def Mo_follow_L2 (x1 : Int32) (x2 : Int32) (k147 : zH → Option (zH)) : Nat → Int32 → zH → Option (zH)
  | 0, _, _ => none
  | n + 1, x3, h_1 =>
    if (h_1 2 2) ≤ x3 then (
     k147 h_1)
    else (
     gd (zr (4 * x3) 48) (
      (Mo_has x1 (h_1 4 (4 * x3).toNatClampNeg)).bind fun r =>
      if r = 0 then (
       Mo_follow_L2 x1 x2 k147 n (x3 + 1) h_1)
      else (
       (Mo_plants x1 0 h_1).bind fun r_1 =>
       zlet (x2 - r_1) fun x4 =>
       gd (zr ((4 * x3) + 2) 48) (
        zlet (h_1 4 ((4 * x3) + 2).toNatClampNeg) fun x5 =>
        zlet (fun (v77 : Int32) =>
          gd (zr (44 + x3) 67) (
           zlet ((h_1 7 (44 + x3).toNatClampNeg) + v77) fun x7 =>
           if 0 ≤ x7 then (
            gd (zr ((4 * x3) + 1) 48) (
             if x7 ≤ (h_1 4 ((4 * x3) + 1).toNatClampNeg) then (
              gd (zr (44 + x3) 67) (zlet (upd2 h_1 7 (44 + x3).toNatClampNeg x7) fun h_2 =>
               Mo_follow_L2 x1 x2 k147 n (x3 + 1) h_2))
             else (
              gd (zr ((4 * x3) + 1) 48) (
               gd (zr (44 + x3) 67) (zlet (upd2 h_1 7 (44 + x3).toNatClampNeg (h_1 4 ((4 * x3) + 1).toNatClampNeg)) fun h_3 =>
                Mo_follow_L2 x1 x2 k147 n (x3 + 1) h_3)))))
           else (
            gd (zr (44 + x3) 67) (zlet (upd2 h_1 7 (44 + x3).toNatClampNeg 0) fun h_4 =>
             Mo_follow_L2 x1 x2 k147 n (x3 + 1) h_4)))) fun j77 =>
        if x4 ≤ x5 then (
         if (-x5) ≤ x4 then (
          j77 x4)
         else (
          j77 (-x5)))
        else (
         j77 x5)))))
def Mo_follow (x1 : Int32) (x2 : Int32) (h : zH) : Option (zH) :=
  Mo_follow_L2 x1 x2 (fun h_5 =>
   some h_5) 1000 0 h

def Mo_goesDark_L15 (x1 : Int32) (k68 : zH → Option (zH)) : Nat → Int32 → zH → Option (zH)
  | 0, _, _ => none
  | n + 1, x2, h_2 =>
    if (h_2 2 2) ≤ x2 then (
     k68 h_2)
    else (
     gd (zr (4 * x2) 48) (
      (Mo_has x1 (h_2 4 (4 * x2).toNatClampNeg)).bind fun r_1 =>
      if r_1 = 0 then (
       gd (zr (44 + x2) 67) (
        gd (zr (44 + x2) 67) (zlet (upd2 h_2 7 (44 + x2).toNatClampNeg (h_2 7 (44 + x2).toNatClampNeg)) fun h_3 =>
         Mo_goesDark_L15 x1 k68 n (x2 + 1) h_3)))
      else (
       gd (zr (44 + x2) 67) (zlet (upd2 h_2 7 (44 + x2).toNatClampNeg 0) fun h_4 =>
        Mo_goesDark_L15 x1 k68 n (x2 + 1) h_4))))
def Mo_goesDark (x1 : Int32) (h : zH) : Option (zH) :=
  (Mo_frequency x1 0 h).bind fun h_1 =>
  (Mo_dropAll x1 (-1) h_1).bind fun r =>
  Mo_goesDark_L15 x1 (fun h_5 =>
   some h_5) 1000 0 r.2

def Mo_fitting_L23 (x1 : Int32) (h : zH) (x2 : Int32) (k69 : Int32 → Option (Int32)) (k78 : Option (Int32)) : Nat → Int32 → Option (Int32)
  | 0, _ => none
  | n + 1, x3_1 =>
    if x3_1 < 0 then (
     k78)
    else (
     gd (zr (51 + x3_1) 67) (
      zlet (h 7 (51 + x3_1).toNatClampNeg) fun x4 =>
      gd (zr (3 * x4) 54) (
       (Mo_has x1 (h 5 (3 * x4).toNatClampNeg)).bind fun r_2 =>
       if r_2 = 0 then (
        Mo_fitting_L23 x1 h x2 k69 k78 n (x3_1 + (-1)))
       else (
        gd (zr ((3 * x4) + 1) 54) (
         if x2 < (h 5 ((3 * x4) + 1).toNatClampNeg) then (
          Mo_fitting_L23 x1 h x2 k69 k78 n (x3_1 + (-1)))
         else (
          k69 x4))))))
def Mo_fitting (x1 : Int32) (h : zH) : Option (Int32) :=
  (Mo_plants x1 1 h).bind fun r =>
  (Mo_load x1 h).bind fun r_1 =>
  zlet (r - r_1) fun x2 =>
  zlet ((h 7 50) - 1) fun x3 =>
  Mo_fitting_L23 x1 h x2 (fun x4_1 =>
   some x4_1) (some (-4)) 1000 x3

def Mo_goes_L100 (x1 : Int32) (r : Int32) (x3_1 : Int32) (k197 : zH → Option (zH)) : Nat → Int32 → zH → Option (zH)
  | 0, _, _ => none
  | n + 1, x5, h_4 =>
    if (h_4 2 4) < x5 then (
     k197 h_4)
    else (
     gd (zr (60 + x5) 67) (
      zlet (fun (v146 : Int32) =>
        (Mo_counts r x5 v146 h_4).bind fun h_5 =>
        gd (zr ((2 * x5) + 1) 24) (
         if v146 < (h_5 6 ((2 * x5) + 1).toNatClampNeg) then (
          Mo_goes_L100 x1 r x3_1 k197 n (x5 + 1) h_5)
         else (
          (Mo_dropAll r x5 h_5).bind fun r_3 =>
          if r_3.1 = 0 then (
           Mo_goes_L100 x1 r x3_1 k197 n (x5 + 1) r_3.2)
          else (
           (Mo_counts r x5 0 r_3.2).bind fun h_6 =>
           Mo_goes_L100 x1 r x3_1 k197 n (x5 + 1) h_6)))) fun j146 =>
      if (h_4 7 (60 + x5).toNatClampNeg) ≤ x3_1 then (
       j146 0)
      else (
       gd (zr ((6 + (6 * x1)) + x5) 67) (
        j146 ((h_4 7 ((6 + (6 * x1)) + x5).toNatClampNeg) + 1)))))
def Mo_goes (x1 : Int32) (h : zH) : Option (zH) :=
  (Mo_busesOf x1 h).bind fun r =>
  gd (zr x1 67) (
   zlet (h 7 x1.toNatClampNeg) fun x3 =>
   (Mo_aim r x3 h).bind fun r_1 =>
   (Mo_follow r r_1 h).bind fun h_1 =>
   (Mo_plants r 3 h_1).bind fun r_2 =>
   zlet (fun (x3_1 : Int32) =>
     if r_2 = 0 then (
      (Mo_goesDark r h_1).bind fun h_2 =>
      some h_2)
     else (
      if 4700 ≤ x3_1 then (
       (Mo_frequency r x3_1 h_1).bind fun h_3 =>
       Mo_goes_L100 x1 r x3_1 (fun h_7 =>
        zlet (fun (v226 : Int32) =>
          zlet (fun (v249 : Int32) =>
            zlet (fun (v267 : Int32) =>
              (Mo_counts r 0 v267 h_7).bind fun h_8 =>
              if v249 = (-4) then (
               some h_8)
              else (
               (Mo_on v249 h_8).bind fun h_9 =>
               zlet (upd2 h_9 0 15 ((h_9 0 15) + 1)) fun h_10 =>
               some h_10)) fun j267 =>
            if v249 = (-4) then (
             j267 v226)
            else (
             j267 0)) fun j249 =>
          if v226 < (h_7 6 1) then (
           j249 (-4))
          else (
           (Mo_fitting r h_7).bind fun r_4 =>
           j249 r_4)) fun j226 =>
        if x3_1 < (h_7 7 60) then (
         j226 0)
        else (
         gd (zr (6 + (6 * x1)) 67) (
          j226 ((h_7 7 (6 + (6 * x1)).toNatClampNeg) + 1)))) 1000 1 h_3)
      else (
       (Mo_goesDark r h_1).bind fun h_11 =>
       some h_11))) fun j73 =>
   if r_2 ≤ 0 then (
    j73 x3)
   else (
    (Mo_plants r 0 h_1).bind fun r_5 =>
    (Mo_load r h_1).bind fun r_6 =>
    gd (decide (¬ r_2 = 0)) (
     zlet (x3 + ((10 * (r_5 - r_6)) / r_2)) fun x3_2 =>
     if x3_2 ≤ 5200 then (
      j73 x3_2)
     else (
      j73 5200))))

def Mo_ticks_L2 (k40 : zH → Option (zH)) : Nat → Int32 → zH → Option (zH)
  | 0, _, _ => none
  | n + 1, x1, h_1 =>
    if (h_1 2 0) ≤ x1 then (
     k40 h_1)
    else (
     (Mo_isLowest x1 h_1).bind fun r =>
     if r = 0 then (
      Mo_ticks_L2 k40 n (x1 + 1) h_1)
     else (
      gd (zr x1 67) (
       if (h_1 7 x1.toNatClampNeg) ≤ 0 then (
        Mo_ticks_L2 k40 n (x1 + 1) h_1)
       else (
        (Mo_goes x1 h_1).bind fun h_2 =>
        Mo_ticks_L2 k40 n (x1 + 1) h_2))))
def Mo_ticks (h : zH) : Option (zH) :=
  Mo_ticks_L2 (fun h_3 =>
   zlet (upd2 h_3 7 66 ((h_3 7 66) + 1)) fun h_4 =>
   some h_4) 1000 0 h

def Mo_fresh (h : zH) : Option (zH) :=
  zlet (upd2 h 0 13 0) fun h_1 =>
  zlet (upd2 h_1 0 14 0) fun h_2 =>
  zlet (upd2 h_2 0 15 0) fun h_3 =>
  zlet (upd2 h_3 0 16 0) fun h_4 =>
  some h_4

def Mo_keeps_L50 (k82 : zH → Option (zH)) : Nat → Int32 → zH → Option (zH)
  | 0, _, _ => none
  | n + 1, x1, h_2 =>
    if 67 ≤ x1 then (
     k82 h_2)
    else (
     gd (zr x1 67) (
      gd (zr ((67 * (h_2 0 10)) + x1) 268) (zlet (upd2 h_2 8 ((67 * (h_2 0 10)) + x1).toNatClampNeg (h_2 7 x1.toNatClampNeg)) fun h_3 =>
       Mo_keeps_L50 k82 n (x1 + 1) h_3)))
def Mo_keeps_L10 (k38 : zH → Option (zH)) : Nat → Int32 → zH → Option (zH)
  | 0, _, _ => none
  | n_1 + 1, x1_1, h_6 =>
    if 201 ≤ x1_1 then (
     k38 h_6)
    else (
     gd (zr (x1_1 + 67) 268) (
      gd (zr x1_1 268) (zlet (upd2 h_6 8 x1_1.toNatClampNeg (h_6 8 (x1_1 + 67).toNatClampNeg)) fun h_7 =>
       Mo_keeps_L10 k38 n_1 (x1_1 + 1) h_7)))
def Mo_keeps (h : zH) : Option (zH) :=
  zlet (fun (h_1 : zH) =>
    Mo_keeps_L50 (fun h_4 =>
     zlet (upd2 h_4 0 10 ((h_4 0 10) + 1)) fun h_5 =>
     some h_5) 1000 0 h_1) fun j48 =>
  if (h 0 10) = 4 then (
   Mo_keeps_L10 (fun h_8 =>
    zlet (upd2 h_8 0 10 ((h_8 0 10) - 1)) fun h_9 =>
    j48 h_9) 1000 0 h)
  else (
   j48 h)

def Mo_undo_L22 (k54 : zH → Option (Int32 × zH)) : Nat → Int32 → zH → Option (Int32 × zH)
  | 0, _, _ => none
  | n + 1, x1, h_2 =>
    if 67 ≤ x1 then (
     k54 h_2)
    else (
     gd (zr ((67 * (h_2 0 10)) + x1) 268) (
      gd (zr x1 67) (zlet (upd2 h_2 7 x1.toNatClampNeg (h_2 8 ((67 * (h_2 0 10)) + x1).toNatClampNeg)) fun h_3 =>
       Mo_undo_L22 k54 n (x1 + 1) h_3)))
def Mo_undo (h : zH) : Option (Int32 × zH) :=
  if (h 0 10) = 0 then (
   some ((-2), h))
  else (
   zlet (upd2 h 0 10 ((h 0 10) - 1)) fun h_1 =>
   Mo_undo_L22 (fun h_4 =>
    some ((h_4 0 10), h_4)) 1000 0 h_1)

def Mo_tick_L40 (x1 : Int32) (k55 : zH → Option (Int32 × zH)) : Nat → Int32 → zH → Option (Int32 × zH)
  | 0, _, _ => none
  | n + 1, x2, h_3 =>
    if x1 ≤ x2 then (
     k55 h_3)
    else (
     (Mo_ticks h_3).bind fun h_4 =>
     Mo_tick_L40 x1 k55 n (x2 + 1) h_4)
def Mo_tick (x1 : Int32) (h : zH) : Option (Int32 × zH) :=
  (Mo_isIn x1 1 60).bind fun r =>
  if r = 0 then (
   some ((-1), h))
  else (
   if ((h 7 66) + x1) ≤ 9999 then (
    (Mo_keeps h).bind fun h_1 =>
    (Mo_fresh h_1).bind fun h_2 =>
    Mo_tick_L40 x1 (fun h_5 =>
     some ((h_5 0 13), h_5)) 1000 0 h_2)
   else (
    some ((-2), h)))

def Mo_canClose (x1 : Int32) (x2 : Int32) (h : zH) : Option (Int32) :=
  gd (zr x1 67) (
   gd (zr x2 67) (
    zlet ((h 7 x1.toNatClampNeg) - (h 7 x2.toNatClampNeg)) fun x3 =>
    (Mo_busesOf x1 h).bind fun r =>
    (Mo_has r x2).bind fun r_1 =>
    if r_1 = 0 then (
     gd (zr x1 67) (
      if (h 7 x1.toNatClampNeg) = 0 then (
       some 1)
      else (
       gd (zr x2 67) (
        if (h 7 x2.toNatClampNeg) = 0 then (
         some 1)
        else (
         (Mo_isIn x3 (-20) 20).bind fun r_2 =>
         if r_2 = 0 then (
          some 0)
         else (
          some 1))))))
    else (
     some 1)))

def Mo_bothF (x1 : Int32) (x2 : Int32) (x3 : Int32) (x4 : Int32) (h : zH) : Option (Int32) :=
  gd (zr x3 67) (
   zlet (
     gd (zr x3 67) (
      gd (zr x4 67) (
       some ((h 7 x3.toNatClampNeg) + (h 7 x4.toNatClampNeg))))) fun j19 =>
   if (h 7 x3.toNatClampNeg) = 0 then (
    j19)
   else (
    gd (zr x4 67) (
     if (h 7 x4.toNatClampNeg) = 0 then (
      j19)
     else (
      (Mo_plants x1 3 h).bind fun r =>
      (Mo_plants x2 3 h).bind fun r_1 =>
      if (r + r_1) = 0 then (
       gd (zr x3 67) (
        gd (zr x4 67) (
         if (h 7 x4.toNatClampNeg) ≤ (h 7 x3.toNatClampNeg) then (
          gd (zr x4 67) (
           some (h 7 x4.toNatClampNeg)))
         else (
          gd (zr x3 67) (
           some (h 7 x3.toNatClampNeg))))))
      else (
       gd (zr x3 67) (
        gd (zr x4 67) (
         gd (decide (¬ (r + r_1) = 0)) (
          some ((((h 7 x3.toNatClampNeg) * r) + ((h 7 x4.toNatClampNeg) * r_1)) / (r + r_1))))))))))

def Mo_joins_L34 (x1 : Int32) (x2 : Int32) (r : Int32) (r_1 : Int32) (k129 : zH → Option (zH)) : Nat → Int32 → zH → Option (zH)
  | 0, _, _ => none
  | n + 1, x6, h_1 =>
    if 6 ≤ x6 then (
     k129 h_1)
    else (
     gd (zr x1 67) (
      zlet (fun (v109 : Int32) =>
        (Mo_counts (r ||| r_1) x6 v109 h_1).bind fun h_2 =>
        Mo_joins_L34 x1 x2 r r_1 k129 n (x6 + 1) h_2) fun j109 =>
      if (h_1 7 x1.toNatClampNeg) = 0 then (
       gd (zr x2 67) (
        if (h_1 7 x2.toNatClampNeg) = 0 then (
         j109 0)
        else (
         gd (zr ((6 + (6 * x2)) + x6) 67) (
          j109 (h_1 7 ((6 + (6 * x2)) + x6).toNatClampNeg)))))
      else (
       gd (zr x2 67) (
        if (h_1 7 x2.toNatClampNeg) = 0 then (
         gd (zr ((6 + (6 * x1)) + x6) 67) (
          j109 (h_1 7 ((6 + (6 * x1)) + x6).toNatClampNeg)))
        else (
         j109 0)))))
def Mo_joins (x1 : Int32) (x2 : Int32) (h : zH) : Option (zH) :=
  (Mo_busesOf x1 h).bind fun r =>
  (Mo_busesOf x2 h).bind fun r_1 =>
  if r = r_1 then (
   some h)
  else (
   (Mo_bothF r r_1 x1 x2 h).bind fun r_2 =>
   Mo_joins_L34 x1 x2 r r_1 (fun h_3 =>
    (Mo_frequency (r ||| r_1) r_2 h_3).bind fun h_4 =>
    some h_4) 1000 0 h)

def Mo_link (x1 : Int32) (x2 : Int32) (h : zH) : Option (Int32 × zH) :=
  (Mo_isIn x1 0 ((h 2 1) - 1)).bind fun r =>
  if r = 0 then (
   some ((-1), h))
  else (
   (Mo_isIn x2 0 1).bind fun r_1 =>
   if r_1 = 0 then (
    some ((-1), h))
   else (
    gd (zr (2 * x1) 36) (
     zlet (h 3 (2 * x1).toNatClampNeg) fun x3 =>
     gd (zr ((2 * x1) + 1) 36) (
      zlet (h 3 ((2 * x1) + 1).toNatClampNeg) fun x4 =>
      (Mo_has (h 7 43) x1).bind fun r_2 =>
      zlet (fun (v69 : Int32) =>
        if r_2 = v69 then (
         some ((-2), h))
        else (
         zlet (
           (Mo_keeps h).bind fun h_1 =>
           zlet (fun (h_2 : zH) =>
             zlet (upd2 h_2 7 43 ((h_2 7 43) ^^^ (zshl 1 x1))) fun h_3 =>
             (Mo_islands h_3).bind fun r_3 =>
             some (r_3, h_3)) fun j106 =>
           if x2 = 1 then (
            (Mo_joins x3 x4 h_1).bind fun h_4 =>
            j106 h_4)
           else (
            j106 h_1)) fun j90 =>
         if x2 = 1 then (
          (Mo_canClose x3 x4 h).bind fun r_4 =>
          if r_4 = 0 then (
           some ((-2), h))
          else (
           j90))
         else (
          j90))) fun j69 =>
      if x2 = 1 then (
       j69 1)
      else (
       j69 0)))))

def Mo_feeder (x1 : Int32) (x2 : Int32) (h : zH) : Option (Int32 × zH) :=
  (Mo_isIn x1 0 ((h 2 3) - 1)).bind fun r =>
  if r = 0 then (
   some ((-1), h))
  else (
   (Mo_isIn x2 0 1).bind fun r_1 =>
   if r_1 = 0 then (
    some ((-1), h))
   else (
    gd (zr (3 * x1) 54) (
     zlet (h 5 (3 * x1).toNatClampNeg) fun x3 =>
     (Mo_has (h 7 42) x1).bind fun r_2 =>
     zlet (fun (v57 : Int32) =>
       if r_2 = v57 then (
        some ((-2), h))
       else (
        zlet (
          (Mo_keeps h).bind fun h_1 =>
          zlet (fun (h_2 : zH) =>
            (Mo_busesOf x3 h_2).bind fun r_3 =>
            (Mo_load r_3 h_2).bind fun r_4 =>
            some (r_4, h_2)) fun j99 =>
          if x2 = 1 then (
           (Mo_on x1 h_1).bind fun h_4 =>
           j99 h_4)
          else (
           (Mo_drop x1 h_1).bind fun h_3 =>
           j99 h_3)) fun j77 =>
        if x2 = 1 then (
         gd (zr x3 67) (
          if (h 7 x3.toNatClampNeg) = 0 then (
           some ((-2), h))
          else (
           j77)))
        else (
         j77))) fun j57 =>
     if x2 = 1 then (
      j57 1)
     else (
      j57 0))))

def Mo_isBus (x1 : Int32) (h : zH) : Option (Int32) :=
  (Mo_isIn x1 0 ((h 2 0) - 1)).bind fun r =>
  gd (zb r) (some r)

def Mo_begin_L51 (r_1 : Int32) (k70 : zH → Option (Int32 × zH)) : Nat → Int32 → zH → Option (Int32 × zH)
  | 0, _, _ => none
  | n + 1, x3, h_3 =>
    if 6 ≤ x3 then (
     k70 h_3)
    else (
     (Mo_counts r_1 x3 0 h_3).bind fun h_4 =>
     Mo_begin_L51 r_1 k70 n (x3 + 1) h_4)
def Mo_begin (x1 : Int32) (h : zH) : Option (Int32 × zH) :=
  (Mo_isBus x1 h).bind fun r =>
  if r = 0 then (
   some ((-1), h))
  else (
   (Mo_busesOf x1 h).bind fun r_1 =>
   gd (zr x1 67) (
    if 0 < (h 7 x1.toNatClampNeg) then (
     some ((-2), h))
    else (
     (Mo_plants r_1 4 h).bind fun r_2 =>
     if r_2 = 0 then (
      some ((-2), h))
     else (
      (Mo_keeps h).bind fun h_1 =>
      (Mo_frequency r_1 5000 h_1).bind fun h_2 =>
      Mo_begin_L51 r_1 (fun h_5 =>
       (Mo_plants r_1 3 h_5).bind fun r_3 =>
       some (r_3, h_5)) 1000 0 h_2))))

def Mo_mark (x1 : Int32) (x2 : Int32) (h : zH) : Option (Int32 × zH) :=
  (Mo_isIn x1 0 (h 2 4)).bind fun r =>
  if r = 0 then (
   some ((-1), h))
  else (
   if x1 = 0 then (
    zlet (fun (v41_1 : Int32) =>
      (Mo_isIn x2 4900 v41_1).bind fun r_2 =>
      if r_2 = 0 then (
       some ((-1), h))
      else (
       gd (zr (60 + x1) 67) (
        zlet (h 7 (60 + x1).toNatClampNeg) fun x3_1 =>
        if x3_1 = x2 then (
         some ((-2), h))
        else (
         (Mo_keeps h).bind fun h_3 =>
         gd (zr (60 + x1) 67) (zlet (upd2 h_3 7 (60 + x1).toNatClampNeg x2) fun h_4 =>
          some (x3_1, h_4)))))) fun j41 =>
    if x1 = 0 then (
     j41 5000)
    else (
     j41 4999))
   else (
    zlet (fun (v41 : Int32) =>
      (Mo_isIn x2 4700 v41).bind fun r_1 =>
      if r_1 = 0 then (
       some ((-1), h))
      else (
       gd (zr (60 + x1) 67) (
        zlet (h 7 (60 + x1).toNatClampNeg) fun x3 =>
        if x3 = x2 then (
         some ((-2), h))
        else (
         (Mo_keeps h).bind fun h_1 =>
         gd (zr (60 + x1) 67) (zlet (upd2 h_1 7 (60 + x1).toNatClampNeg x2) fun h_2 =>
          some (x3, h_2)))))) fun j41 =>
    if x1 = 0 then (
     j41 5000)
    else (
     j41 4999)))

def Mo_bits_L4 (x1 : Int32) (k24 : Int32 → Option (Int32)) : Nat → Int32 → Int32 → Option (Int32)
  | 0, _, _ => none
  | n + 1, x2, x3 =>
    if 9 ≤ x3 then (
     k24 x2)
    else (
     zlet (x2 + ((zshr x1 x3) &&& 1)) fun x2_1 =>
     Mo_bits_L4 x1 k24 n x2_1 (x3 + 1))
def Mo_bits (x1 : Int32) : Option (Int32) :=
  Mo_bits_L4 x1 (fun x2_2 =>
   some x2_2) 1000 0 0

def Mo_feedersOf_L4 (x1 : Int32) (h : zH) (k45 : Int32 → Option (Int32)) : Nat → Int32 → Int32 → Option (Int32)
  | 0, _, _ => none
  | n + 1, x2, x3 =>
    if (h 2 3) ≤ x3 then (
     k45 x2)
    else (
     gd (zr (3 * x3) 54) (
      (Mo_has x1 (h 5 (3 * x3).toNatClampNeg)).bind fun r =>
      if r = 0 then (
       zlet (x2 ||| 0) fun x2_1 =>
       Mo_feedersOf_L4 x1 h k45 n x2_1 (x3 + 1))
      else (
       zlet (x2 ||| (zshl 1 x3)) fun x2_2 =>
       Mo_feedersOf_L4 x1 h k45 n x2_2 (x3 + 1))))
def Mo_feedersOf (x1 : Int32) (h : zH) : Option (Int32) :=
  Mo_feedersOf_L4 x1 h (fun x2_3 =>
   some x2_3) 1000 0 0

def Mo_island (x1 : Int32) (x2 : Int32) (h : zH) : Option (Int32) :=
  (Mo_islands h).bind fun r =>
  (Mo_isIn x1 0 (r - 1)).bind fun r_1 =>
  if r_1 = 0 then (
   some (-1))
  else (
   (Mo_isIn x2 0 8).bind fun r_2 =>
   if r_2 = 0 then (
    some (-1))
   else (
    (Mo_busOf x1 h).bind fun r_3 =>
    (Mo_busesOf r_3 h).bind fun r_4 =>
    (Mo_feedersOf r_4 h).bind fun r_5 =>
    if x2 = 0 then (
     some r_4)
    else if x2 = 1 then (
     gd (zr r_3 67) (
      some (h 7 r_3.toNatClampNeg)))
    else if x2 = 2 then (
     (Mo_load r_4 h).bind fun r_6 =>
     some r_6)
    else if x2 = 3 then (
     (Mo_plants r_4 0 h).bind fun r_7 =>
     some r_7)
    else if x2 = 4 then (
     (Mo_plants r_4 1 h).bind fun r_8 =>
     some r_8)
    else if x2 = 5 then (
     (Mo_plants r_4 3 h).bind fun r_9 =>
     some r_9)
    else if x2 = 6 then (
     (Mo_bits (r_5 &&& (h 7 42))).bind fun r_10 =>
     some r_10)
    else if x2 = 7 then (
     (Mo_bits (r_5 &&& ((h 7 42) ^^^ (-1)))).bind fun r_11 =>
     some r_11)
    else (
     gd (zr r_3 67) (
      if (h 7 r_3.toNatClampNeg) = 0 then (
       some 0)
      else (
       gd (zr r_3 67) (
        (Mo_aim r_4 (h 7 r_3.toNatClampNeg) h).bind fun r_12 =>
        some r_12))))))

def Mo_counted (x1 : Int32) (x2 : Int32) (h : zH) : Option (Int32) :=
  (Mo_islands h).bind fun r =>
  (Mo_isIn x1 0 (r - 1)).bind fun r_1 =>
  if r_1 = 0 then (
   some (-1))
  else (
   (Mo_isIn x2 0 (h 2 4)).bind fun r_2 =>
   if r_2 = 0 then (
    some (-1))
   else (
    (Mo_busOf x1 h).bind fun r_3 =>
    gd (zr ((6 + (6 * r_3)) + x2) 67) (
     some (h 7 ((6 + (6 * r_3)) + x2).toNatClampNeg))))

def Mo_at_L21 (h : zH) (r_1 : Int32) (k53 : Int32 → Option (Int32)) : Nat → Int32 → Int32 → Option (Int32)
  | 0, _, _ => none
  | n + 1, x3, x4 =>
    (Mo_has r_1 x4).bind fun r_2 =>
    if r_2 = 0 then (
     (Mo_isLowest x4 h).bind fun r_3 =>
     if r_3 = 0 then (
      zlet (x3 + 0) fun x3_1 =>
      Mo_at_L21 h r_1 k53 n x3_1 (x4 + 1))
     else (
      zlet (x3 + 1) fun x3_2 =>
      Mo_at_L21 h r_1 k53 n x3_2 (x4 + 1)))
    else (
     k53 x3)
def Mo_at (x1 : Int32) (h : zH) : Option (Int32) :=
  (Mo_isBus x1 h).bind fun r =>
  if r = 0 then (
   some (-1))
  else (
   (Mo_busesOf x1 h).bind fun r_1 =>
   Mo_at_L21 h r_1 (fun x3_3 =>
    some x3_3) 1000 0 0)

def Mo_plant (x1 : Int32) (h : zH) : Option (Int32) :=
  (Mo_isIn x1 0 ((h 2 2) - 1)).bind fun r =>
  if r = 0 then (
   some (-1))
  else (
   gd (zr (44 + x1) 67) (
    some (h 7 (44 + x1).toNatClampNeg)))

def Mo_isOn (x1 : Int32) (h : zH) : Option (Int32) :=
  (Mo_isIn x1 0 ((h 2 3) - 1)).bind fun r =>
  if r = 0 then (
   some (-1))
  else (
   some ((zshr (h 7 42) x1) &&& 1))

def Mo_isClosed (x1 : Int32) (h : zH) : Option (Int32) :=
  (Mo_isIn x1 0 ((h 2 1) - 1)).bind fun r =>
  if r = 0 then (
   some (-1))
  else (
   some ((zshr (h 7 43) x1) &&& 1))

def Mo_dropped (x1 : Int32) (h : zH) : Option (Int32) :=
  if 0 ≤ x1 then (
   if (h 7 50) ≤ x1 then (
    some (-4))
   else (
    gd (zr (((51 + (h 7 50)) - 1) - x1) 67) (
     some (h 7 (((51 + (h 7 50)) - 1) - x1).toNatClampNeg))))
  else (
   some (-1))

def Mo_saves_L2 (k26 : zH → Option (zH)) : Nat → Int32 → zH → Option (zH)
  | 0, _, _ => none
  | n + 1, x1, h_1 =>
    if 67 ≤ x1 then (
     k26 h_1)
    else (
     gd (zr x1 67) (
      gd (zr x1 67) (zlet (upd2 h_1 9 x1.toNatClampNeg (h_1 7 x1.toNatClampNeg)) fun h_2 =>
       Mo_saves_L2 k26 n (x1 + 1) h_2)))
def Mo_saves (h : zH) : Option (zH) :=
  Mo_saves_L2 (fun h_3 =>
   some h_3) 1000 0 h

def Mo_restores_L2 (k26 : zH → Option (zH)) : Nat → Int32 → zH → Option (zH)
  | 0, _, _ => none
  | n + 1, x1, h_1 =>
    if 67 ≤ x1 then (
     k26 h_1)
    else (
     gd (zr x1 67) (
      gd (zr x1 67) (zlet (upd2 h_1 7 x1.toNatClampNeg (h_1 9 x1.toNatClampNeg)) fun h_2 =>
       Mo_restores_L2 k26 n (x1 + 1) h_2)))
def Mo_restores (h : zH) : Option (zH) :=
  Mo_restores_L2 (fun h_3 =>
   some h_3) 1000 0 h

def Mo_ahead_L45 (x1 : Int32) (x2 : Int32) (k85 : Int32 → zH → Option (Int32 × zH)) : Nat → Int32 → Int32 → zH → Option (Int32 × zH)
  | 0, _, _, _ => none
  | n + 1, x4, x5, h_3 =>
    if x1 ≤ x5 then (
     k85 x4 h_3)
    else (
     (Mo_ticks h_3).bind fun h_4 =>
     gd (zr x2 67) (
      if x4 ≤ (h_4 7 x2.toNatClampNeg) then (
       Mo_ahead_L45 x1 x2 k85 n x4 (x5 + 1) h_4)
      else (
       gd (zr x2 67) (
        zlet (h_4 7 x2.toNatClampNeg) fun x4_1 =>
        Mo_ahead_L45 x1 x2 k85 n x4_1 (x5 + 1) h_4))))
def Mo_ahead (x1 : Int32) (x2 : Int32) (x3 : Int32) (h : zH) : Option (Int32 × zH) :=
  (Mo_isIn x1 1 60).bind fun r =>
  if r = 0 then (
   some ((-1), h))
  else (
   (Mo_isBus x2 h).bind fun r_1 =>
   if r_1 = 0 then (
    some ((-1), h))
   else (
    (Mo_isIn x3 0 4).bind fun r_2 =>
    if r_2 = 0 then (
     some ((-1), h))
    else (
     (Mo_saves h).bind fun h_1 =>
     (Mo_fresh h_1).bind fun h_2 =>
     Mo_ahead_L45 x1 x2 (fun x4_2 h_5 =>
      gd (zr x2 67) (
       zlet (h_5 7 x2.toNatClampNeg) fun x5_1 =>
       (Mo_restores h_5).bind fun h_6 =>
       if x3 = 0 then (
        some (x5_1, h_6))
       else (
        if x3 = 1 then (
         some (x4_2, h_6))
        else (
         if x3 = 2 then (
          some ((h_6 0 13), h_6))
         else (
          if x3 = 3 then (
           some ((h_6 0 14), h_6))
          else (
           some ((h_6 0 15), h_6))))))) 1000 9999 0 h_2)))

def Mo_isBorne_L14 (x2 : Int32) (k46 : zH → Option (Int32 × zH)) : Nat → Int32 → zH → Option (Int32 × zH)
  | 0, _, _ => none
  | n + 1, x5, h_1 =>
    if (h_1 2 3) ≤ x5 then (
     k46 h_1)
    else (
     (Mo_has x2 x5).bind fun r_2 =>
     if r_2 = 0 then (
      Mo_isBorne_L14 x2 k46 n (x5 + 1) h_1)
     else (
      (Mo_drop x5 h_1).bind fun h_2 =>
      Mo_isBorne_L14 x2 k46 n (x5 + 1) h_2))
def Mo_isBorne_L56 (x1 : Int32) (x3 : Int32) (r_1 : Int32) (k103 : Int32 → zH → Option (Int32 × zH)) : Nat → Int32 → Int32 → zH → Option (Int32 × zH)
  | 0, _, _, _ => none
  | n_1 + 1, x5_1, x6, h_5 =>
    if x3 ≤ x6 then (
     k103 x5_1 h_5)
    else (
     if x5_1 = 0 then (
      k103 x5_1 h_5)
     else (
      (Mo_ticks h_5).bind fun h_6 =>
      gd (zr x1 67) (
       if (h_6 7 x1.toNatClampNeg) ≤ 0 then (
        Mo_isBorne_L56 x1 x3 r_1 k103 n_1 0 (x6 + 1) h_6)
       else (
        if ((h_6 0 16) &&& r_1) = 0 then (
         Mo_isBorne_L56 x1 x3 r_1 k103 n_1 1 (x6 + 1) h_6)
        else (
         Mo_isBorne_L56 x1 x3 r_1 k103 n_1 0 (x6 + 1) h_6)))))
def Mo_isBorne (x1 : Int32) (x2 : Int32) (x3 : Int32) (h : zH) : Option (Int32 × zH) :=
  (Mo_busesOf x1 h).bind fun r =>
  (Mo_feedersOf r h).bind fun r_1 =>
  Mo_isBorne_L14 x2 (fun h_3 =>
   (Mo_fresh h_3).bind fun h_4 =>
   Mo_isBorne_L56 x1 x3 r_1 (fun x5_2 h_7 =>
    gd (zb x5_2) (some (x5_2, h_7))) 1000 1 0 h_4) 1000 0 h

def Mo_loadOf_L4 (x1 : Int32) (h : zH) (k45 : Int32 → Option (Int32)) : Nat → Int32 → Int32 → Option (Int32)
  | 0, _, _ => none
  | n + 1, x2, x3 =>
    if (h 2 3) ≤ x3 then (
     k45 x2)
    else (
     (Mo_has x1 x3).bind fun r =>
     if r = 0 then (
      zlet (x2 + 0) fun x2_1 =>
      Mo_loadOf_L4 x1 h k45 n x2_1 (x3 + 1))
     else (
      gd (zr ((3 * x3) + 1) 54) (
       zlet (x2 + (h 5 ((3 * x3) + 1).toNatClampNeg)) fun x2_2 =>
       Mo_loadOf_L4 x1 h k45 n x2_2 (x3 + 1))))
def Mo_loadOf (x1 : Int32) (h : zH) : Option (Int32) :=
  Mo_loadOf_L4 x1 h (fun x2_3 =>
   some x2_3) 1000 0 0

def Mo_least_L73 (x2 : Int32) (r_4 : Int32) (x5 : Int32) (k207 : Int32 → zH → Option (Int32 × zH)) : Nat → Int32 → Int32 → zH → Option (Int32 × zH)
  | 0, _, _, _ => none
  | n + 1, x6, x7, h_2 =>
    if x5 < x7 then (
     k207 x6 h_2)
    else (
     gd (zr r_4 67) (
      if (h_2 9 r_4.toNatClampNeg) ≤ 0 then (
       k207 x6 h_2)
      else (
       zlet (fun (v105 : Int32) =>
         (Mo_loadOf x7 h_2).bind fun r_7 =>
         zlet (fun (v169 : Int32) =>
           if v169 = 0 then (
            Mo_least_L73 x2 r_4 x5 k207 n x6 (x7 + 1) h_2)
           else (
            (Mo_isBorne r_4 x7 x2 h_2).bind fun r_8 =>
            zlet (fun (v195 : Int32) =>
              (Mo_restores r_8.2).bind fun h_3 =>
              Mo_least_L73 x2 r_4 x5 k207 n v195 (x7 + 1) h_3) fun j195 =>
            if r_8.1 = 0 then (
             j195 x6)
            else (
             j195 x7))) fun j169 =>
         if v105 = 0 then (
          j169 0)
         else (
          if x6 = (-4) then (
           j169 1)
          else (
           (Mo_loadOf x6 h_2).bind fun r_9 =>
           if r_7 < r_9 then (
            j169 1)
           else (
            (Mo_loadOf x6 h_2).bind fun r_10 =>
            if r_7 = r_10 then (
             (Mo_bits x7).bind fun r_11 =>
             (Mo_bits x6).bind fun r_12 =>
             if r_12 ≤ r_11 then (
              j169 0)
             else (
              j169 1))
            else (
             j169 0))))) fun j105 =>
       if (x7 &&& (x5 ^^^ (-1))) = 0 then (
        j105 1)
       else (
        j105 0))))
def Mo_least (x1 : Int32) (x2 : Int32) (x3 : Int32) (h : zH) : Option (Int32 × zH) :=
  (Mo_islands h).bind fun r =>
  (Mo_isIn x1 0 (r - 1)).bind fun r_1 =>
  if r_1 = 0 then (
   some ((-1), h))
  else (
   (Mo_isIn x2 1 30).bind fun r_2 =>
   if r_2 = 0 then (
    some ((-1), h))
   else (
    (Mo_isIn x3 0 1).bind fun r_3 =>
    if r_3 = 0 then (
     some ((-1), h))
    else (
     (Mo_busOf x1 h).bind fun r_4 =>
     (Mo_busesOf r_4 h).bind fun r_5 =>
     (Mo_feedersOf r_5 h).bind fun r_6 =>
     zlet (r_6 &&& (h 7 42)) fun x5 =>
     (Mo_saves h).bind fun h_1 =>
     Mo_least_L73 x2 r_4 x5 (fun x6_1 h_4 =>
      if x6_1 = (-4) then (
       some (x6_1, h_4))
      else (
       if x3 = 0 then (
        some (x6_1, h_4))
       else (
        (Mo_loadOf x6_1 h_4).bind fun r_13 =>
        some (r_13, h_4)))) 1000 (-4) 0 h_1)))

def Mo_dark_L31 (x1 : Int32) (k69 : Int32 → zH → Option (Int32 × zH)) : Nat → Int32 → Int32 → zH → Option (Int32 × zH)
  | 0, _, _, _ => none
  | n + 1, x2, x3, h_2 =>
    if 60 < x3 then (
     k69 x2 h_2)
    else (
     if x2 = (-4) then (
      (Mo_ticks h_2).bind fun h_3 =>
      gd (zr x1 67) (
       if (h_3 7 x1.toNatClampNeg) = 0 then (
        Mo_dark_L31 x1 k69 n x3 (x3 + 1) h_3)
       else (
        Mo_dark_L31 x1 k69 n (-4) (x3 + 1) h_3)))
     else (
      k69 x2 h_2))
def Mo_dark (x1 : Int32) (h : zH) : Option (Int32 × zH) :=
  (Mo_isBus x1 h).bind fun r =>
  if r = 0 then (
   some ((-1), h))
  else (
   gd (zr x1 67) (
    if (h 7 x1.toNatClampNeg) = 0 then (
     some ((-2), h))
    else (
     (Mo_saves h).bind fun h_1 =>
     Mo_dark_L31 x1 (fun x2_1 h_4 =>
      (Mo_restores h_4).bind fun h_5 =>
      some (x2_1, h_5)) 1000 (-4) 1 h_1)))

def Mo_count_L4 (h : zH) (k45 : Int32 → Option (Int32)) : Nat → Int32 → Int32 → Option (Int32)
  | 0, _, _ => none
  | n + 1, x2, x3 =>
    if (h 2 0) ≤ x3 then (
     k45 x2)
    else (
     (Mo_isLowest x3 h).bind fun r =>
     if r = 0 then (
      zlet (x2 + 0) fun x2_1 =>
      Mo_count_L4 h k45 n x2_1 (x3 + 1))
     else (
      gd (zr x3 67) (
       if (h 7 x3.toNatClampNeg) = 0 then (
        zlet (x2 + 1) fun x2_3 =>
        Mo_count_L4 h k45 n x2_3 (x3 + 1))
       else (
        zlet (x2 + 0) fun x2_2 =>
        Mo_count_L4 h k45 n x2_2 (x3 + 1)))))
def Mo_count (x1 : Int32) (h : zH) : Option (Int32) :=
  Mo_count_L4 h (fun x2_4 =>
   if x1 = 0 then (
    some (h 2 0))
   else if x1 = 1 then (
    some (h 2 1))
   else if x1 = 2 then (
    some (h 2 2))
   else if x1 = 3 then (
    some (h 2 3))
   else if x1 = 4 then (
    some (h 2 4))
   else if x1 = 5 then (
    (Mo_islands h).bind fun r_1 =>
    some r_1)
   else if x1 = 6 then (
    some x2_4)
   else if x1 = 7 then (
    some (h 7 66))
   else if x1 = 8 then (
    (Mo_bits (h 7 42)).bind fun r_2 =>
    some r_2)
   else if x1 = 9 then (
    (Mo_load 63 h).bind fun r_3 =>
    some r_3)
   else if x1 = 10 then (
    some (h 0 10))
   else if x1 = 11 then (
    some (h 0 0))
   else (
    some (-1))) 1000 0 0
end
section
theorem pX0_19 : zFp RX0 19 0 2 := ⟨RX0, TX0, 5, rfl, by decide, (zmem 265 (by decide +kernel) (by decide +kernel)), u_inX0, by decide +kernel, by decide +kernel, ⟨tyX0, tyX0_ok⟩, nmX0⟩
theorem pX0_23 : zFp RX0 23 0 3 := ⟨RX0, TX0, 5, rfl, by decide, (zmem 267 (by decide +kernel) (by decide +kernel)), u_inX0, by decide +kernel, by decide +kernel, ⟨tyX0, tyX0_ok⟩, nmX0⟩
theorem pX0_26 : zFp RX0 26 0 4 := ⟨RX0, TX0, 5, rfl, by decide, (zmem 269 (by decide +kernel) (by decide +kernel)), u_inX0, by decide +kernel, by decide +kernel, ⟨tyX0, tyX0_ok⟩, nmX0⟩
theorem iX0_forget_15 : zI cX0_forget 15 (.return_) 1 16 := ⟨by decide +kernel, rfl⟩
theorem iX0_forget_12 : zI cX0_forget 12 (.putfield 26) 3 15 := ⟨by decide +kernel, rfl⟩
theorem iX0_forget_11 : zI cX0_forget 11 (.iconst 0) 1 12 := ⟨by decide +kernel, rfl⟩
theorem iX0_forget_10 : zI cX0_forget 10 (.aload_n 0) 1 11 := ⟨by decide +kernel, rfl⟩
theorem iX0_forget_7 : zI cX0_forget 7 (.putfield 23) 3 10 := ⟨by decide +kernel, rfl⟩
theorem iX0_forget_6 : zI cX0_forget 6 (.iconst 0) 1 7 := ⟨by decide +kernel, rfl⟩
theorem iX0_forget_5 : zI cX0_forget 5 (.aload_n 0) 1 6 := ⟨by decide +kernel, rfl⟩
theorem iX0_forget_2 : zI cX0_forget 2 (.putfield 19) 3 5 := ⟨by decide +kernel, rfl⟩
theorem iX0_forget_1 : zI cX0_forget 1 (.iconst 0) 1 2 := ⟨by decide +kernel, rfl⟩
theorem iX0_forget_0 : zI cX0_forget 0 (.aload_n 0) 1 1 := ⟨by decide +kernel, rfl⟩
set_option maxHeartbeats 4000000 in
set_option maxRecDepth 100000 in
theorem m_Co_forget (c g : Nat) (hc : isC c g) (hg : isG g) (h : zH) : zM yX0_forget cX0_forget 1 none 0 shX (fun ad => [.ref (ad c)]) h eV (Co_forget c g h) := by
  refine zM.of (by decide) (fun _ => rfl) (fun _ => Nat.le_of_ble_eq_true rfl) (fun X ad hnL C => ?_)
  show zG X ad shX eV 0 [some (.ref (ad c))] [] h _
  unfold Co_forget
  refine g_aload_n C iX0_forget_0 rfl ?_
  refine g_iconst C 0 iX0_forget_1 (by decide) ?_
  refine g_putI C pX0_19 iX0_forget_2 hc rfl (fun h_1 => ?_)
  refine g_aload_n C iX0_forget_5 rfl ?_
  refine g_iconst C 0 iX0_forget_6 (by decide) ?_
  refine g_putI C pX0_23 iX0_forget_7 hc rfl (fun h_2 => ?_)
  refine g_aload_n C iX0_forget_10 rfl ?_
  refine g_iconst C 0 iX0_forget_11 (by decide) ?_
  refine g_putI C pX0_26 iX0_forget_12 hc rfl (fun h_3 => ?_)
  exact g_vret C iX0_forget_15 rfl

theorem fX1_18 : zFl RX1 18 1 4 := ⟨RX1, TX1, 12, rfl, by decide, (zmem 209 (by decide +kernel) (by decide +kernel)), u_inX1⟩
theorem iX1_isDark_6 : zI cX1_isDark 6 (.ifCond .ne 7) 3 9 := ⟨by decide +kernel, rfl⟩
theorem iX1_isDark_14 : zI cX1_isDark 14 (.ireturn) 1 15 := ⟨by decide +kernel, rfl⟩
theorem iX1_isDark_13 : zI cX1_isDark 13 (.iconst 0) 1 14 := ⟨by decide +kernel, rfl⟩
theorem iX1_isDark_10 : zI cX1_isDark 10 (.goto 4) 3 13 := ⟨by decide +kernel, rfl⟩
theorem iX1_isDark_9 : zI cX1_isDark 9 (.iconst 1) 1 10 := ⟨by decide +kernel, rfl⟩
theorem iX1_isDark_5 : zI cX1_isDark 5 (.iaload) 1 6 := ⟨by decide +kernel, rfl⟩
theorem iX1_isDark_4 : zI cX1_isDark 4 (.iload_n 1) 1 5 := ⟨by decide +kernel, rfl⟩
theorem iX1_isDark_1 : zI cX1_isDark 1 (.getfield 18) 3 4 := ⟨by decide +kernel, rfl⟩
theorem iX1_isDark_0 : zI cX1_isDark 0 (.aload_n 0) 1 1 := ⟨by decide +kernel, rfl⟩
set_option maxHeartbeats 4000000 in
set_option maxRecDepth 100000 in
theorem m_Gr_isDark (g : Nat) (hg : isG g) (x1 : Int32) (h : zH) : zM yX1_isDark cX1_isDark 2 (some .boolean) 0 shX (fun ad => [.ref (ad g), .int x1]) h (eP h) (Gr_isDark g x1 h) := by
  refine zM.of (by decide) (fun _ => rfl) (fun _ => Nat.le_of_ble_eq_true rfl) (fun X ad hnL C => ?_)
  show zG X ad shX (eP h) 0 [some (.ref (ad g)), some (.int x1)] [] h _
  unfold Gr_isDark
  refine g_aload_n C iX1_isDark_0 rfl ?_
  refine g_getR (b := (g + 3)) C fX1_18 iX1_isDark_1 hg.1 rfl ?_
  refine g_iload_n C iX1_isDark_4 rfl ?_
  refine g_iaload C iX1_isDark_5 hg.2.2.2.1 ?_
  refine g_if_ne C 13 iX1_isDark_6 (by decide) (fun c6 => ?_) (fun c6 => ?_)
  · refine g_iconst C 1 iX1_isDark_9 (by decide) ?_
    refine g_goto C 14 iX1_isDark_10 (by decide) ?_
    exact g_zret C iX1_isDark_14 rfl rfl
  · refine g_iconst C 0 iX1_isDark_13 (by decide) ?_
    exact g_zret C iX1_isDark_14 rfl rfl

theorem iX6_has_6 : zI cX6_has 6 (.if_icmp .ne 7) 3 9 := ⟨by decide +kernel, rfl⟩
theorem iX6_has_14 : zI cX6_has 14 (.ireturn) 1 15 := ⟨by decide +kernel, rfl⟩
theorem iX6_has_13 : zI cX6_has 13 (.iconst 0) 1 14 := ⟨by decide +kernel, rfl⟩
theorem iX6_has_10 : zI cX6_has 10 (.goto 4) 3 13 := ⟨by decide +kernel, rfl⟩
theorem iX6_has_9 : zI cX6_has 9 (.iconst 1) 1 10 := ⟨by decide +kernel, rfl⟩
theorem iX6_has_5 : zI cX6_has 5 (.iconst 1) 1 6 := ⟨by decide +kernel, rfl⟩
theorem iX6_has_4 : zI cX6_has 4 (.iand) 1 5 := ⟨by decide +kernel, rfl⟩
theorem iX6_has_3 : zI cX6_has 3 (.iconst 1) 1 4 := ⟨by decide +kernel, rfl⟩
theorem iX6_has_2 : zI cX6_has 2 (.ishr) 1 3 := ⟨by decide +kernel, rfl⟩
theorem iX6_has_1 : zI cX6_has 1 (.iload_n 1) 1 2 := ⟨by decide +kernel, rfl⟩
theorem iX6_has_0 : zI cX6_has 0 (.iload_n 0) 1 1 := ⟨by decide +kernel, rfl⟩
set_option maxHeartbeats 4000000 in
set_option maxRecDepth 100000 in
theorem m_SS_has (x0 : Int32) (x1 : Int32) (h : zH) : zM yX6_has cX6_has 2 (some .boolean) 0 shX (fun ad => [.int x0, .int x1]) h (eP h) (SS_has x0 x1) := by
  refine zM.of (by decide) (fun _ => rfl) (fun _ => Nat.le_of_ble_eq_true rfl) (fun X ad hnL C => ?_)
  show zG X ad shX (eP h) 0 [some (.int x0), some (.int x1)] [] h _
  unfold SS_has
  refine g_iload_n C iX6_has_0 rfl ?_
  refine g_iload_n C iX6_has_1 rfl ?_
  refine g_ishr C iX6_has_2 ?_
  refine g_iconst C 1 iX6_has_3 (by decide) ?_
  refine g_iand C iX6_has_4 ?_
  refine g_iconst C 1 iX6_has_5 (by decide) ?_
  refine g_icmp_ne C 13 iX6_has_6 (by decide) (fun c6 => ?_) (fun c6 => ?_)
  · refine g_iconst C 1 iX6_has_9 (by decide) ?_
    refine g_goto C 14 iX6_has_10 (by decide) ?_
    exact g_zret C iX6_has_14 rfl rfl
  · refine g_iconst C 0 iX6_has_13 (by decide) ?_
    exact g_zret C iX6_has_14 rfl rfl

theorem fX1_33 : zFl RX1 33 1 0 := ⟨RX1, TX1, 12, rfl, by decide, (zmem 202 (by decide +kernel) (by decide +kernel)), u_inX1⟩
theorem fX1_61 : zFl RX1 61 4 3 := ⟨RX4, TX4, 16, rfl, by decide, (zmem 131 (by decide +kernel) (by decide +kernel)), u_inX4⟩
theorem iX1_feederBits_14 : zI cX1_feederBits 14 (.if_icmp .ge 48) 3 17 := ⟨by decide +kernel, rfl⟩
theorem fX1_47 : zFl RX1 47 1 7 := ⟨RX1, TX1, 12, rfl, by decide, (zmem 218 (by decide +kernel) (by decide +kernel)), u_inX1⟩
set_option maxRecDepth 100000 in
theorem wX1_102 : zCn RX1 102 yX6_has cX6_has 2 (some .boolean) 2 := ⟨by decide +kernel, (zmem 63 (by decide +kernel) (by decide +kernel)), (zmem 426 rfl rfl), ⟨by decide, by decide, by decide +kernel⟩, by decide, (zmem 425 (by decide +kernel) (by decide +kernel))⟩
theorem iX1_feederBits_23 : zI cX1_feederBits 23 (.invokestatic 102) 3 26 := ⟨by decide +kernel, rfl⟩
theorem iX1_feederBits_27 : zI cX1_feederBits 27 (.if_icmp .ne 29) 3 30 := ⟨by decide +kernel, rfl⟩
theorem iX1_feederBits_59 : zI cX1_feederBits 59 (.goto (-54)) 3 62 := ⟨by decide +kernel, rfl⟩
theorem iX1_feederBits_56 : zI cX1_feederBits 56 (.iinc 4 1) 3 59 := ⟨by decide +kernel, rfl⟩
theorem fX1_9 : zFl RX1 9 1 2 := ⟨RX1, TX1, 12, rfl, by decide, (zmem 205 (by decide +kernel) (by decide +kernel)), u_inX1⟩
theorem fX1_116 : zFl RX1 116 4 11 := ⟨RX4, TX4, 16, rfl, by decide, (zmem 154 (by decide +kernel) (by decide +kernel)), u_inX4⟩
theorem iX1_feederBits_46 : zI cX1_feederBits 46 (.if_icmp .ne 10) 3 49 := ⟨by decide +kernel, rfl⟩
theorem iX1_feederBits_55 : zI cX1_feederBits 55 (.istore_n 3) 1 56 := ⟨by decide +kernel, rfl⟩
theorem iX1_feederBits_54 : zI cX1_feederBits 54 (.ior) 1 55 := ⟨by decide +kernel, rfl⟩
theorem iX1_feederBits_53 : zI cX1_feederBits 53 (.ishl) 1 54 := ⟨by decide +kernel, rfl⟩
theorem iX1_feederBits_51 : zI cX1_feederBits 51 (.iload 4) 2 53 := ⟨by decide +kernel, rfl⟩
theorem iX1_feederBits_50 : zI cX1_feederBits 50 (.iconst 1) 1 51 := ⟨by decide +kernel, rfl⟩
theorem iX1_feederBits_49 : zI cX1_feederBits 49 (.iload_n 3) 1 50 := ⟨by decide +kernel, rfl⟩
theorem iX1_feederBits_45 : zI cX1_feederBits 45 (.iload_n 1) 1 46 := ⟨by decide +kernel, rfl⟩
theorem iX1_feederBits_44 : zI cX1_feederBits 44 (.iaload) 1 45 := ⟨by decide +kernel, rfl⟩
theorem iX1_feederBits_43 : zI cX1_feederBits 43 (.iaload) 1 44 := ⟨by decide +kernel, rfl⟩
theorem iX1_feederBits_41 : zI cX1_feederBits 41 (.iload 4) 2 43 := ⟨by decide +kernel, rfl⟩
theorem iX1_feederBits_38 : zI cX1_feederBits 38 (.getfield 116) 3 41 := ⟨by decide +kernel, rfl⟩
theorem iX1_feederBits_35 : zI cX1_feederBits 35 (.getfield 33) 3 38 := ⟨by decide +kernel, rfl⟩
theorem iX1_feederBits_34 : zI cX1_feederBits 34 (.aload_n 0) 1 35 := ⟨by decide +kernel, rfl⟩
theorem iX1_feederBits_31 : zI cX1_feederBits 31 (.getfield 9) 3 34 := ⟨by decide +kernel, rfl⟩
theorem iX1_feederBits_30 : zI cX1_feederBits 30 (.aload_n 0) 1 31 := ⟨by decide +kernel, rfl⟩
theorem iX1_feederBits_26 : zI cX1_feederBits 26 (.iload_n 2) 1 27 := ⟨by decide +kernel, rfl⟩
theorem iX1_feederBits_21 : zI cX1_feederBits 21 (.iload 4) 2 23 := ⟨by decide +kernel, rfl⟩
theorem iX1_feederBits_18 : zI cX1_feederBits 18 (.getfield 47) 3 21 := ⟨by decide +kernel, rfl⟩
theorem iX1_feederBits_17 : zI cX1_feederBits 17 (.aload_n 0) 1 18 := ⟨by decide +kernel, rfl⟩
theorem iX1_feederBits_11 : zI cX1_feederBits 11 (.getfield 61) 3 14 := ⟨by decide +kernel, rfl⟩
theorem iX1_feederBits_8 : zI cX1_feederBits 8 (.getfield 33) 3 11 := ⟨by decide +kernel, rfl⟩
theorem iX1_feederBits_7 : zI cX1_feederBits 7 (.aload_n 0) 1 8 := ⟨by decide +kernel, rfl⟩
theorem iX1_feederBits_5 : zI cX1_feederBits 5 (.iload 4) 2 7 := ⟨by decide +kernel, rfl⟩
theorem iX1_feederBits_63 : zI cX1_feederBits 63 (.ireturn) 1 64 := ⟨by decide +kernel, rfl⟩
theorem iX1_feederBits_62 : zI cX1_feederBits 62 (.iload_n 3) 1 63 := ⟨by decide +kernel, rfl⟩
theorem iX1_feederBits_3 : zI cX1_feederBits 3 (.istore 4) 2 5 := ⟨by decide +kernel, rfl⟩
theorem iX1_feederBits_2 : zI cX1_feederBits 2 (.iconst 0) 1 3 := ⟨by decide +kernel, rfl⟩
theorem iX1_feederBits_1 : zI cX1_feederBits 1 (.istore_n 3) 1 2 := ⟨by decide +kernel, rfl⟩
theorem iX1_feederBits_0 : zI cX1_feederBits 0 (.iconst 0) 1 1 := ⟨by decide +kernel, rfl⟩
set_option maxHeartbeats 4000000 in
set_option maxRecDepth 100000 in
theorem m_Gr_feederBits (g : Nat) (hg : isG g) (x1 : Int32) (x2 : Int32) (h : zH) : zM yX1_feederBits cX1_feederBits 5 (some .int) 1 shX (fun ad => [.ref (ad g), .int x1, .int x2]) h (eP h) (Gr_feederBits g x1 x2 h) := by
  refine zM.of (by decide) (fun _ => rfl) (fun _ => Nat.le_of_ble_eq_true rfl) (fun X ad hnL C => ?_)
  show zG X ad shX (eP h) 0 [some (.ref (ad g)), some (.int x1), some (.int x2), none, none] [] h _
  unfold Gr_feederBits
  refine g_iconst C 0 iX1_feederBits_0 (by decide) ?_
  refine g_istore_n (lv' := [some (.ref (ad g)), some (.int x1), some (.int x2), some (.int 0), none]) C hnL iX1_feederBits_1 (by decide) rfl ?_
  refine g_iconst C 0 iX1_feederBits_2 (by decide) ?_
  refine g_istore (lv' := [some (.ref (ad g)), some (.int x1), some (.int x2), some (.int 0), some (.int 0)]) C hnL iX1_feederBits_3 (by decide) rfl ?_
  have L5 : ∀ (k62 : Int32 → Option (Int32)), (∀ (y3 : Int32), zG X ad shX (eP h) 62 [none, none, none, some (.int y3), none] [] h (k62 y3)) → ∀ (n : Nat) (x3 x4 : Int32), zG X ad shX (eP h) 5 [some (.ref (ad g)), some (.int x1), some (.int x2), some (.int x3), some (.int x4)] [] h (Gr_feederBits_L5 g x1 x2 h k62 n x3 x4) := by
    intro k62 hk62 n
    induction n with
    | zero =>
      intro x3 x4
      exact g_none
    | succ n ih5 =>
      intro x3 x4
      rw [Gr_feederBits_L5]
      refine g_iload C iX1_feederBits_5 rfl ?_
      refine g_aload_n C iX1_feederBits_7 rfl ?_
      refine g_getR (b := 17) C fX1_33 iX1_feederBits_8 hg.1 rfl ?_
      refine g_getI C fX1_61 iX1_feederBits_11 isP17.1 rfl ?_
      refine g_icmp_ge C 62 iX1_feederBits_14 (by decide) (fun c14 => ?_) (fun c14 => ?_)
      · refine g_sub (lv' := [none, none, none, some (.int x3), none]) ⟨rfl, trivial⟩ ?_
        exact hk62 _
      · refine g_aload_n C iX1_feederBits_17 rfl ?_
        refine g_getI C fX1_47 iX1_feederBits_18 hg.1 rfl ?_
        refine g_iload C iX1_feederBits_21 rfl ?_
        refine g_callN C wX1_102 iX1_feederBits_23 (m_SS_has (h g 7) x4 h) (by decide) rfl rfl rfl (Nat.le_of_ble_eq_true rfl) (fun r => ?_)
        show zG X ad shX (eP h) 26 [some (.ref (ad g)), some (.int x1), some (.int x2), some (.int x3), some (.int x4)] [.int r] h _
        refine g_iload_n C iX1_feederBits_26 rfl ?_
        refine g_icmp_ne C 56 iX1_feederBits_27 (by decide) (fun c27 => ?_) (fun c27 => ?_)
        · refine g_aload_n C iX1_feederBits_30 rfl ?_
          refine g_getR (b := (g + 1)) C fX1_9 iX1_feederBits_31 hg.1 rfl ?_
          refine g_aload_n C iX1_feederBits_34 rfl ?_
          refine g_getR (b := 17) C fX1_33 iX1_feederBits_35 hg.1 rfl ?_
          refine g_getR (b := 24) C fX1_116 iX1_feederBits_38 isP17.1 rfl ?_
          refine g_iload C iX1_feederBits_41 rfl ?_
          refine g_iaload C iX1_feederBits_43 isP17.2.2.2.2.2.2.2.1 ?_
          refine g_iaload C iX1_feederBits_44 hg.2.1 ?_
          refine g_iload_n C iX1_feederBits_45 rfl ?_
          refine g_icmp_ne C 56 iX1_feederBits_46 (by decide) (fun c46 => ?_) (fun c46 => ?_)
          · refine g_iload_n C iX1_feederBits_49 rfl ?_
            refine g_iconst C 1 iX1_feederBits_50 (by decide) ?_
            refine g_iload C iX1_feederBits_51 rfl ?_
            refine g_ishl C iX1_feederBits_53 ?_
            refine g_ior C iX1_feederBits_54 ?_
            refine g_top (fun x3_1 => ?_)
            refine g_istore_n (lv' := [some (.ref (ad g)), some (.int x1), some (.int x2), some (.int x3_1), some (.int x4)]) C hnL iX1_feederBits_55 (by decide) rfl ?_
            refine g_iinc (v := (x4 + 1)) (lv' := [some (.ref (ad g)), some (.int x1), some (.int x2), some (.int x3_1), some (.int (x4 + 1))]) C hnL iX1_feederBits_56 (by decide) rfl rfl rfl ?_
            refine g_goto C 5 iX1_feederBits_59 (by decide) ?_
            exact ih5 _ _
          · refine g_iinc (v := (x4 + 1)) (lv' := [some (.ref (ad g)), some (.int x1), some (.int x2), some (.int x3), some (.int (x4 + 1))]) C hnL iX1_feederBits_56 (by decide) rfl rfl rfl ?_
            refine g_goto C 5 iX1_feederBits_59 (by decide) ?_
            exact ih5 _ _
        · refine g_iinc (v := (x4 + 1)) (lv' := [some (.ref (ad g)), some (.int x1), some (.int x2), some (.int x3), some (.int (x4 + 1))]) C hnL iX1_feederBits_56 (by decide) rfl rfl rfl ?_
          refine g_goto C 5 iX1_feederBits_59 (by decide) ?_
          exact ih5 _ _
  refine L5 _ (fun x3_2 => ?_) 1000 _ _
  show zG X ad shX (eP h) 62 [none, none, none, some (.int x3_2), none] [] h _
  refine g_iload_n C iX1_feederBits_62 rfl ?_
  exact g_iret C iX1_feederBits_63 rfl

theorem fX4_55 : zFl RX4 55 4 3 := ⟨RX4, TX4, 16, rfl, by decide, (zmem 130 (by decide +kernel) (by decide +kernel)), u_inX4⟩
theorem iX4_loadOfSet_9 : zI cX4_loadOfSet 9 (.if_icmp .ge 26) 3 12 := ⟨by decide +kernel, rfl⟩
set_option maxRecDepth 100000 in
theorem wX4_76 : zCn RX4 76 yX6_has cX6_has 2 (some .boolean) 2 := ⟨by decide +kernel, (zmem 63 (by decide +kernel) (by decide +kernel)), (zmem 426 rfl rfl), ⟨by decide, by decide, by decide +kernel⟩, by decide, (zmem 425 (by decide +kernel) (by decide +kernel))⟩
theorem iX4_loadOfSet_14 : zI cX4_loadOfSet 14 (.invokestatic 76) 3 17 := ⟨by decide +kernel, rfl⟩
theorem iX4_loadOfSet_17 : zI cX4_loadOfSet 17 (.ifCond .eq 12) 3 20 := ⟨by decide +kernel, rfl⟩
theorem iX4_loadOfSet_32 : zI cX4_loadOfSet 32 (.goto (-28)) 3 35 := ⟨by decide +kernel, rfl⟩
theorem iX4_loadOfSet_29 : zI cX4_loadOfSet 29 (.iinc 3 1) 3 32 := ⟨by decide +kernel, rfl⟩
theorem fX4_33 : zFl RX4 33 4 12 := ⟨RX4, TX4, 16, rfl, by decide, (zmem 155 (by decide +kernel) (by decide +kernel)), u_inX4⟩
theorem iX4_loadOfSet_28 : zI cX4_loadOfSet 28 (.istore_n 2) 1 29 := ⟨by decide +kernel, rfl⟩
theorem iX4_loadOfSet_27 : zI cX4_loadOfSet 27 (.iadd) 1 28 := ⟨by decide +kernel, rfl⟩
theorem iX4_loadOfSet_26 : zI cX4_loadOfSet 26 (.iaload) 1 27 := ⟨by decide +kernel, rfl⟩
theorem iX4_loadOfSet_25 : zI cX4_loadOfSet 25 (.iload_n 3) 1 26 := ⟨by decide +kernel, rfl⟩
theorem iX4_loadOfSet_22 : zI cX4_loadOfSet 22 (.getfield 33) 3 25 := ⟨by decide +kernel, rfl⟩
theorem iX4_loadOfSet_21 : zI cX4_loadOfSet 21 (.aload_n 0) 1 22 := ⟨by decide +kernel, rfl⟩
theorem iX4_loadOfSet_20 : zI cX4_loadOfSet 20 (.iload_n 2) 1 21 := ⟨by decide +kernel, rfl⟩
theorem iX4_loadOfSet_13 : zI cX4_loadOfSet 13 (.iload_n 3) 1 14 := ⟨by decide +kernel, rfl⟩
theorem iX4_loadOfSet_12 : zI cX4_loadOfSet 12 (.iload_n 1) 1 13 := ⟨by decide +kernel, rfl⟩
theorem iX4_loadOfSet_6 : zI cX4_loadOfSet 6 (.getfield 55) 3 9 := ⟨by decide +kernel, rfl⟩
theorem iX4_loadOfSet_5 : zI cX4_loadOfSet 5 (.aload_n 0) 1 6 := ⟨by decide +kernel, rfl⟩
theorem iX4_loadOfSet_4 : zI cX4_loadOfSet 4 (.iload_n 3) 1 5 := ⟨by decide +kernel, rfl⟩
theorem iX4_loadOfSet_36 : zI cX4_loadOfSet 36 (.ireturn) 1 37 := ⟨by decide +kernel, rfl⟩
theorem iX4_loadOfSet_35 : zI cX4_loadOfSet 35 (.iload_n 2) 1 36 := ⟨by decide +kernel, rfl⟩
theorem iX4_loadOfSet_3 : zI cX4_loadOfSet 3 (.istore_n 3) 1 4 := ⟨by decide +kernel, rfl⟩
theorem iX4_loadOfSet_2 : zI cX4_loadOfSet 2 (.iconst 0) 1 3 := ⟨by decide +kernel, rfl⟩
theorem iX4_loadOfSet_1 : zI cX4_loadOfSet 1 (.istore_n 2) 1 2 := ⟨by decide +kernel, rfl⟩
theorem iX4_loadOfSet_0 : zI cX4_loadOfSet 0 (.iconst 0) 1 1 := ⟨by decide +kernel, rfl⟩
set_option maxHeartbeats 4000000 in
set_option maxRecDepth 100000 in
theorem m_Pl_loadOfSet (p : Nat) (hp : isP p) (x1 : Int32) (h : zH) : zM yX4_loadOfSet cX4_loadOfSet 4 (some .int) 1 shX (fun ad => [.ref (ad p), .int x1]) h (eP h) (Pl_loadOfSet p x1 h) := by
  refine zM.of (by decide) (fun _ => rfl) (fun _ => Nat.le_of_ble_eq_true rfl) (fun X ad hnL C => ?_)
  show zG X ad shX (eP h) 0 [some (.ref (ad p)), some (.int x1), none, none] [] h _
  unfold Pl_loadOfSet
  refine g_iconst C 0 iX4_loadOfSet_0 (by decide) ?_
  refine g_istore_n (lv' := [some (.ref (ad p)), some (.int x1), some (.int 0), none]) C hnL iX4_loadOfSet_1 (by decide) rfl ?_
  refine g_iconst C 0 iX4_loadOfSet_2 (by decide) ?_
  refine g_istore_n (lv' := [some (.ref (ad p)), some (.int x1), some (.int 0), some (.int 0)]) C hnL iX4_loadOfSet_3 (by decide) rfl ?_
  have L4 : ∀ (k35 : Int32 → Option (Int32)), (∀ (y2 : Int32), zG X ad shX (eP h) 35 [none, none, some (.int y2), none] [] h (k35 y2)) → ∀ (n : Nat) (x2 x3 : Int32), zG X ad shX (eP h) 4 [some (.ref (ad p)), some (.int x1), some (.int x2), some (.int x3)] [] h (Pl_loadOfSet_L4 p x1 h k35 n x2 x3) := by
    intro k35 hk35 n
    induction n with
    | zero =>
      intro x2 x3
      exact g_none
    | succ n ih4 =>
      intro x2 x3
      rw [Pl_loadOfSet_L4]
      refine g_iload_n C iX4_loadOfSet_4 rfl ?_
      refine g_aload_n C iX4_loadOfSet_5 rfl ?_
      refine g_getI C fX4_55 iX4_loadOfSet_6 hp.1 rfl ?_
      refine g_icmp_ge C 35 iX4_loadOfSet_9 (by decide) (fun c9 => ?_) (fun c9 => ?_)
      · refine g_sub (lv' := [none, none, some (.int x2), none]) ⟨rfl, trivial⟩ ?_
        exact hk35 _
      · refine g_iload_n C iX4_loadOfSet_12 rfl ?_
        refine g_iload_n C iX4_loadOfSet_13 rfl ?_
        refine g_callN C wX4_76 iX4_loadOfSet_14 (m_SS_has x1 x3 h) (by decide) rfl rfl rfl (Nat.le_of_ble_eq_true rfl) (fun r => ?_)
        show zG X ad shX (eP h) 17 [some (.ref (ad p)), some (.int x1), some (.int x2), some (.int x3)] [.int r] h _
        refine g_if_eq C 29 iX4_loadOfSet_17 (by decide) (fun c17 => ?_) (fun c17 => ?_)
        · refine g_iinc (v := (x3 + 1)) (lv' := [some (.ref (ad p)), some (.int x1), some (.int x2), some (.int (x3 + 1))]) C hnL iX4_loadOfSet_29 (by decide) rfl rfl rfl ?_
          refine g_goto C 4 iX4_loadOfSet_32 (by decide) ?_
          exact ih4 _ _
        · refine g_iload_n C iX4_loadOfSet_20 rfl ?_
          refine g_aload_n C iX4_loadOfSet_21 rfl ?_
          refine g_getR (b := (p + 8)) C fX4_33 iX4_loadOfSet_22 hp.1 rfl ?_
          refine g_iload_n C iX4_loadOfSet_25 rfl ?_
          refine g_iaload C iX4_loadOfSet_26 hp.2.2.2.2.2.2.2.2.1 ?_
          refine g_iadd C iX4_loadOfSet_27 ?_
          refine g_top (fun x2_1 => ?_)
          refine g_istore_n (lv' := [some (.ref (ad p)), some (.int x1), some (.int x2_1), some (.int x3)]) C hnL iX4_loadOfSet_28 (by decide) rfl ?_
          refine g_iinc (v := (x3 + 1)) (lv' := [some (.ref (ad p)), some (.int x1), some (.int x2_1), some (.int (x3 + 1))]) C hnL iX4_loadOfSet_29 (by decide) rfl rfl rfl ?_
          refine g_goto C 4 iX4_loadOfSet_32 (by decide) ?_
          exact ih4 _ _
  refine L4 _ (fun x2_2 => ?_) 1000 _ _
  show zG X ad shX (eP h) 35 [none, none, some (.int x2_2), none] [] h _
  refine g_iload_n C iX4_loadOfSet_35 rfl ?_
  exact g_iret C iX4_loadOfSet_36 rfl

set_option maxRecDepth 100000 in
theorem wX1_119 : zCv RX1 119 yX1_feederBits cX1_feederBits 5 (some .int) 2 := ⟨⟨(zmem 442 (by decide +kernel) (by decide +kernel)), (zmem 67 (by decide +kernel) (by decide +kernel)), (zmem 445 rfl rfl), ⟨by decide, by decide, by decide +kernel⟩, by decide⟩, (zmem 443 (by decide +kernel) (by decide +kernel)), (zmem 444 (by decide +kernel) (by decide +kernel))⟩
theorem iX1_loadOf_7 : zI cX1_loadOf 7 (.invokevirtual 119) 3 10 := ⟨by decide +kernel, rfl⟩
set_option maxRecDepth 100000 in
theorem wX1_123 : zCv RX1 123 yX4_loadOfSet cX4_loadOfSet 4 (some .int) 1 := ⟨⟨(zmem 446 (by decide +kernel) (by decide +kernel)), (zmem 66 (by decide +kernel) (by decide +kernel)), (zmem 449 rfl rfl), ⟨by decide, by decide, by decide +kernel⟩, by decide⟩, (zmem 447 (by decide +kernel) (by decide +kernel)), (zmem 448 (by decide +kernel) (by decide +kernel))⟩
theorem iX1_loadOf_10 : zI cX1_loadOf 10 (.invokevirtual 123) 3 13 := ⟨by decide +kernel, rfl⟩
theorem iX1_loadOf_13 : zI cX1_loadOf 13 (.ireturn) 1 14 := ⟨by decide +kernel, rfl⟩
theorem iX1_loadOf_6 : zI cX1_loadOf 6 (.iconst 1) 1 7 := ⟨by decide +kernel, rfl⟩
theorem iX1_loadOf_5 : zI cX1_loadOf 5 (.iload_n 1) 1 6 := ⟨by decide +kernel, rfl⟩
theorem iX1_loadOf_4 : zI cX1_loadOf 4 (.aload_n 0) 1 5 := ⟨by decide +kernel, rfl⟩
theorem iX1_loadOf_1 : zI cX1_loadOf 1 (.getfield 33) 3 4 := ⟨by decide +kernel, rfl⟩
theorem iX1_loadOf_0 : zI cX1_loadOf 0 (.aload_n 0) 1 1 := ⟨by decide +kernel, rfl⟩
set_option maxHeartbeats 4000000 in
set_option maxRecDepth 100000 in
theorem m_Gr_loadOf (g : Nat) (hg : isG g) (x1 : Int32) (h : zH) : zM yX1_loadOf cX1_loadOf 2 (some .int) 2 shX (fun ad => [.ref (ad g), .int x1]) h (eP h) (Gr_loadOf g x1 h) := by
  refine zM.of (by decide) (fun _ => rfl) (fun _ => Nat.le_of_ble_eq_true rfl) (fun X ad hnL C => ?_)
  show zG X ad shX (eP h) 0 [some (.ref (ad g)), some (.int x1)] [] h _
  unfold Gr_loadOf
  refine g_aload_n C iX1_loadOf_0 rfl ?_
  refine g_getR (b := 17) C fX1_33 iX1_loadOf_1 hg.1 rfl ?_
  refine g_aload_n C iX1_loadOf_4 rfl ?_
  refine g_iload_n C iX1_loadOf_5 rfl ?_
  refine g_iconst C 1 iX1_loadOf_6 (by decide) ?_
  refine g_callV C wX1_119 iX1_loadOf_7 (m_Gr_feederBits g hg x1 1 h) (by decide) hg.1 rfl rfl rfl rfl (Nat.le_of_ble_eq_true rfl) (fun r => ?_)
  show zG X ad shX (eP h) 10 [some (.ref (ad g)), some (.int x1)] [.int r, .ref (ad 17)] h _
  refine g_callV C wX1_123 iX1_loadOf_10 (m_Pl_loadOfSet 17 isP17 r h) (by decide) isP17.1 rfl rfl rfl rfl (Nat.le_of_ble_eq_true rfl) (fun r_1 => ?_)
  show zG X ad shX (eP h) 13 [some (.ref (ad g)), some (.int x1)] [.int r_1] h _
  exact g_iret C iX1_loadOf_13 rfl

set_option maxRecDepth 100000 in
theorem wX1_86 : zCv RX1 86 yX1_loadOf cX1_loadOf 2 (some .int) 1 := ⟨⟨(zmem 438 (by decide +kernel) (by decide +kernel)), (zmem 67 (by decide +kernel) (by decide +kernel)), (zmem 441 rfl rfl), ⟨by decide, by decide, by decide +kernel⟩, by decide⟩, (zmem 439 (by decide +kernel) (by decide +kernel)), (zmem 440 (by decide +kernel) (by decide +kernel))⟩
theorem iX1_aimOf_2 : zI cX1_aimOf 2 (.invokevirtual 86) 3 5 := ⟨by decide +kernel, rfl⟩
theorem iX1_aimOf_19 : zI cX1_aimOf 19 (.ireturn) 1 20 := ⟨by decide +kernel, rfl⟩
theorem iX1_aimOf_18 : zI cX1_aimOf 18 (.iadd) 1 19 := ⟨by decide +kernel, rfl⟩
theorem iX1_aimOf_17 : zI cX1_aimOf 17 (.idiv) 1 18 := ⟨by decide +kernel, rfl⟩
theorem iX1_aimOf_15 : zI cX1_aimOf 15 (.bipush 20) 2 17 := ⟨by decide +kernel, rfl⟩
theorem iX1_aimOf_14 : zI cX1_aimOf 14 (.isub) 1 15 := ⟨by decide +kernel, rfl⟩
theorem iX1_aimOf_13 : zI cX1_aimOf 13 (.iaload) 1 14 := ⟨by decide +kernel, rfl⟩
theorem iX1_aimOf_12 : zI cX1_aimOf 12 (.iload_n 1) 1 13 := ⟨by decide +kernel, rfl⟩
theorem iX1_aimOf_9 : zI cX1_aimOf 9 (.getfield 18) 3 12 := ⟨by decide +kernel, rfl⟩
theorem iX1_aimOf_8 : zI cX1_aimOf 8 (.aload_n 0) 1 9 := ⟨by decide +kernel, rfl⟩
theorem iX1_aimOf_5 : zI cX1_aimOf 5 (.sipush 5000) 3 8 := ⟨by decide +kernel, rfl⟩
theorem iX1_aimOf_1 : zI cX1_aimOf 1 (.iload_n 1) 1 2 := ⟨by decide +kernel, rfl⟩
theorem iX1_aimOf_0 : zI cX1_aimOf 0 (.aload_n 0) 1 1 := ⟨by decide +kernel, rfl⟩
set_option maxHeartbeats 4000000 in
set_option maxRecDepth 100000 in
theorem m_Gr_aimOf (g : Nat) (hg : isG g) (x1 : Int32) (h : zH) : zM yX1_aimOf cX1_aimOf 2 (some .int) 3 shX (fun ad => [.ref (ad g), .int x1]) h (eP h) (Gr_aimOf g x1 h) := by
  refine zM.of (by decide) (fun _ => rfl) (fun _ => Nat.le_of_ble_eq_true rfl) (fun X ad hnL C => ?_)
  show zG X ad shX (eP h) 0 [some (.ref (ad g)), some (.int x1)] [] h _
  unfold Gr_aimOf
  refine g_aload_n C iX1_aimOf_0 rfl ?_
  refine g_iload_n C iX1_aimOf_1 rfl ?_
  refine g_callV C wX1_86 iX1_aimOf_2 (m_Gr_loadOf g hg x1 h) (by decide) hg.1 rfl rfl rfl rfl (Nat.le_of_ble_eq_true rfl) (fun r => ?_)
  show zG X ad shX (eP h) 5 [some (.ref (ad g)), some (.int x1)] [.int r] h _
  refine g_sipush C 5000 iX1_aimOf_5 (by decide) ?_
  refine g_aload_n C iX1_aimOf_8 rfl ?_
  refine g_getR (b := (g + 3)) C fX1_18 iX1_aimOf_9 hg.1 rfl ?_
  refine g_iload_n C iX1_aimOf_12 rfl ?_
  refine g_iaload C iX1_aimOf_13 hg.2.2.2.1 ?_
  refine g_isub C iX1_aimOf_14 ?_
  refine g_bipush C 20 iX1_aimOf_15 (by decide) ?_
  refine g_idivL C iX1_aimOf_17 (by decide) ?_
  refine g_iadd C iX1_aimOf_18 ?_
  exact g_iret C iX1_aimOf_19 rfl

theorem fX1_77 : zFl RX1 77 4 2 := ⟨RX4, TX4, 16, rfl, by decide, (zmem 127 (by decide +kernel) (by decide +kernel)), u_inX4⟩
theorem iX1_sumOfPlants_14 : zI cX1_sumOfPlants 14 (.if_icmp .ge 35) 3 17 := ⟨by decide +kernel, rfl⟩
theorem fX1_80 : zFl RX1 80 4 7 := ⟨RX4, TX4, 16, rfl, by decide, (zmem 142 (by decide +kernel) (by decide +kernel)), u_inX4⟩
theorem iX1_sumOfPlants_33 : zI cX1_sumOfPlants 33 (.if_icmp .ne 10) 3 36 := ⟨by decide +kernel, rfl⟩
theorem iX1_sumOfPlants_46 : zI cX1_sumOfPlants 46 (.goto (-41)) 3 49 := ⟨by decide +kernel, rfl⟩
theorem iX1_sumOfPlants_43 : zI cX1_sumOfPlants 43 (.iinc 4 1) 3 46 := ⟨by decide +kernel, rfl⟩
theorem iX1_sumOfPlants_42 : zI cX1_sumOfPlants 42 (.istore_n 3) 1 43 := ⟨by decide +kernel, rfl⟩
theorem iX1_sumOfPlants_41 : zI cX1_sumOfPlants 41 (.iadd) 1 42 := ⟨by decide +kernel, rfl⟩
theorem iX1_sumOfPlants_40 : zI cX1_sumOfPlants 40 (.iaload) 1 41 := ⟨by decide +kernel, rfl⟩
theorem iX1_sumOfPlants_38 : zI cX1_sumOfPlants 38 (.iload 4) 2 40 := ⟨by decide +kernel, rfl⟩
theorem iX1_sumOfPlants_37 : zI cX1_sumOfPlants 37 (.aload_n 1) 1 38 := ⟨by decide +kernel, rfl⟩
theorem iX1_sumOfPlants_36 : zI cX1_sumOfPlants 36 (.iload_n 3) 1 37 := ⟨by decide +kernel, rfl⟩
theorem iX1_sumOfPlants_32 : zI cX1_sumOfPlants 32 (.iload_n 2) 1 33 := ⟨by decide +kernel, rfl⟩
theorem iX1_sumOfPlants_31 : zI cX1_sumOfPlants 31 (.iaload) 1 32 := ⟨by decide +kernel, rfl⟩
theorem iX1_sumOfPlants_30 : zI cX1_sumOfPlants 30 (.iaload) 1 31 := ⟨by decide +kernel, rfl⟩
theorem iX1_sumOfPlants_28 : zI cX1_sumOfPlants 28 (.iload 4) 2 30 := ⟨by decide +kernel, rfl⟩
theorem iX1_sumOfPlants_25 : zI cX1_sumOfPlants 25 (.getfield 80) 3 28 := ⟨by decide +kernel, rfl⟩
theorem iX1_sumOfPlants_22 : zI cX1_sumOfPlants 22 (.getfield 33) 3 25 := ⟨by decide +kernel, rfl⟩
theorem iX1_sumOfPlants_21 : zI cX1_sumOfPlants 21 (.aload_n 0) 1 22 := ⟨by decide +kernel, rfl⟩
theorem iX1_sumOfPlants_18 : zI cX1_sumOfPlants 18 (.getfield 9) 3 21 := ⟨by decide +kernel, rfl⟩
theorem iX1_sumOfPlants_17 : zI cX1_sumOfPlants 17 (.aload_n 0) 1 18 := ⟨by decide +kernel, rfl⟩
theorem iX1_sumOfPlants_11 : zI cX1_sumOfPlants 11 (.getfield 77) 3 14 := ⟨by decide +kernel, rfl⟩
theorem iX1_sumOfPlants_8 : zI cX1_sumOfPlants 8 (.getfield 33) 3 11 := ⟨by decide +kernel, rfl⟩
theorem iX1_sumOfPlants_7 : zI cX1_sumOfPlants 7 (.aload_n 0) 1 8 := ⟨by decide +kernel, rfl⟩
theorem iX1_sumOfPlants_5 : zI cX1_sumOfPlants 5 (.iload 4) 2 7 := ⟨by decide +kernel, rfl⟩
theorem iX1_sumOfPlants_50 : zI cX1_sumOfPlants 50 (.ireturn) 1 51 := ⟨by decide +kernel, rfl⟩
theorem iX1_sumOfPlants_49 : zI cX1_sumOfPlants 49 (.iload_n 3) 1 50 := ⟨by decide +kernel, rfl⟩
theorem iX1_sumOfPlants_3 : zI cX1_sumOfPlants 3 (.istore 4) 2 5 := ⟨by decide +kernel, rfl⟩
theorem iX1_sumOfPlants_2 : zI cX1_sumOfPlants 2 (.iconst 0) 1 3 := ⟨by decide +kernel, rfl⟩
theorem iX1_sumOfPlants_1 : zI cX1_sumOfPlants 1 (.istore_n 3) 1 2 := ⟨by decide +kernel, rfl⟩
theorem iX1_sumOfPlants_0 : zI cX1_sumOfPlants 0 (.iconst 0) 1 1 := ⟨by decide +kernel, rfl⟩
set_option maxHeartbeats 4000000 in
set_option maxRecDepth 100000 in
theorem m_Gr_sumOfPlants (g : Nat) (hg : isG g) (a : Nat) (ha : shX[a]? = some (.inl 6)) (x2 : Int32) (h : zH) : zM yX1_sumOfPlants cX1_sumOfPlants 5 (some .int) 0 shX (fun ad => [.ref (ad g), .ref (ad a), .int x2]) h (eP h) (Gr_sumOfPlants g a x2 h) := by
  refine zM.of (by decide) (fun _ => rfl) (fun _ => Nat.le_of_ble_eq_true rfl) (fun X ad hnL C => ?_)
  show zG X ad shX (eP h) 0 [some (.ref (ad g)), some (.ref (ad a)), some (.int x2), none, none] [] h _
  unfold Gr_sumOfPlants
  refine g_iconst C 0 iX1_sumOfPlants_0 (by decide) ?_
  refine g_istore_n (lv' := [some (.ref (ad g)), some (.ref (ad a)), some (.int x2), some (.int 0), none]) C hnL iX1_sumOfPlants_1 (by decide) rfl ?_
  refine g_iconst C 0 iX1_sumOfPlants_2 (by decide) ?_
  refine g_istore (lv' := [some (.ref (ad g)), some (.ref (ad a)), some (.int x2), some (.int 0), some (.int 0)]) C hnL iX1_sumOfPlants_3 (by decide) rfl ?_
  have L5 : ∀ (k49 : Int32 → Option (Int32)), (∀ (y3 : Int32), zG X ad shX (eP h) 49 [none, none, none, some (.int y3), none] [] h (k49 y3)) → ∀ (n : Nat) (x3 x4 : Int32), zG X ad shX (eP h) 5 [some (.ref (ad g)), some (.ref (ad a)), some (.int x2), some (.int x3), some (.int x4)] [] h (Gr_sumOfPlants_L5 g a x2 h k49 n x3 x4) := by
    intro k49 hk49 n
    induction n with
    | zero =>
      intro x3 x4
      exact g_none
    | succ n ih5 =>
      intro x3 x4
      rw [Gr_sumOfPlants_L5]
      refine g_iload C iX1_sumOfPlants_5 rfl ?_
      refine g_aload_n C iX1_sumOfPlants_7 rfl ?_
      refine g_getR (b := 17) C fX1_33 iX1_sumOfPlants_8 hg.1 rfl ?_
      refine g_getI C fX1_77 iX1_sumOfPlants_11 isP17.1 rfl ?_
      refine g_icmp_ge C 49 iX1_sumOfPlants_14 (by decide) (fun c14 => ?_) (fun c14 => ?_)
      · refine g_sub (lv' := [none, none, none, some (.int x3), none]) ⟨rfl, trivial⟩ ?_
        exact hk49 _
      · refine g_aload_n C iX1_sumOfPlants_17 rfl ?_
        refine g_getR (b := (g + 1)) C fX1_9 iX1_sumOfPlants_18 hg.1 rfl ?_
        refine g_aload_n C iX1_sumOfPlants_21 rfl ?_
        refine g_getR (b := 17) C fX1_33 iX1_sumOfPlants_22 hg.1 rfl ?_
        refine g_getR (b := 20) C fX1_80 iX1_sumOfPlants_25 isP17.1 rfl ?_
        refine g_iload C iX1_sumOfPlants_28 rfl ?_
        refine g_iaload C iX1_sumOfPlants_30 isP17.2.2.2.1 ?_
        refine g_iaload C iX1_sumOfPlants_31 hg.2.1 ?_
        refine g_iload_n C iX1_sumOfPlants_32 rfl ?_
        refine g_icmp_ne C 43 iX1_sumOfPlants_33 (by decide) (fun c33 => ?_) (fun c33 => ?_)
        · refine g_iload_n C iX1_sumOfPlants_36 rfl ?_
          refine g_aload_n C iX1_sumOfPlants_37 rfl ?_
          refine g_iload C iX1_sumOfPlants_38 rfl ?_
          refine g_iaload C iX1_sumOfPlants_40 ha ?_
          refine g_iadd C iX1_sumOfPlants_41 ?_
          refine g_top (fun x3_1 => ?_)
          refine g_istore_n (lv' := [some (.ref (ad g)), some (.ref (ad a)), some (.int x2), some (.int x3_1), some (.int x4)]) C hnL iX1_sumOfPlants_42 (by decide) rfl ?_
          refine g_iinc (v := (x4 + 1)) (lv' := [some (.ref (ad g)), some (.ref (ad a)), some (.int x2), some (.int x3_1), some (.int (x4 + 1))]) C hnL iX1_sumOfPlants_43 (by decide) rfl rfl rfl ?_
          refine g_goto C 5 iX1_sumOfPlants_46 (by decide) ?_
          exact ih5 _ _
        · refine g_iinc (v := (x4 + 1)) (lv' := [some (.ref (ad g)), some (.ref (ad a)), some (.int x2), some (.int x3), some (.int (x4 + 1))]) C hnL iX1_sumOfPlants_43 (by decide) rfl rfl rfl ?_
          refine g_goto C 5 iX1_sumOfPlants_46 (by decide) ?_
          exact ih5 _ _
  refine L5 _ (fun x3_2 => ?_) 1000 _ _
  show zG X ad shX (eP h) 49 [none, none, none, some (.int x3_2), none] [] h _
  refine g_iload_n C iX1_sumOfPlants_49 rfl ?_
  exact g_iret C iX1_sumOfPlants_50 rfl

theorem fX1_24 : zFl RX1 24 1 6 := ⟨RX1, TX1, 12, rfl, by decide, (zmem 215 (by decide +kernel) (by decide +kernel)), u_inX1⟩
set_option maxRecDepth 100000 in
theorem wX1_126 : zCv RX1 126 yX1_sumOfPlants cX1_sumOfPlants 5 (some .int) 2 := ⟨⟨(zmem 455 (by decide +kernel) (by decide +kernel)), (zmem 67 (by decide +kernel) (by decide +kernel)), (zmem 458 rfl rfl), ⟨by decide, by decide, by decide +kernel⟩, by decide⟩, (zmem 457 (by decide +kernel) (by decide +kernel)), (zmem 5 (by decide +kernel) (by decide +kernel))⟩
theorem iX1_givenOf_6 : zI cX1_givenOf 6 (.invokevirtual 126) 3 9 := ⟨by decide +kernel, rfl⟩
theorem iX1_givenOf_9 : zI cX1_givenOf 9 (.ireturn) 1 10 := ⟨by decide +kernel, rfl⟩
theorem iX1_givenOf_5 : zI cX1_givenOf 5 (.iload_n 1) 1 6 := ⟨by decide +kernel, rfl⟩
theorem iX1_givenOf_2 : zI cX1_givenOf 2 (.getfield 24) 3 5 := ⟨by decide +kernel, rfl⟩
theorem iX1_givenOf_1 : zI cX1_givenOf 1 (.aload_n 0) 1 2 := ⟨by decide +kernel, rfl⟩
theorem iX1_givenOf_0 : zI cX1_givenOf 0 (.aload_n 0) 1 1 := ⟨by decide +kernel, rfl⟩
set_option maxHeartbeats 4000000 in
set_option maxRecDepth 100000 in
theorem m_Gr_givenOf (g : Nat) (hg : isG g) (x1 : Int32) (h : zH) : zM yX1_givenOf cX1_givenOf 2 (some .int) 1 shX (fun ad => [.ref (ad g), .int x1]) h (eP h) (Gr_givenOf g x1 h) := by
  refine zM.of (by decide) (fun _ => rfl) (fun _ => Nat.le_of_ble_eq_true rfl) (fun X ad hnL C => ?_)
  show zG X ad shX (eP h) 0 [some (.ref (ad g)), some (.int x1)] [] h _
  unfold Gr_givenOf
  refine g_aload_n C iX1_givenOf_0 rfl ?_
  refine g_aload_n C iX1_givenOf_1 rfl ?_
  refine g_getR (b := (g + 5)) C fX1_24 iX1_givenOf_2 hg.1 rfl ?_
  refine g_iload_n C iX1_givenOf_5 rfl ?_
  refine g_callV C wX1_126 iX1_givenOf_6 (m_Gr_sumOfPlants g hg (g + 5) hg.2.2.2.2.2.1 x1 h) (by decide) hg.1 rfl rfl rfl rfl (Nat.le_of_ble_eq_true rfl) (fun r => ?_)
  show zG X ad shX (eP h) 9 [some (.ref (ad g)), some (.int x1)] [.int r] h _
  exact g_iret C iX1_givenOf_9 rfl

theorem fX0_15 : zFl RX0 15 0 1 := ⟨RX0, TX0, 5, rfl, by decide, (zmem 264 (by decide +kernel) (by decide +kernel)), u_inX0⟩
set_option maxRecDepth 100000 in
theorem wX0_86 : zCv RX0 86 yX1_aimOf cX1_aimOf 2 (some .int) 1 := ⟨⟨(zmem 545 (by decide +kernel) (by decide +kernel)), (zmem 67 (by decide +kernel) (by decide +kernel)), (zmem 548 rfl rfl), ⟨by decide, by decide, by decide +kernel⟩, by decide⟩, (zmem 546 (by decide +kernel) (by decide +kernel)), (zmem 547 (by decide +kernel) (by decide +kernel))⟩
theorem iX0_follow_5 : zI cX0_follow 5 (.invokevirtual 86) 3 8 := ⟨by decide +kernel, rfl⟩
set_option maxRecDepth 100000 in
theorem wX0_61 : zCv RX0 61 yX1_givenOf cX1_givenOf 2 (some .int) 1 := ⟨⟨(zmem 549 (by decide +kernel) (by decide +kernel)), (zmem 67 (by decide +kernel) (by decide +kernel)), (zmem 454 rfl rfl), ⟨by decide, by decide, by decide +kernel⟩, by decide⟩, (zmem 452 (by decide +kernel) (by decide +kernel)), (zmem 453 (by decide +kernel) (by decide +kernel))⟩
theorem iX0_follow_13 : zI cX0_follow 13 (.invokevirtual 61) 3 16 := ⟨by decide +kernel, rfl⟩
theorem fX0_9 : zFl RX0 9 0 0 := ⟨RX0, TX0, 5, rfl, by decide, (zmem 263 (by decide +kernel) (by decide +kernel)), u_inX0⟩
theorem fX0_89 : zFl RX0 89 4 2 := ⟨RX4, TX4, 16, rfl, by decide, (zmem 128 (by decide +kernel) (by decide +kernel)), u_inX4⟩
theorem iX0_follow_28 : zI cX0_follow 28 (.if_icmp .ge 116) 3 31 := ⟨by decide +kernel, rfl⟩
theorem fX0_39 : zFl RX0 39 1 2 := ⟨RX1, TX1, 12, rfl, by decide, (zmem 206 (by decide +kernel) (by decide +kernel)), u_inX1⟩
theorem fX0_92 : zFl RX0 92 4 7 := ⟨RX4, TX4, 16, rfl, by decide, (zmem 143 (by decide +kernel) (by decide +kernel)), u_inX4⟩
theorem iX0_follow_49 : zI cX0_follow 49 (.if_icmp .ne 89) 3 52 := ⟨by decide +kernel, rfl⟩
theorem iX0_follow_141 : zI cX0_follow 141 (.goto (-121)) 3 144 := ⟨by decide +kernel, rfl⟩
theorem iX0_follow_138 : zI cX0_follow 138 (.iinc 3 1) 3 141 := ⟨by decide +kernel, rfl⟩
theorem fX0_95 : zFl RX0 95 1 6 := ⟨RX1, TX1, 12, rfl, by decide, (zmem 216 (by decide +kernel) (by decide +kernel)), u_inX1⟩
theorem fX0_98 : zFl RX0 98 4 9 := ⟨RX4, TX4, 16, rfl, by decide, (zmem 148 (by decide +kernel) (by decide +kernel)), u_inX4⟩
theorem fX0_101 : zFl RX0 101 4 8 := ⟨RX4, TX4, 16, rfl, by decide, (zmem 146 (by decide +kernel) (by decide +kernel)), u_inX4⟩
set_option maxRecDepth 100000 in
theorem wX0_70 : zMw RX0 70 Lib.Math.min.name Lib.Math.min.code 2 := ⟨(zmem 550 (by decide +kernel) (by decide +kernel)), (zmem 428 (by decide +kernel) (by decide +kernel)), (zmem 75 (by decide +kernel) (by decide +kernel)), (zmem 429 rfl rfl)⟩
theorem iX0_follow_84 : zI cX0_follow 84 (.invokestatic 70) 3 87 := ⟨by decide +kernel, rfl⟩
theorem iX0_follow_100 : zI cX0_follow 100 (.invokestatic 70) 3 103 := ⟨by decide +kernel, rfl⟩
theorem iX0_follow_111 : zI cX0_follow 111 (.invokestatic 70) 3 114 := ⟨by decide +kernel, rfl⟩
set_option maxRecDepth 100000 in
theorem wX0_104 : zMw RX0 104 Lib.Math.max.name Lib.Math.max.code 2 := ⟨(zmem 551 (by decide +kernel) (by decide +kernel)), (zmem 552 (by decide +kernel) (by decide +kernel)), (zmem 75 (by decide +kernel) (by decide +kernel)), (zmem 553 rfl rfl)⟩
theorem iX0_follow_114 : zI cX0_follow 114 (.invokestatic 104) 3 117 := ⟨by decide +kernel, rfl⟩
theorem iX0_follow_137 : zI cX0_follow 137 (.istore_n 2) 1 138 := ⟨by decide +kernel, rfl⟩
theorem iX0_follow_136 : zI cX0_follow 136 (.isub) 1 137 := ⟨by decide +kernel, rfl⟩
theorem iX0_follow_134 : zI cX0_follow 134 (.iload 7) 2 136 := ⟨by decide +kernel, rfl⟩
theorem iX0_follow_133 : zI cX0_follow 133 (.iload_n 2) 1 134 := ⟨by decide +kernel, rfl⟩
theorem iX0_follow_132 : zI cX0_follow 132 (.iastore) 1 133 := ⟨by decide +kernel, rfl⟩
theorem iX0_follow_131 : zI cX0_follow 131 (.iadd) 1 132 := ⟨by decide +kernel, rfl⟩
theorem iX0_follow_129 : zI cX0_follow 129 (.iload 7) 2 131 := ⟨by decide +kernel, rfl⟩
theorem iX0_follow_127 : zI cX0_follow 127 (.iload 4) 2 129 := ⟨by decide +kernel, rfl⟩
theorem iX0_follow_126 : zI cX0_follow 126 (.iload_n 3) 1 127 := ⟨by decide +kernel, rfl⟩
theorem iX0_follow_123 : zI cX0_follow 123 (.getfield 95) 3 126 := ⟨by decide +kernel, rfl⟩
theorem iX0_follow_120 : zI cX0_follow 120 (.getfield 15) 3 123 := ⟨by decide +kernel, rfl⟩
theorem iX0_follow_119 : zI cX0_follow 119 (.aload_n 0) 1 120 := ⟨by decide +kernel, rfl⟩
theorem iX0_follow_117 : zI cX0_follow 117 (.istore 7) 2 119 := ⟨by decide +kernel, rfl⟩
theorem iX0_follow_110 : zI cX0_follow 110 (.iload_n 2) 1 111 := ⟨by decide +kernel, rfl⟩
theorem iX0_follow_108 : zI cX0_follow 108 (.iload 5) 2 110 := ⟨by decide +kernel, rfl⟩
theorem iX0_follow_106 : zI cX0_follow 106 (.iload 6) 2 108 := ⟨by decide +kernel, rfl⟩
theorem iX0_follow_104 : zI cX0_follow 104 (.istore 6) 2 106 := ⟨by decide +kernel, rfl⟩
theorem iX0_follow_103 : zI cX0_follow 103 (.ineg) 1 104 := ⟨by decide +kernel, rfl⟩
theorem iX0_follow_98 : zI cX0_follow 98 (.iload 4) 2 100 := ⟨by decide +kernel, rfl⟩
theorem iX0_follow_97 : zI cX0_follow 97 (.iaload) 1 98 := ⟨by decide +kernel, rfl⟩
theorem iX0_follow_96 : zI cX0_follow 96 (.iload_n 3) 1 97 := ⟨by decide +kernel, rfl⟩
theorem iX0_follow_93 : zI cX0_follow 93 (.getfield 98) 3 96 := ⟨by decide +kernel, rfl⟩
theorem iX0_follow_90 : zI cX0_follow 90 (.getfield 9) 3 93 := ⟨by decide +kernel, rfl⟩
theorem iX0_follow_89 : zI cX0_follow 89 (.aload_n 0) 1 90 := ⟨by decide +kernel, rfl⟩
theorem iX0_follow_87 : zI cX0_follow 87 (.istore 5) 2 89 := ⟨by decide +kernel, rfl⟩
theorem iX0_follow_83 : zI cX0_follow 83 (.isub) 1 84 := ⟨by decide +kernel, rfl⟩
theorem iX0_follow_81 : zI cX0_follow 81 (.iload 4) 2 83 := ⟨by decide +kernel, rfl⟩
theorem iX0_follow_80 : zI cX0_follow 80 (.iaload) 1 81 := ⟨by decide +kernel, rfl⟩
theorem iX0_follow_79 : zI cX0_follow 79 (.iload_n 3) 1 80 := ⟨by decide +kernel, rfl⟩
theorem iX0_follow_76 : zI cX0_follow 76 (.getfield 101) 3 79 := ⟨by decide +kernel, rfl⟩
theorem iX0_follow_73 : zI cX0_follow 73 (.getfield 9) 3 76 := ⟨by decide +kernel, rfl⟩
theorem iX0_follow_72 : zI cX0_follow 72 (.aload_n 0) 1 73 := ⟨by decide +kernel, rfl⟩
theorem iX0_follow_71 : zI cX0_follow 71 (.iaload) 1 72 := ⟨by decide +kernel, rfl⟩
theorem iX0_follow_70 : zI cX0_follow 70 (.iload_n 3) 1 71 := ⟨by decide +kernel, rfl⟩
theorem iX0_follow_67 : zI cX0_follow 67 (.getfield 98) 3 70 := ⟨by decide +kernel, rfl⟩
theorem iX0_follow_64 : zI cX0_follow 64 (.getfield 9) 3 67 := ⟨by decide +kernel, rfl⟩
theorem iX0_follow_63 : zI cX0_follow 63 (.aload_n 0) 1 64 := ⟨by decide +kernel, rfl⟩
theorem iX0_follow_61 : zI cX0_follow 61 (.istore 4) 2 63 := ⟨by decide +kernel, rfl⟩
theorem iX0_follow_60 : zI cX0_follow 60 (.iaload) 1 61 := ⟨by decide +kernel, rfl⟩
theorem iX0_follow_59 : zI cX0_follow 59 (.iload_n 3) 1 60 := ⟨by decide +kernel, rfl⟩
theorem iX0_follow_56 : zI cX0_follow 56 (.getfield 95) 3 59 := ⟨by decide +kernel, rfl⟩
theorem iX0_follow_53 : zI cX0_follow 53 (.getfield 15) 3 56 := ⟨by decide +kernel, rfl⟩
theorem iX0_follow_52 : zI cX0_follow 52 (.aload_n 0) 1 53 := ⟨by decide +kernel, rfl⟩
theorem iX0_follow_48 : zI cX0_follow 48 (.iload_n 1) 1 49 := ⟨by decide +kernel, rfl⟩
theorem iX0_follow_47 : zI cX0_follow 47 (.iaload) 1 48 := ⟨by decide +kernel, rfl⟩
theorem iX0_follow_46 : zI cX0_follow 46 (.iaload) 1 47 := ⟨by decide +kernel, rfl⟩
theorem iX0_follow_45 : zI cX0_follow 45 (.iload_n 3) 1 46 := ⟨by decide +kernel, rfl⟩
theorem iX0_follow_42 : zI cX0_follow 42 (.getfield 92) 3 45 := ⟨by decide +kernel, rfl⟩
theorem iX0_follow_39 : zI cX0_follow 39 (.getfield 9) 3 42 := ⟨by decide +kernel, rfl⟩
theorem iX0_follow_38 : zI cX0_follow 38 (.aload_n 0) 1 39 := ⟨by decide +kernel, rfl⟩
theorem iX0_follow_35 : zI cX0_follow 35 (.getfield 39) 3 38 := ⟨by decide +kernel, rfl⟩
theorem iX0_follow_32 : zI cX0_follow 32 (.getfield 15) 3 35 := ⟨by decide +kernel, rfl⟩
theorem iX0_follow_31 : zI cX0_follow 31 (.aload_n 0) 1 32 := ⟨by decide +kernel, rfl⟩
theorem iX0_follow_25 : zI cX0_follow 25 (.getfield 89) 3 28 := ⟨by decide +kernel, rfl⟩
theorem iX0_follow_22 : zI cX0_follow 22 (.getfield 9) 3 25 := ⟨by decide +kernel, rfl⟩
theorem iX0_follow_21 : zI cX0_follow 21 (.aload_n 0) 1 22 := ⟨by decide +kernel, rfl⟩
theorem iX0_follow_20 : zI cX0_follow 20 (.iload_n 3) 1 21 := ⟨by decide +kernel, rfl⟩
theorem iX0_follow_144 : zI cX0_follow 144 (.return_) 1 145 := ⟨by decide +kernel, rfl⟩
theorem iX0_follow_19 : zI cX0_follow 19 (.istore_n 3) 1 20 := ⟨by decide +kernel, rfl⟩
theorem iX0_follow_18 : zI cX0_follow 18 (.iconst 0) 1 19 := ⟨by decide +kernel, rfl⟩
theorem iX0_follow_17 : zI cX0_follow 17 (.istore_n 2) 1 18 := ⟨by decide +kernel, rfl⟩
theorem iX0_follow_16 : zI cX0_follow 16 (.isub) 1 17 := ⟨by decide +kernel, rfl⟩
theorem iX0_follow_12 : zI cX0_follow 12 (.iload_n 1) 1 13 := ⟨by decide +kernel, rfl⟩
theorem iX0_follow_9 : zI cX0_follow 9 (.getfield 15) 3 12 := ⟨by decide +kernel, rfl⟩
theorem iX0_follow_8 : zI cX0_follow 8 (.aload_n 0) 1 9 := ⟨by decide +kernel, rfl⟩
theorem iX0_follow_4 : zI cX0_follow 4 (.iload_n 1) 1 5 := ⟨by decide +kernel, rfl⟩
theorem iX0_follow_1 : zI cX0_follow 1 (.getfield 15) 3 4 := ⟨by decide +kernel, rfl⟩
theorem iX0_follow_0 : zI cX0_follow 0 (.aload_n 0) 1 1 := ⟨by decide +kernel, rfl⟩
set_option maxHeartbeats 4000000 in
set_option maxRecDepth 100000 in
theorem m_Co_follow (c g : Nat) (hc : isC c g) (hg : isG g) (x1 : Int32) (h : zH) : zM yX0_follow cX0_follow 8 none 4 shX (fun ad => [.ref (ad c), .int x1]) h eV (Co_follow c g x1 h) := by
  refine zM.of (by decide) (fun _ => rfl) (fun _ => Nat.le_of_ble_eq_true rfl) (fun X ad hnL C => ?_)
  show zG X ad shX eV 0 [some (.ref (ad c)), some (.int x1), none, none, none, none, none, none] [] h _
  unfold Co_follow
  refine g_aload_n C iX0_follow_0 rfl ?_
  refine g_getR (b := g) C fX0_15 iX0_follow_1 hc rfl ?_
  refine g_iload_n C iX0_follow_4 rfl ?_
  refine g_callV C wX0_86 iX0_follow_5 (m_Gr_aimOf g hg x1 h) (by decide) hg.1 rfl rfl rfl rfl (Nat.le_of_ble_eq_true rfl) (fun r => ?_)
  show zG X ad shX eV 8 [some (.ref (ad c)), some (.int x1), none, none, none, none, none, none] [.int r] h _
  refine g_aload_n C iX0_follow_8 rfl ?_
  refine g_getR (b := g) C fX0_15 iX0_follow_9 hc rfl ?_
  refine g_iload_n C iX0_follow_12 rfl ?_
  refine g_callV C wX0_61 iX0_follow_13 (m_Gr_givenOf g hg x1 h) (by decide) hg.1 rfl rfl rfl rfl (Nat.le_of_ble_eq_true rfl) (fun r_1 => ?_)
  show zG X ad shX eV 16 [some (.ref (ad c)), some (.int x1), none, none, none, none, none, none] [.int r_1, .int r] h _
  refine g_isub C iX0_follow_16 ?_
  refine g_top (fun x2 => ?_)
  refine g_istore_n (lv' := [some (.ref (ad c)), some (.int x1), some (.int x2), none, none, none, none, none]) C hnL iX0_follow_17 (by decide) rfl ?_
  refine g_iconst C 0 iX0_follow_18 (by decide) ?_
  refine g_istore_n (lv' := [some (.ref (ad c)), some (.int x1), some (.int x2), some (.int 0), none, none, none, none]) C hnL iX0_follow_19 (by decide) rfl ?_
  have L20 : ∀ (k144 : zH → Option (zH)), (∀ (hy : zH), zG X ad shX eV 144 [none, none, none, none, none, none, none, none] [] hy (k144 hy)) → ∀ (n : Nat) (x2_1 x3 : Int32) (h_1 : zH), zG X ad shX eV 20 [some (.ref (ad c)), some (.int x1), some (.int x2_1), some (.int x3), none, none, none, none] [] h_1 (Co_follow_L20 g x1 k144 n x2_1 x3 h_1) := by
    intro k144 hk144 n
    induction n with
    | zero =>
      intro x2_1 x3 h_1
      exact g_none
    | succ n ih20 =>
      intro x2_1 x3 h_1
      rw [Co_follow_L20]
      refine g_iload_n C iX0_follow_20 rfl ?_
      refine g_aload_n C iX0_follow_21 rfl ?_
      refine g_getR (b := 17) C fX0_9 iX0_follow_22 hc rfl ?_
      refine g_getI C fX0_89 iX0_follow_25 isP17.1 rfl ?_
      refine g_icmp_ge C 144 iX0_follow_28 (by decide) (fun c28 => ?_) (fun c28 => ?_)
      · refine g_sub (lv' := [none, none, none, none, none, none, none, none]) trivial ?_
        exact hk144 _
      · refine g_aload_n C iX0_follow_31 rfl ?_
        refine g_getR (b := g) C fX0_15 iX0_follow_32 hc rfl ?_
        refine g_getR (b := (g + 1)) C fX0_39 iX0_follow_35 hg.1 rfl ?_
        refine g_aload_n C iX0_follow_38 rfl ?_
        refine g_getR (b := 17) C fX0_9 iX0_follow_39 hc rfl ?_
        refine g_getR (b := 20) C fX0_92 iX0_follow_42 isP17.1 rfl ?_
        refine g_iload_n C iX0_follow_45 rfl ?_
        refine g_iaload C iX0_follow_46 isP17.2.2.2.1 ?_
        refine g_iaload C iX0_follow_47 hg.2.1 ?_
        refine g_iload_n C iX0_follow_48 rfl ?_
        refine g_icmp_ne C 138 iX0_follow_49 (by decide) (fun c49 => ?_) (fun c49 => ?_)
        · refine g_aload_n C iX0_follow_52 rfl ?_
          refine g_getR (b := g) C fX0_15 iX0_follow_53 hc rfl ?_
          refine g_getR (b := (g + 5)) C fX0_95 iX0_follow_56 hg.1 rfl ?_
          refine g_iload_n C iX0_follow_59 rfl ?_
          refine g_iaload C iX0_follow_60 hg.2.2.2.2.2.1 ?_
          refine g_top (fun x4 => ?_)
          refine g_istore (lv' := [some (.ref (ad c)), some (.int x1), some (.int x2_1), some (.int x3), some (.int x4), none, none, none]) C hnL iX0_follow_61 (by decide) rfl ?_
          refine g_aload_n C iX0_follow_63 rfl ?_
          refine g_getR (b := 17) C fX0_9 iX0_follow_64 hc rfl ?_
          refine g_getR (b := 22) C fX0_98 iX0_follow_67 isP17.1 rfl ?_
          refine g_iload_n C iX0_follow_70 rfl ?_
          refine g_iaload C iX0_follow_71 isP17.2.2.2.2.2.1 ?_
          refine g_aload_n C iX0_follow_72 rfl ?_
          refine g_getR (b := 17) C fX0_9 iX0_follow_73 hc rfl ?_
          refine g_getR (b := 21) C fX0_101 iX0_follow_76 isP17.1 rfl ?_
          refine g_iload_n C iX0_follow_79 rfl ?_
          refine g_iaload C iX0_follow_80 isP17.2.2.2.2.1 ?_
          refine g_iload C iX0_follow_81 rfl ?_
          refine g_isub C iX0_follow_83 ?_
          refine g_min C wX0_70 iX0_follow_84 (by decide) (Nat.le_of_ble_eq_true rfl) ?_
          refine g_top (fun x5 => ?_)
          refine g_istore (lv' := [some (.ref (ad c)), some (.int x1), some (.int x2_1), some (.int x3), some (.int x4), some (.int x5), none, none]) C hnL iX0_follow_87 (by decide) rfl ?_
          refine g_aload_n C iX0_follow_89 rfl ?_
          refine g_getR (b := 17) C fX0_9 iX0_follow_90 hc rfl ?_
          refine g_getR (b := 22) C fX0_98 iX0_follow_93 isP17.1 rfl ?_
          refine g_iload_n C iX0_follow_96 rfl ?_
          refine g_iaload C iX0_follow_97 isP17.2.2.2.2.2.1 ?_
          refine g_iload C iX0_follow_98 rfl ?_
          refine g_min C wX0_70 iX0_follow_100 (by decide) (Nat.le_of_ble_eq_true rfl) ?_
          refine g_ineg C iX0_follow_103 ?_
          refine g_top (fun x6 => ?_)
          refine g_istore (lv' := [some (.ref (ad c)), some (.int x1), some (.int x2_1), some (.int x3), some (.int x4), some (.int x5), some (.int x6), none]) C hnL iX0_follow_104 (by decide) rfl ?_
          refine g_iload C iX0_follow_106 rfl ?_
          refine g_iload C iX0_follow_108 rfl ?_
          refine g_iload_n C iX0_follow_110 rfl ?_
          refine g_min C wX0_70 iX0_follow_111 (by decide) (Nat.le_of_ble_eq_true rfl) ?_
          refine g_max C wX0_104 iX0_follow_114 (by decide) (Nat.le_of_ble_eq_true rfl) ?_
          refine g_top (fun x7 => ?_)
          refine g_istore (lv' := [some (.ref (ad c)), some (.int x1), some (.int x2_1), some (.int x3), some (.int x4), some (.int x5), some (.int x6), some (.int x7)]) C hnL iX0_follow_117 (by decide) rfl ?_
          refine g_aload_n C iX0_follow_119 rfl ?_
          refine g_getR (b := g) C fX0_15 iX0_follow_120 hc rfl ?_
          refine g_getR (b := (g + 5)) C fX0_95 iX0_follow_123 hg.1 rfl ?_
          refine g_iload_n C iX0_follow_126 rfl ?_
          refine g_iload C iX0_follow_127 rfl ?_
          refine g_iload C iX0_follow_129 rfl ?_
          refine g_iadd C iX0_follow_131 ?_
          refine g_iastore C iX0_follow_132 hg.2.2.2.2.2.1 (fun h_2 => ?_)
          refine g_iload_n C iX0_follow_133 rfl ?_
          refine g_iload C iX0_follow_134 rfl ?_
          refine g_isub C iX0_follow_136 ?_
          refine g_top (fun x2_2 => ?_)
          refine g_istore_n (lv' := [some (.ref (ad c)), some (.int x1), some (.int x2_2), some (.int x3), some (.int x4), some (.int x5), some (.int x6), some (.int x7)]) C hnL iX0_follow_137 (by decide) rfl ?_
          refine g_iinc (v := (x3 + 1)) (lv' := [some (.ref (ad c)), some (.int x1), some (.int x2_2), some (.int (x3 + 1)), some (.int x4), some (.int x5), some (.int x6), some (.int x7)]) C hnL iX0_follow_138 (by decide) rfl rfl rfl ?_
          refine g_goto C 20 iX0_follow_141 (by decide) ?_
          refine g_sub (lv' := [some (.ref (ad c)), some (.int x1), some (.int x2_2), some (.int (x3 + 1)), none, none, none, none]) ⟨rfl, ⟨rfl, ⟨rfl, ⟨rfl, trivial⟩⟩⟩⟩ ?_
          exact ih20 _ _ _
        · refine g_iinc (v := (x3 + 1)) (lv' := [some (.ref (ad c)), some (.int x1), some (.int x2_1), some (.int (x3 + 1)), none, none, none, none]) C hnL iX0_follow_138 (by decide) rfl rfl rfl ?_
          refine g_goto C 20 iX0_follow_141 (by decide) ?_
          exact ih20 _ _ _
  refine L20 _ (fun h_3 => ?_) 1000 _ _ _
  show zG X ad shX eV 144 [none, none, none, none, none, none, none, none] [] h_3 _
  exact g_vret C iX0_follow_144 rfl

theorem fX1_130 : zFl RX1 130 4 10 := ⟨RX4, TX4, 16, rfl, by decide, (zmem 150 (by decide +kernel) (by decide +kernel)), u_inX4⟩
theorem iX1_heavyOf_9 : zI cX1_heavyOf 9 (.invokevirtual 126) 3 12 := ⟨by decide +kernel, rfl⟩
theorem iX1_heavyOf_12 : zI cX1_heavyOf 12 (.ireturn) 1 13 := ⟨by decide +kernel, rfl⟩
theorem iX1_heavyOf_8 : zI cX1_heavyOf 8 (.iload_n 1) 1 9 := ⟨by decide +kernel, rfl⟩
theorem iX1_heavyOf_5 : zI cX1_heavyOf 5 (.getfield 130) 3 8 := ⟨by decide +kernel, rfl⟩
theorem iX1_heavyOf_2 : zI cX1_heavyOf 2 (.getfield 33) 3 5 := ⟨by decide +kernel, rfl⟩
theorem iX1_heavyOf_1 : zI cX1_heavyOf 1 (.aload_n 0) 1 2 := ⟨by decide +kernel, rfl⟩
theorem iX1_heavyOf_0 : zI cX1_heavyOf 0 (.aload_n 0) 1 1 := ⟨by decide +kernel, rfl⟩
set_option maxHeartbeats 4000000 in
set_option maxRecDepth 100000 in
theorem m_Gr_heavyOf (g : Nat) (hg : isG g) (x1 : Int32) (h : zH) : zM yX1_heavyOf cX1_heavyOf 2 (some .int) 1 shX (fun ad => [.ref (ad g), .int x1]) h (eP h) (Gr_heavyOf g x1 h) := by
  refine zM.of (by decide) (fun _ => rfl) (fun _ => Nat.le_of_ble_eq_true rfl) (fun X ad hnL C => ?_)
  show zG X ad shX (eP h) 0 [some (.ref (ad g)), some (.int x1)] [] h _
  unfold Gr_heavyOf
  refine g_aload_n C iX1_heavyOf_0 rfl ?_
  refine g_aload_n C iX1_heavyOf_1 rfl ?_
  refine g_getR (b := 17) C fX1_33 iX1_heavyOf_2 hg.1 rfl ?_
  refine g_getR (b := 23) C fX1_130 iX1_heavyOf_5 isP17.1 rfl ?_
  refine g_iload_n C iX1_heavyOf_8 rfl ?_
  refine g_callV C wX1_126 iX1_heavyOf_9 (m_Gr_sumOfPlants g hg 23 isP17.2.2.2.2.2.2.1 x1 h) (by decide) hg.1 rfl rfl rfl rfl (Nat.le_of_ble_eq_true rfl) (fun r => ?_)
  show zG X ad shX (eP h) 12 [some (.ref (ad g)), some (.int x1)] [.int r] h _
  exact g_iret C iX1_heavyOf_12 rfl

theorem iX1_drop_5 : zI cX1_drop 5 (.invokestatic 102) 3 8 := ⟨by decide +kernel, rfl⟩
theorem iX1_drop_8 : zI cX1_drop 8 (.ifCond .eq 46) 3 11 := ⟨by decide +kernel, rfl⟩
theorem iX1_drop_54 : zI cX1_drop 54 (.return_) 1 55 := ⟨by decide +kernel, rfl⟩
theorem fX1_50 : zFl RX1 50 1 9 := ⟨RX1, TX1, 12, rfl, by decide, (zmem 223 (by decide +kernel) (by decide +kernel)), u_inX1⟩
theorem iX1_drop_17 : zI cX1_drop 17 (.if_icmp .ge 37) 3 20 := ⟨by decide +kernel, rfl⟩
theorem pX1_47 : zFp RX1 47 1 7 := ⟨RX1, TX1, 12, rfl, by decide, (zmem 218 (by decide +kernel) (by decide +kernel)), u_inX1, by decide +kernel, by decide +kernel, ⟨tyX1, tyX1_ok⟩, nmX1⟩
theorem fX1_27 : zFl RX1 27 1 8 := ⟨RX1, TX1, 12, rfl, by decide, (zmem 220 (by decide +kernel) (by decide +kernel)), u_inX1⟩
theorem pX1_50 : zFp RX1 50 1 9 := ⟨RX1, TX1, 12, rfl, by decide, (zmem 223 (by decide +kernel) (by decide +kernel)), u_inX1, by decide +kernel, by decide +kernel, ⟨tyX1, tyX1_ok⟩, nmX1⟩
theorem iX1_drop_51 : zI cX1_drop 51 (.putfield 50) 3 54 := ⟨by decide +kernel, rfl⟩
theorem iX1_drop_50 : zI cX1_drop 50 (.iadd) 1 51 := ⟨by decide +kernel, rfl⟩
theorem iX1_drop_49 : zI cX1_drop 49 (.iconst 1) 1 50 := ⟨by decide +kernel, rfl⟩
theorem iX1_drop_46 : zI cX1_drop 46 (.getfield 50) 3 49 := ⟨by decide +kernel, rfl⟩
theorem iX1_drop_45 : zI cX1_drop 45 (.dup) 1 46 := ⟨by decide +kernel, rfl⟩
theorem iX1_drop_44 : zI cX1_drop 44 (.aload_n 0) 1 45 := ⟨by decide +kernel, rfl⟩
theorem iX1_drop_43 : zI cX1_drop 43 (.iastore) 1 44 := ⟨by decide +kernel, rfl⟩
theorem iX1_drop_42 : zI cX1_drop 42 (.iload_n 1) 1 43 := ⟨by decide +kernel, rfl⟩
theorem iX1_drop_39 : zI cX1_drop 39 (.getfield 50) 3 42 := ⟨by decide +kernel, rfl⟩
theorem iX1_drop_38 : zI cX1_drop 38 (.aload_n 0) 1 39 := ⟨by decide +kernel, rfl⟩
theorem iX1_drop_35 : zI cX1_drop 35 (.getfield 27) 3 38 := ⟨by decide +kernel, rfl⟩
theorem iX1_drop_34 : zI cX1_drop 34 (.aload_n 0) 1 35 := ⟨by decide +kernel, rfl⟩
theorem iX1_drop_31 : zI cX1_drop 31 (.putfield 47) 3 34 := ⟨by decide +kernel, rfl⟩
theorem iX1_drop_30 : zI cX1_drop 30 (.iand) 1 31 := ⟨by decide +kernel, rfl⟩
theorem iX1_drop_29 : zI cX1_drop 29 (.ixor) 1 30 := ⟨by decide +kernel, rfl⟩
theorem iX1_drop_28 : zI cX1_drop 28 (.iconst (-1)) 1 29 := ⟨by decide +kernel, rfl⟩
theorem iX1_drop_27 : zI cX1_drop 27 (.ishl) 1 28 := ⟨by decide +kernel, rfl⟩
theorem iX1_drop_26 : zI cX1_drop 26 (.iload_n 1) 1 27 := ⟨by decide +kernel, rfl⟩
theorem iX1_drop_25 : zI cX1_drop 25 (.iconst 1) 1 26 := ⟨by decide +kernel, rfl⟩
theorem iX1_drop_22 : zI cX1_drop 22 (.getfield 47) 3 25 := ⟨by decide +kernel, rfl⟩
theorem iX1_drop_21 : zI cX1_drop 21 (.dup) 1 22 := ⟨by decide +kernel, rfl⟩
theorem iX1_drop_20 : zI cX1_drop 20 (.aload_n 0) 1 21 := ⟨by decide +kernel, rfl⟩
theorem iX1_drop_15 : zI cX1_drop 15 (.bipush 9) 2 17 := ⟨by decide +kernel, rfl⟩
theorem iX1_drop_12 : zI cX1_drop 12 (.getfield 50) 3 15 := ⟨by decide +kernel, rfl⟩
theorem iX1_drop_11 : zI cX1_drop 11 (.aload_n 0) 1 12 := ⟨by decide +kernel, rfl⟩
theorem iX1_drop_4 : zI cX1_drop 4 (.iload_n 1) 1 5 := ⟨by decide +kernel, rfl⟩
theorem iX1_drop_1 : zI cX1_drop 1 (.getfield 47) 3 4 := ⟨by decide +kernel, rfl⟩
theorem iX1_drop_0 : zI cX1_drop 0 (.aload_n 0) 1 1 := ⟨by decide +kernel, rfl⟩
set_option maxHeartbeats 4000000 in
set_option maxRecDepth 100000 in
theorem m_Gr_drop (g : Nat) (hg : isG g) (x1 : Int32) (h : zH) : zM yX1_drop cX1_drop 2 none 1 shX (fun ad => [.ref (ad g), .int x1]) h eV (Gr_drop g x1 h) := by
  refine zM.of (by decide) (fun _ => rfl) (fun _ => Nat.le_of_ble_eq_true rfl) (fun X ad hnL C => ?_)
  show zG X ad shX eV 0 [some (.ref (ad g)), some (.int x1)] [] h _
  unfold Gr_drop
  refine g_aload_n C iX1_drop_0 rfl ?_
  refine g_getI C fX1_47 iX1_drop_1 hg.1 rfl ?_
  refine g_iload_n C iX1_drop_4 rfl ?_
  refine g_callN C wX1_102 iX1_drop_5 (m_SS_has (h g 7) x1 h) (by decide) rfl rfl rfl (Nat.le_of_ble_eq_true rfl) (fun r => ?_)
  show zG X ad shX eV 8 [some (.ref (ad g)), some (.int x1)] [.int r] h _
  refine g_if_eq C 54 iX1_drop_8 (by decide) (fun c8 => ?_) (fun c8 => ?_)
  · exact g_vret C iX1_drop_54 rfl
  · refine g_aload_n C iX1_drop_11 rfl ?_
    refine g_getI C fX1_50 iX1_drop_12 hg.1 rfl ?_
    refine g_bipush C 9 iX1_drop_15 (by decide) ?_
    refine g_icmp_ge C 54 iX1_drop_17 (by decide) (fun c17 => ?_) (fun c17 => ?_)
    · exact g_vret C iX1_drop_54 rfl
    · refine g_aload_n C iX1_drop_20 rfl ?_
      refine g_dup C iX1_drop_21 rfl ?_
      refine g_getI C fX1_47 iX1_drop_22 hg.1 rfl ?_
      refine g_iconst C 1 iX1_drop_25 (by decide) ?_
      refine g_iload_n C iX1_drop_26 rfl ?_
      refine g_ishl C iX1_drop_27 ?_
      refine g_iconst C (-1) iX1_drop_28 (by decide) ?_
      refine g_ixor C iX1_drop_29 ?_
      refine g_iand C iX1_drop_30 ?_
      refine g_putI C pX1_47 iX1_drop_31 hg.1 rfl (fun h_1 => ?_)
      refine g_aload_n C iX1_drop_34 rfl ?_
      refine g_getR (b := (g + 6)) C fX1_27 iX1_drop_35 hg.1 rfl ?_
      refine g_aload_n C iX1_drop_38 rfl ?_
      refine g_getI C fX1_50 iX1_drop_39 hg.1 rfl ?_
      refine g_iload_n C iX1_drop_42 rfl ?_
      refine g_iastore C iX1_drop_43 hg.2.2.2.2.2.2.1 (fun h_2 => ?_)
      refine g_aload_n C iX1_drop_44 rfl ?_
      refine g_dup C iX1_drop_45 rfl ?_
      refine g_getI C fX1_50 iX1_drop_46 hg.1 rfl ?_
      refine g_iconst C 1 iX1_drop_49 (by decide) ?_
      refine g_iadd C iX1_drop_50 ?_
      refine g_putI C pX1_50 iX1_drop_51 hg.1 rfl (fun h_3 => ?_)
      exact g_vret C iX1_drop_54 rfl

theorem fX0_114 : zFl RX0 114 4 3 := ⟨RX4, TX4, 16, rfl, by decide, (zmem 132 (by decide +kernel) (by decide +kernel)), u_inX4⟩
theorem iX0_dropSet_10 : zI cX0_dropSet 10 (.if_icmp .ge 53) 3 13 := ⟨by decide +kernel, rfl⟩
set_option maxRecDepth 100000 in
theorem wX0_117 : zCn RX0 117 yX6_has cX6_has 2 (some .boolean) 2 := ⟨by decide +kernel, (zmem 63 (by decide +kernel) (by decide +kernel)), (zmem 426 rfl rfl), ⟨by decide, by decide, by decide +kernel⟩, by decide, (zmem 425 (by decide +kernel) (by decide +kernel))⟩
theorem iX0_dropSet_15 : zI cX0_dropSet 15 (.invokestatic 117) 3 18 := ⟨by decide +kernel, rfl⟩
theorem iX0_dropSet_18 : zI cX0_dropSet 18 (.ifCond .eq 39) 3 21 := ⟨by decide +kernel, rfl⟩
theorem iX0_dropSet_60 : zI cX0_dropSet 60 (.goto (-58)) 3 63 := ⟨by decide +kernel, rfl⟩
theorem iX0_dropSet_57 : zI cX0_dropSet 57 (.iinc 2 1) 3 60 := ⟨by decide +kernel, rfl⟩
set_option maxRecDepth 100000 in
theorem wX0_121 : zCv RX0 121 yX1_drop cX1_drop 2 none 1 := ⟨⟨(zmem 568 (by decide +kernel) (by decide +kernel)), (zmem 67 (by decide +kernel) (by decide +kernel)), (zmem 571 rfl rfl), ⟨by decide, by decide, by decide +kernel⟩, by decide⟩, (zmem 569 (by decide +kernel) (by decide +kernel)), (zmem 570 (by decide +kernel) (by decide +kernel))⟩
theorem iX0_dropSet_26 : zI cX0_dropSet 26 (.invokevirtual 121) 3 29 := ⟨by decide +kernel, rfl⟩
theorem fX0_19 : zFl RX0 19 0 2 := ⟨RX0, TX0, 5, rfl, by decide, (zmem 265 (by decide +kernel) (by decide +kernel)), u_inX0⟩
theorem fX0_23 : zFl RX0 23 0 3 := ⟨RX0, TX0, 5, rfl, by decide, (zmem 267 (by decide +kernel) (by decide +kernel)), u_inX0⟩
theorem fX0_124 : zFl RX0 124 4 12 := ⟨RX4, TX4, 16, rfl, by decide, (zmem 156 (by decide +kernel) (by decide +kernel)), u_inX4⟩
theorem iX0_dropSet_54 : zI cX0_dropSet 54 (.putfield 23) 3 57 := ⟨by decide +kernel, rfl⟩
theorem iX0_dropSet_53 : zI cX0_dropSet 53 (.iadd) 1 54 := ⟨by decide +kernel, rfl⟩
theorem iX0_dropSet_52 : zI cX0_dropSet 52 (.iaload) 1 53 := ⟨by decide +kernel, rfl⟩
theorem iX0_dropSet_51 : zI cX0_dropSet 51 (.iload_n 2) 1 52 := ⟨by decide +kernel, rfl⟩
theorem iX0_dropSet_48 : zI cX0_dropSet 48 (.getfield 124) 3 51 := ⟨by decide +kernel, rfl⟩
theorem iX0_dropSet_45 : zI cX0_dropSet 45 (.getfield 9) 3 48 := ⟨by decide +kernel, rfl⟩
theorem iX0_dropSet_44 : zI cX0_dropSet 44 (.aload_n 0) 1 45 := ⟨by decide +kernel, rfl⟩
theorem iX0_dropSet_41 : zI cX0_dropSet 41 (.getfield 23) 3 44 := ⟨by decide +kernel, rfl⟩
theorem iX0_dropSet_40 : zI cX0_dropSet 40 (.dup) 1 41 := ⟨by decide +kernel, rfl⟩
theorem iX0_dropSet_39 : zI cX0_dropSet 39 (.aload_n 0) 1 40 := ⟨by decide +kernel, rfl⟩
theorem iX0_dropSet_36 : zI cX0_dropSet 36 (.putfield 19) 3 39 := ⟨by decide +kernel, rfl⟩
theorem iX0_dropSet_35 : zI cX0_dropSet 35 (.iadd) 1 36 := ⟨by decide +kernel, rfl⟩
theorem iX0_dropSet_34 : zI cX0_dropSet 34 (.iconst 1) 1 35 := ⟨by decide +kernel, rfl⟩
theorem iX0_dropSet_31 : zI cX0_dropSet 31 (.getfield 19) 3 34 := ⟨by decide +kernel, rfl⟩
theorem iX0_dropSet_30 : zI cX0_dropSet 30 (.dup) 1 31 := ⟨by decide +kernel, rfl⟩
theorem iX0_dropSet_29 : zI cX0_dropSet 29 (.aload_n 0) 1 30 := ⟨by decide +kernel, rfl⟩
theorem iX0_dropSet_25 : zI cX0_dropSet 25 (.iload_n 2) 1 26 := ⟨by decide +kernel, rfl⟩
theorem iX0_dropSet_22 : zI cX0_dropSet 22 (.getfield 15) 3 25 := ⟨by decide +kernel, rfl⟩
theorem iX0_dropSet_21 : zI cX0_dropSet 21 (.aload_n 0) 1 22 := ⟨by decide +kernel, rfl⟩
theorem iX0_dropSet_14 : zI cX0_dropSet 14 (.iload_n 2) 1 15 := ⟨by decide +kernel, rfl⟩
theorem iX0_dropSet_13 : zI cX0_dropSet 13 (.iload_n 1) 1 14 := ⟨by decide +kernel, rfl⟩
theorem iX0_dropSet_7 : zI cX0_dropSet 7 (.getfield 114) 3 10 := ⟨by decide +kernel, rfl⟩
theorem iX0_dropSet_4 : zI cX0_dropSet 4 (.getfield 9) 3 7 := ⟨by decide +kernel, rfl⟩
theorem iX0_dropSet_3 : zI cX0_dropSet 3 (.aload_n 0) 1 4 := ⟨by decide +kernel, rfl⟩
theorem iX0_dropSet_2 : zI cX0_dropSet 2 (.iload_n 2) 1 3 := ⟨by decide +kernel, rfl⟩
theorem iX0_dropSet_63 : zI cX0_dropSet 63 (.return_) 1 64 := ⟨by decide +kernel, rfl⟩
theorem iX0_dropSet_1 : zI cX0_dropSet 1 (.istore_n 2) 1 2 := ⟨by decide +kernel, rfl⟩
theorem iX0_dropSet_0 : zI cX0_dropSet 0 (.iconst 0) 1 1 := ⟨by decide +kernel, rfl⟩
set_option maxHeartbeats 4000000 in
set_option maxRecDepth 100000 in
theorem m_Co_dropSet (c g : Nat) (hc : isC c g) (hg : isG g) (x1 : Int32) (h : zH) : zM yX0_dropSet cX0_dropSet 3 none 2 shX (fun ad => [.ref (ad c), .int x1]) h eV (Co_dropSet c g x1 h) := by
  refine zM.of (by decide) (fun _ => rfl) (fun _ => Nat.le_of_ble_eq_true rfl) (fun X ad hnL C => ?_)
  show zG X ad shX eV 0 [some (.ref (ad c)), some (.int x1), none] [] h _
  unfold Co_dropSet
  refine g_iconst C 0 iX0_dropSet_0 (by decide) ?_
  refine g_istore_n (lv' := [some (.ref (ad c)), some (.int x1), some (.int 0)]) C hnL iX0_dropSet_1 (by decide) rfl ?_
  have L2 : ∀ (k63 : zH → Option (zH)), (∀ (hy : zH), zG X ad shX eV 63 [none, none, none] [] hy (k63 hy)) → ∀ (n : Nat) (x2 : Int32) (h_1 : zH), zG X ad shX eV 2 [some (.ref (ad c)), some (.int x1), some (.int x2)] [] h_1 (Co_dropSet_L2 c g x1 k63 n x2 h_1) := by
    intro k63 hk63 n
    induction n with
    | zero =>
      intro x2 h_1
      exact g_none
    | succ n ih2 =>
      intro x2 h_1
      rw [Co_dropSet_L2]
      refine g_iload_n C iX0_dropSet_2 rfl ?_
      refine g_aload_n C iX0_dropSet_3 rfl ?_
      refine g_getR (b := 17) C fX0_9 iX0_dropSet_4 hc rfl ?_
      refine g_getI C fX0_114 iX0_dropSet_7 isP17.1 rfl ?_
      refine g_icmp_ge C 63 iX0_dropSet_10 (by decide) (fun c10 => ?_) (fun c10 => ?_)
      · refine g_sub (lv' := [none, none, none]) trivial ?_
        exact hk63 _
      · refine g_iload_n C iX0_dropSet_13 rfl ?_
        refine g_iload_n C iX0_dropSet_14 rfl ?_
        refine g_callN C wX0_117 iX0_dropSet_15 (m_SS_has x1 x2 h_1) (by decide) rfl rfl rfl (Nat.le_of_ble_eq_true rfl) (fun r => ?_)
        show zG X ad shX eV 18 [some (.ref (ad c)), some (.int x1), some (.int x2)] [.int r] h_1 _
        refine g_if_eq C 57 iX0_dropSet_18 (by decide) (fun c18 => ?_) (fun c18 => ?_)
        · refine g_iinc (v := (x2 + 1)) (lv' := [some (.ref (ad c)), some (.int x1), some (.int (x2 + 1))]) C hnL iX0_dropSet_57 (by decide) rfl rfl rfl ?_
          refine g_goto C 2 iX0_dropSet_60 (by decide) ?_
          exact ih2 _ _
        · refine g_aload_n C iX0_dropSet_21 rfl ?_
          refine g_getR (b := g) C fX0_15 iX0_dropSet_22 hc rfl ?_
          refine g_iload_n C iX0_dropSet_25 rfl ?_
          refine g_callV C wX0_121 iX0_dropSet_26 (m_Gr_drop g hg x2 h_1) (by decide) hg.1 rfl rfl rfl rfl (Nat.le_of_ble_eq_true rfl) (fun h_2 => ?_)
          show zG X ad shX eV 29 [some (.ref (ad c)), some (.int x1), some (.int x2)] [] h_2 _
          refine g_aload_n C iX0_dropSet_29 rfl ?_
          refine g_dup C iX0_dropSet_30 rfl ?_
          refine g_getI C fX0_19 iX0_dropSet_31 hc rfl ?_
          refine g_iconst C 1 iX0_dropSet_34 (by decide) ?_
          refine g_iadd C iX0_dropSet_35 ?_
          refine g_putI C pX0_19 iX0_dropSet_36 hc rfl (fun h_3 => ?_)
          refine g_aload_n C iX0_dropSet_39 rfl ?_
          refine g_dup C iX0_dropSet_40 rfl ?_
          refine g_getI C fX0_23 iX0_dropSet_41 hc rfl ?_
          refine g_aload_n C iX0_dropSet_44 rfl ?_
          refine g_getR (b := 17) C fX0_9 iX0_dropSet_45 hc rfl ?_
          refine g_getR (b := 25) C fX0_124 iX0_dropSet_48 isP17.1 rfl ?_
          refine g_iload_n C iX0_dropSet_51 rfl ?_
          refine g_iaload C iX0_dropSet_52 isP17.2.2.2.2.2.2.2.2.1 ?_
          refine g_iadd C iX0_dropSet_53 ?_
          refine g_putI C pX0_23 iX0_dropSet_54 hc rfl (fun h_4 => ?_)
          refine g_iinc (v := (x2 + 1)) (lv' := [some (.ref (ad c)), some (.int x1), some (.int (x2 + 1))]) C hnL iX0_dropSet_57 (by decide) rfl rfl rfl ?_
          refine g_goto C 2 iX0_dropSet_60 (by decide) ?_
          exact ih2 _ _
  refine L2 _ (fun h_5 => ?_) 1000 _ _
  show zG X ad shX eV 63 [none, none, none] [] h_5 _
  exact g_vret C iX0_dropSet_63 rfl

theorem fX0_67 : zFl RX0 67 1 4 := ⟨RX1, TX1, 12, rfl, by decide, (zmem 210 (by decide +kernel) (by decide +kernel)), u_inX1⟩
set_option maxRecDepth 100000 in
theorem wX0_107 : zCv RX0 107 yX1_feederBits cX1_feederBits 5 (some .int) 2 := ⟨⟨(zmem 562 (by decide +kernel) (by decide +kernel)), (zmem 67 (by decide +kernel) (by decide +kernel)), (zmem 445 rfl rfl), ⟨by decide, by decide, by decide +kernel⟩, by decide⟩, (zmem 443 (by decide +kernel) (by decide +kernel)), (zmem 444 (by decide +kernel) (by decide +kernel))⟩
theorem iX0_darken_17 : zI cX0_darken 17 (.invokevirtual 107) 3 20 := ⟨by decide +kernel, rfl⟩
set_option maxRecDepth 100000 in
theorem wX0_111 : zCv RX0 111 yX0_dropSet cX0_dropSet 3 none 1 := ⟨⟨(zmem 563 (by decide +kernel) (by decide +kernel)), (zmem 68 (by decide +kernel) (by decide +kernel)), (zmem 566 rfl rfl), ⟨by decide, by decide, by decide +kernel⟩, by decide⟩, (zmem 565 (by decide +kernel) (by decide +kernel)), (zmem 8 (by decide +kernel) (by decide +kernel))⟩
theorem iX0_darken_20 : zI cX0_darken 20 (.invokevirtual 111) 3 23 := ⟨by decide +kernel, rfl⟩
theorem iX0_darken_33 : zI cX0_darken 33 (.if_icmp .ge 40) 3 36 := ⟨by decide +kernel, rfl⟩
theorem iX0_darken_54 : zI cX0_darken 54 (.if_icmp .ne 13) 3 57 := ⟨by decide +kernel, rfl⟩
theorem iX0_darken_70 : zI cX0_darken 70 (.goto (-45)) 3 73 := ⟨by decide +kernel, rfl⟩
theorem iX0_darken_67 : zI cX0_darken 67 (.iinc 2 1) 3 70 := ⟨by decide +kernel, rfl⟩
theorem iX0_darken_66 : zI cX0_darken 66 (.iastore) 1 67 := ⟨by decide +kernel, rfl⟩
theorem iX0_darken_65 : zI cX0_darken 65 (.iconst 0) 1 66 := ⟨by decide +kernel, rfl⟩
theorem iX0_darken_64 : zI cX0_darken 64 (.iload_n 2) 1 65 := ⟨by decide +kernel, rfl⟩
theorem iX0_darken_61 : zI cX0_darken 61 (.getfield 95) 3 64 := ⟨by decide +kernel, rfl⟩
theorem iX0_darken_58 : zI cX0_darken 58 (.getfield 15) 3 61 := ⟨by decide +kernel, rfl⟩
theorem iX0_darken_57 : zI cX0_darken 57 (.aload_n 0) 1 58 := ⟨by decide +kernel, rfl⟩
theorem iX0_darken_53 : zI cX0_darken 53 (.iload_n 1) 1 54 := ⟨by decide +kernel, rfl⟩
theorem iX0_darken_52 : zI cX0_darken 52 (.iaload) 1 53 := ⟨by decide +kernel, rfl⟩
theorem iX0_darken_51 : zI cX0_darken 51 (.iaload) 1 52 := ⟨by decide +kernel, rfl⟩
theorem iX0_darken_50 : zI cX0_darken 50 (.iload_n 2) 1 51 := ⟨by decide +kernel, rfl⟩
theorem iX0_darken_47 : zI cX0_darken 47 (.getfield 92) 3 50 := ⟨by decide +kernel, rfl⟩
theorem iX0_darken_44 : zI cX0_darken 44 (.getfield 9) 3 47 := ⟨by decide +kernel, rfl⟩
theorem iX0_darken_43 : zI cX0_darken 43 (.aload_n 0) 1 44 := ⟨by decide +kernel, rfl⟩
theorem iX0_darken_40 : zI cX0_darken 40 (.getfield 39) 3 43 := ⟨by decide +kernel, rfl⟩
theorem iX0_darken_37 : zI cX0_darken 37 (.getfield 15) 3 40 := ⟨by decide +kernel, rfl⟩
theorem iX0_darken_36 : zI cX0_darken 36 (.aload_n 0) 1 37 := ⟨by decide +kernel, rfl⟩
theorem iX0_darken_30 : zI cX0_darken 30 (.getfield 89) 3 33 := ⟨by decide +kernel, rfl⟩
theorem iX0_darken_27 : zI cX0_darken 27 (.getfield 9) 3 30 := ⟨by decide +kernel, rfl⟩
theorem iX0_darken_26 : zI cX0_darken 26 (.aload_n 0) 1 27 := ⟨by decide +kernel, rfl⟩
theorem iX0_darken_25 : zI cX0_darken 25 (.iload_n 2) 1 26 := ⟨by decide +kernel, rfl⟩
theorem iX0_darken_73 : zI cX0_darken 73 (.return_) 1 74 := ⟨by decide +kernel, rfl⟩
theorem iX0_darken_24 : zI cX0_darken 24 (.istore_n 2) 1 25 := ⟨by decide +kernel, rfl⟩
theorem iX0_darken_23 : zI cX0_darken 23 (.iconst 0) 1 24 := ⟨by decide +kernel, rfl⟩
theorem iX0_darken_16 : zI cX0_darken 16 (.iconst 1) 1 17 := ⟨by decide +kernel, rfl⟩
theorem iX0_darken_15 : zI cX0_darken 15 (.iload_n 1) 1 16 := ⟨by decide +kernel, rfl⟩
theorem iX0_darken_12 : zI cX0_darken 12 (.getfield 15) 3 15 := ⟨by decide +kernel, rfl⟩
theorem iX0_darken_11 : zI cX0_darken 11 (.aload_n 0) 1 12 := ⟨by decide +kernel, rfl⟩
theorem iX0_darken_10 : zI cX0_darken 10 (.aload_n 0) 1 11 := ⟨by decide +kernel, rfl⟩
theorem iX0_darken_9 : zI cX0_darken 9 (.iastore) 1 10 := ⟨by decide +kernel, rfl⟩
theorem iX0_darken_8 : zI cX0_darken 8 (.iconst 0) 1 9 := ⟨by decide +kernel, rfl⟩
theorem iX0_darken_7 : zI cX0_darken 7 (.iload_n 1) 1 8 := ⟨by decide +kernel, rfl⟩
theorem iX0_darken_4 : zI cX0_darken 4 (.getfield 67) 3 7 := ⟨by decide +kernel, rfl⟩
theorem iX0_darken_1 : zI cX0_darken 1 (.getfield 15) 3 4 := ⟨by decide +kernel, rfl⟩
theorem iX0_darken_0 : zI cX0_darken 0 (.aload_n 0) 1 1 := ⟨by decide +kernel, rfl⟩
set_option maxHeartbeats 4000000 in
set_option maxRecDepth 100000 in
theorem m_Co_darken (c g : Nat) (hc : isC c g) (hg : isG g) (x1 : Int32) (h : zH) : zM yX0_darken cX0_darken 3 none 3 shX (fun ad => [.ref (ad c), .int x1]) h eV (Co_darken c g x1 h) := by
  refine zM.of (by decide) (fun _ => rfl) (fun _ => Nat.le_of_ble_eq_true rfl) (fun X ad hnL C => ?_)
  show zG X ad shX eV 0 [some (.ref (ad c)), some (.int x1), none] [] h _
  unfold Co_darken
  refine g_aload_n C iX0_darken_0 rfl ?_
  refine g_getR (b := g) C fX0_15 iX0_darken_1 hc rfl ?_
  refine g_getR (b := (g + 3)) C fX0_67 iX0_darken_4 hg.1 rfl ?_
  refine g_iload_n C iX0_darken_7 rfl ?_
  refine g_iconst C 0 iX0_darken_8 (by decide) ?_
  refine g_iastore C iX0_darken_9 hg.2.2.2.1 (fun h_1 => ?_)
  refine g_aload_n C iX0_darken_10 rfl ?_
  refine g_aload_n C iX0_darken_11 rfl ?_
  refine g_getR (b := g) C fX0_15 iX0_darken_12 hc rfl ?_
  refine g_iload_n C iX0_darken_15 rfl ?_
  refine g_iconst C 1 iX0_darken_16 (by decide) ?_
  refine g_callV C wX0_107 iX0_darken_17 (m_Gr_feederBits g hg x1 1 h_1) (by decide) hg.1 rfl rfl rfl rfl (Nat.le_of_ble_eq_true rfl) (fun r => ?_)
  show zG X ad shX eV 20 [some (.ref (ad c)), some (.int x1), none] [.int r, .ref (ad c)] h_1 _
  refine g_callV C wX0_111 iX0_darken_20 (m_Co_dropSet c g hc hg r h_1) (by decide) hc rfl rfl rfl rfl (Nat.le_of_ble_eq_true rfl) (fun h_2 => ?_)
  show zG X ad shX eV 23 [some (.ref (ad c)), some (.int x1), none] [] h_2 _
  refine g_iconst C 0 iX0_darken_23 (by decide) ?_
  refine g_istore_n (lv' := [some (.ref (ad c)), some (.int x1), some (.int 0)]) C hnL iX0_darken_24 (by decide) rfl ?_
  have L25 : ∀ (k73 : zH → Option (zH)), (∀ (hy : zH), zG X ad shX eV 73 [none, none, none] [] hy (k73 hy)) → ∀ (n : Nat) (x2 : Int32) (h_3 : zH), zG X ad shX eV 25 [some (.ref (ad c)), some (.int x1), some (.int x2)] [] h_3 (Co_darken_L25 g x1 k73 n x2 h_3) := by
    intro k73 hk73 n
    induction n with
    | zero =>
      intro x2 h_3
      exact g_none
    | succ n ih25 =>
      intro x2 h_3
      rw [Co_darken_L25]
      refine g_iload_n C iX0_darken_25 rfl ?_
      refine g_aload_n C iX0_darken_26 rfl ?_
      refine g_getR (b := 17) C fX0_9 iX0_darken_27 hc rfl ?_
      refine g_getI C fX0_89 iX0_darken_30 isP17.1 rfl ?_
      refine g_icmp_ge C 73 iX0_darken_33 (by decide) (fun c33 => ?_) (fun c33 => ?_)
      · refine g_sub (lv' := [none, none, none]) trivial ?_
        exact hk73 _
      · refine g_aload_n C iX0_darken_36 rfl ?_
        refine g_getR (b := g) C fX0_15 iX0_darken_37 hc rfl ?_
        refine g_getR (b := (g + 1)) C fX0_39 iX0_darken_40 hg.1 rfl ?_
        refine g_aload_n C iX0_darken_43 rfl ?_
        refine g_getR (b := 17) C fX0_9 iX0_darken_44 hc rfl ?_
        refine g_getR (b := 20) C fX0_92 iX0_darken_47 isP17.1 rfl ?_
        refine g_iload_n C iX0_darken_50 rfl ?_
        refine g_iaload C iX0_darken_51 isP17.2.2.2.1 ?_
        refine g_iaload C iX0_darken_52 hg.2.1 ?_
        refine g_iload_n C iX0_darken_53 rfl ?_
        refine g_icmp_ne C 67 iX0_darken_54 (by decide) (fun c54 => ?_) (fun c54 => ?_)
        · refine g_aload_n C iX0_darken_57 rfl ?_
          refine g_getR (b := g) C fX0_15 iX0_darken_58 hc rfl ?_
          refine g_getR (b := (g + 5)) C fX0_95 iX0_darken_61 hg.1 rfl ?_
          refine g_iload_n C iX0_darken_64 rfl ?_
          refine g_iconst C 0 iX0_darken_65 (by decide) ?_
          refine g_iastore C iX0_darken_66 hg.2.2.2.2.2.1 (fun h_4 => ?_)
          refine g_iinc (v := (x2 + 1)) (lv' := [some (.ref (ad c)), some (.int x1), some (.int (x2 + 1))]) C hnL iX0_darken_67 (by decide) rfl rfl rfl ?_
          refine g_goto C 25 iX0_darken_70 (by decide) ?_
          exact ih25 _ _
        · refine g_iinc (v := (x2 + 1)) (lv' := [some (.ref (ad c)), some (.int x1), some (.int (x2 + 1))]) C hnL iX0_darken_67 (by decide) rfl rfl rfl ?_
          refine g_goto C 25 iX0_darken_70 (by decide) ?_
          exact ih25 _ _
  refine L25 _ (fun h_5 => ?_) 1000 _ _
  show zG X ad shX eV 73 [none, none, none] [] h_5 _
  exact g_vret C iX0_darken_73 rfl

theorem iX0_onOfStage_6 : zI cX0_onOfStage 6 (.invokevirtual 107) 3 9 := ⟨by decide +kernel, rfl⟩
theorem iX0_onOfStage_22 : zI cX0_onOfStage 22 (.if_icmp .ge 32) 3 25 := ⟨by decide +kernel, rfl⟩
theorem fX0_139 : zFl RX0 139 4 13 := ⟨RX4, TX4, 16, rfl, by decide, (zmem 158 (by decide +kernel) (by decide +kernel)), u_inX4⟩
theorem iX0_onOfStage_36 : zI cX0_onOfStage 36 (.if_icmp .eq 12) 3 39 := ⟨by decide +kernel, rfl⟩
theorem iX0_onOfStage_51 : zI cX0_onOfStage 51 (.goto (-38)) 3 54 := ⟨by decide +kernel, rfl⟩
theorem iX0_onOfStage_48 : zI cX0_onOfStage 48 (.iinc 4 1) 3 51 := ⟨by decide +kernel, rfl⟩
theorem iX0_onOfStage_47 : zI cX0_onOfStage 47 (.istore_n 3) 1 48 := ⟨by decide +kernel, rfl⟩
theorem iX0_onOfStage_46 : zI cX0_onOfStage 46 (.iand) 1 47 := ⟨by decide +kernel, rfl⟩
theorem iX0_onOfStage_45 : zI cX0_onOfStage 45 (.ixor) 1 46 := ⟨by decide +kernel, rfl⟩
theorem iX0_onOfStage_44 : zI cX0_onOfStage 44 (.iconst (-1)) 1 45 := ⟨by decide +kernel, rfl⟩
theorem iX0_onOfStage_43 : zI cX0_onOfStage 43 (.ishl) 1 44 := ⟨by decide +kernel, rfl⟩
theorem iX0_onOfStage_41 : zI cX0_onOfStage 41 (.iload 4) 2 43 := ⟨by decide +kernel, rfl⟩
theorem iX0_onOfStage_40 : zI cX0_onOfStage 40 (.iconst 1) 1 41 := ⟨by decide +kernel, rfl⟩
theorem iX0_onOfStage_39 : zI cX0_onOfStage 39 (.iload_n 3) 1 40 := ⟨by decide +kernel, rfl⟩
theorem iX0_onOfStage_35 : zI cX0_onOfStage 35 (.iload_n 2) 1 36 := ⟨by decide +kernel, rfl⟩
theorem iX0_onOfStage_34 : zI cX0_onOfStage 34 (.iaload) 1 35 := ⟨by decide +kernel, rfl⟩
theorem iX0_onOfStage_32 : zI cX0_onOfStage 32 (.iload 4) 2 34 := ⟨by decide +kernel, rfl⟩
theorem iX0_onOfStage_29 : zI cX0_onOfStage 29 (.getfield 139) 3 32 := ⟨by decide +kernel, rfl⟩
theorem iX0_onOfStage_26 : zI cX0_onOfStage 26 (.getfield 9) 3 29 := ⟨by decide +kernel, rfl⟩
theorem iX0_onOfStage_25 : zI cX0_onOfStage 25 (.aload_n 0) 1 26 := ⟨by decide +kernel, rfl⟩
theorem iX0_onOfStage_19 : zI cX0_onOfStage 19 (.getfield 114) 3 22 := ⟨by decide +kernel, rfl⟩
theorem iX0_onOfStage_16 : zI cX0_onOfStage 16 (.getfield 9) 3 19 := ⟨by decide +kernel, rfl⟩
theorem iX0_onOfStage_15 : zI cX0_onOfStage 15 (.aload_n 0) 1 16 := ⟨by decide +kernel, rfl⟩
theorem iX0_onOfStage_13 : zI cX0_onOfStage 13 (.iload 4) 2 15 := ⟨by decide +kernel, rfl⟩
theorem iX0_onOfStage_55 : zI cX0_onOfStage 55 (.ireturn) 1 56 := ⟨by decide +kernel, rfl⟩
theorem iX0_onOfStage_54 : zI cX0_onOfStage 54 (.iload_n 3) 1 55 := ⟨by decide +kernel, rfl⟩
theorem iX0_onOfStage_11 : zI cX0_onOfStage 11 (.istore 4) 2 13 := ⟨by decide +kernel, rfl⟩
theorem iX0_onOfStage_10 : zI cX0_onOfStage 10 (.iconst 0) 1 11 := ⟨by decide +kernel, rfl⟩
theorem iX0_onOfStage_9 : zI cX0_onOfStage 9 (.istore_n 3) 1 10 := ⟨by decide +kernel, rfl⟩
theorem iX0_onOfStage_5 : zI cX0_onOfStage 5 (.iconst 1) 1 6 := ⟨by decide +kernel, rfl⟩
theorem iX0_onOfStage_4 : zI cX0_onOfStage 4 (.iload_n 1) 1 5 := ⟨by decide +kernel, rfl⟩
theorem iX0_onOfStage_1 : zI cX0_onOfStage 1 (.getfield 15) 3 4 := ⟨by decide +kernel, rfl⟩
theorem iX0_onOfStage_0 : zI cX0_onOfStage 0 (.aload_n 0) 1 1 := ⟨by decide +kernel, rfl⟩
set_option maxHeartbeats 4000000 in
set_option maxRecDepth 100000 in
theorem m_Co_onOfStage (c g : Nat) (hc : isC c g) (hg : isG g) (x1 : Int32) (x2 : Int32) (h : zH) : zM yX0_onOfStage cX0_onOfStage 5 (some .int) 2 shX (fun ad => [.ref (ad c), .int x1, .int x2]) h (eP h) (Co_onOfStage c g x1 x2 h) := by
  refine zM.of (by decide) (fun _ => rfl) (fun _ => Nat.le_of_ble_eq_true rfl) (fun X ad hnL C => ?_)
  show zG X ad shX (eP h) 0 [some (.ref (ad c)), some (.int x1), some (.int x2), none, none] [] h _
  unfold Co_onOfStage
  refine g_aload_n C iX0_onOfStage_0 rfl ?_
  refine g_getR (b := g) C fX0_15 iX0_onOfStage_1 hc rfl ?_
  refine g_iload_n C iX0_onOfStage_4 rfl ?_
  refine g_iconst C 1 iX0_onOfStage_5 (by decide) ?_
  refine g_callV C wX0_107 iX0_onOfStage_6 (m_Gr_feederBits g hg x1 1 h) (by decide) hg.1 rfl rfl rfl rfl (Nat.le_of_ble_eq_true rfl) (fun r => ?_)
  show zG X ad shX (eP h) 9 [some (.ref (ad c)), some (.int x1), some (.int x2), none, none] [.int r] h _
  refine g_istore_n (lv' := [some (.ref (ad c)), some (.int x1), some (.int x2), some (.int r), none]) C hnL iX0_onOfStage_9 (by decide) rfl ?_
  refine g_iconst C 0 iX0_onOfStage_10 (by decide) ?_
  refine g_istore (lv' := [some (.ref (ad c)), some (.int x1), some (.int x2), some (.int r), some (.int 0)]) C hnL iX0_onOfStage_11 (by decide) rfl ?_
  have L13 : ∀ (k54 : Int32 → Option (Int32)), (∀ (y3 : Int32), zG X ad shX (eP h) 54 [none, none, none, some (.int y3), none] [] h (k54 y3)) → ∀ (n : Nat) (x3 x4 : Int32), zG X ad shX (eP h) 13 [some (.ref (ad c)), none, some (.int x2), some (.int x3), some (.int x4)] [] h (Co_onOfStage_L13 x2 h k54 n x3 x4) := by
    intro k54 hk54 n
    induction n with
    | zero =>
      intro x3 x4
      exact g_none
    | succ n ih13 =>
      intro x3 x4
      rw [Co_onOfStage_L13]
      refine g_iload C iX0_onOfStage_13 rfl ?_
      refine g_aload_n C iX0_onOfStage_15 rfl ?_
      refine g_getR (b := 17) C fX0_9 iX0_onOfStage_16 hc rfl ?_
      refine g_getI C fX0_114 iX0_onOfStage_19 isP17.1 rfl ?_
      refine g_icmp_ge C 54 iX0_onOfStage_22 (by decide) (fun c22 => ?_) (fun c22 => ?_)
      · refine g_sub (lv' := [none, none, none, some (.int x3), none]) ⟨rfl, trivial⟩ ?_
        exact hk54 _
      · refine g_aload_n C iX0_onOfStage_25 rfl ?_
        refine g_getR (b := 17) C fX0_9 iX0_onOfStage_26 hc rfl ?_
        refine g_getR (b := 26) C fX0_139 iX0_onOfStage_29 isP17.1 rfl ?_
        refine g_iload C iX0_onOfStage_32 rfl ?_
        refine g_iaload C iX0_onOfStage_34 isP17.2.2.2.2.2.2.2.2.2.1 ?_
        refine g_iload_n C iX0_onOfStage_35 rfl ?_
        refine g_icmp_eq C 48 iX0_onOfStage_36 (by decide) (fun c36 => ?_) (fun c36 => ?_)
        · refine g_iinc (v := (x4 + 1)) (lv' := [some (.ref (ad c)), none, some (.int x2), some (.int x3), some (.int (x4 + 1))]) C hnL iX0_onOfStage_48 (by decide) rfl rfl rfl ?_
          refine g_goto C 13 iX0_onOfStage_51 (by decide) ?_
          exact ih13 _ _
        · refine g_iload_n C iX0_onOfStage_39 rfl ?_
          refine g_iconst C 1 iX0_onOfStage_40 (by decide) ?_
          refine g_iload C iX0_onOfStage_41 rfl ?_
          refine g_ishl C iX0_onOfStage_43 ?_
          refine g_iconst C (-1) iX0_onOfStage_44 (by decide) ?_
          refine g_ixor C iX0_onOfStage_45 ?_
          refine g_iand C iX0_onOfStage_46 ?_
          refine g_top (fun x3_1 => ?_)
          refine g_istore_n (lv' := [some (.ref (ad c)), none, some (.int x2), some (.int x3_1), some (.int x4)]) C hnL iX0_onOfStage_47 (by decide) rfl ?_
          refine g_iinc (v := (x4 + 1)) (lv' := [some (.ref (ad c)), none, some (.int x2), some (.int x3_1), some (.int (x4 + 1))]) C hnL iX0_onOfStage_48 (by decide) rfl rfl rfl ?_
          refine g_goto C 13 iX0_onOfStage_51 (by decide) ?_
          exact ih13 _ _
  refine g_sub (lv' := [some (.ref (ad c)), none, some (.int x2), some (.int r), some (.int 0)]) ⟨rfl, ⟨rfl, ⟨rfl, ⟨rfl, trivial⟩⟩⟩⟩ ?_
  refine L13 _ (fun x3_2 => ?_) 1000 _ _
  show zG X ad shX (eP h) 54 [none, none, none, some (.int x3_2), none] [] h _
  refine g_iload_n C iX0_onOfStage_54 rfl ?_
  exact g_iret C iX0_onOfStage_55 rfl

theorem fX0_127 : zFl RX0 127 1 5 := ⟨RX1, TX1, 12, rfl, by decide, (zmem 213 (by decide +kernel) (by decide +kernel)), u_inX1⟩
theorem fX0_130 : zFl RX0 130 1 10 := ⟨RX1, TX1, 12, rfl, by decide, (zmem 227 (by decide +kernel) (by decide +kernel)), u_inX1⟩
theorem fX0_133 : zFl RX0 133 4 15 := ⟨RX4, TX4, 16, rfl, by decide, (zmem 162 (by decide +kernel) (by decide +kernel)), u_inX4⟩
theorem iX0_passStage_70 : zI cX0_passStage 70 (.if_icmp .lt 32) 3 73 := ⟨by decide +kernel, rfl⟩
theorem iX0_passStage_102 : zI cX0_passStage 102 (.return_) 1 103 := ⟨by decide +kernel, rfl⟩
set_option maxRecDepth 100000 in
theorem wX0_136 : zCv RX0 136 yX0_onOfStage cX0_onOfStage 5 (some .int) 2 := ⟨⟨(zmem 577 (by decide +kernel) (by decide +kernel)), (zmem 68 (by decide +kernel) (by decide +kernel)), (zmem 580 rfl rfl), ⟨by decide, by decide, by decide +kernel⟩, by decide⟩, (zmem 579 (by decide +kernel) (by decide +kernel)), (zmem 10 (by decide +kernel) (by decide +kernel))⟩
theorem iX0_passStage_76 : zI cX0_passStage 76 (.invokevirtual 136) 3 79 := ⟨by decide +kernel, rfl⟩
theorem iX0_passStage_83 : zI cX0_passStage 83 (.ifCond .eq 19) 3 86 := ⟨by decide +kernel, rfl⟩
theorem iX0_passStage_89 : zI cX0_passStage 89 (.invokevirtual 111) 3 92 := ⟨by decide +kernel, rfl⟩
theorem iX0_passStage_101 : zI cX0_passStage 101 (.iastore) 1 102 := ⟨by decide +kernel, rfl⟩
theorem iX0_passStage_100 : zI cX0_passStage 100 (.iconst 0) 1 101 := ⟨by decide +kernel, rfl⟩
theorem iX0_passStage_99 : zI cX0_passStage 99 (.iload_n 3) 1 100 := ⟨by decide +kernel, rfl⟩
theorem iX0_passStage_96 : zI cX0_passStage 96 (.getfield 127) 3 99 := ⟨by decide +kernel, rfl⟩
theorem iX0_passStage_93 : zI cX0_passStage 93 (.getfield 15) 3 96 := ⟨by decide +kernel, rfl⟩
theorem iX0_passStage_92 : zI cX0_passStage 92 (.aload_n 0) 1 93 := ⟨by decide +kernel, rfl⟩
theorem iX0_passStage_87 : zI cX0_passStage 87 (.iload 4) 2 89 := ⟨by decide +kernel, rfl⟩
theorem iX0_passStage_86 : zI cX0_passStage 86 (.aload_n 0) 1 87 := ⟨by decide +kernel, rfl⟩
theorem iX0_passStage_81 : zI cX0_passStage 81 (.iload 4) 2 83 := ⟨by decide +kernel, rfl⟩
theorem iX0_passStage_79 : zI cX0_passStage 79 (.istore 4) 2 81 := ⟨by decide +kernel, rfl⟩
theorem iX0_passStage_75 : zI cX0_passStage 75 (.iload_n 2) 1 76 := ⟨by decide +kernel, rfl⟩
theorem iX0_passStage_74 : zI cX0_passStage 74 (.iload_n 1) 1 75 := ⟨by decide +kernel, rfl⟩
theorem iX0_passStage_73 : zI cX0_passStage 73 (.aload_n 0) 1 74 := ⟨by decide +kernel, rfl⟩
theorem iX0_passStage_69 : zI cX0_passStage 69 (.iaload) 1 70 := ⟨by decide +kernel, rfl⟩
theorem iX0_passStage_68 : zI cX0_passStage 68 (.iload_n 2) 1 69 := ⟨by decide +kernel, rfl⟩
theorem iX0_passStage_65 : zI cX0_passStage 65 (.getfield 133) 3 68 := ⟨by decide +kernel, rfl⟩
theorem iX0_passStage_62 : zI cX0_passStage 62 (.getfield 9) 3 65 := ⟨by decide +kernel, rfl⟩
theorem iX0_passStage_61 : zI cX0_passStage 61 (.aload_n 0) 1 62 := ⟨by decide +kernel, rfl⟩
theorem iX0_passStage_60 : zI cX0_passStage 60 (.iaload) 1 61 := ⟨by decide +kernel, rfl⟩
theorem iX0_passStage_59 : zI cX0_passStage 59 (.iload_n 3) 1 60 := ⟨by decide +kernel, rfl⟩
theorem iX0_passStage_56 : zI cX0_passStage 56 (.getfield 127) 3 59 := ⟨by decide +kernel, rfl⟩
theorem iX0_passStage_53 : zI cX0_passStage 53 (.getfield 15) 3 56 := ⟨by decide +kernel, rfl⟩
theorem iX0_passStage_52 : zI cX0_passStage 52 (.aload_n 0) 1 53 := ⟨by decide +kernel, rfl⟩
theorem iX0_passStage_51 : zI cX0_passStage 51 (.iastore) 1 52 := ⟨by decide +kernel, rfl⟩
theorem iX0_passStage_33 : zI cX0_passStage 33 (.if_icmp .ge 17) 3 36 := ⟨by decide +kernel, rfl⟩
theorem iX0_passStage_50 : zI cX0_passStage 50 (.iconst 0) 1 51 := ⟨by decide +kernel, rfl⟩
theorem iX0_passStage_47 : zI cX0_passStage 47 (.goto 4) 3 50 := ⟨by decide +kernel, rfl⟩
theorem iX0_passStage_46 : zI cX0_passStage 46 (.iadd) 1 47 := ⟨by decide +kernel, rfl⟩
theorem iX0_passStage_45 : zI cX0_passStage 45 (.iconst 1) 1 46 := ⟨by decide +kernel, rfl⟩
theorem iX0_passStage_44 : zI cX0_passStage 44 (.iaload) 1 45 := ⟨by decide +kernel, rfl⟩
theorem iX0_passStage_43 : zI cX0_passStage 43 (.iload_n 3) 1 44 := ⟨by decide +kernel, rfl⟩
theorem iX0_passStage_40 : zI cX0_passStage 40 (.getfield 127) 3 43 := ⟨by decide +kernel, rfl⟩
theorem iX0_passStage_37 : zI cX0_passStage 37 (.getfield 15) 3 40 := ⟨by decide +kernel, rfl⟩
theorem iX0_passStage_36 : zI cX0_passStage 36 (.aload_n 0) 1 37 := ⟨by decide +kernel, rfl⟩
theorem iX0_passStage_32 : zI cX0_passStage 32 (.iaload) 1 33 := ⟨by decide +kernel, rfl⟩
theorem iX0_passStage_31 : zI cX0_passStage 31 (.iload_n 2) 1 32 := ⟨by decide +kernel, rfl⟩
theorem iX0_passStage_28 : zI cX0_passStage 28 (.getfield 130) 3 31 := ⟨by decide +kernel, rfl⟩
theorem iX0_passStage_25 : zI cX0_passStage 25 (.getfield 15) 3 28 := ⟨by decide +kernel, rfl⟩
theorem iX0_passStage_24 : zI cX0_passStage 24 (.aload_n 0) 1 25 := ⟨by decide +kernel, rfl⟩
theorem iX0_passStage_23 : zI cX0_passStage 23 (.iaload) 1 24 := ⟨by decide +kernel, rfl⟩
theorem iX0_passStage_22 : zI cX0_passStage 22 (.iload_n 1) 1 23 := ⟨by decide +kernel, rfl⟩
theorem iX0_passStage_19 : zI cX0_passStage 19 (.getfield 67) 3 22 := ⟨by decide +kernel, rfl⟩
theorem iX0_passStage_16 : zI cX0_passStage 16 (.getfield 15) 3 19 := ⟨by decide +kernel, rfl⟩
theorem iX0_passStage_15 : zI cX0_passStage 15 (.aload_n 0) 1 16 := ⟨by decide +kernel, rfl⟩
theorem iX0_passStage_14 : zI cX0_passStage 14 (.iload_n 3) 1 15 := ⟨by decide +kernel, rfl⟩
theorem iX0_passStage_11 : zI cX0_passStage 11 (.getfield 127) 3 14 := ⟨by decide +kernel, rfl⟩
theorem iX0_passStage_8 : zI cX0_passStage 8 (.getfield 15) 3 11 := ⟨by decide +kernel, rfl⟩
theorem iX0_passStage_7 : zI cX0_passStage 7 (.aload_n 0) 1 8 := ⟨by decide +kernel, rfl⟩
theorem iX0_passStage_6 : zI cX0_passStage 6 (.istore_n 3) 1 7 := ⟨by decide +kernel, rfl⟩
theorem iX0_passStage_5 : zI cX0_passStage 5 (.iadd) 1 6 := ⟨by decide +kernel, rfl⟩
theorem iX0_passStage_4 : zI cX0_passStage 4 (.iload_n 2) 1 5 := ⟨by decide +kernel, rfl⟩
theorem iX0_passStage_3 : zI cX0_passStage 3 (.imul) 1 4 := ⟨by decide +kernel, rfl⟩
theorem iX0_passStage_1 : zI cX0_passStage 1 (.bipush 6) 2 3 := ⟨by decide +kernel, rfl⟩
theorem iX0_passStage_0 : zI cX0_passStage 0 (.iload_n 1) 1 1 := ⟨by decide +kernel, rfl⟩
set_option maxHeartbeats 4000000 in
set_option maxRecDepth 100000 in
theorem m_Co_passStage (c g : Nat) (hc : isC c g) (hg : isG g) (x1 : Int32) (x2 : Int32) (h : zH) : zM yX0_passStage cX0_passStage 5 none 3 shX (fun ad => [.ref (ad c), .int x1, .int x2]) h eV (Co_passStage c g x1 x2 h) := by
  refine zM.of (by decide) (fun _ => rfl) (fun _ => Nat.le_of_ble_eq_true rfl) (fun X ad hnL C => ?_)
  show zG X ad shX eV 0 [some (.ref (ad c)), some (.int x1), some (.int x2), none, none] [] h _
  unfold Co_passStage
  refine g_iload_n C iX0_passStage_0 rfl ?_
  refine g_bipush C 6 iX0_passStage_1 (by decide) ?_
  refine g_imul C iX0_passStage_3 ?_
  refine g_iload_n C iX0_passStage_4 rfl ?_
  refine g_iadd C iX0_passStage_5 ?_
  refine g_top (fun x3 => ?_)
  refine g_istore_n (lv' := [some (.ref (ad c)), some (.int x1), some (.int x2), some (.int x3), none]) C hnL iX0_passStage_6 (by decide) rfl ?_
  refine g_aload_n C iX0_passStage_7 rfl ?_
  refine g_getR (b := g) C fX0_15 iX0_passStage_8 hc rfl ?_
  refine g_getR (b := (g + 4)) C fX0_127 iX0_passStage_11 hg.1 rfl ?_
  refine g_iload_n C iX0_passStage_14 rfl ?_
  refine g_aload_n C iX0_passStage_15 rfl ?_
  refine g_getR (b := g) C fX0_15 iX0_passStage_16 hc rfl ?_
  refine g_getR (b := (g + 3)) C fX0_67 iX0_passStage_19 hg.1 rfl ?_
  refine g_iload_n C iX0_passStage_22 rfl ?_
  refine g_iaload C iX0_passStage_23 hg.2.2.2.1 ?_
  refine g_aload_n C iX0_passStage_24 rfl ?_
  refine g_getR (b := g) C fX0_15 iX0_passStage_25 hc rfl ?_
  refine g_getR (b := (g + 7)) C fX0_130 iX0_passStage_28 hg.1 rfl ?_
  refine g_iload_n C iX0_passStage_31 rfl ?_
  refine g_iaload C iX0_passStage_32 hg.2.2.2.2.2.2.2 ?_
  refine g_let (fun j51 ej51 => ?_)
  have hj51 : ∀ (v51 : Int32), zG X ad shX eV 51 [some (.ref (ad c)), some (.int x1), some (.int x2), some (.int x3), none] [.int v51, .int x3, .ref (ad (g + 4))] h (j51 v51) := by
    intro v51
    subst ej51
    refine g_iastore C iX0_passStage_51 hg.2.2.2.2.1 (fun h_1 => ?_)
    refine g_aload_n C iX0_passStage_52 rfl ?_
    refine g_getR (b := g) C fX0_15 iX0_passStage_53 hc rfl ?_
    refine g_getR (b := (g + 4)) C fX0_127 iX0_passStage_56 hg.1 rfl ?_
    refine g_iload_n C iX0_passStage_59 rfl ?_
    refine g_iaload C iX0_passStage_60 hg.2.2.2.2.1 ?_
    refine g_aload_n C iX0_passStage_61 rfl ?_
    refine g_getR (b := 17) C fX0_9 iX0_passStage_62 hc rfl ?_
    refine g_getR (b := 28) C fX0_133 iX0_passStage_65 isP17.1 rfl ?_
    refine g_iload_n C iX0_passStage_68 rfl ?_
    refine g_iaload C iX0_passStage_69 isP17.2.2.2.2.2.2.2.2.2.2.2 ?_
    refine g_icmp_lt C 102 iX0_passStage_70 (by decide) (fun c70 => ?_) (fun c70 => ?_)
    · exact g_vret C iX0_passStage_102 rfl
    · refine g_aload_n C iX0_passStage_73 rfl ?_
      refine g_iload_n C iX0_passStage_74 rfl ?_
      refine g_iload_n C iX0_passStage_75 rfl ?_
      refine g_callV C wX0_136 iX0_passStage_76 (m_Co_onOfStage c g hc hg x1 x2 h_1) (by decide) hc rfl rfl rfl rfl (Nat.le_of_ble_eq_true rfl) (fun r => ?_)
      show zG X ad shX eV 79 [some (.ref (ad c)), some (.int x1), some (.int x2), some (.int x3), none] [.int r] h_1 _
      refine g_istore (lv' := [some (.ref (ad c)), some (.int x1), some (.int x2), some (.int x3), some (.int r)]) C hnL iX0_passStage_79 (by decide) rfl ?_
      refine g_iload C iX0_passStage_81 rfl ?_
      refine g_if_eq C 102 iX0_passStage_83 (by decide) (fun c83 => ?_) (fun c83 => ?_)
      · exact g_vret C iX0_passStage_102 rfl
      · refine g_aload_n C iX0_passStage_86 rfl ?_
        refine g_iload C iX0_passStage_87 rfl ?_
        refine g_callV C wX0_111 iX0_passStage_89 (m_Co_dropSet c g hc hg r h_1) (by decide) hc rfl rfl rfl rfl (Nat.le_of_ble_eq_true rfl) (fun h_2 => ?_)
        show zG X ad shX eV 92 [some (.ref (ad c)), some (.int x1), some (.int x2), some (.int x3), some (.int r)] [] h_2 _
        refine g_aload_n C iX0_passStage_92 rfl ?_
        refine g_getR (b := g) C fX0_15 iX0_passStage_93 hc rfl ?_
        refine g_getR (b := (g + 4)) C fX0_127 iX0_passStage_96 hg.1 rfl ?_
        refine g_iload_n C iX0_passStage_99 rfl ?_
        refine g_iconst C 0 iX0_passStage_100 (by decide) ?_
        refine g_iastore C iX0_passStage_101 hg.2.2.2.2.1 (fun h_3 => ?_)
        exact g_vret C iX0_passStage_102 rfl
  clear ej51
  refine g_icmp_ge C 50 iX0_passStage_33 (by decide) (fun c33 => ?_) (fun c33 => ?_)
  · refine g_iconst C 0 iX0_passStage_50 (by decide) ?_
    exact hj51 _
  · refine g_aload_n C iX0_passStage_36 rfl ?_
    refine g_getR (b := g) C fX0_15 iX0_passStage_37 hc rfl ?_
    refine g_getR (b := (g + 4)) C fX0_127 iX0_passStage_40 hg.1 rfl ?_
    refine g_iload_n C iX0_passStage_43 rfl ?_
    refine g_iaload C iX0_passStage_44 hg.2.2.2.2.1 ?_
    refine g_iconst C 1 iX0_passStage_45 (by decide) ?_
    refine g_iadd C iX0_passStage_46 ?_
    refine g_goto C 51 iX0_passStage_47 (by decide) ?_
    exact hj51 _

theorem fX1_83 : zFl RX1 83 4 8 := ⟨RX4, TX4, 16, rfl, by decide, (zmem 145 (by decide +kernel) (by decide +kernel)), u_inX4⟩
theorem iX1_capOf_9 : zI cX1_capOf 9 (.invokevirtual 126) 3 12 := ⟨by decide +kernel, rfl⟩
theorem iX1_capOf_12 : zI cX1_capOf 12 (.ireturn) 1 13 := ⟨by decide +kernel, rfl⟩
theorem iX1_capOf_8 : zI cX1_capOf 8 (.iload_n 1) 1 9 := ⟨by decide +kernel, rfl⟩
theorem iX1_capOf_5 : zI cX1_capOf 5 (.getfield 83) 3 8 := ⟨by decide +kernel, rfl⟩
theorem iX1_capOf_2 : zI cX1_capOf 2 (.getfield 33) 3 5 := ⟨by decide +kernel, rfl⟩
theorem iX1_capOf_1 : zI cX1_capOf 1 (.aload_n 0) 1 2 := ⟨by decide +kernel, rfl⟩
theorem iX1_capOf_0 : zI cX1_capOf 0 (.aload_n 0) 1 1 := ⟨by decide +kernel, rfl⟩
set_option maxHeartbeats 4000000 in
set_option maxRecDepth 100000 in
theorem m_Gr_capOf (g : Nat) (hg : isG g) (x1 : Int32) (h : zH) : zM yX1_capOf cX1_capOf 2 (some .int) 1 shX (fun ad => [.ref (ad g), .int x1]) h (eP h) (Gr_capOf g x1 h) := by
  refine zM.of (by decide) (fun _ => rfl) (fun _ => Nat.le_of_ble_eq_true rfl) (fun X ad hnL C => ?_)
  show zG X ad shX (eP h) 0 [some (.ref (ad g)), some (.int x1)] [] h _
  unfold Gr_capOf
  refine g_aload_n C iX1_capOf_0 rfl ?_
  refine g_aload_n C iX1_capOf_1 rfl ?_
  refine g_getR (b := 17) C fX1_33 iX1_capOf_2 hg.1 rfl ?_
  refine g_getR (b := 21) C fX1_83 iX1_capOf_5 isP17.1 rfl ?_
  refine g_iload_n C iX1_capOf_8 rfl ?_
  refine g_callV C wX1_126 iX1_capOf_9 (m_Gr_sumOfPlants g hg 21 isP17.2.2.2.2.1 x1 h) (by decide) hg.1 rfl rfl rfl rfl (Nat.le_of_ble_eq_true rfl) (fun r => ?_)
  show zG X ad shX (eP h) 12 [some (.ref (ad g)), some (.int x1)] [.int r] h _
  exact g_iret C iX1_capOf_12 rfl

set_option maxRecDepth 100000 in
theorem wX0_148 : zCv RX0 148 yX1_capOf cX1_capOf 2 (some .int) 1 := ⟨⟨(zmem 589 (by decide +kernel) (by decide +kernel)), (zmem 67 (by decide +kernel) (by decide +kernel)), (zmem 592 rfl rfl), ⟨by decide, by decide, by decide +kernel⟩, by decide⟩, (zmem 590 (by decide +kernel) (by decide +kernel)), (zmem 591 (by decide +kernel) (by decide +kernel))⟩
theorem iX0_nextBack_5 : zI cX0_nextBack 5 (.invokevirtual 148) 3 8 := ⟨by decide +kernel, rfl⟩
set_option maxRecDepth 100000 in
theorem wX0_64 : zCv RX0 64 yX1_loadOf cX1_loadOf 2 (some .int) 1 := ⟨⟨(zmem 572 (by decide +kernel) (by decide +kernel)), (zmem 67 (by decide +kernel) (by decide +kernel)), (zmem 441 rfl rfl), ⟨by decide, by decide, by decide +kernel⟩, by decide⟩, (zmem 439 (by decide +kernel) (by decide +kernel)), (zmem 440 (by decide +kernel) (by decide +kernel))⟩
theorem iX0_nextBack_13 : zI cX0_nextBack 13 (.invokevirtual 64) 3 16 := ⟨by decide +kernel, rfl⟩
theorem fX0_151 : zFl RX0 151 1 9 := ⟨RX1, TX1, 12, rfl, by decide, (zmem 224 (by decide +kernel) (by decide +kernel)), u_inX1⟩
theorem iX0_nextBack_29 : zI cX0_nextBack 29 (.ifCond .lt 59) 3 32 := ⟨by decide +kernel, rfl⟩
theorem fX0_154 : zFl RX0 154 1 8 := ⟨RX1, TX1, 12, rfl, by decide, (zmem 221 (by decide +kernel) (by decide +kernel)), u_inX1⟩
theorem fX0_157 : zFl RX0 157 4 11 := ⟨RX4, TX4, 16, rfl, by decide, (zmem 153 (by decide +kernel) (by decide +kernel)), u_inX4⟩
theorem iX0_nextBack_62 : zI cX0_nextBack 62 (.if_icmp .ne 20) 3 65 := ⟨by decide +kernel, rfl⟩
theorem iX0_nextBack_85 : zI cX0_nextBack 85 (.goto (-57)) 3 88 := ⟨by decide +kernel, rfl⟩
theorem iX0_nextBack_82 : zI cX0_nextBack 82 (.iinc 3 (-1)) 3 85 := ⟨by decide +kernel, rfl⟩
theorem iX0_nextBack_76 : zI cX0_nextBack 76 (.if_icmp .gt 6) 3 79 := ⟨by decide +kernel, rfl⟩
theorem iX0_nextBack_75 : zI cX0_nextBack 75 (.iload_n 2) 1 76 := ⟨by decide +kernel, rfl⟩
theorem iX0_nextBack_74 : zI cX0_nextBack 74 (.iaload) 1 75 := ⟨by decide +kernel, rfl⟩
theorem iX0_nextBack_72 : zI cX0_nextBack 72 (.iload 4) 2 74 := ⟨by decide +kernel, rfl⟩
theorem iX0_nextBack_69 : zI cX0_nextBack 69 (.getfield 124) 3 72 := ⟨by decide +kernel, rfl⟩
theorem iX0_nextBack_66 : zI cX0_nextBack 66 (.getfield 9) 3 69 := ⟨by decide +kernel, rfl⟩
theorem iX0_nextBack_65 : zI cX0_nextBack 65 (.aload_n 0) 1 66 := ⟨by decide +kernel, rfl⟩
theorem iX0_nextBack_61 : zI cX0_nextBack 61 (.iload_n 1) 1 62 := ⟨by decide +kernel, rfl⟩
theorem iX0_nextBack_60 : zI cX0_nextBack 60 (.iaload) 1 61 := ⟨by decide +kernel, rfl⟩
theorem iX0_nextBack_59 : zI cX0_nextBack 59 (.iaload) 1 60 := ⟨by decide +kernel, rfl⟩
theorem iX0_nextBack_57 : zI cX0_nextBack 57 (.iload 4) 2 59 := ⟨by decide +kernel, rfl⟩
theorem iX0_nextBack_54 : zI cX0_nextBack 54 (.getfield 157) 3 57 := ⟨by decide +kernel, rfl⟩
theorem iX0_nextBack_51 : zI cX0_nextBack 51 (.getfield 9) 3 54 := ⟨by decide +kernel, rfl⟩
theorem iX0_nextBack_50 : zI cX0_nextBack 50 (.aload_n 0) 1 51 := ⟨by decide +kernel, rfl⟩
theorem iX0_nextBack_47 : zI cX0_nextBack 47 (.getfield 39) 3 50 := ⟨by decide +kernel, rfl⟩
theorem iX0_nextBack_44 : zI cX0_nextBack 44 (.getfield 15) 3 47 := ⟨by decide +kernel, rfl⟩
theorem iX0_nextBack_43 : zI cX0_nextBack 43 (.aload_n 0) 1 44 := ⟨by decide +kernel, rfl⟩
theorem iX0_nextBack_41 : zI cX0_nextBack 41 (.istore 4) 2 43 := ⟨by decide +kernel, rfl⟩
theorem iX0_nextBack_40 : zI cX0_nextBack 40 (.iaload) 1 41 := ⟨by decide +kernel, rfl⟩
theorem iX0_nextBack_39 : zI cX0_nextBack 39 (.iload_n 3) 1 40 := ⟨by decide +kernel, rfl⟩
theorem iX0_nextBack_36 : zI cX0_nextBack 36 (.getfield 154) 3 39 := ⟨by decide +kernel, rfl⟩
theorem iX0_nextBack_33 : zI cX0_nextBack 33 (.getfield 15) 3 36 := ⟨by decide +kernel, rfl⟩
theorem iX0_nextBack_32 : zI cX0_nextBack 32 (.aload_n 0) 1 33 := ⟨by decide +kernel, rfl⟩
theorem iX0_nextBack_28 : zI cX0_nextBack 28 (.iload_n 3) 1 29 := ⟨by decide +kernel, rfl⟩
theorem iX0_nextBack_81 : zI cX0_nextBack 81 (.ireturn) 1 82 := ⟨by decide +kernel, rfl⟩
theorem iX0_nextBack_79 : zI cX0_nextBack 79 (.iload 4) 2 81 := ⟨by decide +kernel, rfl⟩
theorem iX0_nextBack_89 : zI cX0_nextBack 89 (.ireturn) 1 90 := ⟨by decide +kernel, rfl⟩
theorem iX0_nextBack_88 : zI cX0_nextBack 88 (.iconst (-1)) 1 89 := ⟨by decide +kernel, rfl⟩
theorem iX0_nextBack_27 : zI cX0_nextBack 27 (.istore_n 3) 1 28 := ⟨by decide +kernel, rfl⟩
theorem iX0_nextBack_26 : zI cX0_nextBack 26 (.isub) 1 27 := ⟨by decide +kernel, rfl⟩
theorem iX0_nextBack_25 : zI cX0_nextBack 25 (.iconst 1) 1 26 := ⟨by decide +kernel, rfl⟩
theorem iX0_nextBack_22 : zI cX0_nextBack 22 (.getfield 151) 3 25 := ⟨by decide +kernel, rfl⟩
theorem iX0_nextBack_19 : zI cX0_nextBack 19 (.getfield 15) 3 22 := ⟨by decide +kernel, rfl⟩
theorem iX0_nextBack_18 : zI cX0_nextBack 18 (.aload_n 0) 1 19 := ⟨by decide +kernel, rfl⟩
theorem iX0_nextBack_17 : zI cX0_nextBack 17 (.istore_n 2) 1 18 := ⟨by decide +kernel, rfl⟩
theorem iX0_nextBack_16 : zI cX0_nextBack 16 (.isub) 1 17 := ⟨by decide +kernel, rfl⟩
theorem iX0_nextBack_12 : zI cX0_nextBack 12 (.iload_n 1) 1 13 := ⟨by decide +kernel, rfl⟩
theorem iX0_nextBack_9 : zI cX0_nextBack 9 (.getfield 15) 3 12 := ⟨by decide +kernel, rfl⟩
theorem iX0_nextBack_8 : zI cX0_nextBack 8 (.aload_n 0) 1 9 := ⟨by decide +kernel, rfl⟩
theorem iX0_nextBack_4 : zI cX0_nextBack 4 (.iload_n 1) 1 5 := ⟨by decide +kernel, rfl⟩
theorem iX0_nextBack_1 : zI cX0_nextBack 1 (.getfield 15) 3 4 := ⟨by decide +kernel, rfl⟩
theorem iX0_nextBack_0 : zI cX0_nextBack 0 (.aload_n 0) 1 1 := ⟨by decide +kernel, rfl⟩
set_option maxHeartbeats 4000000 in
set_option maxRecDepth 100000 in
theorem m_Co_nextBack (c g : Nat) (hc : isC c g) (hg : isG g) (x1 : Int32) (h : zH) : zM yX0_nextBack cX0_nextBack 5 (some .int) 3 shX (fun ad => [.ref (ad c), .int x1]) h (eP h) (Co_nextBack c g x1 h) := by
  refine zM.of (by decide) (fun _ => rfl) (fun _ => Nat.le_of_ble_eq_true rfl) (fun X ad hnL C => ?_)
  show zG X ad shX (eP h) 0 [some (.ref (ad c)), some (.int x1), none, none, none] [] h _
  unfold Co_nextBack
  refine g_aload_n C iX0_nextBack_0 rfl ?_
  refine g_getR (b := g) C fX0_15 iX0_nextBack_1 hc rfl ?_
  refine g_iload_n C iX0_nextBack_4 rfl ?_
  refine g_callV C wX0_148 iX0_nextBack_5 (m_Gr_capOf g hg x1 h) (by decide) hg.1 rfl rfl rfl rfl (Nat.le_of_ble_eq_true rfl) (fun r => ?_)
  show zG X ad shX (eP h) 8 [some (.ref (ad c)), some (.int x1), none, none, none] [.int r] h _
  refine g_aload_n C iX0_nextBack_8 rfl ?_
  refine g_getR (b := g) C fX0_15 iX0_nextBack_9 hc rfl ?_
  refine g_iload_n C iX0_nextBack_12 rfl ?_
  refine g_callV C wX0_64 iX0_nextBack_13 (m_Gr_loadOf g hg x1 h) (by decide) hg.1 rfl rfl rfl rfl (Nat.le_of_ble_eq_true rfl) (fun r_1 => ?_)
  show zG X ad shX (eP h) 16 [some (.ref (ad c)), some (.int x1), none, none, none] [.int r_1, .int r] h _
  refine g_isub C iX0_nextBack_16 ?_
  refine g_top (fun x2 => ?_)
  refine g_istore_n (lv' := [some (.ref (ad c)), some (.int x1), some (.int x2), none, none]) C hnL iX0_nextBack_17 (by decide) rfl ?_
  refine g_aload_n C iX0_nextBack_18 rfl ?_
  refine g_getR (b := g) C fX0_15 iX0_nextBack_19 hc rfl ?_
  refine g_getI C fX0_151 iX0_nextBack_22 hg.1 rfl ?_
  refine g_iconst C 1 iX0_nextBack_25 (by decide) ?_
  refine g_isub C iX0_nextBack_26 ?_
  refine g_top (fun x3 => ?_)
  refine g_istore_n (lv' := [some (.ref (ad c)), some (.int x1), some (.int x2), some (.int x3), none]) C hnL iX0_nextBack_27 (by decide) rfl ?_
  have L28 : ∀ (k79 : Int32 → Option (Int32)), (∀ (y4 : Int32), zG X ad shX (eP h) 79 [none, none, none, none, some (.int y4)] [] h (k79 y4)) → ∀ (k88 : Option (Int32)), (zG X ad shX (eP h) 88 [none, none, none, none, none] [] h (k88)) → ∀ (n : Nat) (x3_1 : Int32), zG X ad shX (eP h) 28 [some (.ref (ad c)), some (.int x1), some (.int x2), some (.int x3_1), none] [] h (Co_nextBack_L28 g x1 h x2 k79 k88 n x3_1) := by
    intro k79 hk79 k88 hk88 n
    induction n with
    | zero =>
      intro x3_1
      exact g_none
    | succ n ih28 =>
      intro x3_1
      rw [Co_nextBack_L28]
      refine g_iload_n C iX0_nextBack_28 rfl ?_
      refine g_if_lt C 88 iX0_nextBack_29 (by decide) (fun c29 => ?_) (fun c29 => ?_)
      · refine g_sub (lv' := [none, none, none, none, none]) trivial ?_
        exact hk88
      · refine g_aload_n C iX0_nextBack_32 rfl ?_
        refine g_getR (b := g) C fX0_15 iX0_nextBack_33 hc rfl ?_
        refine g_getR (b := (g + 6)) C fX0_154 iX0_nextBack_36 hg.1 rfl ?_
        refine g_iload_n C iX0_nextBack_39 rfl ?_
        refine g_iaload C iX0_nextBack_40 hg.2.2.2.2.2.2.1 ?_
        refine g_top (fun x4 => ?_)
        refine g_istore (lv' := [some (.ref (ad c)), some (.int x1), some (.int x2), some (.int x3_1), some (.int x4)]) C hnL iX0_nextBack_41 (by decide) rfl ?_
        refine g_aload_n C iX0_nextBack_43 rfl ?_
        refine g_getR (b := g) C fX0_15 iX0_nextBack_44 hc rfl ?_
        refine g_getR (b := (g + 1)) C fX0_39 iX0_nextBack_47 hg.1 rfl ?_
        refine g_aload_n C iX0_nextBack_50 rfl ?_
        refine g_getR (b := 17) C fX0_9 iX0_nextBack_51 hc rfl ?_
        refine g_getR (b := 24) C fX0_157 iX0_nextBack_54 isP17.1 rfl ?_
        refine g_iload C iX0_nextBack_57 rfl ?_
        refine g_iaload C iX0_nextBack_59 isP17.2.2.2.2.2.2.2.1 ?_
        refine g_iaload C iX0_nextBack_60 hg.2.1 ?_
        refine g_iload_n C iX0_nextBack_61 rfl ?_
        refine g_icmp_ne C 82 iX0_nextBack_62 (by decide) (fun c62 => ?_) (fun c62 => ?_)
        · refine g_aload_n C iX0_nextBack_65 rfl ?_
          refine g_getR (b := 17) C fX0_9 iX0_nextBack_66 hc rfl ?_
          refine g_getR (b := 25) C fX0_124 iX0_nextBack_69 isP17.1 rfl ?_
          refine g_iload C iX0_nextBack_72 rfl ?_
          refine g_iaload C iX0_nextBack_74 isP17.2.2.2.2.2.2.2.2.1 ?_
          refine g_iload_n C iX0_nextBack_75 rfl ?_
          refine g_icmp_gt C 82 iX0_nextBack_76 (by decide) (fun c76 => ?_) (fun c76 => ?_)
          · refine g_iinc (v := (x3_1 + (-1))) (lv' := [some (.ref (ad c)), some (.int x1), some (.int x2), some (.int (x3_1 + (-1))), some (.int x4)]) C hnL iX0_nextBack_82 (by decide) rfl rfl rfl ?_
            refine g_goto C 28 iX0_nextBack_85 (by decide) ?_
            refine g_sub (lv' := [some (.ref (ad c)), some (.int x1), some (.int x2), some (.int (x3_1 + (-1))), none]) ⟨rfl, ⟨rfl, ⟨rfl, ⟨rfl, trivial⟩⟩⟩⟩ ?_
            exact ih28 _
          · refine g_sub (lv' := [none, none, none, none, some (.int x4)]) ⟨rfl, trivial⟩ ?_
            exact hk79 _
        · refine g_iinc (v := (x3_1 + (-1))) (lv' := [some (.ref (ad c)), some (.int x1), some (.int x2), some (.int (x3_1 + (-1))), some (.int x4)]) C hnL iX0_nextBack_82 (by decide) rfl rfl rfl ?_
          refine g_goto C 28 iX0_nextBack_85 (by decide) ?_
          refine g_sub (lv' := [some (.ref (ad c)), some (.int x1), some (.int x2), some (.int (x3_1 + (-1))), none]) ⟨rfl, ⟨rfl, ⟨rfl, ⟨rfl, trivial⟩⟩⟩⟩ ?_
          exact ih28 _
  refine L28 _ (fun x4_1 => ?_) _ (?_) 1000 _
  · show zG X ad shX (eP h) 79 [none, none, none, none, some (.int x4_1)] [] h _
    refine g_iload C iX0_nextBack_79 rfl ?_
    exact g_iret C iX0_nextBack_81 rfl
  · show zG X ad shX (eP h) 88 [none, none, none, none, none] [] h _
    refine g_iconst C (-1) iX0_nextBack_88 (by decide) ?_
    exact g_iret C iX0_nextBack_89 rfl

theorem iX1_putOn_21 : zI cX1_putOn 21 (.if_icmp .ge 34) 3 24 := ⟨by decide +kernel, rfl⟩
theorem iX1_putOn_31 : zI cX1_putOn 31 (.if_icmp .eq 18) 3 34 := ⟨by decide +kernel, rfl⟩
theorem iX1_putOn_52 : zI cX1_putOn 52 (.goto (-36)) 3 55 := ⟨by decide +kernel, rfl⟩
theorem iX1_putOn_49 : zI cX1_putOn 49 (.iinc 3 1) 3 52 := ⟨by decide +kernel, rfl⟩
theorem iX1_putOn_46 : zI cX1_putOn 46 (.iinc 2 1) 3 49 := ⟨by decide +kernel, rfl⟩
theorem iX1_putOn_45 : zI cX1_putOn 45 (.iastore) 1 46 := ⟨by decide +kernel, rfl⟩
theorem iX1_putOn_44 : zI cX1_putOn 44 (.iaload) 1 45 := ⟨by decide +kernel, rfl⟩
theorem iX1_putOn_43 : zI cX1_putOn 43 (.iload_n 3) 1 44 := ⟨by decide +kernel, rfl⟩
theorem iX1_putOn_40 : zI cX1_putOn 40 (.getfield 27) 3 43 := ⟨by decide +kernel, rfl⟩
theorem iX1_putOn_39 : zI cX1_putOn 39 (.aload_n 0) 1 40 := ⟨by decide +kernel, rfl⟩
theorem iX1_putOn_38 : zI cX1_putOn 38 (.iload_n 2) 1 39 := ⟨by decide +kernel, rfl⟩
theorem iX1_putOn_35 : zI cX1_putOn 35 (.getfield 27) 3 38 := ⟨by decide +kernel, rfl⟩
theorem iX1_putOn_34 : zI cX1_putOn 34 (.aload_n 0) 1 35 := ⟨by decide +kernel, rfl⟩
theorem iX1_putOn_30 : zI cX1_putOn 30 (.iload_n 1) 1 31 := ⟨by decide +kernel, rfl⟩
theorem iX1_putOn_29 : zI cX1_putOn 29 (.iaload) 1 30 := ⟨by decide +kernel, rfl⟩
theorem iX1_putOn_28 : zI cX1_putOn 28 (.iload_n 3) 1 29 := ⟨by decide +kernel, rfl⟩
theorem iX1_putOn_25 : zI cX1_putOn 25 (.getfield 27) 3 28 := ⟨by decide +kernel, rfl⟩
theorem iX1_putOn_24 : zI cX1_putOn 24 (.aload_n 0) 1 25 := ⟨by decide +kernel, rfl⟩
theorem iX1_putOn_18 : zI cX1_putOn 18 (.getfield 50) 3 21 := ⟨by decide +kernel, rfl⟩
theorem iX1_putOn_17 : zI cX1_putOn 17 (.aload_n 0) 1 18 := ⟨by decide +kernel, rfl⟩
theorem iX1_putOn_16 : zI cX1_putOn 16 (.iload_n 3) 1 17 := ⟨by decide +kernel, rfl⟩
theorem iX1_putOn_60 : zI cX1_putOn 60 (.return_) 1 61 := ⟨by decide +kernel, rfl⟩
theorem iX1_putOn_57 : zI cX1_putOn 57 (.putfield 50) 3 60 := ⟨by decide +kernel, rfl⟩
theorem iX1_putOn_56 : zI cX1_putOn 56 (.iload_n 2) 1 57 := ⟨by decide +kernel, rfl⟩
theorem iX1_putOn_55 : zI cX1_putOn 55 (.aload_n 0) 1 56 := ⟨by decide +kernel, rfl⟩
theorem iX1_putOn_15 : zI cX1_putOn 15 (.istore_n 3) 1 16 := ⟨by decide +kernel, rfl⟩
theorem iX1_putOn_14 : zI cX1_putOn 14 (.iconst 0) 1 15 := ⟨by decide +kernel, rfl⟩
theorem iX1_putOn_13 : zI cX1_putOn 13 (.istore_n 2) 1 14 := ⟨by decide +kernel, rfl⟩
theorem iX1_putOn_12 : zI cX1_putOn 12 (.iconst 0) 1 13 := ⟨by decide +kernel, rfl⟩
theorem iX1_putOn_9 : zI cX1_putOn 9 (.putfield 47) 3 12 := ⟨by decide +kernel, rfl⟩
theorem iX1_putOn_8 : zI cX1_putOn 8 (.ior) 1 9 := ⟨by decide +kernel, rfl⟩
theorem iX1_putOn_7 : zI cX1_putOn 7 (.ishl) 1 8 := ⟨by decide +kernel, rfl⟩
theorem iX1_putOn_6 : zI cX1_putOn 6 (.iload_n 1) 1 7 := ⟨by decide +kernel, rfl⟩
theorem iX1_putOn_5 : zI cX1_putOn 5 (.iconst 1) 1 6 := ⟨by decide +kernel, rfl⟩
theorem iX1_putOn_2 : zI cX1_putOn 2 (.getfield 47) 3 5 := ⟨by decide +kernel, rfl⟩
theorem iX1_putOn_1 : zI cX1_putOn 1 (.dup) 1 2 := ⟨by decide +kernel, rfl⟩
theorem iX1_putOn_0 : zI cX1_putOn 0 (.aload_n 0) 1 1 := ⟨by decide +kernel, rfl⟩
set_option maxHeartbeats 4000000 in
set_option maxRecDepth 100000 in
theorem m_Gr_putOn (g : Nat) (hg : isG g) (x1 : Int32) (h : zH) : zM yX1_putOn cX1_putOn 4 none 0 shX (fun ad => [.ref (ad g), .int x1]) h eV (Gr_putOn g x1 h) := by
  refine zM.of (by decide) (fun _ => rfl) (fun _ => Nat.le_of_ble_eq_true rfl) (fun X ad hnL C => ?_)
  show zG X ad shX eV 0 [some (.ref (ad g)), some (.int x1), none, none] [] h _
  unfold Gr_putOn
  refine g_aload_n C iX1_putOn_0 rfl ?_
  refine g_dup C iX1_putOn_1 rfl ?_
  refine g_getI C fX1_47 iX1_putOn_2 hg.1 rfl ?_
  refine g_iconst C 1 iX1_putOn_5 (by decide) ?_
  refine g_iload_n C iX1_putOn_6 rfl ?_
  refine g_ishl C iX1_putOn_7 ?_
  refine g_ior C iX1_putOn_8 ?_
  refine g_putI C pX1_47 iX1_putOn_9 hg.1 rfl (fun h_1 => ?_)
  refine g_iconst C 0 iX1_putOn_12 (by decide) ?_
  refine g_istore_n (lv' := [some (.ref (ad g)), some (.int x1), some (.int 0), none]) C hnL iX1_putOn_13 (by decide) rfl ?_
  refine g_iconst C 0 iX1_putOn_14 (by decide) ?_
  refine g_istore_n (lv' := [some (.ref (ad g)), some (.int x1), some (.int 0), some (.int 0)]) C hnL iX1_putOn_15 (by decide) rfl ?_
  have L16 : ∀ (k55 : Int32 → zH → Option (zH)), (∀ (y2 : Int32) (hy : zH), zG X ad shX eV 55 [some (.ref (ad g)), none, some (.int y2), none] [] hy (k55 y2 hy)) → ∀ (n : Nat) (x2 x3 : Int32) (h_2 : zH), zG X ad shX eV 16 [some (.ref (ad g)), some (.int x1), some (.int x2), some (.int x3)] [] h_2 (Gr_putOn_L16 g x1 k55 n x2 x3 h_2) := by
    intro k55 hk55 n
    induction n with
    | zero =>
      intro x2 x3 h_2
      exact g_none
    | succ n ih16 =>
      intro x2 x3 h_2
      rw [Gr_putOn_L16]
      refine g_iload_n C iX1_putOn_16 rfl ?_
      refine g_aload_n C iX1_putOn_17 rfl ?_
      refine g_getI C fX1_50 iX1_putOn_18 hg.1 rfl ?_
      refine g_icmp_ge C 55 iX1_putOn_21 (by decide) (fun c21 => ?_) (fun c21 => ?_)
      · refine g_sub (lv' := [some (.ref (ad g)), none, some (.int x2), none]) ⟨rfl, ⟨rfl, trivial⟩⟩ ?_
        exact hk55 _ _
      · refine g_aload_n C iX1_putOn_24 rfl ?_
        refine g_getR (b := (g + 6)) C fX1_27 iX1_putOn_25 hg.1 rfl ?_
        refine g_iload_n C iX1_putOn_28 rfl ?_
        refine g_iaload C iX1_putOn_29 hg.2.2.2.2.2.2.1 ?_
        refine g_iload_n C iX1_putOn_30 rfl ?_
        refine g_icmp_eq C 49 iX1_putOn_31 (by decide) (fun c31 => ?_) (fun c31 => ?_)
        · refine g_iinc (v := (x3 + 1)) (lv' := [some (.ref (ad g)), some (.int x1), some (.int x2), some (.int (x3 + 1))]) C hnL iX1_putOn_49 (by decide) rfl rfl rfl ?_
          refine g_goto C 16 iX1_putOn_52 (by decide) ?_
          exact ih16 _ _ _
        · refine g_aload_n C iX1_putOn_34 rfl ?_
          refine g_getR (b := (g + 6)) C fX1_27 iX1_putOn_35 hg.1 rfl ?_
          refine g_iload_n C iX1_putOn_38 rfl ?_
          refine g_aload_n C iX1_putOn_39 rfl ?_
          refine g_getR (b := (g + 6)) C fX1_27 iX1_putOn_40 hg.1 rfl ?_
          refine g_iload_n C iX1_putOn_43 rfl ?_
          refine g_iaload C iX1_putOn_44 hg.2.2.2.2.2.2.1 ?_
          refine g_iastore C iX1_putOn_45 hg.2.2.2.2.2.2.1 (fun h_3 => ?_)
          refine g_iinc (v := (x2 + 1)) (lv' := [some (.ref (ad g)), some (.int x1), some (.int (x2 + 1)), some (.int x3)]) C hnL iX1_putOn_46 (by decide) rfl rfl rfl ?_
          refine g_iinc (v := (x3 + 1)) (lv' := [some (.ref (ad g)), some (.int x1), some (.int (x2 + 1)), some (.int (x3 + 1))]) C hnL iX1_putOn_49 (by decide) rfl rfl rfl ?_
          refine g_goto C 16 iX1_putOn_52 (by decide) ?_
          exact ih16 _ _ _
  refine L16 _ (fun x2_1 h_4 => ?_) 1000 _ _ _
  show zG X ad shX eV 55 [some (.ref (ad g)), none, some (.int x2_1), none] [] h_4 _
  refine g_aload_n C iX1_putOn_55 rfl ?_
  refine g_iload_n C iX1_putOn_56 rfl ?_
  refine g_putI C pX1_50 iX1_putOn_57 hg.1 rfl (fun h_5 => ?_)
  exact g_vret C iX1_putOn_60 rfl
end
section
theorem iX0_passBack_70 : zI cX0_passBack 70 (.if_icmp .lt 41) 3 73 := ⟨by decide +kernel, rfl⟩
theorem iX0_passBack_111 : zI cX0_passBack 111 (.return_) 1 112 := ⟨by decide +kernel, rfl⟩
set_option maxRecDepth 100000 in
theorem wX0_142 : zCv RX0 142 yX0_nextBack cX0_nextBack 5 (some .int) 1 := ⟨⟨(zmem 585 (by decide +kernel) (by decide +kernel)), (zmem 68 (by decide +kernel) (by decide +kernel)), (zmem 588 rfl rfl), ⟨by decide, by decide, by decide +kernel⟩, by decide⟩, (zmem 587 (by decide +kernel) (by decide +kernel)), (zmem 12 (by decide +kernel) (by decide +kernel))⟩
theorem iX0_passBack_75 : zI cX0_passBack 75 (.invokevirtual 142) 3 78 := ⟨by decide +kernel, rfl⟩
theorem iX0_passBack_80 : zI cX0_passBack 80 (.ifCond .lt 31) 3 83 := ⟨by decide +kernel, rfl⟩
set_option maxRecDepth 100000 in
theorem wX0_145 : zCv RX0 145 yX1_putOn cX1_putOn 4 none 1 := ⟨⟨(zmem 593 (by decide +kernel) (by decide +kernel)), (zmem 67 (by decide +kernel) (by decide +kernel)), (zmem 596 rfl rfl), ⟨by decide, by decide, by decide +kernel⟩, by decide⟩, (zmem 594 (by decide +kernel) (by decide +kernel)), (zmem 595 (by decide +kernel) (by decide +kernel))⟩
theorem iX0_passBack_88 : zI cX0_passBack 88 (.invokevirtual 145) 3 91 := ⟨by decide +kernel, rfl⟩
theorem fX0_26 : zFl RX0 26 0 4 := ⟨RX0, TX0, 5, rfl, by decide, (zmem 269 (by decide +kernel) (by decide +kernel)), u_inX0⟩
theorem iX0_passBack_110 : zI cX0_passBack 110 (.iastore) 1 111 := ⟨by decide +kernel, rfl⟩
theorem iX0_passBack_109 : zI cX0_passBack 109 (.iconst 0) 1 110 := ⟨by decide +kernel, rfl⟩
theorem iX0_passBack_108 : zI cX0_passBack 108 (.iload_n 2) 1 109 := ⟨by decide +kernel, rfl⟩
theorem iX0_passBack_105 : zI cX0_passBack 105 (.getfield 127) 3 108 := ⟨by decide +kernel, rfl⟩
theorem iX0_passBack_102 : zI cX0_passBack 102 (.getfield 15) 3 105 := ⟨by decide +kernel, rfl⟩
theorem iX0_passBack_101 : zI cX0_passBack 101 (.aload_n 0) 1 102 := ⟨by decide +kernel, rfl⟩
theorem iX0_passBack_98 : zI cX0_passBack 98 (.putfield 26) 3 101 := ⟨by decide +kernel, rfl⟩
theorem iX0_passBack_97 : zI cX0_passBack 97 (.iadd) 1 98 := ⟨by decide +kernel, rfl⟩
theorem iX0_passBack_96 : zI cX0_passBack 96 (.iconst 1) 1 97 := ⟨by decide +kernel, rfl⟩
theorem iX0_passBack_93 : zI cX0_passBack 93 (.getfield 26) 3 96 := ⟨by decide +kernel, rfl⟩
theorem iX0_passBack_92 : zI cX0_passBack 92 (.dup) 1 93 := ⟨by decide +kernel, rfl⟩
theorem iX0_passBack_91 : zI cX0_passBack 91 (.aload_n 0) 1 92 := ⟨by decide +kernel, rfl⟩
theorem iX0_passBack_87 : zI cX0_passBack 87 (.iload_n 3) 1 88 := ⟨by decide +kernel, rfl⟩
theorem iX0_passBack_84 : zI cX0_passBack 84 (.getfield 15) 3 87 := ⟨by decide +kernel, rfl⟩
theorem iX0_passBack_83 : zI cX0_passBack 83 (.aload_n 0) 1 84 := ⟨by decide +kernel, rfl⟩
theorem iX0_passBack_79 : zI cX0_passBack 79 (.iload_n 3) 1 80 := ⟨by decide +kernel, rfl⟩
theorem iX0_passBack_78 : zI cX0_passBack 78 (.istore_n 3) 1 79 := ⟨by decide +kernel, rfl⟩
theorem iX0_passBack_74 : zI cX0_passBack 74 (.iload_n 1) 1 75 := ⟨by decide +kernel, rfl⟩
theorem iX0_passBack_73 : zI cX0_passBack 73 (.aload_n 0) 1 74 := ⟨by decide +kernel, rfl⟩
theorem iX0_passBack_69 : zI cX0_passBack 69 (.iaload) 1 70 := ⟨by decide +kernel, rfl⟩
theorem iX0_passBack_68 : zI cX0_passBack 68 (.iconst 0) 1 69 := ⟨by decide +kernel, rfl⟩
theorem iX0_passBack_65 : zI cX0_passBack 65 (.getfield 133) 3 68 := ⟨by decide +kernel, rfl⟩
theorem iX0_passBack_62 : zI cX0_passBack 62 (.getfield 9) 3 65 := ⟨by decide +kernel, rfl⟩
theorem iX0_passBack_61 : zI cX0_passBack 61 (.aload_n 0) 1 62 := ⟨by decide +kernel, rfl⟩
theorem iX0_passBack_60 : zI cX0_passBack 60 (.iaload) 1 61 := ⟨by decide +kernel, rfl⟩
theorem iX0_passBack_59 : zI cX0_passBack 59 (.iload_n 2) 1 60 := ⟨by decide +kernel, rfl⟩
theorem iX0_passBack_56 : zI cX0_passBack 56 (.getfield 127) 3 59 := ⟨by decide +kernel, rfl⟩
theorem iX0_passBack_53 : zI cX0_passBack 53 (.getfield 15) 3 56 := ⟨by decide +kernel, rfl⟩
theorem iX0_passBack_52 : zI cX0_passBack 52 (.aload_n 0) 1 53 := ⟨by decide +kernel, rfl⟩
theorem iX0_passBack_51 : zI cX0_passBack 51 (.iastore) 1 52 := ⟨by decide +kernel, rfl⟩
theorem iX0_passBack_33 : zI cX0_passBack 33 (.if_icmp .lt 17) 3 36 := ⟨by decide +kernel, rfl⟩
theorem iX0_passBack_50 : zI cX0_passBack 50 (.iconst 0) 1 51 := ⟨by decide +kernel, rfl⟩
theorem iX0_passBack_47 : zI cX0_passBack 47 (.goto 4) 3 50 := ⟨by decide +kernel, rfl⟩
theorem iX0_passBack_46 : zI cX0_passBack 46 (.iadd) 1 47 := ⟨by decide +kernel, rfl⟩
theorem iX0_passBack_45 : zI cX0_passBack 45 (.iconst 1) 1 46 := ⟨by decide +kernel, rfl⟩
theorem iX0_passBack_44 : zI cX0_passBack 44 (.iaload) 1 45 := ⟨by decide +kernel, rfl⟩
theorem iX0_passBack_43 : zI cX0_passBack 43 (.iload_n 2) 1 44 := ⟨by decide +kernel, rfl⟩
theorem iX0_passBack_40 : zI cX0_passBack 40 (.getfield 127) 3 43 := ⟨by decide +kernel, rfl⟩
theorem iX0_passBack_37 : zI cX0_passBack 37 (.getfield 15) 3 40 := ⟨by decide +kernel, rfl⟩
theorem iX0_passBack_36 : zI cX0_passBack 36 (.aload_n 0) 1 37 := ⟨by decide +kernel, rfl⟩
theorem iX0_passBack_32 : zI cX0_passBack 32 (.iaload) 1 33 := ⟨by decide +kernel, rfl⟩
theorem iX0_passBack_31 : zI cX0_passBack 31 (.iconst 0) 1 32 := ⟨by decide +kernel, rfl⟩
theorem iX0_passBack_28 : zI cX0_passBack 28 (.getfield 130) 3 31 := ⟨by decide +kernel, rfl⟩
theorem iX0_passBack_25 : zI cX0_passBack 25 (.getfield 15) 3 28 := ⟨by decide +kernel, rfl⟩
theorem iX0_passBack_24 : zI cX0_passBack 24 (.aload_n 0) 1 25 := ⟨by decide +kernel, rfl⟩
theorem iX0_passBack_23 : zI cX0_passBack 23 (.iaload) 1 24 := ⟨by decide +kernel, rfl⟩
theorem iX0_passBack_22 : zI cX0_passBack 22 (.iload_n 1) 1 23 := ⟨by decide +kernel, rfl⟩
theorem iX0_passBack_19 : zI cX0_passBack 19 (.getfield 67) 3 22 := ⟨by decide +kernel, rfl⟩
theorem iX0_passBack_16 : zI cX0_passBack 16 (.getfield 15) 3 19 := ⟨by decide +kernel, rfl⟩
theorem iX0_passBack_15 : zI cX0_passBack 15 (.aload_n 0) 1 16 := ⟨by decide +kernel, rfl⟩
theorem iX0_passBack_14 : zI cX0_passBack 14 (.iload_n 2) 1 15 := ⟨by decide +kernel, rfl⟩
theorem iX0_passBack_11 : zI cX0_passBack 11 (.getfield 127) 3 14 := ⟨by decide +kernel, rfl⟩
theorem iX0_passBack_8 : zI cX0_passBack 8 (.getfield 15) 3 11 := ⟨by decide +kernel, rfl⟩
theorem iX0_passBack_7 : zI cX0_passBack 7 (.aload_n 0) 1 8 := ⟨by decide +kernel, rfl⟩
theorem iX0_passBack_6 : zI cX0_passBack 6 (.istore_n 2) 1 7 := ⟨by decide +kernel, rfl⟩
theorem iX0_passBack_5 : zI cX0_passBack 5 (.iadd) 1 6 := ⟨by decide +kernel, rfl⟩
theorem iX0_passBack_4 : zI cX0_passBack 4 (.iconst 0) 1 5 := ⟨by decide +kernel, rfl⟩
theorem iX0_passBack_3 : zI cX0_passBack 3 (.imul) 1 4 := ⟨by decide +kernel, rfl⟩
theorem iX0_passBack_1 : zI cX0_passBack 1 (.bipush 6) 2 3 := ⟨by decide +kernel, rfl⟩
theorem iX0_passBack_0 : zI cX0_passBack 0 (.iload_n 1) 1 1 := ⟨by decide +kernel, rfl⟩
set_option maxHeartbeats 4000000 in
set_option maxRecDepth 100000 in
theorem m_Co_passBack (c g : Nat) (hc : isC c g) (hg : isG g) (x1 : Int32) (h : zH) : zM yX0_passBack cX0_passBack 4 none 4 shX (fun ad => [.ref (ad c), .int x1]) h eV (Co_passBack c g x1 h) := by
  refine zM.of (by decide) (fun _ => rfl) (fun _ => Nat.le_of_ble_eq_true rfl) (fun X ad hnL C => ?_)
  show zG X ad shX eV 0 [some (.ref (ad c)), some (.int x1), none, none] [] h _
  unfold Co_passBack
  refine g_iload_n C iX0_passBack_0 rfl ?_
  refine g_bipush C 6 iX0_passBack_1 (by decide) ?_
  refine g_imul C iX0_passBack_3 ?_
  refine g_iconst C 0 iX0_passBack_4 (by decide) ?_
  refine g_iadd C iX0_passBack_5 ?_
  refine g_top (fun x2 => ?_)
  refine g_istore_n (lv' := [some (.ref (ad c)), some (.int x1), some (.int x2), none]) C hnL iX0_passBack_6 (by decide) rfl ?_
  refine g_aload_n C iX0_passBack_7 rfl ?_
  refine g_getR (b := g) C fX0_15 iX0_passBack_8 hc rfl ?_
  refine g_getR (b := (g + 4)) C fX0_127 iX0_passBack_11 hg.1 rfl ?_
  refine g_iload_n C iX0_passBack_14 rfl ?_
  refine g_aload_n C iX0_passBack_15 rfl ?_
  refine g_getR (b := g) C fX0_15 iX0_passBack_16 hc rfl ?_
  refine g_getR (b := (g + 3)) C fX0_67 iX0_passBack_19 hg.1 rfl ?_
  refine g_iload_n C iX0_passBack_22 rfl ?_
  refine g_iaload C iX0_passBack_23 hg.2.2.2.1 ?_
  refine g_aload_n C iX0_passBack_24 rfl ?_
  refine g_getR (b := g) C fX0_15 iX0_passBack_25 hc rfl ?_
  refine g_getR (b := (g + 7)) C fX0_130 iX0_passBack_28 hg.1 rfl ?_
  refine g_iconst C 0 iX0_passBack_31 (by decide) ?_
  refine g_ialoadL C 0 iX0_passBack_32 hg.2.2.2.2.2.2.2 (by decide) (by decide) ?_
  refine g_let (fun j51 ej51 => ?_)
  have hj51 : ∀ (v51 : Int32), zG X ad shX eV 51 [some (.ref (ad c)), some (.int x1), some (.int x2), none] [.int v51, .int x2, .ref (ad (g + 4))] h (j51 v51) := by
    intro v51
    subst ej51
    refine g_iastore C iX0_passBack_51 hg.2.2.2.2.1 (fun h_1 => ?_)
    refine g_aload_n C iX0_passBack_52 rfl ?_
    refine g_getR (b := g) C fX0_15 iX0_passBack_53 hc rfl ?_
    refine g_getR (b := (g + 4)) C fX0_127 iX0_passBack_56 hg.1 rfl ?_
    refine g_iload_n C iX0_passBack_59 rfl ?_
    refine g_iaload C iX0_passBack_60 hg.2.2.2.2.1 ?_
    refine g_aload_n C iX0_passBack_61 rfl ?_
    refine g_getR (b := 17) C fX0_9 iX0_passBack_62 hc rfl ?_
    refine g_getR (b := 28) C fX0_133 iX0_passBack_65 isP17.1 rfl ?_
    refine g_iconst C 0 iX0_passBack_68 (by decide) ?_
    refine g_ialoadL C 0 iX0_passBack_69 isP17.2.2.2.2.2.2.2.2.2.2.2 (by decide) (by decide) ?_
    refine g_icmp_lt C 111 iX0_passBack_70 (by decide) (fun c70 => ?_) (fun c70 => ?_)
    · exact g_vret C iX0_passBack_111 rfl
    · refine g_aload_n C iX0_passBack_73 rfl ?_
      refine g_iload_n C iX0_passBack_74 rfl ?_
      refine g_callV C wX0_142 iX0_passBack_75 (m_Co_nextBack c g hc hg x1 h_1) (by decide) hc rfl rfl rfl rfl (Nat.le_of_ble_eq_true rfl) (fun r => ?_)
      show zG X ad shX eV 78 [some (.ref (ad c)), some (.int x1), some (.int x2), none] [.int r] h_1 _
      refine g_istore_n (lv' := [some (.ref (ad c)), some (.int x1), some (.int x2), some (.int r)]) C hnL iX0_passBack_78 (by decide) rfl ?_
      refine g_iload_n C iX0_passBack_79 rfl ?_
      refine g_if_lt C 111 iX0_passBack_80 (by decide) (fun c80 => ?_) (fun c80 => ?_)
      · exact g_vret C iX0_passBack_111 rfl
      · refine g_aload_n C iX0_passBack_83 rfl ?_
        refine g_getR (b := g) C fX0_15 iX0_passBack_84 hc rfl ?_
        refine g_iload_n C iX0_passBack_87 rfl ?_
        refine g_callV C wX0_145 iX0_passBack_88 (m_Gr_putOn g hg r h_1) (by decide) hg.1 rfl rfl rfl rfl (Nat.le_of_ble_eq_true rfl) (fun h_2 => ?_)
        show zG X ad shX eV 91 [some (.ref (ad c)), some (.int x1), some (.int x2), some (.int r)] [] h_2 _
        refine g_aload_n C iX0_passBack_91 rfl ?_
        refine g_dup C iX0_passBack_92 rfl ?_
        refine g_getI C fX0_26 iX0_passBack_93 hc rfl ?_
        refine g_iconst C 1 iX0_passBack_96 (by decide) ?_
        refine g_iadd C iX0_passBack_97 ?_
        refine g_putI C pX0_26 iX0_passBack_98 hc rfl (fun h_3 => ?_)
        refine g_aload_n C iX0_passBack_101 rfl ?_
        refine g_getR (b := g) C fX0_15 iX0_passBack_102 hc rfl ?_
        refine g_getR (b := (g + 4)) C fX0_127 iX0_passBack_105 hg.1 rfl ?_
        refine g_iload_n C iX0_passBack_108 rfl ?_
        refine g_iconst C 0 iX0_passBack_109 (by decide) ?_
        refine g_iastore C iX0_passBack_110 hg.2.2.2.2.1 (fun h_4 => ?_)
        exact g_vret C iX0_passBack_111 rfl
  clear ej51
  refine g_icmp_lt C 50 iX0_passBack_33 (by decide) (fun c33 => ?_) (fun c33 => ?_)
  · refine g_iconst C 0 iX0_passBack_50 (by decide) ?_
    exact hj51 _
  · refine g_aload_n C iX0_passBack_36 rfl ?_
    refine g_getR (b := g) C fX0_15 iX0_passBack_37 hc rfl ?_
    refine g_getR (b := (g + 4)) C fX0_127 iX0_passBack_40 hg.1 rfl ?_
    refine g_iload_n C iX0_passBack_43 rfl ?_
    refine g_iaload C iX0_passBack_44 hg.2.2.2.2.1 ?_
    refine g_iconst C 1 iX0_passBack_45 (by decide) ?_
    refine g_iadd C iX0_passBack_46 ?_
    refine g_goto C 51 iX0_passBack_47 (by decide) ?_
    exact hj51 _

set_option maxRecDepth 100000 in
theorem wX0_47 : zCv RX0 47 yX1_isDark cX1_isDark 2 (some .boolean) 1 := ⟨⟨(zmem 537 (by decide +kernel) (by decide +kernel)), (zmem 67 (by decide +kernel) (by decide +kernel)), (zmem 540 rfl rfl), ⟨by decide, by decide, by decide +kernel⟩, by decide⟩, (zmem 538 (by decide +kernel) (by decide +kernel)), (zmem 539 (by decide +kernel) (by decide +kernel))⟩
theorem iX0_passIsland_5 : zI cX0_passIsland 5 (.invokevirtual 47) 3 8 := ⟨by decide +kernel, rfl⟩
theorem iX0_passIsland_8 : zI cX0_passIsland 8 (.ifCond .eq 4) 3 11 := ⟨by decide +kernel, rfl⟩
set_option maxRecDepth 100000 in
theorem wX0_51 : zCv RX0 51 yX0_follow cX0_follow 8 none 1 := ⟨⟨(zmem 541 (by decide +kernel) (by decide +kernel)), (zmem 68 (by decide +kernel) (by decide +kernel)), (zmem 544 rfl rfl), ⟨by decide, by decide, by decide +kernel⟩, by decide⟩, (zmem 543 (by decide +kernel) (by decide +kernel)), (zmem 6 (by decide +kernel) (by decide +kernel))⟩
theorem iX0_passIsland_14 : zI cX0_passIsland 14 (.invokevirtual 51) 3 17 := ⟨by decide +kernel, rfl⟩
set_option maxRecDepth 100000 in
theorem wX0_54 : zCv RX0 54 yX1_heavyOf cX1_heavyOf 2 (some .int) 1 := ⟨⟨(zmem 554 (by decide +kernel) (by decide +kernel)), (zmem 67 (by decide +kernel) (by decide +kernel)), (zmem 557 rfl rfl), ⟨by decide, by decide, by decide +kernel⟩, by decide⟩, (zmem 555 (by decide +kernel) (by decide +kernel)), (zmem 556 (by decide +kernel) (by decide +kernel))⟩
theorem iX0_passIsland_22 : zI cX0_passIsland 22 (.invokevirtual 54) 3 25 := ⟨by decide +kernel, rfl⟩
theorem iX0_passIsland_27 : zI cX0_passIsland 27 (.ifCond .ne 9) 3 30 := ⟨by decide +kernel, rfl⟩
theorem iX0_passIsland_41 : zI cX0_passIsland 41 (.invokevirtual 61) 3 44 := ⟨by decide +kernel, rfl⟩
theorem iX0_passIsland_49 : zI cX0_passIsland 49 (.invokevirtual 64) 3 52 := ⟨by decide +kernel, rfl⟩
theorem iX0_passIsland_73 : zI cX0_passIsland 73 (.invokestatic 70) 3 76 := ⟨by decide +kernel, rfl⟩
theorem iX0_passIsland_83 : zI cX0_passIsland 83 (.if_icmp .ge 9) 3 86 := ⟨by decide +kernel, rfl⟩
theorem fX0_76 : zFl RX0 76 4 4 := ⟨RX4, TX4, 16, rfl, by decide, (zmem 135 (by decide +kernel) (by decide +kernel)), u_inX4⟩
theorem iX0_passIsland_115 : zI cX0_passIsland 115 (.if_icmp .gt 16) 3 118 := ⟨by decide +kernel, rfl⟩
set_option maxRecDepth 100000 in
theorem wX0_79 : zCv RX0 79 yX0_passStage cX0_passStage 5 none 2 := ⟨⟨(zmem 573 (by decide +kernel) (by decide +kernel)), (zmem 68 (by decide +kernel) (by decide +kernel)), (zmem 576 rfl rfl), ⟨by decide, by decide, by decide +kernel⟩, by decide⟩, (zmem 575 (by decide +kernel) (by decide +kernel)), (zmem 9 (by decide +kernel) (by decide +kernel))⟩
theorem iX0_passIsland_122 : zI cX0_passIsland 122 (.invokevirtual 79) 3 125 := ⟨by decide +kernel, rfl⟩
theorem iX0_passIsland_128 : zI cX0_passIsland 128 (.goto (-22)) 3 131 := ⟨by decide +kernel, rfl⟩
theorem iX0_passIsland_125 : zI cX0_passIsland 125 (.iinc 5 1) 3 128 := ⟨by decide +kernel, rfl⟩
theorem iX0_passIsland_120 : zI cX0_passIsland 120 (.iload 5) 2 122 := ⟨by decide +kernel, rfl⟩
theorem iX0_passIsland_119 : zI cX0_passIsland 119 (.iload_n 1) 1 120 := ⟨by decide +kernel, rfl⟩
theorem iX0_passIsland_118 : zI cX0_passIsland 118 (.aload_n 0) 1 119 := ⟨by decide +kernel, rfl⟩
theorem iX0_passIsland_112 : zI cX0_passIsland 112 (.getfield 76) 3 115 := ⟨by decide +kernel, rfl⟩
theorem iX0_passIsland_109 : zI cX0_passIsland 109 (.getfield 9) 3 112 := ⟨by decide +kernel, rfl⟩
theorem iX0_passIsland_108 : zI cX0_passIsland 108 (.aload_n 0) 1 109 := ⟨by decide +kernel, rfl⟩
theorem iX0_passIsland_106 : zI cX0_passIsland 106 (.iload 5) 2 108 := ⟨by decide +kernel, rfl⟩
set_option maxRecDepth 100000 in
theorem wX0_83 : zCv RX0 83 yX0_passBack cX0_passBack 4 none 1 := ⟨⟨(zmem 581 (by decide +kernel) (by decide +kernel)), (zmem 68 (by decide +kernel) (by decide +kernel)), (zmem 584 rfl rfl), ⟨by decide, by decide, by decide +kernel⟩, by decide⟩, (zmem 583 (by decide +kernel) (by decide +kernel)), (zmem 11 (by decide +kernel) (by decide +kernel))⟩
theorem iX0_passIsland_133 : zI cX0_passIsland 133 (.invokevirtual 83) 3 136 := ⟨by decide +kernel, rfl⟩
theorem iX0_passIsland_136 : zI cX0_passIsland 136 (.return_) 1 137 := ⟨by decide +kernel, rfl⟩
theorem iX0_passIsland_132 : zI cX0_passIsland 132 (.iload_n 1) 1 133 := ⟨by decide +kernel, rfl⟩
theorem iX0_passIsland_131 : zI cX0_passIsland 131 (.aload_n 0) 1 132 := ⟨by decide +kernel, rfl⟩
theorem iX0_passIsland_104 : zI cX0_passIsland 104 (.istore 5) 2 106 := ⟨by decide +kernel, rfl⟩
theorem iX0_passIsland_103 : zI cX0_passIsland 103 (.iconst 1) 1 104 := ⟨by decide +kernel, rfl⟩
theorem iX0_passIsland_102 : zI cX0_passIsland 102 (.iastore) 1 103 := ⟨by decide +kernel, rfl⟩
theorem iX0_passIsland_100 : zI cX0_passIsland 100 (.iload 4) 2 102 := ⟨by decide +kernel, rfl⟩
theorem iX0_passIsland_99 : zI cX0_passIsland 99 (.iload_n 1) 1 100 := ⟨by decide +kernel, rfl⟩
theorem iX0_passIsland_96 : zI cX0_passIsland 96 (.getfield 67) 3 99 := ⟨by decide +kernel, rfl⟩
theorem iX0_passIsland_93 : zI cX0_passIsland 93 (.getfield 15) 3 96 := ⟨by decide +kernel, rfl⟩
theorem iX0_passIsland_92 : zI cX0_passIsland 92 (.aload_n 0) 1 93 := ⟨by decide +kernel, rfl⟩
set_option maxRecDepth 100000 in
theorem wX0_58 : zCv RX0 58 yX0_darken cX0_darken 3 none 1 := ⟨⟨(zmem 558 (by decide +kernel) (by decide +kernel)), (zmem 68 (by decide +kernel) (by decide +kernel)), (zmem 561 rfl rfl), ⟨by decide, by decide, by decide +kernel⟩, by decide⟩, (zmem 560 (by decide +kernel) (by decide +kernel)), (zmem 7 (by decide +kernel) (by decide +kernel))⟩
theorem iX0_passIsland_88 : zI cX0_passIsland 88 (.invokevirtual 58) 3 91 := ⟨by decide +kernel, rfl⟩
theorem iX0_passIsland_91 : zI cX0_passIsland 91 (.return_) 1 92 := ⟨by decide +kernel, rfl⟩
theorem iX0_passIsland_87 : zI cX0_passIsland 87 (.iload_n 1) 1 88 := ⟨by decide +kernel, rfl⟩
theorem iX0_passIsland_86 : zI cX0_passIsland 86 (.aload_n 0) 1 87 := ⟨by decide +kernel, rfl⟩
theorem iX0_passIsland_80 : zI cX0_passIsland 80 (.sipush 4700) 3 83 := ⟨by decide +kernel, rfl⟩
theorem iX0_passIsland_78 : zI cX0_passIsland 78 (.iload 4) 2 80 := ⟨by decide +kernel, rfl⟩
theorem iX0_passIsland_76 : zI cX0_passIsland 76 (.istore 4) 2 78 := ⟨by decide +kernel, rfl⟩
theorem iX0_passIsland_72 : zI cX0_passIsland 72 (.iadd) 1 73 := ⟨by decide +kernel, rfl⟩
theorem iX0_passIsland_71 : zI cX0_passIsland 71 (.idiv) 1 72 := ⟨by decide +kernel, rfl⟩
theorem iX0_passIsland_70 : zI cX0_passIsland 70 (.iload_n 2) 1 71 := ⟨by decide +kernel, rfl⟩
theorem iX0_passIsland_69 : zI cX0_passIsland 69 (.imul) 1 70 := ⟨by decide +kernel, rfl⟩
theorem iX0_passIsland_68 : zI cX0_passIsland 68 (.iload_n 3) 1 69 := ⟨by decide +kernel, rfl⟩
theorem iX0_passIsland_66 : zI cX0_passIsland 66 (.bipush 10) 2 68 := ⟨by decide +kernel, rfl⟩
theorem iX0_passIsland_65 : zI cX0_passIsland 65 (.iaload) 1 66 := ⟨by decide +kernel, rfl⟩
theorem iX0_passIsland_64 : zI cX0_passIsland 64 (.iload_n 1) 1 65 := ⟨by decide +kernel, rfl⟩
theorem iX0_passIsland_61 : zI cX0_passIsland 61 (.getfield 67) 3 64 := ⟨by decide +kernel, rfl⟩
theorem iX0_passIsland_58 : zI cX0_passIsland 58 (.getfield 15) 3 61 := ⟨by decide +kernel, rfl⟩
theorem iX0_passIsland_57 : zI cX0_passIsland 57 (.aload_n 0) 1 58 := ⟨by decide +kernel, rfl⟩
theorem iX0_passIsland_54 : zI cX0_passIsland 54 (.sipush 5200) 3 57 := ⟨by decide +kernel, rfl⟩
theorem iX0_passIsland_53 : zI cX0_passIsland 53 (.istore_n 3) 1 54 := ⟨by decide +kernel, rfl⟩
theorem iX0_passIsland_52 : zI cX0_passIsland 52 (.isub) 1 53 := ⟨by decide +kernel, rfl⟩
theorem iX0_passIsland_48 : zI cX0_passIsland 48 (.iload_n 1) 1 49 := ⟨by decide +kernel, rfl⟩
theorem iX0_passIsland_45 : zI cX0_passIsland 45 (.getfield 15) 3 48 := ⟨by decide +kernel, rfl⟩
theorem iX0_passIsland_44 : zI cX0_passIsland 44 (.aload_n 0) 1 45 := ⟨by decide +kernel, rfl⟩
theorem iX0_passIsland_40 : zI cX0_passIsland 40 (.iload_n 1) 1 41 := ⟨by decide +kernel, rfl⟩
theorem iX0_passIsland_37 : zI cX0_passIsland 37 (.getfield 15) 3 40 := ⟨by decide +kernel, rfl⟩
theorem iX0_passIsland_36 : zI cX0_passIsland 36 (.aload_n 0) 1 37 := ⟨by decide +kernel, rfl⟩
theorem iX0_passIsland_32 : zI cX0_passIsland 32 (.invokevirtual 58) 3 35 := ⟨by decide +kernel, rfl⟩
theorem iX0_passIsland_35 : zI cX0_passIsland 35 (.return_) 1 36 := ⟨by decide +kernel, rfl⟩
theorem iX0_passIsland_31 : zI cX0_passIsland 31 (.iload_n 1) 1 32 := ⟨by decide +kernel, rfl⟩
theorem iX0_passIsland_30 : zI cX0_passIsland 30 (.aload_n 0) 1 31 := ⟨by decide +kernel, rfl⟩
theorem iX0_passIsland_26 : zI cX0_passIsland 26 (.iload_n 2) 1 27 := ⟨by decide +kernel, rfl⟩
theorem iX0_passIsland_25 : zI cX0_passIsland 25 (.istore_n 2) 1 26 := ⟨by decide +kernel, rfl⟩
theorem iX0_passIsland_21 : zI cX0_passIsland 21 (.iload_n 1) 1 22 := ⟨by decide +kernel, rfl⟩
theorem iX0_passIsland_18 : zI cX0_passIsland 18 (.getfield 15) 3 21 := ⟨by decide +kernel, rfl⟩
theorem iX0_passIsland_17 : zI cX0_passIsland 17 (.aload_n 0) 1 18 := ⟨by decide +kernel, rfl⟩
theorem iX0_passIsland_13 : zI cX0_passIsland 13 (.iload_n 1) 1 14 := ⟨by decide +kernel, rfl⟩
theorem iX0_passIsland_12 : zI cX0_passIsland 12 (.aload_n 0) 1 13 := ⟨by decide +kernel, rfl⟩
theorem iX0_passIsland_11 : zI cX0_passIsland 11 (.return_) 1 12 := ⟨by decide +kernel, rfl⟩
theorem iX0_passIsland_4 : zI cX0_passIsland 4 (.iload_n 1) 1 5 := ⟨by decide +kernel, rfl⟩
theorem iX0_passIsland_1 : zI cX0_passIsland 1 (.getfield 15) 3 4 := ⟨by decide +kernel, rfl⟩
theorem iX0_passIsland_0 : zI cX0_passIsland 0 (.aload_n 0) 1 1 := ⟨by decide +kernel, rfl⟩
set_option maxHeartbeats 4000000 in
set_option maxRecDepth 100000 in
theorem m_Co_passIsland (c g : Nat) (hc : isC c g) (hg : isG g) (x1 : Int32) (h : zH) : zM yX0_passIsland cX0_passIsland 6 none 5 shX (fun ad => [.ref (ad c), .int x1]) h eV (Co_passIsland c g x1 h) := by
  refine zM.of (by decide) (fun _ => rfl) (fun _ => Nat.le_of_ble_eq_true rfl) (fun X ad hnL C => ?_)
  show zG X ad shX eV 0 [some (.ref (ad c)), some (.int x1), none, none, none, none] [] h _
  unfold Co_passIsland
  refine g_aload_n C iX0_passIsland_0 rfl ?_
  refine g_getR (b := g) C fX0_15 iX0_passIsland_1 hc rfl ?_
  refine g_iload_n C iX0_passIsland_4 rfl ?_
  refine g_callV C wX0_47 iX0_passIsland_5 (m_Gr_isDark g hg x1 h) (by decide) hg.1 rfl rfl rfl rfl (Nat.le_of_ble_eq_true rfl) (fun r => ?_)
  show zG X ad shX eV 8 [some (.ref (ad c)), some (.int x1), none, none, none, none] [.int r] h _
  refine g_if_eq C 12 iX0_passIsland_8 (by decide) (fun c8 => ?_) (fun c8 => ?_)
  · refine g_aload_n C iX0_passIsland_12 rfl ?_
    refine g_iload_n C iX0_passIsland_13 rfl ?_
    refine g_callV C wX0_51 iX0_passIsland_14 (m_Co_follow c g hc hg x1 h) (by decide) hc rfl rfl rfl rfl (Nat.le_of_ble_eq_true rfl) (fun h_1 => ?_)
    show zG X ad shX eV 17 [some (.ref (ad c)), some (.int x1), none, none, none, none] [] h_1 _
    refine g_aload_n C iX0_passIsland_17 rfl ?_
    refine g_getR (b := g) C fX0_15 iX0_passIsland_18 hc rfl ?_
    refine g_iload_n C iX0_passIsland_21 rfl ?_
    refine g_callV C wX0_54 iX0_passIsland_22 (m_Gr_heavyOf g hg x1 h_1) (by decide) hg.1 rfl rfl rfl rfl (Nat.le_of_ble_eq_true rfl) (fun r_1 => ?_)
    show zG X ad shX eV 25 [some (.ref (ad c)), some (.int x1), none, none, none, none] [.int r_1] h_1 _
    refine g_istore_n (lv' := [some (.ref (ad c)), some (.int x1), some (.int r_1), none, none, none]) C hnL iX0_passIsland_25 (by decide) rfl ?_
    refine g_iload_n C iX0_passIsland_26 rfl ?_
    refine g_if_ne C 36 iX0_passIsland_27 (by decide) (fun c27 => ?_) (fun c27 => ?_)
    · refine g_aload_n C iX0_passIsland_30 rfl ?_
      refine g_iload_n C iX0_passIsland_31 rfl ?_
      refine g_callV C wX0_58 iX0_passIsland_32 (m_Co_darken c g hc hg x1 h_1) (by decide) hc rfl rfl rfl rfl (Nat.le_of_ble_eq_true rfl) (fun h_8 => ?_)
      show zG X ad shX eV 35 [some (.ref (ad c)), some (.int x1), some (.int r_1), none, none, none] [] h_8 _
      exact g_vret C iX0_passIsland_35 rfl
    · refine g_aload_n C iX0_passIsland_36 rfl ?_
      refine g_getR (b := g) C fX0_15 iX0_passIsland_37 hc rfl ?_
      refine g_iload_n C iX0_passIsland_40 rfl ?_
      refine g_callV C wX0_61 iX0_passIsland_41 (m_Gr_givenOf g hg x1 h_1) (by decide) hg.1 rfl rfl rfl rfl (Nat.le_of_ble_eq_true rfl) (fun r_2 => ?_)
      show zG X ad shX eV 44 [some (.ref (ad c)), some (.int x1), some (.int r_1), none, none, none] [.int r_2] h_1 _
      refine g_aload_n C iX0_passIsland_44 rfl ?_
      refine g_getR (b := g) C fX0_15 iX0_passIsland_45 hc rfl ?_
      refine g_iload_n C iX0_passIsland_48 rfl ?_
      refine g_callV C wX0_64 iX0_passIsland_49 (m_Gr_loadOf g hg x1 h_1) (by decide) hg.1 rfl rfl rfl rfl (Nat.le_of_ble_eq_true rfl) (fun r_3 => ?_)
      show zG X ad shX eV 52 [some (.ref (ad c)), some (.int x1), some (.int r_1), none, none, none] [.int r_3, .int r_2] h_1 _
      refine g_isub C iX0_passIsland_52 ?_
      refine g_top (fun x3 => ?_)
      refine g_istore_n (lv' := [some (.ref (ad c)), some (.int x1), some (.int r_1), some (.int x3), none, none]) C hnL iX0_passIsland_53 (by decide) rfl ?_
      refine g_sipush C 5200 iX0_passIsland_54 (by decide) ?_
      refine g_aload_n C iX0_passIsland_57 rfl ?_
      refine g_getR (b := g) C fX0_15 iX0_passIsland_58 hc rfl ?_
      refine g_getR (b := (g + 3)) C fX0_67 iX0_passIsland_61 hg.1 rfl ?_
      refine g_iload_n C iX0_passIsland_64 rfl ?_
      refine g_iaload C iX0_passIsland_65 hg.2.2.2.1 ?_
      refine g_bipush C 10 iX0_passIsland_66 (by decide) ?_
      refine g_iload_n C iX0_passIsland_68 rfl ?_
      refine g_imul C iX0_passIsland_69 ?_
      refine g_iload_n C iX0_passIsland_70 rfl ?_
      refine g_idiv C iX0_passIsland_71 ?_
      refine g_iadd C iX0_passIsland_72 ?_
      refine g_min C wX0_70 iX0_passIsland_73 (by decide) (Nat.le_of_ble_eq_true rfl) ?_
      refine g_top (fun x4 => ?_)
      refine g_istore (lv' := [some (.ref (ad c)), some (.int x1), some (.int r_1), some (.int x3), some (.int x4), none]) C hnL iX0_passIsland_76 (by decide) rfl ?_
      refine g_iload C iX0_passIsland_78 rfl ?_
      refine g_sipush C 4700 iX0_passIsland_80 (by decide) ?_
      refine g_icmp_ge C 92 iX0_passIsland_83 (by decide) (fun c83 => ?_) (fun c83 => ?_)
      · refine g_aload_n C iX0_passIsland_92 rfl ?_
        refine g_getR (b := g) C fX0_15 iX0_passIsland_93 hc rfl ?_
        refine g_getR (b := (g + 3)) C fX0_67 iX0_passIsland_96 hg.1 rfl ?_
        refine g_iload_n C iX0_passIsland_99 rfl ?_
        refine g_iload C iX0_passIsland_100 rfl ?_
        refine g_iastore C iX0_passIsland_102 hg.2.2.2.1 (fun h_2 => ?_)
        refine g_iconst C 1 iX0_passIsland_103 (by decide) ?_
        refine g_istore (lv' := [some (.ref (ad c)), some (.int x1), some (.int r_1), some (.int x3), some (.int x4), some (.int 1)]) C hnL iX0_passIsland_104 (by decide) rfl ?_
        have L106 : ∀ (k131 : zH → Option (zH)), (∀ (hy : zH), zG X ad shX eV 131 [some (.ref (ad c)), some (.int x1), none, none, none, none] [] hy (k131 hy)) → ∀ (n : Nat) (x5 : Int32) (h_3 : zH), zG X ad shX eV 106 [some (.ref (ad c)), some (.int x1), none, none, none, some (.int x5)] [] h_3 (Co_passIsland_L106 c g x1 k131 n x5 h_3) := by
          intro k131 hk131 n
          induction n with
          | zero =>
            intro x5 h_3
            exact g_none
          | succ n ih106 =>
            intro x5 h_3
            rw [Co_passIsland_L106]
            refine g_iload C iX0_passIsland_106 rfl ?_
            refine g_aload_n C iX0_passIsland_108 rfl ?_
            refine g_getR (b := 17) C fX0_9 iX0_passIsland_109 hc rfl ?_
            refine g_getI C fX0_76 iX0_passIsland_112 isP17.1 rfl ?_
            refine g_icmp_gt C 131 iX0_passIsland_115 (by decide) (fun c115 => ?_) (fun c115 => ?_)
            · refine g_sub (lv' := [some (.ref (ad c)), some (.int x1), none, none, none, none]) ⟨rfl, ⟨rfl, trivial⟩⟩ ?_
              exact hk131 _
            · refine g_aload_n C iX0_passIsland_118 rfl ?_
              refine g_iload_n C iX0_passIsland_119 rfl ?_
              refine g_iload C iX0_passIsland_120 rfl ?_
              refine g_callV C wX0_79 iX0_passIsland_122 (m_Co_passStage c g hc hg x1 x5 h_3) (by decide) hc rfl rfl rfl rfl (Nat.le_of_ble_eq_true rfl) (fun h_4 => ?_)
              show zG X ad shX eV 125 [some (.ref (ad c)), some (.int x1), none, none, none, some (.int x5)] [] h_4 _
              refine g_iinc (v := (x5 + 1)) (lv' := [some (.ref (ad c)), some (.int x1), none, none, none, some (.int (x5 + 1))]) C hnL iX0_passIsland_125 (by decide) rfl rfl rfl ?_
              refine g_goto C 106 iX0_passIsland_128 (by decide) ?_
              exact ih106 _ _
        refine g_sub (lv' := [some (.ref (ad c)), some (.int x1), none, none, none, some (.int 1)]) ⟨rfl, ⟨rfl, ⟨rfl, trivial⟩⟩⟩ ?_
        refine L106 _ (fun h_5 => ?_) 1000 _ _
        show zG X ad shX eV 131 [some (.ref (ad c)), some (.int x1), none, none, none, none] [] h_5 _
        refine g_aload_n C iX0_passIsland_131 rfl ?_
        refine g_iload_n C iX0_passIsland_132 rfl ?_
        refine g_callV C wX0_83 iX0_passIsland_133 (m_Co_passBack c g hc hg x1 h_5) (by decide) hc rfl rfl rfl rfl (Nat.le_of_ble_eq_true rfl) (fun h_6 => ?_)
        show zG X ad shX eV 136 [some (.ref (ad c)), some (.int x1), none, none, none, none] [] h_6 _
        exact g_vret C iX0_passIsland_136 rfl
      · refine g_aload_n C iX0_passIsland_86 rfl ?_
        refine g_iload_n C iX0_passIsland_87 rfl ?_
        refine g_callV C wX0_58 iX0_passIsland_88 (m_Co_darken c g hc hg x1 h_1) (by decide) hc rfl rfl rfl rfl (Nat.le_of_ble_eq_true rfl) (fun h_7 => ?_)
        show zG X ad shX eV 91 [some (.ref (ad c)), some (.int x1), some (.int r_1), some (.int x3), some (.int x4), none] [] h_7 _
        exact g_vret C iX0_passIsland_91 rfl
  · exact g_vret C iX0_passIsland_11 rfl

theorem fX0_29 : zFl RX0 29 1 11 := ⟨RX1, TX1, 12, rfl, by decide, (zmem 230 (by decide +kernel) (by decide +kernel)), u_inX1⟩
theorem pX0_29 : zFp RX0 29 1 11 := ⟨RX1, TX1, 12, rfl, by decide, (zmem 230 (by decide +kernel) (by decide +kernel)), u_inX1, by decide +kernel, by decide +kernel, ⟨tyX1, tyX1_ok⟩, nmX1⟩
theorem fX0_34 : zFl RX0 34 4 0 := ⟨RX4, TX4, 16, rfl, by decide, (zmem 120 (by decide +kernel) (by decide +kernel)), u_inX4⟩
theorem iX0_pass_23 : zI cX0_pass 23 (.if_icmp .ge 27) 3 26 := ⟨by decide +kernel, rfl⟩
theorem iX0_pass_36 : zI cX0_pass 36 (.if_icmp .ne 8) 3 39 := ⟨by decide +kernel, rfl⟩
theorem iX0_pass_47 : zI cX0_pass 47 (.goto (-32)) 3 50 := ⟨by decide +kernel, rfl⟩
theorem iX0_pass_44 : zI cX0_pass 44 (.iinc 1 1) 3 47 := ⟨by decide +kernel, rfl⟩
set_option maxRecDepth 100000 in
theorem wX0_43 : zCv RX0 43 yX0_passIsland cX0_passIsland 6 none 1 := ⟨⟨(zmem 533 (by decide +kernel) (by decide +kernel)), (zmem 68 (by decide +kernel) (by decide +kernel)), (zmem 536 rfl rfl), ⟨by decide, by decide, by decide +kernel⟩, by decide⟩, (zmem 534 (by decide +kernel) (by decide +kernel)), (zmem 535 (by decide +kernel) (by decide +kernel))⟩
theorem iX0_pass_41 : zI cX0_pass 41 (.invokevirtual 43) 3 44 := ⟨by decide +kernel, rfl⟩
theorem iX0_pass_40 : zI cX0_pass 40 (.iload_n 1) 1 41 := ⟨by decide +kernel, rfl⟩
theorem iX0_pass_39 : zI cX0_pass 39 (.aload_n 0) 1 40 := ⟨by decide +kernel, rfl⟩
theorem iX0_pass_35 : zI cX0_pass 35 (.iload_n 1) 1 36 := ⟨by decide +kernel, rfl⟩
theorem iX0_pass_34 : zI cX0_pass 34 (.iaload) 1 35 := ⟨by decide +kernel, rfl⟩
theorem iX0_pass_33 : zI cX0_pass 33 (.iload_n 1) 1 34 := ⟨by decide +kernel, rfl⟩
theorem iX0_pass_30 : zI cX0_pass 30 (.getfield 39) 3 33 := ⟨by decide +kernel, rfl⟩
theorem iX0_pass_27 : zI cX0_pass 27 (.getfield 15) 3 30 := ⟨by decide +kernel, rfl⟩
theorem iX0_pass_26 : zI cX0_pass 26 (.aload_n 0) 1 27 := ⟨by decide +kernel, rfl⟩
theorem iX0_pass_20 : zI cX0_pass 20 (.getfield 34) 3 23 := ⟨by decide +kernel, rfl⟩
theorem iX0_pass_17 : zI cX0_pass 17 (.getfield 9) 3 20 := ⟨by decide +kernel, rfl⟩
theorem iX0_pass_16 : zI cX0_pass 16 (.aload_n 0) 1 17 := ⟨by decide +kernel, rfl⟩
theorem iX0_pass_15 : zI cX0_pass 15 (.iload_n 1) 1 16 := ⟨by decide +kernel, rfl⟩
theorem iX0_pass_50 : zI cX0_pass 50 (.return_) 1 51 := ⟨by decide +kernel, rfl⟩
theorem iX0_pass_14 : zI cX0_pass 14 (.istore_n 1) 1 15 := ⟨by decide +kernel, rfl⟩
theorem iX0_pass_13 : zI cX0_pass 13 (.iconst 0) 1 14 := ⟨by decide +kernel, rfl⟩
theorem iX0_pass_10 : zI cX0_pass 10 (.putfield 29) 3 13 := ⟨by decide +kernel, rfl⟩
theorem iX0_pass_9 : zI cX0_pass 9 (.iadd) 1 10 := ⟨by decide +kernel, rfl⟩
theorem iX0_pass_8 : zI cX0_pass 8 (.iconst 1) 1 9 := ⟨by decide +kernel, rfl⟩
theorem iX0_pass_5 : zI cX0_pass 5 (.getfield 29) 3 8 := ⟨by decide +kernel, rfl⟩
theorem iX0_pass_4 : zI cX0_pass 4 (.dup) 1 5 := ⟨by decide +kernel, rfl⟩
theorem iX0_pass_1 : zI cX0_pass 1 (.getfield 15) 3 4 := ⟨by decide +kernel, rfl⟩
theorem iX0_pass_0 : zI cX0_pass 0 (.aload_n 0) 1 1 := ⟨by decide +kernel, rfl⟩
set_option maxHeartbeats 4000000 in
set_option maxRecDepth 100000 in
theorem m_Co_pass (c g : Nat) (hc : isC c g) (hg : isG g) (h : zH) : zM yX0_pass cX0_pass 2 none 6 shX (fun ad => [.ref (ad c)]) h eV (Co_pass c g h) := by
  refine zM.of (by decide) (fun _ => rfl) (fun _ => Nat.le_of_ble_eq_true rfl) (fun X ad hnL C => ?_)
  show zG X ad shX eV 0 [some (.ref (ad c)), none] [] h _
  unfold Co_pass
  refine g_aload_n C iX0_pass_0 rfl ?_
  refine g_getR (b := g) C fX0_15 iX0_pass_1 hc rfl ?_
  refine g_dup C iX0_pass_4 rfl ?_
  refine g_getI C fX0_29 iX0_pass_5 hg.1 rfl ?_
  refine g_iconst C 1 iX0_pass_8 (by decide) ?_
  refine g_iadd C iX0_pass_9 ?_
  refine g_putI C pX0_29 iX0_pass_10 hg.1 rfl (fun h_1 => ?_)
  refine g_iconst C 0 iX0_pass_13 (by decide) ?_
  refine g_istore_n (lv' := [some (.ref (ad c)), some (.int 0)]) C hnL iX0_pass_14 (by decide) rfl ?_
  have L15 : ∀ (k50 : zH → Option (zH)), (∀ (hy : zH), zG X ad shX eV 50 [none, none] [] hy (k50 hy)) → ∀ (n : Nat) (x1 : Int32) (h_2 : zH), zG X ad shX eV 15 [some (.ref (ad c)), some (.int x1)] [] h_2 (Co_pass_L15 c g k50 n x1 h_2) := by
    intro k50 hk50 n
    induction n with
    | zero =>
      intro x1 h_2
      exact g_none
    | succ n ih15 =>
      intro x1 h_2
      rw [Co_pass_L15]
      refine g_iload_n C iX0_pass_15 rfl ?_
      refine g_aload_n C iX0_pass_16 rfl ?_
      refine g_getR (b := 17) C fX0_9 iX0_pass_17 hc rfl ?_
      refine g_getI C fX0_34 iX0_pass_20 isP17.1 rfl ?_
      refine g_icmp_ge C 50 iX0_pass_23 (by decide) (fun c23 => ?_) (fun c23 => ?_)
      · refine g_sub (lv' := [none, none]) trivial ?_
        exact hk50 _
      · refine g_aload_n C iX0_pass_26 rfl ?_
        refine g_getR (b := g) C fX0_15 iX0_pass_27 hc rfl ?_
        refine g_getR (b := (g + 1)) C fX0_39 iX0_pass_30 hg.1 rfl ?_
        refine g_iload_n C iX0_pass_33 rfl ?_
        refine g_iaload C iX0_pass_34 hg.2.1 ?_
        refine g_iload_n C iX0_pass_35 rfl ?_
        refine g_icmp_ne C 44 iX0_pass_36 (by decide) (fun c36 => ?_) (fun c36 => ?_)
        · refine g_aload_n C iX0_pass_39 rfl ?_
          refine g_iload_n C iX0_pass_40 rfl ?_
          refine g_callV C wX0_43 iX0_pass_41 (m_Co_passIsland c g hc hg x1 h_2) (by decide) hc rfl rfl rfl rfl (Nat.le_of_ble_eq_true rfl) (fun h_3 => ?_)
          show zG X ad shX eV 44 [some (.ref (ad c)), some (.int x1)] [] h_3 _
          refine g_iinc (v := (x1 + 1)) (lv' := [some (.ref (ad c)), some (.int (x1 + 1))]) C hnL iX0_pass_44 (by decide) rfl rfl rfl ?_
          refine g_goto C 15 iX0_pass_47 (by decide) ?_
          exact ih15 _ _
        · refine g_iinc (v := (x1 + 1)) (lv' := [some (.ref (ad c)), some (.int (x1 + 1))]) C hnL iX0_pass_44 (by decide) rfl rfl rfl ?_
          refine g_goto C 15 iX0_pass_47 (by decide) ?_
          exact ih15 _ _
  refine L15 _ (fun h_4 => ?_) 1000 _ _
  show zG X ad shX eV 50 [none, none] [] h_4 _
  exact g_vret C iX0_pass_50 rfl

set_option maxRecDepth 100000 in
theorem wX1_37 : zCp RX1 37 := ⟨(zmem 417 (by decide +kernel) (by decide +kernel)), (zmem 419 (by decide +kernel) (by decide +kernel)), (zmem 418 (by decide +kernel) (by decide +kernel)), (zmem 74 (by decide +kernel) (by decide +kernel))⟩
theorem iX1_copy_12 : zI cX1_copy 12 (.invokestatic 37) 3 15 := ⟨by decide +kernel, rfl⟩
theorem iX1_copy_27 : zI cX1_copy 27 (.invokestatic 37) 3 30 := ⟨by decide +kernel, rfl⟩
theorem fX1_21 : zFl RX1 21 1 5 := ⟨RX1, TX1, 12, rfl, by decide, (zmem 212 (by decide +kernel) (by decide +kernel)), u_inX1⟩
theorem iX1_copy_42 : zI cX1_copy 42 (.invokestatic 37) 3 45 := ⟨by decide +kernel, rfl⟩
theorem iX1_copy_57 : zI cX1_copy 57 (.invokestatic 37) 3 60 := ⟨by decide +kernel, rfl⟩
theorem iX1_copy_72 : zI cX1_copy 72 (.invokestatic 37) 3 75 := ⟨by decide +kernel, rfl⟩
theorem fX1_30 : zFl RX1 30 1 10 := ⟨RX1, TX1, 12, rfl, by decide, (zmem 226 (by decide +kernel) (by decide +kernel)), u_inX1⟩
theorem iX1_copy_87 : zI cX1_copy 87 (.invokestatic 37) 3 90 := ⟨by decide +kernel, rfl⟩
theorem fX1_43 : zFl RX1 43 1 1 := ⟨RX1, TX1, 12, rfl, by decide, (zmem 203 (by decide +kernel) (by decide +kernel)), u_inX1⟩
theorem pX1_43 : zFp RX1 43 1 1 := ⟨RX1, TX1, 12, rfl, by decide, (zmem 203 (by decide +kernel) (by decide +kernel)), u_inX1, by decide +kernel, by decide +kernel, ⟨tyX1, tyX1_ok⟩, nmX1⟩
theorem fX1_53 : zFl RX1 53 1 11 := ⟨RX1, TX1, 12, rfl, by decide, (zmem 229 (by decide +kernel) (by decide +kernel)), u_inX1⟩
theorem pX1_53 : zFp RX1 53 1 11 := ⟨RX1, TX1, 12, rfl, by decide, (zmem 229 (by decide +kernel) (by decide +kernel)), u_inX1, by decide +kernel, by decide +kernel, ⟨tyX1, tyX1_ok⟩, nmX1⟩
theorem iX1_copy_122 : zI cX1_copy 122 (.return_) 1 123 := ⟨by decide +kernel, rfl⟩
theorem iX1_copy_119 : zI cX1_copy 119 (.putfield 53) 3 122 := ⟨by decide +kernel, rfl⟩
theorem iX1_copy_116 : zI cX1_copy 116 (.getfield 53) 3 119 := ⟨by decide +kernel, rfl⟩
theorem iX1_copy_115 : zI cX1_copy 115 (.aload_n 1) 1 116 := ⟨by decide +kernel, rfl⟩
theorem iX1_copy_114 : zI cX1_copy 114 (.aload_n 0) 1 115 := ⟨by decide +kernel, rfl⟩
theorem iX1_copy_111 : zI cX1_copy 111 (.putfield 50) 3 114 := ⟨by decide +kernel, rfl⟩
theorem iX1_copy_108 : zI cX1_copy 108 (.getfield 50) 3 111 := ⟨by decide +kernel, rfl⟩
theorem iX1_copy_107 : zI cX1_copy 107 (.aload_n 1) 1 108 := ⟨by decide +kernel, rfl⟩
theorem iX1_copy_106 : zI cX1_copy 106 (.aload_n 0) 1 107 := ⟨by decide +kernel, rfl⟩
theorem iX1_copy_103 : zI cX1_copy 103 (.putfield 47) 3 106 := ⟨by decide +kernel, rfl⟩
theorem iX1_copy_100 : zI cX1_copy 100 (.getfield 47) 3 103 := ⟨by decide +kernel, rfl⟩
theorem iX1_copy_99 : zI cX1_copy 99 (.aload_n 1) 1 100 := ⟨by decide +kernel, rfl⟩
theorem iX1_copy_98 : zI cX1_copy 98 (.aload_n 0) 1 99 := ⟨by decide +kernel, rfl⟩
theorem iX1_copy_95 : zI cX1_copy 95 (.putfield 43) 3 98 := ⟨by decide +kernel, rfl⟩
theorem iX1_copy_92 : zI cX1_copy 92 (.getfield 43) 3 95 := ⟨by decide +kernel, rfl⟩
theorem iX1_copy_91 : zI cX1_copy 91 (.aload_n 1) 1 92 := ⟨by decide +kernel, rfl⟩
theorem iX1_copy_90 : zI cX1_copy 90 (.aload_n 0) 1 91 := ⟨by decide +kernel, rfl⟩
theorem iX1_copy_85 : zI cX1_copy 85 (.bipush 6) 2 87 := ⟨by decide +kernel, rfl⟩
theorem iX1_copy_84 : zI cX1_copy 84 (.iconst 0) 1 85 := ⟨by decide +kernel, rfl⟩
theorem iX1_copy_81 : zI cX1_copy 81 (.getfield 30) 3 84 := ⟨by decide +kernel, rfl⟩
theorem iX1_copy_80 : zI cX1_copy 80 (.aload_n 0) 1 81 := ⟨by decide +kernel, rfl⟩
theorem iX1_copy_79 : zI cX1_copy 79 (.iconst 0) 1 80 := ⟨by decide +kernel, rfl⟩
theorem iX1_copy_76 : zI cX1_copy 76 (.getfield 30) 3 79 := ⟨by decide +kernel, rfl⟩
theorem iX1_copy_75 : zI cX1_copy 75 (.aload_n 1) 1 76 := ⟨by decide +kernel, rfl⟩
theorem iX1_copy_70 : zI cX1_copy 70 (.bipush 9) 2 72 := ⟨by decide +kernel, rfl⟩
theorem iX1_copy_69 : zI cX1_copy 69 (.iconst 0) 1 70 := ⟨by decide +kernel, rfl⟩
theorem iX1_copy_66 : zI cX1_copy 66 (.getfield 27) 3 69 := ⟨by decide +kernel, rfl⟩
theorem iX1_copy_65 : zI cX1_copy 65 (.aload_n 0) 1 66 := ⟨by decide +kernel, rfl⟩
theorem iX1_copy_64 : zI cX1_copy 64 (.iconst 0) 1 65 := ⟨by decide +kernel, rfl⟩
theorem iX1_copy_61 : zI cX1_copy 61 (.getfield 27) 3 64 := ⟨by decide +kernel, rfl⟩
theorem iX1_copy_60 : zI cX1_copy 60 (.aload_n 1) 1 61 := ⟨by decide +kernel, rfl⟩
theorem iX1_copy_55 : zI cX1_copy 55 (.bipush 6) 2 57 := ⟨by decide +kernel, rfl⟩
theorem iX1_copy_54 : zI cX1_copy 54 (.iconst 0) 1 55 := ⟨by decide +kernel, rfl⟩
theorem iX1_copy_51 : zI cX1_copy 51 (.getfield 24) 3 54 := ⟨by decide +kernel, rfl⟩
theorem iX1_copy_50 : zI cX1_copy 50 (.aload_n 0) 1 51 := ⟨by decide +kernel, rfl⟩
theorem iX1_copy_49 : zI cX1_copy 49 (.iconst 0) 1 50 := ⟨by decide +kernel, rfl⟩
theorem iX1_copy_46 : zI cX1_copy 46 (.getfield 24) 3 49 := ⟨by decide +kernel, rfl⟩
theorem iX1_copy_45 : zI cX1_copy 45 (.aload_n 1) 1 46 := ⟨by decide +kernel, rfl⟩
theorem iX1_copy_40 : zI cX1_copy 40 (.bipush 36) 2 42 := ⟨by decide +kernel, rfl⟩
theorem iX1_copy_39 : zI cX1_copy 39 (.iconst 0) 1 40 := ⟨by decide +kernel, rfl⟩
theorem iX1_copy_36 : zI cX1_copy 36 (.getfield 21) 3 39 := ⟨by decide +kernel, rfl⟩
theorem iX1_copy_35 : zI cX1_copy 35 (.aload_n 0) 1 36 := ⟨by decide +kernel, rfl⟩
theorem iX1_copy_34 : zI cX1_copy 34 (.iconst 0) 1 35 := ⟨by decide +kernel, rfl⟩
theorem iX1_copy_31 : zI cX1_copy 31 (.getfield 21) 3 34 := ⟨by decide +kernel, rfl⟩
theorem iX1_copy_30 : zI cX1_copy 30 (.aload_n 1) 1 31 := ⟨by decide +kernel, rfl⟩
theorem iX1_copy_25 : zI cX1_copy 25 (.bipush 6) 2 27 := ⟨by decide +kernel, rfl⟩
theorem iX1_copy_24 : zI cX1_copy 24 (.iconst 0) 1 25 := ⟨by decide +kernel, rfl⟩
theorem iX1_copy_21 : zI cX1_copy 21 (.getfield 18) 3 24 := ⟨by decide +kernel, rfl⟩
theorem iX1_copy_20 : zI cX1_copy 20 (.aload_n 0) 1 21 := ⟨by decide +kernel, rfl⟩
theorem iX1_copy_19 : zI cX1_copy 19 (.iconst 0) 1 20 := ⟨by decide +kernel, rfl⟩
theorem iX1_copy_16 : zI cX1_copy 16 (.getfield 18) 3 19 := ⟨by decide +kernel, rfl⟩
theorem iX1_copy_15 : zI cX1_copy 15 (.aload_n 1) 1 16 := ⟨by decide +kernel, rfl⟩
theorem iX1_copy_10 : zI cX1_copy 10 (.bipush 6) 2 12 := ⟨by decide +kernel, rfl⟩
theorem iX1_copy_9 : zI cX1_copy 9 (.iconst 0) 1 10 := ⟨by decide +kernel, rfl⟩
theorem iX1_copy_6 : zI cX1_copy 6 (.getfield 9) 3 9 := ⟨by decide +kernel, rfl⟩
theorem iX1_copy_5 : zI cX1_copy 5 (.aload_n 0) 1 6 := ⟨by decide +kernel, rfl⟩
theorem iX1_copy_4 : zI cX1_copy 4 (.iconst 0) 1 5 := ⟨by decide +kernel, rfl⟩
theorem iX1_copy_1 : zI cX1_copy 1 (.getfield 9) 3 4 := ⟨by decide +kernel, rfl⟩
theorem iX1_copy_0 : zI cX1_copy 0 (.aload_n 1) 1 1 := ⟨by decide +kernel, rfl⟩
set_option maxHeartbeats 4000000 in
set_option maxRecDepth 100000 in
theorem m_Gr_copy (g : Nat) (hg : isG g) (o : Nat) (ho : isG o) (h : zH) : zM yX1_copy cX1_copy 2 none 2 shX (fun ad => [.ref (ad g), .ref (ad o)]) h eV (Gr_copy g o h) := by
  refine zM.of (by decide) (fun _ => rfl) (fun _ => Nat.le_of_ble_eq_true rfl) (fun X ad hnL C => ?_)
  show zG X ad shX eV 0 [some (.ref (ad g)), some (.ref (ad o))] [] h _
  unfold Gr_copy
  refine g_aload_n C iX1_copy_0 rfl ?_
  refine g_getR (b := (o + 1)) C fX1_9 iX1_copy_1 ho.1 rfl ?_
  refine g_iconst C 0 iX1_copy_4 (by decide) ?_
  refine g_aload_n C iX1_copy_5 rfl ?_
  refine g_getR (b := (g + 1)) C fX1_9 iX1_copy_6 hg.1 rfl ?_
  refine g_iconst C 0 iX1_copy_9 (by decide) ?_
  refine g_bipush C 6 iX1_copy_10 (by decide) ?_
  refine g_copy C wX1_37 iX1_copy_12 (by decide) (Nat.le_of_ble_eq_true rfl) ho.2.1 hg.2.1 (by decide) (by decide) (by decide) (by decide) (fun h_1 => ?_)
  refine g_aload_n C iX1_copy_15 rfl ?_
  refine g_getR (b := (o + 3)) C fX1_18 iX1_copy_16 ho.1 rfl ?_
  refine g_iconst C 0 iX1_copy_19 (by decide) ?_
  refine g_aload_n C iX1_copy_20 rfl ?_
  refine g_getR (b := (g + 3)) C fX1_18 iX1_copy_21 hg.1 rfl ?_
  refine g_iconst C 0 iX1_copy_24 (by decide) ?_
  refine g_bipush C 6 iX1_copy_25 (by decide) ?_
  refine g_copy C wX1_37 iX1_copy_27 (by decide) (Nat.le_of_ble_eq_true rfl) ho.2.2.2.1 hg.2.2.2.1 (by decide) (by decide) (by decide) (by decide) (fun h_2 => ?_)
  refine g_aload_n C iX1_copy_30 rfl ?_
  refine g_getR (b := (o + 4)) C fX1_21 iX1_copy_31 ho.1 rfl ?_
  refine g_iconst C 0 iX1_copy_34 (by decide) ?_
  refine g_aload_n C iX1_copy_35 rfl ?_
  refine g_getR (b := (g + 4)) C fX1_21 iX1_copy_36 hg.1 rfl ?_
  refine g_iconst C 0 iX1_copy_39 (by decide) ?_
  refine g_bipush C 36 iX1_copy_40 (by decide) ?_
  refine g_copy C wX1_37 iX1_copy_42 (by decide) (Nat.le_of_ble_eq_true rfl) ho.2.2.2.2.1 hg.2.2.2.2.1 (by decide) (by decide) (by decide) (by decide) (fun h_3 => ?_)
  refine g_aload_n C iX1_copy_45 rfl ?_
  refine g_getR (b := (o + 5)) C fX1_24 iX1_copy_46 ho.1 rfl ?_
  refine g_iconst C 0 iX1_copy_49 (by decide) ?_
  refine g_aload_n C iX1_copy_50 rfl ?_
  refine g_getR (b := (g + 5)) C fX1_24 iX1_copy_51 hg.1 rfl ?_
  refine g_iconst C 0 iX1_copy_54 (by decide) ?_
  refine g_bipush C 6 iX1_copy_55 (by decide) ?_
  refine g_copy C wX1_37 iX1_copy_57 (by decide) (Nat.le_of_ble_eq_true rfl) ho.2.2.2.2.2.1 hg.2.2.2.2.2.1 (by decide) (by decide) (by decide) (by decide) (fun h_4 => ?_)
  refine g_aload_n C iX1_copy_60 rfl ?_
  refine g_getR (b := (o + 6)) C fX1_27 iX1_copy_61 ho.1 rfl ?_
  refine g_iconst C 0 iX1_copy_64 (by decide) ?_
  refine g_aload_n C iX1_copy_65 rfl ?_
  refine g_getR (b := (g + 6)) C fX1_27 iX1_copy_66 hg.1 rfl ?_
  refine g_iconst C 0 iX1_copy_69 (by decide) ?_
  refine g_bipush C 9 iX1_copy_70 (by decide) ?_
  refine g_copy C wX1_37 iX1_copy_72 (by decide) (Nat.le_of_ble_eq_true rfl) ho.2.2.2.2.2.2.1 hg.2.2.2.2.2.2.1 (by decide) (by decide) (by decide) (by decide) (fun h_5 => ?_)
  refine g_aload_n C iX1_copy_75 rfl ?_
  refine g_getR (b := (o + 7)) C fX1_30 iX1_copy_76 ho.1 rfl ?_
  refine g_iconst C 0 iX1_copy_79 (by decide) ?_
  refine g_aload_n C iX1_copy_80 rfl ?_
  refine g_getR (b := (g + 7)) C fX1_30 iX1_copy_81 hg.1 rfl ?_
  refine g_iconst C 0 iX1_copy_84 (by decide) ?_
  refine g_bipush C 6 iX1_copy_85 (by decide) ?_
  refine g_copy C wX1_37 iX1_copy_87 (by decide) (Nat.le_of_ble_eq_true rfl) ho.2.2.2.2.2.2.2 hg.2.2.2.2.2.2.2 (by decide) (by decide) (by decide) (by decide) (fun h_6 => ?_)
  refine g_aload_n C iX1_copy_90 rfl ?_
  refine g_aload_n C iX1_copy_91 rfl ?_
  refine g_getI C fX1_43 iX1_copy_92 ho.1 rfl ?_
  refine g_putI C pX1_43 iX1_copy_95 hg.1 rfl (fun h_7 => ?_)
  refine g_aload_n C iX1_copy_98 rfl ?_
  refine g_aload_n C iX1_copy_99 rfl ?_
  refine g_getI C fX1_47 iX1_copy_100 ho.1 rfl ?_
  refine g_putI C pX1_47 iX1_copy_103 hg.1 rfl (fun h_8 => ?_)
  refine g_aload_n C iX1_copy_106 rfl ?_
  refine g_aload_n C iX1_copy_107 rfl ?_
  refine g_getI C fX1_50 iX1_copy_108 ho.1 rfl ?_
  refine g_putI C pX1_50 iX1_copy_111 hg.1 rfl (fun h_9 => ?_)
  refine g_aload_n C iX1_copy_114 rfl ?_
  refine g_aload_n C iX1_copy_115 rfl ?_
  refine g_getI C fX1_53 iX1_copy_116 ho.1 rfl ?_
  refine g_putI C pX1_53 iX1_copy_119 hg.1 rfl (fun h_10 => ?_)
  exact g_vret C iX1_copy_122 rfl

theorem iX1_findRoots_5 : zI cX1_findRoots 5 (.if_icmp .ge 16) 3 8 := ⟨by decide +kernel, rfl⟩
theorem iX1_findRoots_18 : zI cX1_findRoots 18 (.goto (-16)) 3 21 := ⟨by decide +kernel, rfl⟩
theorem iX1_findRoots_15 : zI cX1_findRoots 15 (.iinc 1 1) 3 18 := ⟨by decide +kernel, rfl⟩
theorem iX1_findRoots_14 : zI cX1_findRoots 14 (.iastore) 1 15 := ⟨by decide +kernel, rfl⟩
theorem iX1_findRoots_13 : zI cX1_findRoots 13 (.iload_n 1) 1 14 := ⟨by decide +kernel, rfl⟩
theorem iX1_findRoots_12 : zI cX1_findRoots 12 (.iload_n 1) 1 13 := ⟨by decide +kernel, rfl⟩
theorem iX1_findRoots_9 : zI cX1_findRoots 9 (.getfield 9) 3 12 := ⟨by decide +kernel, rfl⟩
theorem iX1_findRoots_8 : zI cX1_findRoots 8 (.aload_n 0) 1 9 := ⟨by decide +kernel, rfl⟩
theorem iX1_findRoots_3 : zI cX1_findRoots 3 (.bipush 6) 2 5 := ⟨by decide +kernel, rfl⟩
theorem iX1_findRoots_2 : zI cX1_findRoots 2 (.iload_n 1) 1 3 := ⟨by decide +kernel, rfl⟩
theorem fX1_99 : zFl RX1 99 4 0 := ⟨RX4, TX4, 16, rfl, by decide, (zmem 122 (by decide +kernel) (by decide +kernel)), u_inX4⟩
theorem iX1_findRoots_31 : zI cX1_findRoots 31 (.if_icmp .ge 95) 3 34 := ⟨by decide +kernel, rfl⟩
theorem fX1_56 : zFl RX1 56 4 1 := ⟨RX4, TX4, 16, rfl, by decide, (zmem 124 (by decide +kernel) (by decide +kernel)), u_inX4⟩
theorem iX1_findRoots_44 : zI cX1_findRoots 44 (.if_icmp .ge 76) 3 47 := ⟨by decide +kernel, rfl⟩
theorem iX1_findRoots_52 : zI cX1_findRoots 52 (.invokestatic 102) 3 55 := ⟨by decide +kernel, rfl⟩
theorem iX1_findRoots_55 : zI cX1_findRoots 55 (.ifCond .eq 59) 3 58 := ⟨by decide +kernel, rfl⟩
theorem iX1_findRoots_117 : zI cX1_findRoots 117 (.goto (-81)) 3 120 := ⟨by decide +kernel, rfl⟩
theorem iX1_findRoots_114 : zI cX1_findRoots 114 (.iinc 2 1) 3 117 := ⟨by decide +kernel, rfl⟩
theorem fX1_106 : zFl RX1 106 4 5 := ⟨RX4, TX4, 16, rfl, by decide, (zmem 138 (by decide +kernel) (by decide +kernel)), u_inX4⟩
theorem fX1_109 : zFl RX1 109 4 6 := ⟨RX4, TX4, 16, rfl, by decide, (zmem 140 (by decide +kernel) (by decide +kernel)), u_inX4⟩
set_option maxRecDepth 100000 in
theorem wX1_93 : zMw RX1 93 Lib.Math.min.name Lib.Math.min.code 2 := ⟨(zmem 427 (by decide +kernel) (by decide +kernel)), (zmem 428 (by decide +kernel) (by decide +kernel)), (zmem 75 (by decide +kernel) (by decide +kernel)), (zmem 429 rfl rfl)⟩
theorem iX1_findRoots_92 : zI cX1_findRoots 92 (.invokestatic 93) 3 95 := ⟨by decide +kernel, rfl⟩
theorem iX1_findRoots_113 : zI cX1_findRoots 113 (.iastore) 1 114 := ⟨by decide +kernel, rfl⟩
theorem iX1_findRoots_111 : zI cX1_findRoots 111 (.iload 5) 2 113 := ⟨by decide +kernel, rfl⟩
theorem iX1_findRoots_109 : zI cX1_findRoots 109 (.iload 4) 2 111 := ⟨by decide +kernel, rfl⟩
theorem iX1_findRoots_106 : zI cX1_findRoots 106 (.getfield 9) 3 109 := ⟨by decide +kernel, rfl⟩
theorem iX1_findRoots_105 : zI cX1_findRoots 105 (.aload_n 0) 1 106 := ⟨by decide +kernel, rfl⟩
theorem iX1_findRoots_104 : zI cX1_findRoots 104 (.iastore) 1 105 := ⟨by decide +kernel, rfl⟩
theorem iX1_findRoots_102 : zI cX1_findRoots 102 (.iload 5) 2 104 := ⟨by decide +kernel, rfl⟩
theorem iX1_findRoots_101 : zI cX1_findRoots 101 (.iload_n 3) 1 102 := ⟨by decide +kernel, rfl⟩
theorem iX1_findRoots_98 : zI cX1_findRoots 98 (.getfield 9) 3 101 := ⟨by decide +kernel, rfl⟩
theorem iX1_findRoots_97 : zI cX1_findRoots 97 (.aload_n 0) 1 98 := ⟨by decide +kernel, rfl⟩
theorem iX1_findRoots_95 : zI cX1_findRoots 95 (.istore 5) 2 97 := ⟨by decide +kernel, rfl⟩
theorem iX1_findRoots_91 : zI cX1_findRoots 91 (.iaload) 1 92 := ⟨by decide +kernel, rfl⟩
theorem iX1_findRoots_89 : zI cX1_findRoots 89 (.iload 4) 2 91 := ⟨by decide +kernel, rfl⟩
theorem iX1_findRoots_86 : zI cX1_findRoots 86 (.getfield 9) 3 89 := ⟨by decide +kernel, rfl⟩
theorem iX1_findRoots_85 : zI cX1_findRoots 85 (.aload_n 0) 1 86 := ⟨by decide +kernel, rfl⟩
theorem iX1_findRoots_84 : zI cX1_findRoots 84 (.iaload) 1 85 := ⟨by decide +kernel, rfl⟩
theorem iX1_findRoots_83 : zI cX1_findRoots 83 (.iload_n 3) 1 84 := ⟨by decide +kernel, rfl⟩
theorem iX1_findRoots_80 : zI cX1_findRoots 80 (.getfield 9) 3 83 := ⟨by decide +kernel, rfl⟩
theorem iX1_findRoots_79 : zI cX1_findRoots 79 (.aload_n 0) 1 80 := ⟨by decide +kernel, rfl⟩
theorem iX1_findRoots_77 : zI cX1_findRoots 77 (.istore 4) 2 79 := ⟨by decide +kernel, rfl⟩
theorem iX1_findRoots_76 : zI cX1_findRoots 76 (.iaload) 1 77 := ⟨by decide +kernel, rfl⟩
theorem iX1_findRoots_75 : zI cX1_findRoots 75 (.iload_n 2) 1 76 := ⟨by decide +kernel, rfl⟩
theorem iX1_findRoots_72 : zI cX1_findRoots 72 (.getfield 109) 3 75 := ⟨by decide +kernel, rfl⟩
theorem iX1_findRoots_69 : zI cX1_findRoots 69 (.getfield 33) 3 72 := ⟨by decide +kernel, rfl⟩
theorem iX1_findRoots_68 : zI cX1_findRoots 68 (.aload_n 0) 1 69 := ⟨by decide +kernel, rfl⟩
theorem iX1_findRoots_67 : zI cX1_findRoots 67 (.istore_n 3) 1 68 := ⟨by decide +kernel, rfl⟩
theorem iX1_findRoots_66 : zI cX1_findRoots 66 (.iaload) 1 67 := ⟨by decide +kernel, rfl⟩
theorem iX1_findRoots_65 : zI cX1_findRoots 65 (.iload_n 2) 1 66 := ⟨by decide +kernel, rfl⟩
theorem iX1_findRoots_62 : zI cX1_findRoots 62 (.getfield 106) 3 65 := ⟨by decide +kernel, rfl⟩
theorem iX1_findRoots_59 : zI cX1_findRoots 59 (.getfield 33) 3 62 := ⟨by decide +kernel, rfl⟩
theorem iX1_findRoots_58 : zI cX1_findRoots 58 (.aload_n 0) 1 59 := ⟨by decide +kernel, rfl⟩
theorem iX1_findRoots_51 : zI cX1_findRoots 51 (.iload_n 2) 1 52 := ⟨by decide +kernel, rfl⟩
theorem iX1_findRoots_48 : zI cX1_findRoots 48 (.getfield 43) 3 51 := ⟨by decide +kernel, rfl⟩
theorem iX1_findRoots_47 : zI cX1_findRoots 47 (.aload_n 0) 1 48 := ⟨by decide +kernel, rfl⟩
theorem iX1_findRoots_41 : zI cX1_findRoots 41 (.getfield 56) 3 44 := ⟨by decide +kernel, rfl⟩
theorem iX1_findRoots_38 : zI cX1_findRoots 38 (.getfield 33) 3 41 := ⟨by decide +kernel, rfl⟩
theorem iX1_findRoots_37 : zI cX1_findRoots 37 (.aload_n 0) 1 38 := ⟨by decide +kernel, rfl⟩
theorem iX1_findRoots_36 : zI cX1_findRoots 36 (.iload_n 2) 1 37 := ⟨by decide +kernel, rfl⟩
theorem iX1_findRoots_123 : zI cX1_findRoots 123 (.goto (-100)) 3 126 := ⟨by decide +kernel, rfl⟩
theorem iX1_findRoots_120 : zI cX1_findRoots 120 (.iinc 1 1) 3 123 := ⟨by decide +kernel, rfl⟩
theorem iX1_findRoots_35 : zI cX1_findRoots 35 (.istore_n 2) 1 36 := ⟨by decide +kernel, rfl⟩
theorem iX1_findRoots_34 : zI cX1_findRoots 34 (.iconst 0) 1 35 := ⟨by decide +kernel, rfl⟩
theorem iX1_findRoots_28 : zI cX1_findRoots 28 (.getfield 99) 3 31 := ⟨by decide +kernel, rfl⟩
theorem iX1_findRoots_25 : zI cX1_findRoots 25 (.getfield 33) 3 28 := ⟨by decide +kernel, rfl⟩
theorem iX1_findRoots_24 : zI cX1_findRoots 24 (.aload_n 0) 1 25 := ⟨by decide +kernel, rfl⟩
theorem iX1_findRoots_23 : zI cX1_findRoots 23 (.iload_n 1) 1 24 := ⟨by decide +kernel, rfl⟩
theorem iX1_findRoots_126 : zI cX1_findRoots 126 (.return_) 1 127 := ⟨by decide +kernel, rfl⟩
theorem iX1_findRoots_22 : zI cX1_findRoots 22 (.istore_n 1) 1 23 := ⟨by decide +kernel, rfl⟩
theorem iX1_findRoots_21 : zI cX1_findRoots 21 (.iconst 0) 1 22 := ⟨by decide +kernel, rfl⟩
theorem iX1_findRoots_1 : zI cX1_findRoots 1 (.istore_n 1) 1 2 := ⟨by decide +kernel, rfl⟩
theorem iX1_findRoots_0 : zI cX1_findRoots 0 (.iconst 0) 1 1 := ⟨by decide +kernel, rfl⟩
set_option maxHeartbeats 4000000 in
set_option maxRecDepth 100000 in
theorem m_Gr_findRoots (g : Nat) (hg : isG g) (h : zH) : zM yX1_findRoots cX1_findRoots 6 none 1 shX (fun ad => [.ref (ad g)]) h eV (Gr_findRoots g h) := by
  refine zM.of (by decide) (fun _ => rfl) (fun _ => Nat.le_of_ble_eq_true rfl) (fun X ad hnL C => ?_)
  show zG X ad shX eV 0 [some (.ref (ad g)), none, none, none, none, none] [] h _
  unfold Gr_findRoots
  refine g_iconst C 0 iX1_findRoots_0 (by decide) ?_
  refine g_istore_n (lv' := [some (.ref (ad g)), some (.int 0), none, none, none, none]) C hnL iX1_findRoots_1 (by decide) rfl ?_
  have L2 : ∀ (k21 : zH → Option (zH)), (∀ (hy : zH), zG X ad shX eV 21 [some (.ref (ad g)), none, none, none, none, none] [] hy (k21 hy)) → ∀ (n : Nat) (x1 : Int32) (h_1 : zH), zG X ad shX eV 2 [some (.ref (ad g)), some (.int x1), none, none, none, none] [] h_1 (Gr_findRoots_L2 g k21 n x1 h_1) := by
    intro k21 hk21 n
    induction n with
    | zero =>
      intro x1 h_1
      exact g_none
    | succ n ih2 =>
      intro x1 h_1
      rw [Gr_findRoots_L2]
      refine g_iload_n C iX1_findRoots_2 rfl ?_
      refine g_bipush C 6 iX1_findRoots_3 (by decide) ?_
      refine g_icmp_ge C 21 iX1_findRoots_5 (by decide) (fun c5 => ?_) (fun c5 => ?_)
      · refine g_sub (lv' := [some (.ref (ad g)), none, none, none, none, none]) ⟨rfl, trivial⟩ ?_
        exact hk21 _
      · refine g_aload_n C iX1_findRoots_8 rfl ?_
        refine g_getR (b := (g + 1)) C fX1_9 iX1_findRoots_9 hg.1 rfl ?_
        refine g_iload_n C iX1_findRoots_12 rfl ?_
        refine g_iload_n C iX1_findRoots_13 rfl ?_
        refine g_iastore C iX1_findRoots_14 hg.2.1 (fun h_2 => ?_)
        refine g_iinc (v := (x1 + 1)) (lv' := [some (.ref (ad g)), some (.int (x1 + 1)), none, none, none, none]) C hnL iX1_findRoots_15 (by decide) rfl rfl rfl ?_
        refine g_goto C 2 iX1_findRoots_18 (by decide) ?_
        exact ih2 _ _
  refine L2 _ (fun h_3 => ?_) 1000 _ _
  show zG X ad shX eV 21 [some (.ref (ad g)), none, none, none, none, none] [] h_3 _
  refine g_iconst C 0 iX1_findRoots_21 (by decide) ?_
  refine g_istore_n (lv' := [some (.ref (ad g)), some (.int 0), none, none, none, none]) C hnL iX1_findRoots_22 (by decide) rfl ?_
  have L23 : ∀ (k126 : zH → Option (zH)), (∀ (hy : zH), zG X ad shX eV 126 [none, none, none, none, none, none] [] hy (k126 hy)) → ∀ (n_1 : Nat) (x1_1 : Int32) (h_4 : zH), zG X ad shX eV 23 [some (.ref (ad g)), some (.int x1_1), none, none, none, none] [] h_4 (Gr_findRoots_L23 g k126 n_1 x1_1 h_4) := by
    intro k126 hk126 n_1
    induction n_1 with
    | zero =>
      intro x1_1 h_4
      exact g_none
    | succ n_1 ih23 =>
      intro x1_1 h_4
      rw [Gr_findRoots_L23]
      refine g_iload_n C iX1_findRoots_23 rfl ?_
      refine g_aload_n C iX1_findRoots_24 rfl ?_
      refine g_getR (b := 17) C fX1_33 iX1_findRoots_25 hg.1 rfl ?_
      refine g_getI C fX1_99 iX1_findRoots_28 isP17.1 rfl ?_
      refine g_icmp_ge C 126 iX1_findRoots_31 (by decide) (fun c31 => ?_) (fun c31 => ?_)
      · refine g_sub (lv' := [none, none, none, none, none, none]) trivial ?_
        exact hk126 _
      · refine g_iconst C 0 iX1_findRoots_34 (by decide) ?_
        refine g_istore_n (lv' := [some (.ref (ad g)), some (.int x1_1), some (.int 0), none, none, none]) C hnL iX1_findRoots_35 (by decide) rfl ?_
        have L36 : ∀ (k120 : zH → Option (zH)), (∀ (hy : zH), zG X ad shX eV 120 [some (.ref (ad g)), some (.int x1_1), none, none, none, none] [] hy (k120 hy)) → ∀ (n_2 : Nat) (x2 : Int32) (h_5 : zH), zG X ad shX eV 36 [some (.ref (ad g)), some (.int x1_1), some (.int x2), none, none, none] [] h_5 (Gr_findRoots_L36 g k120 n_2 x2 h_5) := by
          intro k120 hk120 n_2
          induction n_2 with
          | zero =>
            intro x2 h_5
            exact g_none
          | succ n_2 ih36 =>
            intro x2 h_5
            rw [Gr_findRoots_L36]
            refine g_iload_n C iX1_findRoots_36 rfl ?_
            refine g_aload_n C iX1_findRoots_37 rfl ?_
            refine g_getR (b := 17) C fX1_33 iX1_findRoots_38 hg.1 rfl ?_
            refine g_getI C fX1_56 iX1_findRoots_41 isP17.1 rfl ?_
            refine g_icmp_ge C 120 iX1_findRoots_44 (by decide) (fun c44 => ?_) (fun c44 => ?_)
            · refine g_sub (lv' := [some (.ref (ad g)), some (.int x1_1), none, none, none, none]) ⟨rfl, ⟨rfl, trivial⟩⟩ ?_
              exact hk120 _
            · refine g_aload_n C iX1_findRoots_47 rfl ?_
              refine g_getI C fX1_43 iX1_findRoots_48 hg.1 rfl ?_
              refine g_iload_n C iX1_findRoots_51 rfl ?_
              refine g_callN C wX1_102 iX1_findRoots_52 (m_SS_has (h_5 g 1) x2 h_5) (by decide) rfl rfl rfl (Nat.le_of_ble_eq_true rfl) (fun r => ?_)
              show zG X ad shX eV 55 [some (.ref (ad g)), some (.int x1_1), some (.int x2), none, none, none] [.int r] h_5 _
              refine g_if_eq C 114 iX1_findRoots_55 (by decide) (fun c55 => ?_) (fun c55 => ?_)
              · refine g_iinc (v := (x2 + 1)) (lv' := [some (.ref (ad g)), some (.int x1_1), some (.int (x2 + 1)), none, none, none]) C hnL iX1_findRoots_114 (by decide) rfl rfl rfl ?_
                refine g_goto C 36 iX1_findRoots_117 (by decide) ?_
                exact ih36 _ _
              · refine g_aload_n C iX1_findRoots_58 rfl ?_
                refine g_getR (b := 17) C fX1_33 iX1_findRoots_59 hg.1 rfl ?_
                refine g_getR (b := 18) C fX1_106 iX1_findRoots_62 isP17.1 rfl ?_
                refine g_iload_n C iX1_findRoots_65 rfl ?_
                refine g_iaload C iX1_findRoots_66 isP17.2.1 ?_
                refine g_top (fun x3 => ?_)
                refine g_istore_n (lv' := [some (.ref (ad g)), some (.int x1_1), some (.int x2), some (.int x3), none, none]) C hnL iX1_findRoots_67 (by decide) rfl ?_
                refine g_aload_n C iX1_findRoots_68 rfl ?_
                refine g_getR (b := 17) C fX1_33 iX1_findRoots_69 hg.1 rfl ?_
                refine g_getR (b := 19) C fX1_109 iX1_findRoots_72 isP17.1 rfl ?_
                refine g_iload_n C iX1_findRoots_75 rfl ?_
                refine g_iaload C iX1_findRoots_76 isP17.2.2.1 ?_
                refine g_top (fun x4 => ?_)
                refine g_istore (lv' := [some (.ref (ad g)), some (.int x1_1), some (.int x2), some (.int x3), some (.int x4), none]) C hnL iX1_findRoots_77 (by decide) rfl ?_
                refine g_aload_n C iX1_findRoots_79 rfl ?_
                refine g_getR (b := (g + 1)) C fX1_9 iX1_findRoots_80 hg.1 rfl ?_
                refine g_iload_n C iX1_findRoots_83 rfl ?_
                refine g_iaload C iX1_findRoots_84 hg.2.1 ?_
                refine g_aload_n C iX1_findRoots_85 rfl ?_
                refine g_getR (b := (g + 1)) C fX1_9 iX1_findRoots_86 hg.1 rfl ?_
                refine g_iload C iX1_findRoots_89 rfl ?_
                refine g_iaload C iX1_findRoots_91 hg.2.1 ?_
                refine g_min C wX1_93 iX1_findRoots_92 (by decide) (Nat.le_of_ble_eq_true rfl) ?_
                refine g_top (fun x5 => ?_)
                refine g_istore (lv' := [some (.ref (ad g)), some (.int x1_1), some (.int x2), some (.int x3), some (.int x4), some (.int x5)]) C hnL iX1_findRoots_95 (by decide) rfl ?_
                refine g_aload_n C iX1_findRoots_97 rfl ?_
                refine g_getR (b := (g + 1)) C fX1_9 iX1_findRoots_98 hg.1 rfl ?_
                refine g_iload_n C iX1_findRoots_101 rfl ?_
                refine g_iload C iX1_findRoots_102 rfl ?_
                refine g_iastore C iX1_findRoots_104 hg.2.1 (fun h_6 => ?_)
                refine g_aload_n C iX1_findRoots_105 rfl ?_
                refine g_getR (b := (g + 1)) C fX1_9 iX1_findRoots_106 hg.1 rfl ?_
                refine g_iload C iX1_findRoots_109 rfl ?_
                refine g_iload C iX1_findRoots_111 rfl ?_
                refine g_iastore C iX1_findRoots_113 hg.2.1 (fun h_7 => ?_)
                refine g_iinc (v := (x2 + 1)) (lv' := [some (.ref (ad g)), some (.int x1_1), some (.int (x2 + 1)), some (.int x3), some (.int x4), some (.int x5)]) C hnL iX1_findRoots_114 (by decide) rfl rfl rfl ?_
                refine g_goto C 36 iX1_findRoots_117 (by decide) ?_
                refine g_sub (lv' := [some (.ref (ad g)), some (.int x1_1), some (.int (x2 + 1)), none, none, none]) ⟨rfl, ⟨rfl, ⟨rfl, trivial⟩⟩⟩ ?_
                exact ih36 _ _
        refine L36 _ (fun h_8 => ?_) 1000 _ _
        show zG X ad shX eV 120 [some (.ref (ad g)), some (.int x1_1), none, none, none, none] [] h_8 _
        refine g_iinc (v := (x1_1 + 1)) (lv' := [some (.ref (ad g)), some (.int (x1_1 + 1)), none, none, none, none]) C hnL iX1_findRoots_120 (by decide) rfl rfl rfl ?_
        refine g_goto C 23 iX1_findRoots_123 (by decide) ?_
        exact ih23 _ _
  refine L23 _ (fun h_9 => ?_) 1000 _ _
  show zG X ad shX eV 126 [none, none, none, none, none, none] [] h_9 _
  exact g_vret C iX1_findRoots_126 rfl

theorem iX1_clearCounts_5 : zI cX1_clearCounts 5 (.if_icmp .ge 21) 3 8 := ⟨by decide +kernel, rfl⟩
theorem iX1_clearCounts_23 : zI cX1_clearCounts 23 (.goto (-21)) 3 26 := ⟨by decide +kernel, rfl⟩
theorem iX1_clearCounts_20 : zI cX1_clearCounts 20 (.iinc 2 1) 3 23 := ⟨by decide +kernel, rfl⟩
theorem iX1_clearCounts_19 : zI cX1_clearCounts 19 (.iastore) 1 20 := ⟨by decide +kernel, rfl⟩
theorem iX1_clearCounts_18 : zI cX1_clearCounts 18 (.iconst 0) 1 19 := ⟨by decide +kernel, rfl⟩
theorem iX1_clearCounts_17 : zI cX1_clearCounts 17 (.iadd) 1 18 := ⟨by decide +kernel, rfl⟩
theorem iX1_clearCounts_16 : zI cX1_clearCounts 16 (.iload_n 2) 1 17 := ⟨by decide +kernel, rfl⟩
theorem iX1_clearCounts_15 : zI cX1_clearCounts 15 (.imul) 1 16 := ⟨by decide +kernel, rfl⟩
theorem iX1_clearCounts_13 : zI cX1_clearCounts 13 (.bipush 6) 2 15 := ⟨by decide +kernel, rfl⟩
theorem iX1_clearCounts_12 : zI cX1_clearCounts 12 (.iload_n 1) 1 13 := ⟨by decide +kernel, rfl⟩
theorem iX1_clearCounts_9 : zI cX1_clearCounts 9 (.getfield 21) 3 12 := ⟨by decide +kernel, rfl⟩
theorem iX1_clearCounts_8 : zI cX1_clearCounts 8 (.aload_n 0) 1 9 := ⟨by decide +kernel, rfl⟩
theorem iX1_clearCounts_3 : zI cX1_clearCounts 3 (.bipush 6) 2 5 := ⟨by decide +kernel, rfl⟩
theorem iX1_clearCounts_2 : zI cX1_clearCounts 2 (.iload_n 2) 1 3 := ⟨by decide +kernel, rfl⟩
theorem iX1_clearCounts_26 : zI cX1_clearCounts 26 (.return_) 1 27 := ⟨by decide +kernel, rfl⟩
theorem iX1_clearCounts_1 : zI cX1_clearCounts 1 (.istore_n 2) 1 2 := ⟨by decide +kernel, rfl⟩
theorem iX1_clearCounts_0 : zI cX1_clearCounts 0 (.iconst 0) 1 1 := ⟨by decide +kernel, rfl⟩
set_option maxHeartbeats 4000000 in
set_option maxRecDepth 100000 in
theorem m_Gr_clearCounts (g : Nat) (hg : isG g) (x1 : Int32) (h : zH) : zM yX1_clearCounts cX1_clearCounts 3 none 0 shX (fun ad => [.ref (ad g), .int x1]) h eV (Gr_clearCounts g x1 h) := by
  refine zM.of (by decide) (fun _ => rfl) (fun _ => Nat.le_of_ble_eq_true rfl) (fun X ad hnL C => ?_)
  show zG X ad shX eV 0 [some (.ref (ad g)), some (.int x1), none] [] h _
  unfold Gr_clearCounts
  refine g_iconst C 0 iX1_clearCounts_0 (by decide) ?_
  refine g_istore_n (lv' := [some (.ref (ad g)), some (.int x1), some (.int 0)]) C hnL iX1_clearCounts_1 (by decide) rfl ?_
  have L2 : ∀ (k26 : zH → Option (zH)), (∀ (hy : zH), zG X ad shX eV 26 [none, none, none] [] hy (k26 hy)) → ∀ (n : Nat) (x2 : Int32) (h_1 : zH), zG X ad shX eV 2 [some (.ref (ad g)), some (.int x1), some (.int x2)] [] h_1 (Gr_clearCounts_L2 g x1 k26 n x2 h_1) := by
    intro k26 hk26 n
    induction n with
    | zero =>
      intro x2 h_1
      exact g_none
    | succ n ih2 =>
      intro x2 h_1
      rw [Gr_clearCounts_L2]
      refine g_iload_n C iX1_clearCounts_2 rfl ?_
      refine g_bipush C 6 iX1_clearCounts_3 (by decide) ?_
      refine g_icmp_ge C 26 iX1_clearCounts_5 (by decide) (fun c5 => ?_) (fun c5 => ?_)
      · refine g_sub (lv' := [none, none, none]) trivial ?_
        exact hk26 _
      · refine g_aload_n C iX1_clearCounts_8 rfl ?_
        refine g_getR (b := (g + 4)) C fX1_21 iX1_clearCounts_9 hg.1 rfl ?_
        refine g_iload_n C iX1_clearCounts_12 rfl ?_
        refine g_bipush C 6 iX1_clearCounts_13 (by decide) ?_
        refine g_imul C iX1_clearCounts_15 ?_
        refine g_iload_n C iX1_clearCounts_16 rfl ?_
        refine g_iadd C iX1_clearCounts_17 ?_
        refine g_iconst C 0 iX1_clearCounts_18 (by decide) ?_
        refine g_iastore C iX1_clearCounts_19 hg.2.2.2.2.1 (fun h_2 => ?_)
        refine g_iinc (v := (x2 + 1)) (lv' := [some (.ref (ad g)), some (.int x1), some (.int (x2 + 1))]) C hnL iX1_clearCounts_20 (by decide) rfl rfl rfl ?_
        refine g_goto C 2 iX1_clearCounts_23 (by decide) ?_
        exact ih2 _ _
  refine L2 _ (fun h_3 => ?_) 1000 _ _
  show zG X ad shX eV 26 [none, none, none] [] h_3 _
  exact g_vret C iX1_clearCounts_26 rfl

theorem iX1_giveLoad_5 : zI cX1_giveLoad 5 (.if_icmp .ge 16) 3 8 := ⟨by decide +kernel, rfl⟩
theorem iX1_giveLoad_18 : zI cX1_giveLoad 18 (.goto (-16)) 3 21 := ⟨by decide +kernel, rfl⟩
theorem iX1_giveLoad_15 : zI cX1_giveLoad 15 (.iinc 1 1) 3 18 := ⟨by decide +kernel, rfl⟩
theorem iX1_giveLoad_14 : zI cX1_giveLoad 14 (.iastore) 1 15 := ⟨by decide +kernel, rfl⟩
theorem iX1_giveLoad_13 : zI cX1_giveLoad 13 (.iconst 0) 1 14 := ⟨by decide +kernel, rfl⟩
theorem iX1_giveLoad_12 : zI cX1_giveLoad 12 (.iload_n 1) 1 13 := ⟨by decide +kernel, rfl⟩
theorem iX1_giveLoad_9 : zI cX1_giveLoad 9 (.getfield 24) 3 12 := ⟨by decide +kernel, rfl⟩
theorem iX1_giveLoad_8 : zI cX1_giveLoad 8 (.aload_n 0) 1 9 := ⟨by decide +kernel, rfl⟩
theorem iX1_giveLoad_3 : zI cX1_giveLoad 3 (.bipush 6) 2 5 := ⟨by decide +kernel, rfl⟩
theorem iX1_giveLoad_2 : zI cX1_giveLoad 2 (.iload_n 1) 1 3 := ⟨by decide +kernel, rfl⟩
theorem iX1_giveLoad_31 : zI cX1_giveLoad 31 (.if_icmp .ge 53) 3 34 := ⟨by decide +kernel, rfl⟩
theorem iX1_giveLoad_65 : zI cX1_giveLoad 65 (.invokevirtual 86) 3 68 := ⟨by decide +kernel, rfl⟩
set_option maxRecDepth 100000 in
theorem wX1_90 : zCv RX1 90 yX1_givenOf cX1_givenOf 2 (some .int) 1 := ⟨⟨(zmem 451 (by decide +kernel) (by decide +kernel)), (zmem 67 (by decide +kernel) (by decide +kernel)), (zmem 454 rfl rfl), ⟨by decide, by decide, by decide +kernel⟩, by decide⟩, (zmem 452 (by decide +kernel) (by decide +kernel)), (zmem 453 (by decide +kernel) (by decide +kernel))⟩
theorem iX1_giveLoad_70 : zI cX1_giveLoad 70 (.invokevirtual 90) 3 73 := ⟨by decide +kernel, rfl⟩
theorem iX1_giveLoad_74 : zI cX1_giveLoad 74 (.invokestatic 93) 3 77 := ⟨by decide +kernel, rfl⟩
theorem iX1_giveLoad_81 : zI cX1_giveLoad 81 (.goto (-58)) 3 84 := ⟨by decide +kernel, rfl⟩
theorem iX1_giveLoad_78 : zI cX1_giveLoad 78 (.iinc 1 1) 3 81 := ⟨by decide +kernel, rfl⟩
theorem iX1_giveLoad_77 : zI cX1_giveLoad 77 (.iastore) 1 78 := ⟨by decide +kernel, rfl⟩
theorem iX1_giveLoad_73 : zI cX1_giveLoad 73 (.isub) 1 74 := ⟨by decide +kernel, rfl⟩
theorem iX1_giveLoad_69 : zI cX1_giveLoad 69 (.iload_n 2) 1 70 := ⟨by decide +kernel, rfl⟩
theorem iX1_giveLoad_68 : zI cX1_giveLoad 68 (.aload_n 0) 1 69 := ⟨by decide +kernel, rfl⟩
theorem iX1_giveLoad_64 : zI cX1_giveLoad 64 (.iload_n 2) 1 65 := ⟨by decide +kernel, rfl⟩
theorem iX1_giveLoad_63 : zI cX1_giveLoad 63 (.aload_n 0) 1 64 := ⟨by decide +kernel, rfl⟩
theorem iX1_giveLoad_62 : zI cX1_giveLoad 62 (.iaload) 1 63 := ⟨by decide +kernel, rfl⟩
theorem iX1_giveLoad_61 : zI cX1_giveLoad 61 (.iload_n 1) 1 62 := ⟨by decide +kernel, rfl⟩
theorem iX1_giveLoad_58 : zI cX1_giveLoad 58 (.getfield 83) 3 61 := ⟨by decide +kernel, rfl⟩
theorem iX1_giveLoad_55 : zI cX1_giveLoad 55 (.getfield 33) 3 58 := ⟨by decide +kernel, rfl⟩
theorem iX1_giveLoad_54 : zI cX1_giveLoad 54 (.aload_n 0) 1 55 := ⟨by decide +kernel, rfl⟩
theorem iX1_giveLoad_53 : zI cX1_giveLoad 53 (.iload_n 1) 1 54 := ⟨by decide +kernel, rfl⟩
theorem iX1_giveLoad_50 : zI cX1_giveLoad 50 (.getfield 24) 3 53 := ⟨by decide +kernel, rfl⟩
theorem iX1_giveLoad_49 : zI cX1_giveLoad 49 (.aload_n 0) 1 50 := ⟨by decide +kernel, rfl⟩
theorem iX1_giveLoad_48 : zI cX1_giveLoad 48 (.istore_n 2) 1 49 := ⟨by decide +kernel, rfl⟩
theorem iX1_giveLoad_47 : zI cX1_giveLoad 47 (.iaload) 1 48 := ⟨by decide +kernel, rfl⟩
theorem iX1_giveLoad_46 : zI cX1_giveLoad 46 (.iaload) 1 47 := ⟨by decide +kernel, rfl⟩
theorem iX1_giveLoad_45 : zI cX1_giveLoad 45 (.iload_n 1) 1 46 := ⟨by decide +kernel, rfl⟩
theorem iX1_giveLoad_42 : zI cX1_giveLoad 42 (.getfield 80) 3 45 := ⟨by decide +kernel, rfl⟩
theorem iX1_giveLoad_39 : zI cX1_giveLoad 39 (.getfield 33) 3 42 := ⟨by decide +kernel, rfl⟩
theorem iX1_giveLoad_38 : zI cX1_giveLoad 38 (.aload_n 0) 1 39 := ⟨by decide +kernel, rfl⟩
theorem iX1_giveLoad_35 : zI cX1_giveLoad 35 (.getfield 9) 3 38 := ⟨by decide +kernel, rfl⟩
theorem iX1_giveLoad_34 : zI cX1_giveLoad 34 (.aload_n 0) 1 35 := ⟨by decide +kernel, rfl⟩
theorem iX1_giveLoad_28 : zI cX1_giveLoad 28 (.getfield 77) 3 31 := ⟨by decide +kernel, rfl⟩
theorem iX1_giveLoad_25 : zI cX1_giveLoad 25 (.getfield 33) 3 28 := ⟨by decide +kernel, rfl⟩
theorem iX1_giveLoad_24 : zI cX1_giveLoad 24 (.aload_n 0) 1 25 := ⟨by decide +kernel, rfl⟩
theorem iX1_giveLoad_23 : zI cX1_giveLoad 23 (.iload_n 1) 1 24 := ⟨by decide +kernel, rfl⟩
theorem iX1_giveLoad_84 : zI cX1_giveLoad 84 (.return_) 1 85 := ⟨by decide +kernel, rfl⟩
theorem iX1_giveLoad_22 : zI cX1_giveLoad 22 (.istore_n 1) 1 23 := ⟨by decide +kernel, rfl⟩
theorem iX1_giveLoad_21 : zI cX1_giveLoad 21 (.iconst 0) 1 22 := ⟨by decide +kernel, rfl⟩
theorem iX1_giveLoad_1 : zI cX1_giveLoad 1 (.istore_n 1) 1 2 := ⟨by decide +kernel, rfl⟩
theorem iX1_giveLoad_0 : zI cX1_giveLoad 0 (.iconst 0) 1 1 := ⟨by decide +kernel, rfl⟩
set_option maxHeartbeats 4000000 in
set_option maxRecDepth 100000 in
theorem m_Gr_giveLoad (g : Nat) (hg : isG g) (h : zH) : zM yX1_giveLoad cX1_giveLoad 3 none 3 shX (fun ad => [.ref (ad g)]) h eV (Gr_giveLoad g h) := by
  refine zM.of (by decide) (fun _ => rfl) (fun _ => Nat.le_of_ble_eq_true rfl) (fun X ad hnL C => ?_)
  show zG X ad shX eV 0 [some (.ref (ad g)), none, none] [] h _
  unfold Gr_giveLoad
  refine g_iconst C 0 iX1_giveLoad_0 (by decide) ?_
  refine g_istore_n (lv' := [some (.ref (ad g)), some (.int 0), none]) C hnL iX1_giveLoad_1 (by decide) rfl ?_
  have L2 : ∀ (k21 : zH → Option (zH)), (∀ (hy : zH), zG X ad shX eV 21 [some (.ref (ad g)), none, none] [] hy (k21 hy)) → ∀ (n : Nat) (x1 : Int32) (h_1 : zH), zG X ad shX eV 2 [some (.ref (ad g)), some (.int x1), none] [] h_1 (Gr_giveLoad_L2 g k21 n x1 h_1) := by
    intro k21 hk21 n
    induction n with
    | zero =>
      intro x1 h_1
      exact g_none
    | succ n ih2 =>
      intro x1 h_1
      rw [Gr_giveLoad_L2]
      refine g_iload_n C iX1_giveLoad_2 rfl ?_
      refine g_bipush C 6 iX1_giveLoad_3 (by decide) ?_
      refine g_icmp_ge C 21 iX1_giveLoad_5 (by decide) (fun c5 => ?_) (fun c5 => ?_)
      · refine g_sub (lv' := [some (.ref (ad g)), none, none]) ⟨rfl, trivial⟩ ?_
        exact hk21 _
      · refine g_aload_n C iX1_giveLoad_8 rfl ?_
        refine g_getR (b := (g + 5)) C fX1_24 iX1_giveLoad_9 hg.1 rfl ?_
        refine g_iload_n C iX1_giveLoad_12 rfl ?_
        refine g_iconst C 0 iX1_giveLoad_13 (by decide) ?_
        refine g_iastore C iX1_giveLoad_14 hg.2.2.2.2.2.1 (fun h_2 => ?_)
        refine g_iinc (v := (x1 + 1)) (lv' := [some (.ref (ad g)), some (.int (x1 + 1)), none]) C hnL iX1_giveLoad_15 (by decide) rfl rfl rfl ?_
        refine g_goto C 2 iX1_giveLoad_18 (by decide) ?_
        exact ih2 _ _
  refine L2 _ (fun h_3 => ?_) 1000 _ _
  show zG X ad shX eV 21 [some (.ref (ad g)), none, none] [] h_3 _
  refine g_iconst C 0 iX1_giveLoad_21 (by decide) ?_
  refine g_istore_n (lv' := [some (.ref (ad g)), some (.int 0), none]) C hnL iX1_giveLoad_22 (by decide) rfl ?_
  have L23 : ∀ (k84 : zH → Option (zH)), (∀ (hy : zH), zG X ad shX eV 84 [none, none, none] [] hy (k84 hy)) → ∀ (n_1 : Nat) (x1_1 : Int32) (h_4 : zH), zG X ad shX eV 23 [some (.ref (ad g)), some (.int x1_1), none] [] h_4 (Gr_giveLoad_L23 g k84 n_1 x1_1 h_4) := by
    intro k84 hk84 n_1
    induction n_1 with
    | zero =>
      intro x1_1 h_4
      exact g_none
    | succ n_1 ih23 =>
      intro x1_1 h_4
      rw [Gr_giveLoad_L23]
      refine g_iload_n C iX1_giveLoad_23 rfl ?_
      refine g_aload_n C iX1_giveLoad_24 rfl ?_
      refine g_getR (b := 17) C fX1_33 iX1_giveLoad_25 hg.1 rfl ?_
      refine g_getI C fX1_77 iX1_giveLoad_28 isP17.1 rfl ?_
      refine g_icmp_ge C 84 iX1_giveLoad_31 (by decide) (fun c31 => ?_) (fun c31 => ?_)
      · refine g_sub (lv' := [none, none, none]) trivial ?_
        exact hk84 _
      · refine g_aload_n C iX1_giveLoad_34 rfl ?_
        refine g_getR (b := (g + 1)) C fX1_9 iX1_giveLoad_35 hg.1 rfl ?_
        refine g_aload_n C iX1_giveLoad_38 rfl ?_
        refine g_getR (b := 17) C fX1_33 iX1_giveLoad_39 hg.1 rfl ?_
        refine g_getR (b := 20) C fX1_80 iX1_giveLoad_42 isP17.1 rfl ?_
        refine g_iload_n C iX1_giveLoad_45 rfl ?_
        refine g_iaload C iX1_giveLoad_46 isP17.2.2.2.1 ?_
        refine g_iaload C iX1_giveLoad_47 hg.2.1 ?_
        refine g_top (fun x2 => ?_)
        refine g_istore_n (lv' := [some (.ref (ad g)), some (.int x1_1), some (.int x2)]) C hnL iX1_giveLoad_48 (by decide) rfl ?_
        refine g_aload_n C iX1_giveLoad_49 rfl ?_
        refine g_getR (b := (g + 5)) C fX1_24 iX1_giveLoad_50 hg.1 rfl ?_
        refine g_iload_n C iX1_giveLoad_53 rfl ?_
        refine g_aload_n C iX1_giveLoad_54 rfl ?_
        refine g_getR (b := 17) C fX1_33 iX1_giveLoad_55 hg.1 rfl ?_
        refine g_getR (b := 21) C fX1_83 iX1_giveLoad_58 isP17.1 rfl ?_
        refine g_iload_n C iX1_giveLoad_61 rfl ?_
        refine g_iaload C iX1_giveLoad_62 isP17.2.2.2.2.1 ?_
        refine g_aload_n C iX1_giveLoad_63 rfl ?_
        refine g_iload_n C iX1_giveLoad_64 rfl ?_
        refine g_callV C wX1_86 iX1_giveLoad_65 (m_Gr_loadOf g hg x2 h_4) (by decide) hg.1 rfl rfl rfl rfl (Nat.le_of_ble_eq_true rfl) (fun r => ?_)
        show zG X ad shX eV 68 [some (.ref (ad g)), some (.int x1_1), some (.int x2)] [.int r, .int (h_4 21 x1_1.toNatClampNeg), .int x1_1, .ref (ad (g + 5))] h_4 _
        refine g_aload_n C iX1_giveLoad_68 rfl ?_
        refine g_iload_n C iX1_giveLoad_69 rfl ?_
        refine g_callV C wX1_90 iX1_giveLoad_70 (m_Gr_givenOf g hg x2 h_4) (by decide) hg.1 rfl rfl rfl rfl (Nat.le_of_ble_eq_true rfl) (fun r_1 => ?_)
        show zG X ad shX eV 73 [some (.ref (ad g)), some (.int x1_1), some (.int x2)] [.int r_1, .int r, .int (h_4 21 x1_1.toNatClampNeg), .int x1_1, .ref (ad (g + 5))] h_4 _
        refine g_isub C iX1_giveLoad_73 ?_
        refine g_min C wX1_93 iX1_giveLoad_74 (by decide) (Nat.le_of_ble_eq_true rfl) ?_
        refine g_iastore C iX1_giveLoad_77 hg.2.2.2.2.2.1 (fun h_5 => ?_)
        refine g_iinc (v := (x1_1 + 1)) (lv' := [some (.ref (ad g)), some (.int (x1_1 + 1)), some (.int x2)]) C hnL iX1_giveLoad_78 (by decide) rfl rfl rfl ?_
        refine g_goto C 23 iX1_giveLoad_81 (by decide) ?_
        refine g_sub (lv' := [some (.ref (ad g)), some (.int (x1_1 + 1)), none]) ⟨rfl, ⟨rfl, trivial⟩⟩ ?_
        exact ih23 _ _
  refine L23 _ (fun h_6 => ?_) 1000 _ _
  show zG X ad shX eV 84 [none, none, none] [] h_6 _
  exact g_vret C iX1_giveLoad_84 rfl

theorem fX1_64 : zFl RX1 64 4 14 := ⟨RX4, TX4, 16, rfl, by decide, (zmem 160 (by decide +kernel) (by decide +kernel)), u_inX4⟩
theorem iX1_layOut_55 : zI cX1_layOut 55 (.invokestatic 37) 3 58 := ⟨by decide +kernel, rfl⟩
set_option maxRecDepth 100000 in
theorem wX1_67 : zCv RX1 67 yX1_findRoots cX1_findRoots 6 none 0 := ⟨⟨(zmem 420 (by decide +kernel) (by decide +kernel)), (zmem 67 (by decide +kernel) (by decide +kernel)), (zmem 423 rfl rfl), ⟨by decide, by decide, by decide +kernel⟩, by decide⟩, (zmem 422 (by decide +kernel) (by decide +kernel)), (zmem 3 (by decide +kernel) (by decide +kernel))⟩
theorem iX1_layOut_59 : zI cX1_layOut 59 (.invokevirtual 67) 3 62 := ⟨by decide +kernel, rfl⟩
theorem iX1_layOut_67 : zI cX1_layOut 67 (.if_icmp .ge 23) 3 70 := ⟨by decide +kernel, rfl⟩
set_option maxRecDepth 100000 in
theorem wX1_70 : zCv RX1 70 yX1_clearCounts cX1_clearCounts 3 none 1 := ⟨⟨(zmem 430 (by decide +kernel) (by decide +kernel)), (zmem 67 (by decide +kernel) (by decide +kernel)), (zmem 433 rfl rfl), ⟨by decide, by decide, by decide +kernel⟩, by decide⟩, (zmem 431 (by decide +kernel) (by decide +kernel)), (zmem 432 (by decide +kernel) (by decide +kernel))⟩
theorem iX1_layOut_81 : zI cX1_layOut 81 (.invokevirtual 70) 3 84 := ⟨by decide +kernel, rfl⟩
theorem iX1_layOut_87 : zI cX1_layOut 87 (.goto (-23)) 3 90 := ⟨by decide +kernel, rfl⟩
theorem iX1_layOut_84 : zI cX1_layOut 84 (.iinc 1 1) 3 87 := ⟨by decide +kernel, rfl⟩
theorem iX1_layOut_80 : zI cX1_layOut 80 (.iload_n 1) 1 81 := ⟨by decide +kernel, rfl⟩
theorem iX1_layOut_79 : zI cX1_layOut 79 (.aload_n 0) 1 80 := ⟨by decide +kernel, rfl⟩
theorem iX1_layOut_78 : zI cX1_layOut 78 (.iastore) 1 79 := ⟨by decide +kernel, rfl⟩
theorem iX1_layOut_75 : zI cX1_layOut 75 (.sipush 5000) 3 78 := ⟨by decide +kernel, rfl⟩
theorem iX1_layOut_74 : zI cX1_layOut 74 (.iload_n 1) 1 75 := ⟨by decide +kernel, rfl⟩
theorem iX1_layOut_71 : zI cX1_layOut 71 (.getfield 18) 3 74 := ⟨by decide +kernel, rfl⟩
theorem iX1_layOut_70 : zI cX1_layOut 70 (.aload_n 0) 1 71 := ⟨by decide +kernel, rfl⟩
theorem iX1_layOut_65 : zI cX1_layOut 65 (.bipush 6) 2 67 := ⟨by decide +kernel, rfl⟩
theorem iX1_layOut_64 : zI cX1_layOut 64 (.iload_n 1) 1 65 := ⟨by decide +kernel, rfl⟩
set_option maxRecDepth 100000 in
theorem wX1_74 : zCv RX1 74 yX1_giveLoad cX1_giveLoad 3 none 0 := ⟨⟨(zmem 434 (by decide +kernel) (by decide +kernel)), (zmem 67 (by decide +kernel) (by decide +kernel)), (zmem 437 rfl rfl), ⟨by decide, by decide, by decide +kernel⟩, by decide⟩, (zmem 436 (by decide +kernel) (by decide +kernel)), (zmem 4 (by decide +kernel) (by decide +kernel))⟩
theorem iX1_layOut_91 : zI cX1_layOut 91 (.invokevirtual 74) 3 94 := ⟨by decide +kernel, rfl⟩
theorem iX1_layOut_94 : zI cX1_layOut 94 (.return_) 1 95 := ⟨by decide +kernel, rfl⟩
theorem iX1_layOut_90 : zI cX1_layOut 90 (.aload_n 0) 1 91 := ⟨by decide +kernel, rfl⟩
theorem iX1_layOut_63 : zI cX1_layOut 63 (.istore_n 1) 1 64 := ⟨by decide +kernel, rfl⟩
theorem iX1_layOut_62 : zI cX1_layOut 62 (.iconst 0) 1 63 := ⟨by decide +kernel, rfl⟩
theorem iX1_layOut_58 : zI cX1_layOut 58 (.aload_n 0) 1 59 := ⟨by decide +kernel, rfl⟩
theorem iX1_layOut_53 : zI cX1_layOut 53 (.bipush 6) 2 55 := ⟨by decide +kernel, rfl⟩
theorem iX1_layOut_52 : zI cX1_layOut 52 (.iconst 0) 1 53 := ⟨by decide +kernel, rfl⟩
theorem iX1_layOut_49 : zI cX1_layOut 49 (.getfield 30) 3 52 := ⟨by decide +kernel, rfl⟩
theorem iX1_layOut_48 : zI cX1_layOut 48 (.aload_n 0) 1 49 := ⟨by decide +kernel, rfl⟩
theorem iX1_layOut_47 : zI cX1_layOut 47 (.iconst 0) 1 48 := ⟨by decide +kernel, rfl⟩
theorem iX1_layOut_44 : zI cX1_layOut 44 (.getfield 64) 3 47 := ⟨by decide +kernel, rfl⟩
theorem iX1_layOut_41 : zI cX1_layOut 41 (.getfield 33) 3 44 := ⟨by decide +kernel, rfl⟩
theorem iX1_layOut_40 : zI cX1_layOut 40 (.aload_n 0) 1 41 := ⟨by decide +kernel, rfl⟩
theorem iX1_layOut_37 : zI cX1_layOut 37 (.putfield 53) 3 40 := ⟨by decide +kernel, rfl⟩
theorem iX1_layOut_36 : zI cX1_layOut 36 (.iconst 0) 1 37 := ⟨by decide +kernel, rfl⟩
theorem iX1_layOut_35 : zI cX1_layOut 35 (.aload_n 0) 1 36 := ⟨by decide +kernel, rfl⟩
theorem iX1_layOut_32 : zI cX1_layOut 32 (.putfield 50) 3 35 := ⟨by decide +kernel, rfl⟩
theorem iX1_layOut_31 : zI cX1_layOut 31 (.iconst 0) 1 32 := ⟨by decide +kernel, rfl⟩
theorem iX1_layOut_30 : zI cX1_layOut 30 (.aload_n 0) 1 31 := ⟨by decide +kernel, rfl⟩
theorem iX1_layOut_27 : zI cX1_layOut 27 (.putfield 47) 3 30 := ⟨by decide +kernel, rfl⟩
theorem iX1_layOut_26 : zI cX1_layOut 26 (.isub) 1 27 := ⟨by decide +kernel, rfl⟩
theorem iX1_layOut_25 : zI cX1_layOut 25 (.iconst 1) 1 26 := ⟨by decide +kernel, rfl⟩
theorem iX1_layOut_24 : zI cX1_layOut 24 (.ishl) 1 25 := ⟨by decide +kernel, rfl⟩
theorem iX1_layOut_21 : zI cX1_layOut 21 (.getfield 61) 3 24 := ⟨by decide +kernel, rfl⟩
theorem iX1_layOut_18 : zI cX1_layOut 18 (.getfield 33) 3 21 := ⟨by decide +kernel, rfl⟩
theorem iX1_layOut_17 : zI cX1_layOut 17 (.aload_n 0) 1 18 := ⟨by decide +kernel, rfl⟩
theorem iX1_layOut_16 : zI cX1_layOut 16 (.iconst 1) 1 17 := ⟨by decide +kernel, rfl⟩
theorem iX1_layOut_15 : zI cX1_layOut 15 (.aload_n 0) 1 16 := ⟨by decide +kernel, rfl⟩
theorem iX1_layOut_12 : zI cX1_layOut 12 (.putfield 43) 3 15 := ⟨by decide +kernel, rfl⟩
theorem iX1_layOut_11 : zI cX1_layOut 11 (.isub) 1 12 := ⟨by decide +kernel, rfl⟩
theorem iX1_layOut_10 : zI cX1_layOut 10 (.iconst 1) 1 11 := ⟨by decide +kernel, rfl⟩
theorem iX1_layOut_9 : zI cX1_layOut 9 (.ishl) 1 10 := ⟨by decide +kernel, rfl⟩
theorem iX1_layOut_6 : zI cX1_layOut 6 (.getfield 56) 3 9 := ⟨by decide +kernel, rfl⟩
theorem iX1_layOut_3 : zI cX1_layOut 3 (.getfield 33) 3 6 := ⟨by decide +kernel, rfl⟩
theorem iX1_layOut_2 : zI cX1_layOut 2 (.aload_n 0) 1 3 := ⟨by decide +kernel, rfl⟩
theorem iX1_layOut_1 : zI cX1_layOut 1 (.iconst 1) 1 2 := ⟨by decide +kernel, rfl⟩
theorem iX1_layOut_0 : zI cX1_layOut 0 (.aload_n 0) 1 1 := ⟨by decide +kernel, rfl⟩
set_option maxHeartbeats 4000000 in
set_option maxRecDepth 100000 in
theorem m_Gr_layOut (g : Nat) (hg : isG g) (h : zH) : zM yX1_layOut cX1_layOut 2 none 4 shX (fun ad => [.ref (ad g)]) h eV (Gr_layOut g h) := by
  refine zM.of (by decide) (fun _ => rfl) (fun _ => Nat.le_of_ble_eq_true rfl) (fun X ad hnL C => ?_)
  show zG X ad shX eV 0 [some (.ref (ad g)), none] [] h _
  unfold Gr_layOut
  refine g_aload_n C iX1_layOut_0 rfl ?_
  refine g_iconst C 1 iX1_layOut_1 (by decide) ?_
  refine g_aload_n C iX1_layOut_2 rfl ?_
  refine g_getR (b := 17) C fX1_33 iX1_layOut_3 hg.1 rfl ?_
  refine g_getI C fX1_56 iX1_layOut_6 isP17.1 rfl ?_
  refine g_ishl C iX1_layOut_9 ?_
  refine g_iconst C 1 iX1_layOut_10 (by decide) ?_
  refine g_isub C iX1_layOut_11 ?_
  refine g_putI C pX1_43 iX1_layOut_12 hg.1 rfl (fun h_1 => ?_)
  refine g_aload_n C iX1_layOut_15 rfl ?_
  refine g_iconst C 1 iX1_layOut_16 (by decide) ?_
  refine g_aload_n C iX1_layOut_17 rfl ?_
  refine g_getR (b := 17) C fX1_33 iX1_layOut_18 hg.1 rfl ?_
  refine g_getI C fX1_61 iX1_layOut_21 isP17.1 rfl ?_
  refine g_ishl C iX1_layOut_24 ?_
  refine g_iconst C 1 iX1_layOut_25 (by decide) ?_
  refine g_isub C iX1_layOut_26 ?_
  refine g_putI C pX1_47 iX1_layOut_27 hg.1 rfl (fun h_2 => ?_)
  refine g_aload_n C iX1_layOut_30 rfl ?_
  refine g_iconst C 0 iX1_layOut_31 (by decide) ?_
  refine g_putI C pX1_50 iX1_layOut_32 hg.1 rfl (fun h_3 => ?_)
  refine g_aload_n C iX1_layOut_35 rfl ?_
  refine g_iconst C 0 iX1_layOut_36 (by decide) ?_
  refine g_putI C pX1_53 iX1_layOut_37 hg.1 rfl (fun h_4 => ?_)
  refine g_aload_n C iX1_layOut_40 rfl ?_
  refine g_getR (b := 17) C fX1_33 iX1_layOut_41 hg.1 rfl ?_
  refine g_getR (b := 27) C fX1_64 iX1_layOut_44 isP17.1 rfl ?_
  refine g_iconst C 0 iX1_layOut_47 (by decide) ?_
  refine g_aload_n C iX1_layOut_48 rfl ?_
  refine g_getR (b := (g + 7)) C fX1_30 iX1_layOut_49 hg.1 rfl ?_
  refine g_iconst C 0 iX1_layOut_52 (by decide) ?_
  refine g_bipush C 6 iX1_layOut_53 (by decide) ?_
  refine g_copy C wX1_37 iX1_layOut_55 (by decide) (Nat.le_of_ble_eq_true rfl) isP17.2.2.2.2.2.2.2.2.2.2.1 hg.2.2.2.2.2.2.2 (by decide) (by decide) (by decide) (by decide) (fun h_5 => ?_)
  refine g_aload_n C iX1_layOut_58 rfl ?_
  refine g_callV C wX1_67 iX1_layOut_59 (m_Gr_findRoots g hg h_5) (by decide) hg.1 rfl rfl rfl rfl (Nat.le_of_ble_eq_true rfl) (fun h_6 => ?_)
  show zG X ad shX eV 62 [some (.ref (ad g)), none] [] h_6 _
  refine g_iconst C 0 iX1_layOut_62 (by decide) ?_
  refine g_istore_n (lv' := [some (.ref (ad g)), some (.int 0)]) C hnL iX1_layOut_63 (by decide) rfl ?_
  have L64 : ∀ (k90 : zH → Option (zH)), (∀ (hy : zH), zG X ad shX eV 90 [some (.ref (ad g)), none] [] hy (k90 hy)) → ∀ (n : Nat) (x1 : Int32) (h_7 : zH), zG X ad shX eV 64 [some (.ref (ad g)), some (.int x1)] [] h_7 (Gr_layOut_L64 g k90 n x1 h_7) := by
    intro k90 hk90 n
    induction n with
    | zero =>
      intro x1 h_7
      exact g_none
    | succ n ih64 =>
      intro x1 h_7
      rw [Gr_layOut_L64]
      refine g_iload_n C iX1_layOut_64 rfl ?_
      refine g_bipush C 6 iX1_layOut_65 (by decide) ?_
      refine g_icmp_ge C 90 iX1_layOut_67 (by decide) (fun c67 => ?_) (fun c67 => ?_)
      · refine g_sub (lv' := [some (.ref (ad g)), none]) ⟨rfl, trivial⟩ ?_
        exact hk90 _
      · refine g_aload_n C iX1_layOut_70 rfl ?_
        refine g_getR (b := (g + 3)) C fX1_18 iX1_layOut_71 hg.1 rfl ?_
        refine g_iload_n C iX1_layOut_74 rfl ?_
        refine g_sipush C 5000 iX1_layOut_75 (by decide) ?_
        refine g_iastore C iX1_layOut_78 hg.2.2.2.1 (fun h_8 => ?_)
        refine g_aload_n C iX1_layOut_79 rfl ?_
        refine g_iload_n C iX1_layOut_80 rfl ?_
        refine g_callV C wX1_70 iX1_layOut_81 (m_Gr_clearCounts g hg x1 h_8) (by decide) hg.1 rfl rfl rfl rfl (Nat.le_of_ble_eq_true rfl) (fun h_9 => ?_)
        show zG X ad shX eV 84 [some (.ref (ad g)), some (.int x1)] [] h_9 _
        refine g_iinc (v := (x1 + 1)) (lv' := [some (.ref (ad g)), some (.int (x1 + 1))]) C hnL iX1_layOut_84 (by decide) rfl rfl rfl ?_
        refine g_goto C 64 iX1_layOut_87 (by decide) ?_
        exact ih64 _ _
  refine L64 _ (fun h_10 => ?_) 1000 _ _
  show zG X ad shX eV 90 [some (.ref (ad g)), none] [] h_10 _
  refine g_aload_n C iX1_layOut_90 rfl ?_
  refine g_callV C wX1_74 iX1_layOut_91 (m_Gr_giveLoad g hg h_10) (by decide) hg.1 rfl rfl rfl rfl (Nat.le_of_ble_eq_true rfl) (fun h_11 => ?_)
  show zG X ad shX eV 94 [some (.ref (ad g)), none] [] h_11 _
  exact g_vret C iX1_layOut_94 rfl

theorem iX1_copyCounts_5 : zI cX1_copyCounts 5 (.if_icmp .ge 31) 3 8 := ⟨by decide +kernel, rfl⟩
theorem iX1_copyCounts_33 : zI cX1_copyCounts 33 (.goto (-31)) 3 36 := ⟨by decide +kernel, rfl⟩
theorem iX1_copyCounts_30 : zI cX1_copyCounts 30 (.iinc 3 1) 3 33 := ⟨by decide +kernel, rfl⟩
theorem iX1_copyCounts_29 : zI cX1_copyCounts 29 (.iastore) 1 30 := ⟨by decide +kernel, rfl⟩
theorem iX1_copyCounts_28 : zI cX1_copyCounts 28 (.iaload) 1 29 := ⟨by decide +kernel, rfl⟩
theorem iX1_copyCounts_27 : zI cX1_copyCounts 27 (.iadd) 1 28 := ⟨by decide +kernel, rfl⟩
theorem iX1_copyCounts_26 : zI cX1_copyCounts 26 (.iload_n 3) 1 27 := ⟨by decide +kernel, rfl⟩
theorem iX1_copyCounts_25 : zI cX1_copyCounts 25 (.imul) 1 26 := ⟨by decide +kernel, rfl⟩
theorem iX1_copyCounts_23 : zI cX1_copyCounts 23 (.bipush 6) 2 25 := ⟨by decide +kernel, rfl⟩
theorem iX1_copyCounts_22 : zI cX1_copyCounts 22 (.iload_n 1) 1 23 := ⟨by decide +kernel, rfl⟩
theorem iX1_copyCounts_19 : zI cX1_copyCounts 19 (.getfield 21) 3 22 := ⟨by decide +kernel, rfl⟩
theorem iX1_copyCounts_18 : zI cX1_copyCounts 18 (.aload_n 0) 1 19 := ⟨by decide +kernel, rfl⟩
theorem iX1_copyCounts_17 : zI cX1_copyCounts 17 (.iadd) 1 18 := ⟨by decide +kernel, rfl⟩
theorem iX1_copyCounts_16 : zI cX1_copyCounts 16 (.iload_n 3) 1 17 := ⟨by decide +kernel, rfl⟩
theorem iX1_copyCounts_15 : zI cX1_copyCounts 15 (.imul) 1 16 := ⟨by decide +kernel, rfl⟩
theorem iX1_copyCounts_13 : zI cX1_copyCounts 13 (.bipush 6) 2 15 := ⟨by decide +kernel, rfl⟩
theorem iX1_copyCounts_12 : zI cX1_copyCounts 12 (.iload_n 2) 1 13 := ⟨by decide +kernel, rfl⟩
theorem iX1_copyCounts_9 : zI cX1_copyCounts 9 (.getfield 21) 3 12 := ⟨by decide +kernel, rfl⟩
theorem iX1_copyCounts_8 : zI cX1_copyCounts 8 (.aload_n 0) 1 9 := ⟨by decide +kernel, rfl⟩
theorem iX1_copyCounts_3 : zI cX1_copyCounts 3 (.bipush 6) 2 5 := ⟨by decide +kernel, rfl⟩
theorem iX1_copyCounts_2 : zI cX1_copyCounts 2 (.iload_n 3) 1 3 := ⟨by decide +kernel, rfl⟩
theorem iX1_copyCounts_36 : zI cX1_copyCounts 36 (.return_) 1 37 := ⟨by decide +kernel, rfl⟩
theorem iX1_copyCounts_1 : zI cX1_copyCounts 1 (.istore_n 3) 1 2 := ⟨by decide +kernel, rfl⟩
theorem iX1_copyCounts_0 : zI cX1_copyCounts 0 (.iconst 0) 1 1 := ⟨by decide +kernel, rfl⟩
set_option maxHeartbeats 4000000 in
set_option maxRecDepth 100000 in
theorem m_Gr_copyCounts (g : Nat) (hg : isG g) (x1 : Int32) (x2 : Int32) (h : zH) : zM yX1_copyCounts cX1_copyCounts 4 none 0 shX (fun ad => [.ref (ad g), .int x1, .int x2]) h eV (Gr_copyCounts g x1 x2 h) := by
  refine zM.of (by decide) (fun _ => rfl) (fun _ => Nat.le_of_ble_eq_true rfl) (fun X ad hnL C => ?_)
  show zG X ad shX eV 0 [some (.ref (ad g)), some (.int x1), some (.int x2), none] [] h _
  unfold Gr_copyCounts
  refine g_iconst C 0 iX1_copyCounts_0 (by decide) ?_
  refine g_istore_n (lv' := [some (.ref (ad g)), some (.int x1), some (.int x2), some (.int 0)]) C hnL iX1_copyCounts_1 (by decide) rfl ?_
  have L2 : ∀ (k36 : zH → Option (zH)), (∀ (hy : zH), zG X ad shX eV 36 [none, none, none, none] [] hy (k36 hy)) → ∀ (n : Nat) (x3 : Int32) (h_1 : zH), zG X ad shX eV 2 [some (.ref (ad g)), some (.int x1), some (.int x2), some (.int x3)] [] h_1 (Gr_copyCounts_L2 g x1 x2 k36 n x3 h_1) := by
    intro k36 hk36 n
    induction n with
    | zero =>
      intro x3 h_1
      exact g_none
    | succ n ih2 =>
      intro x3 h_1
      rw [Gr_copyCounts_L2]
      refine g_iload_n C iX1_copyCounts_2 rfl ?_
      refine g_bipush C 6 iX1_copyCounts_3 (by decide) ?_
      refine g_icmp_ge C 36 iX1_copyCounts_5 (by decide) (fun c5 => ?_) (fun c5 => ?_)
      · refine g_sub (lv' := [none, none, none, none]) trivial ?_
        exact hk36 _
      · refine g_aload_n C iX1_copyCounts_8 rfl ?_
        refine g_getR (b := (g + 4)) C fX1_21 iX1_copyCounts_9 hg.1 rfl ?_
        refine g_iload_n C iX1_copyCounts_12 rfl ?_
        refine g_bipush C 6 iX1_copyCounts_13 (by decide) ?_
        refine g_imul C iX1_copyCounts_15 ?_
        refine g_iload_n C iX1_copyCounts_16 rfl ?_
        refine g_iadd C iX1_copyCounts_17 ?_
        refine g_aload_n C iX1_copyCounts_18 rfl ?_
        refine g_getR (b := (g + 4)) C fX1_21 iX1_copyCounts_19 hg.1 rfl ?_
        refine g_iload_n C iX1_copyCounts_22 rfl ?_
        refine g_bipush C 6 iX1_copyCounts_23 (by decide) ?_
        refine g_imul C iX1_copyCounts_25 ?_
        refine g_iload_n C iX1_copyCounts_26 rfl ?_
        refine g_iadd C iX1_copyCounts_27 ?_
        refine g_iaload C iX1_copyCounts_28 hg.2.2.2.2.1 ?_
        refine g_iastore C iX1_copyCounts_29 hg.2.2.2.2.1 (fun h_2 => ?_)
        refine g_iinc (v := (x3 + 1)) (lv' := [some (.ref (ad g)), some (.int x1), some (.int x2), some (.int (x3 + 1))]) C hnL iX1_copyCounts_30 (by decide) rfl rfl rfl ?_
        refine g_goto C 2 iX1_copyCounts_33 (by decide) ?_
        exact ih2 _ _
  refine L2 _ (fun h_3 => ?_) 1000 _ _
  show zG X ad shX eV 36 [none, none, none, none] [] h_3 _
  exact g_vret C iX1_copyCounts_36 rfl

theorem iX1_islands_12 : zI cX1_islands 12 (.if_icmp .ge 22) 3 15 := ⟨by decide +kernel, rfl⟩
theorem iX1_islands_22 : zI cX1_islands 22 (.if_icmp .ne 6) 3 25 := ⟨by decide +kernel, rfl⟩
theorem iX1_islands_31 : zI cX1_islands 31 (.goto (-27)) 3 34 := ⟨by decide +kernel, rfl⟩
theorem iX1_islands_28 : zI cX1_islands 28 (.iinc 2 1) 3 31 := ⟨by decide +kernel, rfl⟩
theorem iX1_islands_25 : zI cX1_islands 25 (.iinc 1 1) 3 28 := ⟨by decide +kernel, rfl⟩
theorem iX1_islands_21 : zI cX1_islands 21 (.iload_n 2) 1 22 := ⟨by decide +kernel, rfl⟩
theorem iX1_islands_20 : zI cX1_islands 20 (.iaload) 1 21 := ⟨by decide +kernel, rfl⟩
theorem iX1_islands_19 : zI cX1_islands 19 (.iload_n 2) 1 20 := ⟨by decide +kernel, rfl⟩
theorem iX1_islands_16 : zI cX1_islands 16 (.getfield 9) 3 19 := ⟨by decide +kernel, rfl⟩
theorem iX1_islands_15 : zI cX1_islands 15 (.aload_n 0) 1 16 := ⟨by decide +kernel, rfl⟩
theorem iX1_islands_9 : zI cX1_islands 9 (.getfield 99) 3 12 := ⟨by decide +kernel, rfl⟩
theorem iX1_islands_6 : zI cX1_islands 6 (.getfield 33) 3 9 := ⟨by decide +kernel, rfl⟩
theorem iX1_islands_5 : zI cX1_islands 5 (.aload_n 0) 1 6 := ⟨by decide +kernel, rfl⟩
theorem iX1_islands_4 : zI cX1_islands 4 (.iload_n 2) 1 5 := ⟨by decide +kernel, rfl⟩
theorem iX1_islands_35 : zI cX1_islands 35 (.ireturn) 1 36 := ⟨by decide +kernel, rfl⟩
theorem iX1_islands_34 : zI cX1_islands 34 (.iload_n 1) 1 35 := ⟨by decide +kernel, rfl⟩
theorem iX1_islands_3 : zI cX1_islands 3 (.istore_n 2) 1 4 := ⟨by decide +kernel, rfl⟩
theorem iX1_islands_2 : zI cX1_islands 2 (.iconst 0) 1 3 := ⟨by decide +kernel, rfl⟩
theorem iX1_islands_1 : zI cX1_islands 1 (.istore_n 1) 1 2 := ⟨by decide +kernel, rfl⟩
theorem iX1_islands_0 : zI cX1_islands 0 (.iconst 0) 1 1 := ⟨by decide +kernel, rfl⟩
set_option maxHeartbeats 4000000 in
set_option maxRecDepth 100000 in
theorem m_Gr_islands (g : Nat) (hg : isG g) (h : zH) : zM yX1_islands cX1_islands 3 (some .int) 0 shX (fun ad => [.ref (ad g)]) h (eP h) (Gr_islands g h) := by
  refine zM.of (by decide) (fun _ => rfl) (fun _ => Nat.le_of_ble_eq_true rfl) (fun X ad hnL C => ?_)
  show zG X ad shX (eP h) 0 [some (.ref (ad g)), none, none] [] h _
  unfold Gr_islands
  refine g_iconst C 0 iX1_islands_0 (by decide) ?_
  refine g_istore_n (lv' := [some (.ref (ad g)), some (.int 0), none]) C hnL iX1_islands_1 (by decide) rfl ?_
  refine g_iconst C 0 iX1_islands_2 (by decide) ?_
  refine g_istore_n (lv' := [some (.ref (ad g)), some (.int 0), some (.int 0)]) C hnL iX1_islands_3 (by decide) rfl ?_
  have L4 : ∀ (k34 : Int32 → Option (Int32)), (∀ (y1 : Int32), zG X ad shX (eP h) 34 [none, some (.int y1), none] [] h (k34 y1)) → ∀ (n : Nat) (x1 x2 : Int32), zG X ad shX (eP h) 4 [some (.ref (ad g)), some (.int x1), some (.int x2)] [] h (Gr_islands_L4 g h k34 n x1 x2) := by
    intro k34 hk34 n
    induction n with
    | zero =>
      intro x1 x2
      exact g_none
    | succ n ih4 =>
      intro x1 x2
      rw [Gr_islands_L4]
      refine g_iload_n C iX1_islands_4 rfl ?_
      refine g_aload_n C iX1_islands_5 rfl ?_
      refine g_getR (b := 17) C fX1_33 iX1_islands_6 hg.1 rfl ?_
      refine g_getI C fX1_99 iX1_islands_9 isP17.1 rfl ?_
      refine g_icmp_ge C 34 iX1_islands_12 (by decide) (fun c12 => ?_) (fun c12 => ?_)
      · refine g_sub (lv' := [none, some (.int x1), none]) ⟨rfl, trivial⟩ ?_
        exact hk34 _
      · refine g_aload_n C iX1_islands_15 rfl ?_
        refine g_getR (b := (g + 1)) C fX1_9 iX1_islands_16 hg.1 rfl ?_
        refine g_iload_n C iX1_islands_19 rfl ?_
        refine g_iaload C iX1_islands_20 hg.2.1 ?_
        refine g_iload_n C iX1_islands_21 rfl ?_
        refine g_icmp_ne C 28 iX1_islands_22 (by decide) (fun c22 => ?_) (fun c22 => ?_)
        · refine g_iinc (v := (x1 + 1)) (lv' := [some (.ref (ad g)), some (.int (x1 + 1)), some (.int x2)]) C hnL iX1_islands_25 (by decide) rfl rfl rfl ?_
          refine g_iinc (v := (x2 + 1)) (lv' := [some (.ref (ad g)), some (.int (x1 + 1)), some (.int (x2 + 1))]) C hnL iX1_islands_28 (by decide) rfl rfl rfl ?_
          refine g_goto C 4 iX1_islands_31 (by decide) ?_
          exact ih4 _ _
        · refine g_iinc (v := (x2 + 1)) (lv' := [some (.ref (ad g)), some (.int x1), some (.int (x2 + 1))]) C hnL iX1_islands_28 (by decide) rfl rfl rfl ?_
          refine g_goto C 4 iX1_islands_31 (by decide) ?_
          exact ih4 _ _
  refine L4 _ (fun x1_1 => ?_) 1000 _ _
  show zG X ad shX (eP h) 34 [none, some (.int x1_1), none] [] h _
  refine g_iload_n C iX1_islands_34 rfl ?_
  exact g_iret C iX1_islands_35 rfl

theorem iX1_darkIslands_12 : zI cX1_darkIslands 12 (.if_icmp .ge 30) 3 15 := ⟨by decide +kernel, rfl⟩
theorem iX1_darkIslands_22 : zI cX1_darkIslands 22 (.if_icmp .ne 14) 3 25 := ⟨by decide +kernel, rfl⟩
theorem iX1_darkIslands_39 : zI cX1_darkIslands 39 (.goto (-35)) 3 42 := ⟨by decide +kernel, rfl⟩
theorem iX1_darkIslands_36 : zI cX1_darkIslands 36 (.iinc 2 1) 3 39 := ⟨by decide +kernel, rfl⟩
set_option maxRecDepth 100000 in
theorem wX1_112 : zCv RX1 112 yX1_isDark cX1_isDark 2 (some .boolean) 1 := ⟨⟨(zmem 609 (by decide +kernel) (by decide +kernel)), (zmem 67 (by decide +kernel) (by decide +kernel)), (zmem 540 rfl rfl), ⟨by decide, by decide, by decide +kernel⟩, by decide⟩, (zmem 538 (by decide +kernel) (by decide +kernel)), (zmem 539 (by decide +kernel) (by decide +kernel))⟩
theorem iX1_darkIslands_27 : zI cX1_darkIslands 27 (.invokevirtual 112) 3 30 := ⟨by decide +kernel, rfl⟩
theorem iX1_darkIslands_30 : zI cX1_darkIslands 30 (.ifCond .eq 6) 3 33 := ⟨by decide +kernel, rfl⟩
theorem iX1_darkIslands_33 : zI cX1_darkIslands 33 (.iinc 1 1) 3 36 := ⟨by decide +kernel, rfl⟩
theorem iX1_darkIslands_26 : zI cX1_darkIslands 26 (.iload_n 2) 1 27 := ⟨by decide +kernel, rfl⟩
theorem iX1_darkIslands_25 : zI cX1_darkIslands 25 (.aload_n 0) 1 26 := ⟨by decide +kernel, rfl⟩
theorem iX1_darkIslands_21 : zI cX1_darkIslands 21 (.iload_n 2) 1 22 := ⟨by decide +kernel, rfl⟩
theorem iX1_darkIslands_20 : zI cX1_darkIslands 20 (.iaload) 1 21 := ⟨by decide +kernel, rfl⟩
theorem iX1_darkIslands_19 : zI cX1_darkIslands 19 (.iload_n 2) 1 20 := ⟨by decide +kernel, rfl⟩
theorem iX1_darkIslands_16 : zI cX1_darkIslands 16 (.getfield 9) 3 19 := ⟨by decide +kernel, rfl⟩
theorem iX1_darkIslands_15 : zI cX1_darkIslands 15 (.aload_n 0) 1 16 := ⟨by decide +kernel, rfl⟩
theorem iX1_darkIslands_9 : zI cX1_darkIslands 9 (.getfield 99) 3 12 := ⟨by decide +kernel, rfl⟩
theorem iX1_darkIslands_6 : zI cX1_darkIslands 6 (.getfield 33) 3 9 := ⟨by decide +kernel, rfl⟩
theorem iX1_darkIslands_5 : zI cX1_darkIslands 5 (.aload_n 0) 1 6 := ⟨by decide +kernel, rfl⟩
theorem iX1_darkIslands_4 : zI cX1_darkIslands 4 (.iload_n 2) 1 5 := ⟨by decide +kernel, rfl⟩
theorem iX1_darkIslands_43 : zI cX1_darkIslands 43 (.ireturn) 1 44 := ⟨by decide +kernel, rfl⟩
theorem iX1_darkIslands_42 : zI cX1_darkIslands 42 (.iload_n 1) 1 43 := ⟨by decide +kernel, rfl⟩
theorem iX1_darkIslands_3 : zI cX1_darkIslands 3 (.istore_n 2) 1 4 := ⟨by decide +kernel, rfl⟩
theorem iX1_darkIslands_2 : zI cX1_darkIslands 2 (.iconst 0) 1 3 := ⟨by decide +kernel, rfl⟩
theorem iX1_darkIslands_1 : zI cX1_darkIslands 1 (.istore_n 1) 1 2 := ⟨by decide +kernel, rfl⟩
theorem iX1_darkIslands_0 : zI cX1_darkIslands 0 (.iconst 0) 1 1 := ⟨by decide +kernel, rfl⟩
set_option maxHeartbeats 4000000 in
set_option maxRecDepth 100000 in
theorem m_Gr_darkIslands (g : Nat) (hg : isG g) (h : zH) : zM yX1_darkIslands cX1_darkIslands 3 (some .int) 1 shX (fun ad => [.ref (ad g)]) h (eP h) (Gr_darkIslands g h) := by
  refine zM.of (by decide) (fun _ => rfl) (fun _ => Nat.le_of_ble_eq_true rfl) (fun X ad hnL C => ?_)
  show zG X ad shX (eP h) 0 [some (.ref (ad g)), none, none] [] h _
  unfold Gr_darkIslands
  refine g_iconst C 0 iX1_darkIslands_0 (by decide) ?_
  refine g_istore_n (lv' := [some (.ref (ad g)), some (.int 0), none]) C hnL iX1_darkIslands_1 (by decide) rfl ?_
  refine g_iconst C 0 iX1_darkIslands_2 (by decide) ?_
  refine g_istore_n (lv' := [some (.ref (ad g)), some (.int 0), some (.int 0)]) C hnL iX1_darkIslands_3 (by decide) rfl ?_
  have L4 : ∀ (k42 : Int32 → Option (Int32)), (∀ (y1 : Int32), zG X ad shX (eP h) 42 [none, some (.int y1), none] [] h (k42 y1)) → ∀ (n : Nat) (x1 x2 : Int32), zG X ad shX (eP h) 4 [some (.ref (ad g)), some (.int x1), some (.int x2)] [] h (Gr_darkIslands_L4 g h k42 n x1 x2) := by
    intro k42 hk42 n
    induction n with
    | zero =>
      intro x1 x2
      exact g_none
    | succ n ih4 =>
      intro x1 x2
      rw [Gr_darkIslands_L4]
      refine g_iload_n C iX1_darkIslands_4 rfl ?_
      refine g_aload_n C iX1_darkIslands_5 rfl ?_
      refine g_getR (b := 17) C fX1_33 iX1_darkIslands_6 hg.1 rfl ?_
      refine g_getI C fX1_99 iX1_darkIslands_9 isP17.1 rfl ?_
      refine g_icmp_ge C 42 iX1_darkIslands_12 (by decide) (fun c12 => ?_) (fun c12 => ?_)
      · refine g_sub (lv' := [none, some (.int x1), none]) ⟨rfl, trivial⟩ ?_
        exact hk42 _
      · refine g_aload_n C iX1_darkIslands_15 rfl ?_
        refine g_getR (b := (g + 1)) C fX1_9 iX1_darkIslands_16 hg.1 rfl ?_
        refine g_iload_n C iX1_darkIslands_19 rfl ?_
        refine g_iaload C iX1_darkIslands_20 hg.2.1 ?_
        refine g_iload_n C iX1_darkIslands_21 rfl ?_
        refine g_icmp_ne C 36 iX1_darkIslands_22 (by decide) (fun c22 => ?_) (fun c22 => ?_)
        · refine g_aload_n C iX1_darkIslands_25 rfl ?_
          refine g_iload_n C iX1_darkIslands_26 rfl ?_
          refine g_callV C wX1_112 iX1_darkIslands_27 (m_Gr_isDark g hg x2 h) (by decide) hg.1 rfl rfl rfl rfl (Nat.le_of_ble_eq_true rfl) (fun r => ?_)
          show zG X ad shX (eP h) 30 [some (.ref (ad g)), some (.int x1), some (.int x2)] [.int r] h _
          refine g_if_eq C 36 iX1_darkIslands_30 (by decide) (fun c30 => ?_) (fun c30 => ?_)
          · refine g_iinc (v := (x2 + 1)) (lv' := [some (.ref (ad g)), some (.int x1), some (.int (x2 + 1))]) C hnL iX1_darkIslands_36 (by decide) rfl rfl rfl ?_
            refine g_goto C 4 iX1_darkIslands_39 (by decide) ?_
            exact ih4 _ _
          · refine g_iinc (v := (x1 + 1)) (lv' := [some (.ref (ad g)), some (.int (x1 + 1)), some (.int x2)]) C hnL iX1_darkIslands_33 (by decide) rfl rfl rfl ?_
            refine g_iinc (v := (x2 + 1)) (lv' := [some (.ref (ad g)), some (.int (x1 + 1)), some (.int (x2 + 1))]) C hnL iX1_darkIslands_36 (by decide) rfl rfl rfl ?_
            refine g_goto C 4 iX1_darkIslands_39 (by decide) ?_
            exact ih4 _ _
        · refine g_iinc (v := (x2 + 1)) (lv' := [some (.ref (ad g)), some (.int x1), some (.int (x2 + 1))]) C hnL iX1_darkIslands_36 (by decide) rfl rfl rfl ?_
          refine g_goto C 4 iX1_darkIslands_39 (by decide) ?_
          exact ih4 _ _
  refine L4 _ (fun x1_1 => ?_) 1000 _ _
  show zG X ad shX (eP h) 42 [none, some (.int x1_1), none] [] h _
  refine g_iload_n C iX1_darkIslands_42 rfl ?_
  exact g_iret C iX1_darkIslands_43 rfl

theorem iX1_rootOf_12 : zI cX1_rootOf 12 (.if_icmp .ge 29) 3 15 := ⟨by decide +kernel, rfl⟩
theorem iX1_rootOf_22 : zI cX1_rootOf 22 (.if_icmp .ne 13) 3 25 := ⟨by decide +kernel, rfl⟩
theorem iX1_rootOf_38 : zI cX1_rootOf 38 (.goto (-34)) 3 41 := ⟨by decide +kernel, rfl⟩
theorem iX1_rootOf_35 : zI cX1_rootOf 35 (.iinc 3 1) 3 38 := ⟨by decide +kernel, rfl⟩
theorem iX1_rootOf_27 : zI cX1_rootOf 27 (.if_icmp .ne 5) 3 30 := ⟨by decide +kernel, rfl⟩
theorem iX1_rootOf_32 : zI cX1_rootOf 32 (.iinc 2 1) 3 35 := ⟨by decide +kernel, rfl⟩
theorem iX1_rootOf_26 : zI cX1_rootOf 26 (.iload_n 1) 1 27 := ⟨by decide +kernel, rfl⟩
theorem iX1_rootOf_25 : zI cX1_rootOf 25 (.iload_n 2) 1 26 := ⟨by decide +kernel, rfl⟩
theorem iX1_rootOf_21 : zI cX1_rootOf 21 (.iload_n 3) 1 22 := ⟨by decide +kernel, rfl⟩
theorem iX1_rootOf_20 : zI cX1_rootOf 20 (.iaload) 1 21 := ⟨by decide +kernel, rfl⟩
theorem iX1_rootOf_19 : zI cX1_rootOf 19 (.iload_n 3) 1 20 := ⟨by decide +kernel, rfl⟩
theorem iX1_rootOf_16 : zI cX1_rootOf 16 (.getfield 9) 3 19 := ⟨by decide +kernel, rfl⟩
theorem iX1_rootOf_15 : zI cX1_rootOf 15 (.aload_n 0) 1 16 := ⟨by decide +kernel, rfl⟩
theorem iX1_rootOf_9 : zI cX1_rootOf 9 (.getfield 99) 3 12 := ⟨by decide +kernel, rfl⟩
theorem iX1_rootOf_6 : zI cX1_rootOf 6 (.getfield 33) 3 9 := ⟨by decide +kernel, rfl⟩
theorem iX1_rootOf_5 : zI cX1_rootOf 5 (.aload_n 0) 1 6 := ⟨by decide +kernel, rfl⟩
theorem iX1_rootOf_4 : zI cX1_rootOf 4 (.iload_n 3) 1 5 := ⟨by decide +kernel, rfl⟩
theorem iX1_rootOf_31 : zI cX1_rootOf 31 (.ireturn) 1 32 := ⟨by decide +kernel, rfl⟩
theorem iX1_rootOf_30 : zI cX1_rootOf 30 (.iload_n 3) 1 31 := ⟨by decide +kernel, rfl⟩
theorem iX1_rootOf_42 : zI cX1_rootOf 42 (.ireturn) 1 43 := ⟨by decide +kernel, rfl⟩
theorem iX1_rootOf_41 : zI cX1_rootOf 41 (.iconst (-1)) 1 42 := ⟨by decide +kernel, rfl⟩
theorem iX1_rootOf_3 : zI cX1_rootOf 3 (.istore_n 3) 1 4 := ⟨by decide +kernel, rfl⟩
theorem iX1_rootOf_2 : zI cX1_rootOf 2 (.iconst 0) 1 3 := ⟨by decide +kernel, rfl⟩
theorem iX1_rootOf_1 : zI cX1_rootOf 1 (.istore_n 2) 1 2 := ⟨by decide +kernel, rfl⟩
theorem iX1_rootOf_0 : zI cX1_rootOf 0 (.iconst 0) 1 1 := ⟨by decide +kernel, rfl⟩
set_option maxHeartbeats 4000000 in
set_option maxRecDepth 100000 in
theorem m_Gr_rootOf (g : Nat) (hg : isG g) (x1 : Int32) (h : zH) : zM yX1_rootOf cX1_rootOf 4 (some .int) 0 shX (fun ad => [.ref (ad g), .int x1]) h (eP h) (Gr_rootOf g x1 h) := by
  refine zM.of (by decide) (fun _ => rfl) (fun _ => Nat.le_of_ble_eq_true rfl) (fun X ad hnL C => ?_)
  show zG X ad shX (eP h) 0 [some (.ref (ad g)), some (.int x1), none, none] [] h _
  unfold Gr_rootOf
  refine g_iconst C 0 iX1_rootOf_0 (by decide) ?_
  refine g_istore_n (lv' := [some (.ref (ad g)), some (.int x1), some (.int 0), none]) C hnL iX1_rootOf_1 (by decide) rfl ?_
  refine g_iconst C 0 iX1_rootOf_2 (by decide) ?_
  refine g_istore_n (lv' := [some (.ref (ad g)), some (.int x1), some (.int 0), some (.int 0)]) C hnL iX1_rootOf_3 (by decide) rfl ?_
  have L4 : ∀ (k30 : Int32 → Option (Int32)), (∀ (y3 : Int32), zG X ad shX (eP h) 30 [none, none, none, some (.int y3)] [] h (k30 y3)) → ∀ (k41 : Option (Int32)), (zG X ad shX (eP h) 41 [none, none, none, none] [] h (k41)) → ∀ (n : Nat) (x2 x3 : Int32), zG X ad shX (eP h) 4 [some (.ref (ad g)), some (.int x1), some (.int x2), some (.int x3)] [] h (Gr_rootOf_L4 g x1 h k30 k41 n x2 x3) := by
    intro k30 hk30 k41 hk41 n
    induction n with
    | zero =>
      intro x2 x3
      exact g_none
    | succ n ih4 =>
      intro x2 x3
      rw [Gr_rootOf_L4]
      refine g_iload_n C iX1_rootOf_4 rfl ?_
      refine g_aload_n C iX1_rootOf_5 rfl ?_
      refine g_getR (b := 17) C fX1_33 iX1_rootOf_6 hg.1 rfl ?_
      refine g_getI C fX1_99 iX1_rootOf_9 isP17.1 rfl ?_
      refine g_icmp_ge C 41 iX1_rootOf_12 (by decide) (fun c12 => ?_) (fun c12 => ?_)
      · refine g_sub (lv' := [none, none, none, none]) trivial ?_
        exact hk41
      · refine g_aload_n C iX1_rootOf_15 rfl ?_
        refine g_getR (b := (g + 1)) C fX1_9 iX1_rootOf_16 hg.1 rfl ?_
        refine g_iload_n C iX1_rootOf_19 rfl ?_
        refine g_iaload C iX1_rootOf_20 hg.2.1 ?_
        refine g_iload_n C iX1_rootOf_21 rfl ?_
        refine g_icmp_ne C 35 iX1_rootOf_22 (by decide) (fun c22 => ?_) (fun c22 => ?_)
        · refine g_iload_n C iX1_rootOf_25 rfl ?_
          refine g_iload_n C iX1_rootOf_26 rfl ?_
          refine g_icmp_ne C 32 iX1_rootOf_27 (by decide) (fun c27 => ?_) (fun c27 => ?_)
          · refine g_sub (lv' := [none, none, none, some (.int x3)]) ⟨rfl, trivial⟩ ?_
            exact hk30 _
          · refine g_iinc (v := (x2 + 1)) (lv' := [some (.ref (ad g)), some (.int x1), some (.int (x2 + 1)), some (.int x3)]) C hnL iX1_rootOf_32 (by decide) rfl rfl rfl ?_
            refine g_iinc (v := (x3 + 1)) (lv' := [some (.ref (ad g)), some (.int x1), some (.int (x2 + 1)), some (.int (x3 + 1))]) C hnL iX1_rootOf_35 (by decide) rfl rfl rfl ?_
            refine g_goto C 4 iX1_rootOf_38 (by decide) ?_
            exact ih4 _ _
        · refine g_iinc (v := (x3 + 1)) (lv' := [some (.ref (ad g)), some (.int x1), some (.int x2), some (.int (x3 + 1))]) C hnL iX1_rootOf_35 (by decide) rfl rfl rfl ?_
          refine g_goto C 4 iX1_rootOf_38 (by decide) ?_
          exact ih4 _ _
  refine L4 _ (fun x3_1 => ?_) _ (?_) 1000 _ _
  · show zG X ad shX (eP h) 30 [none, none, none, some (.int x3_1)] [] h _
    refine g_iload_n C iX1_rootOf_30 rfl ?_
    exact g_iret C iX1_rootOf_31 rfl
  · show zG X ad shX (eP h) 41 [none, none, none, none] [] h _
    refine g_iconst C (-1) iX1_rootOf_41 (by decide) ?_
    exact g_iret C iX1_rootOf_42 rfl
end
