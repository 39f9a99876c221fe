section
/-- a private method of a class that the tables say can be made, by its rows of tables_1 -/
def lw_okq (q : MethodName × Nat) : Prop := (q.1.cls ≠ "java/lang/invoke/MethodHandle" ∧ q.1.cls ≠ "java/lang/invoke/VarHandle") ∧ Cond.instantiable q.1.cls q.2 ∈ tables_1 ∧ Cond.privateMethod q.1 ∈ tables_1 ∧ Cond.instanceMethod q.1 ∈ tables_1
theorem lw_p0 : lw_okq (⟨"ShedStages$Reader", "takeItem", "(LShedStages$Letters;IILShedStages$Plan;)Z"⟩, 1) := ⟨⟨by decide +kernel, by decide +kernel⟩, List.mem_of_getElem? (i := 42) (by decide +kernel), List.mem_of_getElem? (i := 302) (by decide +kernel), List.mem_of_getElem? (i := 303) (by decide +kernel)⟩
theorem lw_p1 : lw_okq (⟨"ShedStages$Reader", "readNumbers", "(LShedStages$Letters;II)I"⟩, 1) := ⟨⟨by decide +kernel, by decide +kernel⟩, List.mem_of_getElem? (i := 42) (by decide +kernel), List.mem_of_getElem? (i := 306) (by decide +kernel), List.mem_of_getElem? (i := 307) (by decide +kernel)⟩
theorem lw_p2 : lw_okq (⟨"ShedStages$Plan", "setRow", "(III)Z"⟩, 16) := ⟨⟨by decide +kernel, by decide +kernel⟩, List.mem_of_getElem? (i := 52) (by decide +kernel), List.mem_of_getElem? (i := 337) (by decide +kernel), List.mem_of_getElem? (i := 338) (by decide +kernel)⟩
theorem lw_p3 : lw_okq (⟨"ShedStages$Grid", "findRoots", "()V"⟩, 12) := ⟨⟨by decide +kernel, by decide +kernel⟩, List.mem_of_getElem? (i := 135) (by decide +kernel), List.mem_of_getElem? (i := 359) (by decide +kernel), List.mem_of_getElem? (i := 360) (by decide +kernel)⟩
theorem lw_p4 : lw_okq (⟨"ShedStages$Grid", "giveLoad", "()V"⟩, 12) := ⟨⟨by decide +kernel, by decide +kernel⟩, List.mem_of_getElem? (i := 135) (by decide +kernel), List.mem_of_getElem? (i := 373) (by decide +kernel), List.mem_of_getElem? (i := 374) (by decide +kernel)⟩
theorem lw_p5 : lw_okq (⟨"ShedStages$Grid", "sumOfPlants", "([II)I"⟩, 12) := ⟨⟨by decide +kernel, by decide +kernel⟩, List.mem_of_getElem? (i := 135) (by decide +kernel), List.mem_of_getElem? (i := 394) (by decide +kernel), List.mem_of_getElem? (i := 395) (by decide +kernel)⟩
theorem lw_p6 : lw_okq (⟨"ShedStages$Course", "follow", "(I)V"⟩, 5) := ⟨⟨by decide +kernel, by decide +kernel⟩, List.mem_of_getElem? (i := 196) (by decide +kernel), List.mem_of_getElem? (i := 480) (by decide +kernel), List.mem_of_getElem? (i := 481) (by decide +kernel)⟩
theorem lw_p7 : lw_okq (⟨"ShedStages$Course", "darken", "(I)V"⟩, 5) := ⟨⟨by decide +kernel, by decide +kernel⟩, List.mem_of_getElem? (i := 196) (by decide +kernel), List.mem_of_getElem? (i := 497) (by decide +kernel), List.mem_of_getElem? (i := 498) (by decide +kernel)⟩
theorem lw_p8 : lw_okq (⟨"ShedStages$Course", "dropSet", "(I)V"⟩, 5) := ⟨⟨by decide +kernel, by decide +kernel⟩, List.mem_of_getElem? (i := 196) (by decide +kernel), List.mem_of_getElem? (i := 502) (by decide +kernel), List.mem_of_getElem? (i := 503) (by decide +kernel)⟩
theorem lw_p9 : lw_okq (⟨"ShedStages$Course", "passStage", "(II)V"⟩, 5) := ⟨⟨by decide +kernel, by decide +kernel⟩, List.mem_of_getElem? (i := 196) (by decide +kernel), List.mem_of_getElem? (i := 512) (by decide +kernel), List.mem_of_getElem? (i := 513) (by decide +kernel)⟩
theorem lw_p10 : lw_okq (⟨"ShedStages$Course", "onOfStage", "(II)I"⟩, 5) := ⟨⟨by decide +kernel, by decide +kernel⟩, List.mem_of_getElem? (i := 196) (by decide +kernel), List.mem_of_getElem? (i := 516) (by decide +kernel), List.mem_of_getElem? (i := 517) (by decide +kernel)⟩
theorem lw_p11 : lw_okq (⟨"ShedStages$Course", "passBack", "(I)V"⟩, 5) := ⟨⟨by decide +kernel, by decide +kernel⟩, List.mem_of_getElem? (i := 196) (by decide +kernel), List.mem_of_getElem? (i := 520) (by decide +kernel), List.mem_of_getElem? (i := 521) (by decide +kernel)⟩
theorem lw_p12 : lw_okq (⟨"ShedStages$Course", "nextBack", "(I)I"⟩, 5) := ⟨⟨by decide +kernel, by decide +kernel⟩, List.mem_of_getElem? (i := 196) (by decide +kernel), List.mem_of_getElem? (i := 524) (by decide +kernel), List.mem_of_getElem? (i := 525) (by decide +kernel)⟩
theorem lw_p13 : lw_okq (⟨"ShedStages$Grid", "join", "(II)V"⟩, 12) := ⟨⟨by decide +kernel, by decide +kernel⟩, List.mem_of_getElem? (i := 135) (by decide +kernel), List.mem_of_getElem? (i := 557) (by decide +kernel), List.mem_of_getElem? (i := 558) (by decide +kernel)⟩
theorem lw_p14 : lw_okq (⟨"ShedStages$Grid", "copyCounts", "(II)V"⟩, 12) := ⟨⟨by decide +kernel, by decide +kernel⟩, List.mem_of_getElem? (i := 135) (by decide +kernel), List.mem_of_getElem? (i := 561) (by decide +kernel), List.mem_of_getElem? (i := 562) (by decide +kernel)⟩
theorem lw_p15 : lw_okq (⟨"ShedStages$Grid", "joinedFrequency", "(II)I"⟩, 12) := ⟨⟨by decide +kernel, by decide +kernel⟩, List.mem_of_getElem? (i := 135) (by decide +kernel), List.mem_of_getElem? (i := 565) (by decide +kernel), List.mem_of_getElem? (i := 566) (by decide +kernel)⟩
def lw_privs_1 : List (MethodName × Nat) := [(⟨"ShedStages$Reader", "takeItem", "(LShedStages$Letters;IILShedStages$Plan;)Z"⟩, 1), (⟨"ShedStages$Reader", "readNumbers", "(LShedStages$Letters;II)I"⟩, 1), (⟨"ShedStages$Plan", "setRow", "(III)Z"⟩, 16), (⟨"ShedStages$Grid", "findRoots", "()V"⟩, 12), (⟨"ShedStages$Grid", "giveLoad", "()V"⟩, 12), (⟨"ShedStages$Grid", "sumOfPlants", "([II)I"⟩, 12), (⟨"ShedStages$Course", "follow", "(I)V"⟩, 5), (⟨"ShedStages$Course", "darken", "(I)V"⟩, 5), (⟨"ShedStages$Course", "dropSet", "(I)V"⟩, 5), (⟨"ShedStages$Course", "passStage", "(II)V"⟩, 5), (⟨"ShedStages$Course", "onOfStage", "(II)I"⟩, 5), (⟨"ShedStages$Course", "passBack", "(I)V"⟩, 5), (⟨"ShedStages$Course", "nextBack", "(I)I"⟩, 5), (⟨"ShedStages$Grid", "join", "(II)V"⟩, 12), (⟨"ShedStages$Grid", "copyCounts", "(II)V"⟩, 12), (⟨"ShedStages$Grid", "joinedFrequency", "(II)I"⟩, 12)]
theorem lw_r1 : ∀ q ∈ lw_privs_1, lw_okq q := List.forall_mem_cons.mpr ⟨lw_p0, List.forall_mem_cons.mpr ⟨lw_p1, List.forall_mem_cons.mpr ⟨lw_p2, List.forall_mem_cons.mpr ⟨lw_p3, List.forall_mem_cons.mpr ⟨lw_p4, List.forall_mem_cons.mpr ⟨lw_p5, List.forall_mem_cons.mpr ⟨lw_p6, List.forall_mem_cons.mpr ⟨lw_p7, List.forall_mem_cons.mpr ⟨lw_p8, List.forall_mem_cons.mpr ⟨lw_p9, List.forall_mem_cons.mpr ⟨lw_p10, List.forall_mem_cons.mpr ⟨lw_p11, List.forall_mem_cons.mpr ⟨lw_p12, List.forall_mem_cons.mpr ⟨lw_p13, List.forall_mem_cons.mpr ⟨lw_p14, List.forall_mem_cons.mpr ⟨lw_p15, fun _ h => absurd h List.not_mem_nil⟩⟩⟩⟩⟩⟩⟩⟩⟩⟩⟩⟩⟩⟩⟩⟩
theorem lw_p16 : lw_okq (⟨"ShedStages", "leastSet", "(II)I"⟩, 9) := ⟨⟨by decide +kernel, by decide +kernel⟩, List.mem_of_getElem? (i := 17) (by decide +kernel), List.mem_of_getElem? (i := 666) (by decide +kernel), List.mem_of_getElem? (i := 667) (by decide +kernel)⟩
theorem lw_p17 : lw_okq (⟨"ShedStages", "isLess", "(II)Z"⟩, 9) := ⟨⟨by decide +kernel, by decide +kernel⟩, List.mem_of_getElem? (i := 17) (by decide +kernel), List.mem_of_getElem? (i := 670) (by decide +kernel), List.mem_of_getElem? (i := 671) (by decide +kernel)⟩
theorem lw_p18 : lw_okq (⟨"ShedStages", "holds", "(III)Z"⟩, 9) := ⟨⟨by decide +kernel, by decide +kernel⟩, List.mem_of_getElem? (i := 17) (by decide +kernel), List.mem_of_getElem? (i := 678) (by decide +kernel), List.mem_of_getElem? (i := 679) (by decide +kernel)⟩
theorem lw_p19 : lw_okq (⟨"ShedStagesModel", "clears", "()V"⟩, 17) := ⟨⟨by decide +kernel, by decide +kernel⟩, List.mem_of_getElem? (i := 699) (by decide +kernel), List.mem_of_getElem? (i := 705) (by decide +kernel), List.mem_of_getElem? (i := 706) (by decide +kernel)⟩
theorem lw_p20 : lw_okq (⟨"ShedStagesModel", "adds", "(IIIII)V"⟩, 17) := ⟨⟨by decide +kernel, by decide +kernel⟩, List.mem_of_getElem? (i := 699) (by decide +kernel), List.mem_of_getElem? (i := 709) (by decide +kernel), List.mem_of_getElem? (i := 710) (by decide +kernel)⟩
theorem lw_p21 : lw_okq (⟨"ShedStagesModel", "takes", "()V"⟩, 17) := ⟨⟨by decide +kernel, by decide +kernel⟩, List.mem_of_getElem? (i := 699) (by decide +kernel), List.mem_of_getElem? (i := 713) (by decide +kernel), List.mem_of_getElem? (i := 714) (by decide +kernel)⟩
theorem lw_p22 : lw_okq (⟨"ShedStagesModel", "isLowest", "(I)Z"⟩, 17) := ⟨⟨by decide +kernel, by decide +kernel⟩, List.mem_of_getElem? (i := 699) (by decide +kernel), List.mem_of_getElem? (i := 717) (by decide +kernel), List.mem_of_getElem? (i := 718) (by decide +kernel)⟩
theorem lw_p23 : lw_okq (⟨"ShedStagesModel", "busesOf", "(I)I"⟩, 17) := ⟨⟨by decide +kernel, by decide +kernel⟩, List.mem_of_getElem? (i := 699) (by decide +kernel), List.mem_of_getElem? (i := 721) (by decide +kernel), List.mem_of_getElem? (i := 722) (by decide +kernel)⟩
theorem lw_p24 : lw_okq (⟨"ShedStagesModel", "begins", "(I)V"⟩, 17) := ⟨⟨by decide +kernel, by decide +kernel⟩, List.mem_of_getElem? (i := 699) (by decide +kernel), List.mem_of_getElem? (i := 728) (by decide +kernel), List.mem_of_getElem? (i := 729) (by decide +kernel)⟩
theorem lw_p25 : lw_okq (⟨"ShedStagesModel", "load", "(I)I"⟩, 17) := ⟨⟨by decide +kernel, by decide +kernel⟩, List.mem_of_getElem? (i := 699) (by decide +kernel), List.mem_of_getElem? (i := 732) (by decide +kernel), List.mem_of_getElem? (i := 733) (by decide +kernel)⟩
theorem lw_p26 : lw_okq (⟨"ShedStagesModel", "reads", "()I"⟩, 17) := ⟨⟨by decide +kernel, by decide +kernel⟩, List.mem_of_getElem? (i := 699) (by decide +kernel), List.mem_of_getElem? (i := 800) (by decide +kernel), List.mem_of_getElem? (i := 801) (by decide +kernel)⟩
theorem lw_p27 : lw_okq (⟨"ShedStagesModel", "readsItem", "(IIZ)Z"⟩, 17) := ⟨⟨by decide +kernel, by decide +kernel⟩, List.mem_of_getElem? (i := 699) (by decide +kernel), List.mem_of_getElem? (i := 804) (by decide +kernel), List.mem_of_getElem? (i := 805) (by decide +kernel)⟩
theorem lw_p28 : lw_okq (⟨"ShedStagesModel", "number", "(III)Z"⟩, 17) := ⟨⟨by decide +kernel, by decide +kernel⟩, List.mem_of_getElem? (i := 699) (by decide +kernel), List.mem_of_getElem? (i := 808) (by decide +kernel), List.mem_of_getElem? (i := 809) (by decide +kernel)⟩
theorem lw_p29 : lw_okq (⟨"ShedStagesModel", "letterAt", "(I)I"⟩, 17) := ⟨⟨by decide +kernel, by decide +kernel⟩, List.mem_of_getElem? (i := 699) (by decide +kernel), List.mem_of_getElem? (i := 812) (by decide +kernel), List.mem_of_getElem? (i := 813) (by decide +kernel)⟩
theorem lw_p30 : lw_okq (⟨"ShedStagesModel", "readsLink", "(I)Z"⟩, 17) := ⟨⟨by decide +kernel, by decide +kernel⟩, List.mem_of_getElem? (i := 699) (by decide +kernel), List.mem_of_getElem? (i := 819) (by decide +kernel), List.mem_of_getElem? (i := 820) (by decide +kernel)⟩
theorem lw_p31 : lw_okq (⟨"ShedStagesModel", "more", "(II)Z"⟩, 17) := ⟨⟨by decide +kernel, by decide +kernel⟩, List.mem_of_getElem? (i := 699) (by decide +kernel), List.mem_of_getElem? (i := 823) (by decide +kernel), List.mem_of_getElem? (i := 824) (by decide +kernel)⟩
def lw_privs_2 : List (MethodName × Nat) := [(⟨"ShedStages", "leastSet", "(II)I"⟩, 9), (⟨"ShedStages", "isLess", "(II)Z"⟩, 9), (⟨"ShedStages", "holds", "(III)Z"⟩, 9), (⟨"ShedStagesModel", "clears", "()V"⟩, 17), (⟨"ShedStagesModel", "adds", "(IIIII)V"⟩, 17), (⟨"ShedStagesModel", "takes", "()V"⟩, 17), (⟨"ShedStagesModel", "isLowest", "(I)Z"⟩, 17), (⟨"ShedStagesModel", "busesOf", "(I)I"⟩, 17), (⟨"ShedStagesModel", "begins", "(I)V"⟩, 17), (⟨"ShedStagesModel", "load", "(I)I"⟩, 17), (⟨"ShedStagesModel", "reads", "()I"⟩, 17), (⟨"ShedStagesModel", "readsItem", "(IIZ)Z"⟩, 17), (⟨"ShedStagesModel", "number", "(III)Z"⟩, 17), (⟨"ShedStagesModel", "letterAt", "(I)I"⟩, 17), (⟨"ShedStagesModel", "readsLink", "(I)Z"⟩, 17), (⟨"ShedStagesModel", "more", "(II)Z"⟩, 17)]
theorem lw_r2 : ∀ q ∈ lw_privs_2, lw_okq q := List.forall_mem_cons.mpr ⟨lw_p16, List.forall_mem_cons.mpr ⟨lw_p17, List.forall_mem_cons.mpr ⟨lw_p18, List.forall_mem_cons.mpr ⟨lw_p19, List.forall_mem_cons.mpr ⟨lw_p20, List.forall_mem_cons.mpr ⟨lw_p21, List.forall_mem_cons.mpr ⟨lw_p22, List.forall_mem_cons.mpr ⟨lw_p23, List.forall_mem_cons.mpr ⟨lw_p24, List.forall_mem_cons.mpr ⟨lw_p25, List.forall_mem_cons.mpr ⟨lw_p26, List.forall_mem_cons.mpr ⟨lw_p27, List.forall_mem_cons.mpr ⟨lw_p28, List.forall_mem_cons.mpr ⟨lw_p29, List.forall_mem_cons.mpr ⟨lw_p30, List.forall_mem_cons.mpr ⟨lw_p31, fun _ h => absurd h List.not_mem_nil⟩⟩⟩⟩⟩⟩⟩⟩⟩⟩⟩⟩⟩⟩⟩⟩
theorem lw_p32 : lw_okq (⟨"ShedStagesModel", "readsPlant", "(I)Z"⟩, 17) := ⟨⟨by decide +kernel, by decide +kernel⟩, List.mem_of_getElem? (i := 699) (by decide +kernel), List.mem_of_getElem? (i := 827) (by decide +kernel), List.mem_of_getElem? (i := 828) (by decide +kernel)⟩
theorem lw_p33 : lw_okq (⟨"ShedStagesModel", "readsFeeder", "(I)Z"⟩, 17) := ⟨⟨by decide +kernel, by decide +kernel⟩, List.mem_of_getElem? (i := 699) (by decide +kernel), List.mem_of_getElem? (i := 831) (by decide +kernel), List.mem_of_getElem? (i := 832) (by decide +kernel)⟩
theorem lw_p34 : lw_okq (⟨"ShedStagesModel", "readsStage", "(I)Z"⟩, 17) := ⟨⟨by decide +kernel, by decide +kernel⟩, List.mem_of_getElem? (i := 699) (by decide +kernel), List.mem_of_getElem? (i := 835) (by decide +kernel), List.mem_of_getElem? (i := 836) (by decide +kernel)⟩
theorem lw_p35 : lw_okq (⟨"ShedStagesModel", "readsBack", "(I)Z"⟩, 17) := ⟨⟨by decide +kernel, by decide +kernel⟩, List.mem_of_getElem? (i := 699) (by decide +kernel), List.mem_of_getElem? (i := 839) (by decide +kernel), List.mem_of_getElem? (i := 840) (by decide +kernel)⟩
theorem lw_p36 : lw_okq (⟨"ShedStagesModel", "islands", "()I"⟩, 17) := ⟨⟨by decide +kernel, by decide +kernel⟩, List.mem_of_getElem? (i := 699) (by decide +kernel), List.mem_of_getElem? (i := 847) (by decide +kernel), List.mem_of_getElem? (i := 848) (by decide +kernel)⟩
theorem lw_p37 : lw_okq (⟨"ShedStagesModel", "keeps", "()V"⟩, 17) := ⟨⟨by decide +kernel, by decide +kernel⟩, List.mem_of_getElem? (i := 699) (by decide +kernel), List.mem_of_getElem? (i := 859) (by decide +kernel), List.mem_of_getElem? (i := 860) (by decide +kernel)⟩
theorem lw_p38 : lw_okq (⟨"ShedStagesModel", "fresh", "()V"⟩, 17) := ⟨⟨by decide +kernel, by decide +kernel⟩, List.mem_of_getElem? (i := 699) (by decide +kernel), List.mem_of_getElem? (i := 863) (by decide +kernel), List.mem_of_getElem? (i := 864) (by decide +kernel)⟩
theorem lw_p39 : lw_okq (⟨"ShedStagesModel", "ticks", "()V"⟩, 17) := ⟨⟨by decide +kernel, by decide +kernel⟩, List.mem_of_getElem? (i := 699) (by decide +kernel), List.mem_of_getElem? (i := 867) (by decide +kernel), List.mem_of_getElem? (i := 868) (by decide +kernel)⟩
theorem lw_p40 : lw_okq (⟨"ShedStagesModel", "goes", "(I)V"⟩, 17) := ⟨⟨by decide +kernel, by decide +kernel⟩, List.mem_of_getElem? (i := 699) (by decide +kernel), List.mem_of_getElem? (i := 871) (by decide +kernel), List.mem_of_getElem? (i := 872) (by decide +kernel)⟩
theorem lw_p41 : lw_okq (⟨"ShedStagesModel", "aim", "(II)I"⟩, 17) := ⟨⟨by decide +kernel, by decide +kernel⟩, List.mem_of_getElem? (i := 699) (by decide +kernel), List.mem_of_getElem? (i := 875) (by decide +kernel), List.mem_of_getElem? (i := 876) (by decide +kernel)⟩
theorem lw_p42 : lw_okq (⟨"ShedStagesModel", "follow", "(II)V"⟩, 17) := ⟨⟨by decide +kernel, by decide +kernel⟩, List.mem_of_getElem? (i := 699) (by decide +kernel), List.mem_of_getElem? (i := 879) (by decide +kernel), List.mem_of_getElem? (i := 880) (by decide +kernel)⟩
theorem lw_p43 : lw_okq (⟨"ShedStagesModel", "plants", "(II)I"⟩, 17) := ⟨⟨by decide +kernel, by decide +kernel⟩, List.mem_of_getElem? (i := 699) (by decide +kernel), List.mem_of_getElem? (i := 883) (by decide +kernel), List.mem_of_getElem? (i := 884) (by decide +kernel)⟩
theorem lw_p44 : lw_okq (⟨"ShedStagesModel", "goesDark", "(I)V"⟩, 17) := ⟨⟨by decide +kernel, by decide +kernel⟩, List.mem_of_getElem? (i := 699) (by decide +kernel), List.mem_of_getElem? (i := 887) (by decide +kernel), List.mem_of_getElem? (i := 888) (by decide +kernel)⟩
theorem lw_p45 : lw_okq (⟨"ShedStagesModel", "frequency", "(II)V"⟩, 17) := ⟨⟨by decide +kernel, by decide +kernel⟩, List.mem_of_getElem? (i := 699) (by decide +kernel), List.mem_of_getElem? (i := 891) (by decide +kernel), List.mem_of_getElem? (i := 892) (by decide +kernel)⟩
theorem lw_p46 : lw_okq (⟨"ShedStagesModel", "dropAll", "(II)Z"⟩, 17) := ⟨⟨by decide +kernel, by decide +kernel⟩, List.mem_of_getElem? (i := 699) (by decide +kernel), List.mem_of_getElem? (i := 895) (by decide +kernel), List.mem_of_getElem? (i := 896) (by decide +kernel)⟩
theorem lw_p47 : lw_okq (⟨"ShedStagesModel", "drop", "(I)V"⟩, 17) := ⟨⟨by decide +kernel, by decide +kernel⟩, List.mem_of_getElem? (i := 699) (by decide +kernel), List.mem_of_getElem? (i := 899) (by decide +kernel), List.mem_of_getElem? (i := 900) (by decide +kernel)⟩
def lw_privs_3 : List (MethodName × Nat) := [(⟨"ShedStagesModel", "readsPlant", "(I)Z"⟩, 17), (⟨"ShedStagesModel", "readsFeeder", "(I)Z"⟩, 17), (⟨"ShedStagesModel", "readsStage", "(I)Z"⟩, 17), (⟨"ShedStagesModel", "readsBack", "(I)Z"⟩, 17), (⟨"ShedStagesModel", "islands", "()I"⟩, 17), (⟨"ShedStagesModel", "keeps", "()V"⟩, 17), (⟨"ShedStagesModel", "fresh", "()V"⟩, 17), (⟨"ShedStagesModel", "ticks", "()V"⟩, 17), (⟨"ShedStagesModel", "goes", "(I)V"⟩, 17), (⟨"ShedStagesModel", "aim", "(II)I"⟩, 17), (⟨"ShedStagesModel", "follow", "(II)V"⟩, 17), (⟨"ShedStagesModel", "plants", "(II)I"⟩, 17), (⟨"ShedStagesModel", "goesDark", "(I)V"⟩, 17), (⟨"ShedStagesModel", "frequency", "(II)V"⟩, 17), (⟨"ShedStagesModel", "dropAll", "(II)Z"⟩, 17), (⟨"ShedStagesModel", "drop", "(I)V"⟩, 17)]
theorem lw_r3 : ∀ q ∈ lw_privs_3, lw_okq q := List.forall_mem_cons.mpr ⟨lw_p32, List.forall_mem_cons.mpr ⟨lw_p33, List.forall_mem_cons.mpr ⟨lw_p34, List.forall_mem_cons.mpr ⟨lw_p35, List.forall_mem_cons.mpr ⟨lw_p36, List.forall_mem_cons.mpr ⟨lw_p37, List.forall_mem_cons.mpr ⟨lw_p38, List.forall_mem_cons.mpr ⟨lw_p39, List.forall_mem_cons.mpr ⟨lw_p40, List.forall_mem_cons.mpr ⟨lw_p41, List.forall_mem_cons.mpr ⟨lw_p42, List.forall_mem_cons.mpr ⟨lw_p43, List.forall_mem_cons.mpr ⟨lw_p44, List.forall_mem_cons.mpr ⟨lw_p45, List.forall_mem_cons.mpr ⟨lw_p46, List.forall_mem_cons.mpr ⟨lw_p47, fun _ h => absurd h List.not_mem_nil⟩⟩⟩⟩⟩⟩⟩⟩⟩⟩⟩⟩⟩⟩⟩⟩
theorem lw_p48 : lw_okq (⟨"ShedStagesModel", "counts", "(III)V"⟩, 17) := ⟨⟨by decide +kernel, by decide +kernel⟩, List.mem_of_getElem? (i := 699) (by decide +kernel), List.mem_of_getElem? (i := 903) (by decide +kernel), List.mem_of_getElem? (i := 904) (by decide +kernel)⟩
theorem lw_p49 : lw_okq (⟨"ShedStagesModel", "fitting", "(I)I"⟩, 17) := ⟨⟨by decide +kernel, by decide +kernel⟩, List.mem_of_getElem? (i := 699) (by decide +kernel), List.mem_of_getElem? (i := 907) (by decide +kernel), List.mem_of_getElem? (i := 908) (by decide +kernel)⟩
theorem lw_p50 : lw_okq (⟨"ShedStagesModel", "on", "(I)V"⟩, 17) := ⟨⟨by decide +kernel, by decide +kernel⟩, List.mem_of_getElem? (i := 699) (by decide +kernel), List.mem_of_getElem? (i := 911) (by decide +kernel), List.mem_of_getElem? (i := 912) (by decide +kernel)⟩
theorem lw_p51 : lw_okq (⟨"ShedStagesModel", "canClose", "(II)Z"⟩, 17) := ⟨⟨by decide +kernel, by decide +kernel⟩, List.mem_of_getElem? (i := 699) (by decide +kernel), List.mem_of_getElem? (i := 919) (by decide +kernel), List.mem_of_getElem? (i := 920) (by decide +kernel)⟩
theorem lw_p52 : lw_okq (⟨"ShedStagesModel", "joins", "(II)V"⟩, 17) := ⟨⟨by decide +kernel, by decide +kernel⟩, List.mem_of_getElem? (i := 699) (by decide +kernel), List.mem_of_getElem? (i := 923) (by decide +kernel), List.mem_of_getElem? (i := 924) (by decide +kernel)⟩
theorem lw_p53 : lw_okq (⟨"ShedStagesModel", "bothF", "(IIII)I"⟩, 17) := ⟨⟨by decide +kernel, by decide +kernel⟩, List.mem_of_getElem? (i := 699) (by decide +kernel), List.mem_of_getElem? (i := 927) (by decide +kernel), List.mem_of_getElem? (i := 928) (by decide +kernel)⟩
theorem lw_p54 : lw_okq (⟨"ShedStagesModel", "isBus", "(I)Z"⟩, 17) := ⟨⟨by decide +kernel, by decide +kernel⟩, List.mem_of_getElem? (i := 699) (by decide +kernel), List.mem_of_getElem? (i := 939) (by decide +kernel), List.mem_of_getElem? (i := 940) (by decide +kernel)⟩
theorem lw_p55 : lw_okq (⟨"ShedStagesModel", "busOf", "(I)I"⟩, 17) := ⟨⟨by decide +kernel, by decide +kernel⟩, List.mem_of_getElem? (i := 699) (by decide +kernel), List.mem_of_getElem? (i := 951) (by decide +kernel), List.mem_of_getElem? (i := 952) (by decide +kernel)⟩
theorem lw_p56 : lw_okq (⟨"ShedStagesModel", "feedersOf", "(I)I"⟩, 17) := ⟨⟨by decide +kernel, by decide +kernel⟩, List.mem_of_getElem? (i := 699) (by decide +kernel), List.mem_of_getElem? (i := 955) (by decide +kernel), List.mem_of_getElem? (i := 956) (by decide +kernel)⟩
theorem lw_p57 : lw_okq (⟨"ShedStagesModel", "bits", "(I)I"⟩, 17) := ⟨⟨by decide +kernel, by decide +kernel⟩, List.mem_of_getElem? (i := 699) (by decide +kernel), List.mem_of_getElem? (i := 959) (by decide +kernel), List.mem_of_getElem? (i := 960) (by decide +kernel)⟩
theorem lw_p58 : lw_okq (⟨"ShedStagesModel", "saves", "()V"⟩, 17) := ⟨⟨by decide +kernel, by decide +kernel⟩, List.mem_of_getElem? (i := 699) (by decide +kernel), List.mem_of_getElem? (i := 991) (by decide +kernel), List.mem_of_getElem? (i := 992) (by decide +kernel)⟩
theorem lw_p59 : lw_okq (⟨"ShedStagesModel", "restores", "()V"⟩, 17) := ⟨⟨by decide +kernel, by decide +kernel⟩, List.mem_of_getElem? (i := 699) (by decide +kernel), List.mem_of_getElem? (i := 995) (by decide +kernel), List.mem_of_getElem? (i := 996) (by decide +kernel)⟩
theorem lw_p60 : lw_okq (⟨"ShedStagesModel", "loadOf", "(I)I"⟩, 17) := ⟨⟨by decide +kernel, by decide +kernel⟩, List.mem_of_getElem? (i := 699) (by decide +kernel), List.mem_of_getElem? (i := 1003) (by decide +kernel), List.mem_of_getElem? (i := 1004) (by decide +kernel)⟩
theorem lw_p61 : lw_okq (⟨"ShedStagesModel", "isBorne", "(III)Z"⟩, 17) := ⟨⟨by decide +kernel, by decide +kernel⟩, List.mem_of_getElem? (i := 699) (by decide +kernel), List.mem_of_getElem? (i := 1007) (by decide +kernel), List.mem_of_getElem? (i := 1008) (by decide +kernel)⟩
def lw_privs_4 : List (MethodName × Nat) := [(⟨"ShedStagesModel", "counts", "(III)V"⟩, 17), (⟨"ShedStagesModel", "fitting", "(I)I"⟩, 17), (⟨"ShedStagesModel", "on", "(I)V"⟩, 17), (⟨"ShedStagesModel", "canClose", "(II)Z"⟩, 17), (⟨"ShedStagesModel", "joins", "(II)V"⟩, 17), (⟨"ShedStagesModel", "bothF", "(IIII)I"⟩, 17), (⟨"ShedStagesModel", "isBus", "(I)Z"⟩, 17), (⟨"ShedStagesModel", "busOf", "(I)I"⟩, 17), (⟨"ShedStagesModel", "feedersOf", "(I)I"⟩, 17), (⟨"ShedStagesModel", "bits", "(I)I"⟩, 17), (⟨"ShedStagesModel", "saves", "()V"⟩, 17), (⟨"ShedStagesModel", "restores", "()V"⟩, 17), (⟨"ShedStagesModel", "loadOf", "(I)I"⟩, 17), (⟨"ShedStagesModel", "isBorne", "(III)Z"⟩, 17)]
theorem lw_r4 : ∀ q ∈ lw_privs_4, lw_okq q := List.forall_mem_cons.mpr ⟨lw_p48, List.forall_mem_cons.mpr ⟨lw_p49, List.forall_mem_cons.mpr ⟨lw_p50, List.forall_mem_cons.mpr ⟨lw_p51, List.forall_mem_cons.mpr ⟨lw_p52, List.forall_mem_cons.mpr ⟨lw_p53, List.forall_mem_cons.mpr ⟨lw_p54, List.forall_mem_cons.mpr ⟨lw_p55, List.forall_mem_cons.mpr ⟨lw_p56, List.forall_mem_cons.mpr ⟨lw_p57, List.forall_mem_cons.mpr ⟨lw_p58, List.forall_mem_cons.mpr ⟨lw_p59, List.forall_mem_cons.mpr ⟨lw_p60, List.forall_mem_cons.mpr ⟨lw_p61, fun _ h => absurd h List.not_mem_nil⟩⟩⟩⟩⟩⟩⟩⟩⟩⟩⟩⟩⟩⟩
def lw_privs : List (MethodName × Nat) := lw_privs_1 ++ (lw_privs_2 ++ (lw_privs_3 ++ (lw_privs_4)))
def lw_tbl : List Cond := k2_sels lw_privs ++ tables_1
theorem lw_privs_ok : ∀ q ∈ lw_privs, lw_okq q := by
  show ∀ q ∈ lw_privs_1 ++ (lw_privs_2 ++ (lw_privs_3 ++ (lw_privs_4))), lw_okq q
  exact List.forall_mem_append.mpr ⟨lw_r1, List.forall_mem_append.mpr ⟨lw_r2, List.forall_mem_append.mpr ⟨lw_r3, lw_r4⟩⟩⟩
end
section
def RX0 : String := "ShedStages$Course"
def TX0 : u_T := fun k => match k with
  | 0 => ("ShedStages$Course", "plan", "LShedStages$Plan;", true)
  | 1 => ("ShedStages$Course", "grid", "LShedStages$Grid;", true)
  | 2 => ("ShedStages$Course", "drops", "I", false)
  | 3 => ("ShedStages$Course", "dropLoad", "I", false)
  | _ => ("ShedStages$Course", "backs", "I", false)
def tyX0 : Nat → FieldType := fun k => match k with
  | 0 => .object "ShedStages$Plan"
  | 1 => .object "ShedStages$Grid"
  | 2 => .int
  | 3 => .int
  | _ => .int
abbrev wsX00 : List Cond := u_ws RX0 TX0 5
theorem nmX0 : ∀ a, a < 5 → ∀ b, b < 5 → a ≠ b → (TX0 a).2.1 ≠ (TX0 b).2.1 := by decide +kernel
theorem tyX0_ok : ∀ k, k < 5 → parseFieldDescriptor (TX0 k).2.2.1 = some (tyX0 k) := by decide +kernel
abbrev cX0_init : ByteArray := prog_2_method_1_code
def yX0_init : MethodName := ⟨RX0, "<init>", "(LShedStages$Plan;LShedStages$Grid;)V"⟩
abbrev cX0_forget : ByteArray := prog_2_method_2_code
def yX0_forget : MethodName := ⟨RX0, "forget", "()V"⟩
abbrev cX0_pass : ByteArray := prog_2_method_3_code
def yX0_pass : MethodName := ⟨RX0, "pass", "()V"⟩
abbrev cX0_passIsland : ByteArray := prog_2_method_4_code
def yX0_passIsland : MethodName := ⟨RX0, "passIsland", "(I)V"⟩
abbrev cX0_follow : ByteArray := prog_2_method_5_code
def yX0_follow : MethodName := ⟨RX0, "follow", "(I)V"⟩
abbrev cX0_darken : ByteArray := prog_2_method_6_code
def yX0_darken : MethodName := ⟨RX0, "darken", "(I)V"⟩
abbrev cX0_dropSet : ByteArray := prog_2_method_7_code
def yX0_dropSet : MethodName := ⟨RX0, "dropSet", "(I)V"⟩
abbrev cX0_passStage : ByteArray := prog_2_method_8_code
def yX0_passStage : MethodName := ⟨RX0, "passStage", "(II)V"⟩
abbrev cX0_onOfStage : ByteArray := prog_2_method_9_code
def yX0_onOfStage : MethodName := ⟨RX0, "onOfStage", "(II)I"⟩
abbrev cX0_passBack : ByteArray := prog_2_method_10_code
def yX0_passBack : MethodName := ⟨RX0, "passBack", "(I)V"⟩
abbrev cX0_nextBack : ByteArray := prog_2_method_11_code
def yX0_nextBack : MethodName := ⟨RX0, "nextBack", "(I)I"⟩
def RX1 : String := "ShedStages$Grid"
def TX1 : u_T := fun k => match k with
  | 0 => ("ShedStages$Grid", "plan", "LShedStages$Plan;", true)
  | 1 => ("ShedStages$Grid", "closedSet", "I", false)
  | 2 => ("ShedStages$Grid", "roots", "[I", true)
  | 3 => ("ShedStages$Grid", "rootsBefore", "[I", true)
  | 4 => ("ShedStages$Grid", "frequency", "[I", true)
  | 5 => ("ShedStages$Grid", "counts", "[I", true)
  | 6 => ("ShedStages$Grid", "gives", "[I", true)
  | 7 => ("ShedStages$Grid", "onSet", "I", false)
  | 8 => ("ShedStages$Grid", "off", "[I", true)
  | 9 => ("ShedStages$Grid", "offMany", "I", false)
  | 10 => ("ShedStages$Grid", "marks", "[I", true)
  | _ => ("ShedStages$Grid", "ticks", "I", false)
def tyX1 : Nat → FieldType := fun k => match k with
  | 0 => .object "ShedStages$Plan"
  | 1 => .int
  | 2 => .array .int
  | 3 => .array .int
  | 4 => .array .int
  | 5 => .array .int
  | 6 => .array .int
  | 7 => .int
  | 8 => .array .int
  | 9 => .int
  | 10 => .array .int
  | _ => .int
abbrev wsX10 : List Cond := u_ws RX1 TX1 12
theorem nmX1 : ∀ a, a < 12 → ∀ b, b < 12 → a ≠ b → (TX1 a).2.1 ≠ (TX1 b).2.1 := by decide +kernel
theorem tyX1_ok : ∀ k, k < 12 → parseFieldDescriptor (TX1 k).2.2.1 = some (tyX1 k) := by decide +kernel
abbrev cX1_init : ByteArray := prog_3_method_1_code
def yX1_init : MethodName := ⟨RX1, "<init>", "(LShedStages$Plan;)V"⟩
abbrev cX1_copy : ByteArray := prog_3_method_2_code
def yX1_copy : MethodName := ⟨RX1, "copy", "(LShedStages$Grid;)V"⟩
abbrev cX1_layOut : ByteArray := prog_3_method_3_code
def yX1_layOut : MethodName := ⟨RX1, "layOut", "()V"⟩
abbrev cX1_giveLoad : ByteArray := prog_3_method_4_code
def yX1_giveLoad : MethodName := ⟨RX1, "giveLoad", "()V"⟩
abbrev cX1_findRoots : ByteArray := prog_3_method_5_code
def yX1_findRoots : MethodName := ⟨RX1, "findRoots", "()V"⟩
abbrev cX1_clearCounts : ByteArray := prog_3_method_6_code
def yX1_clearCounts : MethodName := ⟨RX1, "clearCounts", "(I)V"⟩
abbrev cX1_copyCounts : ByteArray := prog_3_method_7_code
def yX1_copyCounts : MethodName := ⟨RX1, "copyCounts", "(II)V"⟩
abbrev cX1_isDark : ByteArray := prog_3_method_8_code
def yX1_isDark : MethodName := ⟨RX1, "isDark", "(I)Z"⟩
abbrev cX1_islands : ByteArray := prog_3_method_9_code
def yX1_islands : MethodName := ⟨RX1, "islands", "()I"⟩
abbrev cX1_darkIslands : ByteArray := prog_3_method_10_code
def yX1_darkIslands : MethodName := ⟨RX1, "darkIslands", "()I"⟩
abbrev cX1_rootOf : ByteArray := prog_3_method_11_code
def yX1_rootOf : MethodName := ⟨RX1, "rootOf", "(I)I"⟩
abbrev cX1_numberOf : ByteArray := prog_3_method_12_code
def yX1_numberOf : MethodName := ⟨RX1, "numberOf", "(I)I"⟩
abbrev cX1_busBits : ByteArray := prog_3_method_13_code
def yX1_busBits : MethodName := ⟨RX1, "busBits", "(I)I"⟩
abbrev cX1_feederBits : ByteArray := prog_3_method_14_code
def yX1_feederBits : MethodName := ⟨RX1, "feederBits", "(IZ)I"⟩
abbrev cX1_loadOf : ByteArray := prog_3_method_15_code
def yX1_loadOf : MethodName := ⟨RX1, "loadOf", "(I)I"⟩
abbrev cX1_loadOfAll : ByteArray := prog_3_method_16_code
def yX1_loadOfAll : MethodName := ⟨RX1, "loadOfAll", "()I"⟩
abbrev cX1_givenOf : ByteArray := prog_3_method_17_code
def yX1_givenOf : MethodName := ⟨RX1, "givenOf", "(I)I"⟩
abbrev cX1_capOf : ByteArray := prog_3_method_18_code
def yX1_capOf : MethodName := ⟨RX1, "capOf", "(I)I"⟩
abbrev cX1_heavyOf : ByteArray := prog_3_method_19_code
def yX1_heavyOf : MethodName := ⟨RX1, "heavyOf", "(I)I"⟩
abbrev cX1_sumOfPlants : ByteArray := prog_3_method_20_code
def yX1_sumOfPlants : MethodName := ⟨RX1, "sumOfPlants", "([II)I"⟩
abbrev cX1_aimOf : ByteArray := prog_3_method_21_code
def yX1_aimOf : MethodName := ⟨RX1, "aimOf", "(I)I"⟩
abbrev cX1_drop : ByteArray := prog_3_method_22_code
def yX1_drop : MethodName := ⟨RX1, "drop", "(I)V"⟩
abbrev cX1_putOn : ByteArray := prog_3_method_23_code
def yX1_putOn : MethodName := ⟨RX1, "putOn", "(I)V"⟩
abbrev cX1_open : ByteArray := prog_3_method_24_code
def yX1_open : MethodName := ⟨RX1, "open", "(I)V"⟩
abbrev cX1_canClose : ByteArray := prog_3_method_25_code
def yX1_canClose : MethodName := ⟨RX1, "canClose", "(I)Z"⟩
abbrev cX1_close : ByteArray := prog_3_method_26_code
def yX1_close : MethodName := ⟨RX1, "close", "(I)V"⟩
abbrev cX1_join : ByteArray := prog_3_method_27_code
def yX1_join : MethodName := ⟨RX1, "join", "(II)V"⟩
abbrev cX1_joinedFrequency : ByteArray := prog_3_method_28_code
def yX1_joinedFrequency : MethodName := ⟨RX1, "joinedFrequency", "(II)I"⟩
def RX2 : String := "ShedStages$Letters"
def TX2 : u_T := fun k => match k with
  | 0 => ("ShedStages$Letters", "letters", "[I", true)
  | _ => ("ShedStages$Letters", "length", "I", false)
def tyX2 : Nat → FieldType := fun k => match k with
  | 0 => .array .int
  | _ => .int
abbrev wsX20 : List Cond := u_ws RX2 TX2 2
theorem nmX2 : ∀ a, a < 2 → ∀ b, b < 2 → a ≠ b → (TX2 a).2.1 ≠ (TX2 b).2.1 := by decide +kernel
theorem tyX2_ok : ∀ k, k < 2 → parseFieldDescriptor (TX2 k).2.2.1 = some (tyX2 k) := by decide +kernel
abbrev cX2_init : ByteArray := prog_4_method_1_code
def yX2_init : MethodName := ⟨RX2, "<init>", "()V"⟩
abbrev cX2_add : ByteArray := prog_4_method_2_code
def yX2_add : MethodName := ⟨RX2, "add", "(I)Z"⟩
abbrev cX2_clear : ByteArray := prog_4_method_3_code
def yX2_clear : MethodName := ⟨RX2, "clear", "()V"⟩
def RX3 : String := "ShedStages$Past"
def TX3 : u_T := fun k => match k with
  | 0 => ("ShedStages$Past", "kept", "[LShedStages$Grid;", true)
  | 1 => ("ShedStages$Past", "next", "I", false)
  | _ => ("ShedStages$Past", "many", "I", false)
def tyX3 : Nat → FieldType := fun k => match k with
  | 0 => .array (.object "ShedStages$Grid")
  | 1 => .int
  | _ => .int
abbrev wsX30 : List Cond := u_ws RX3 TX3 3
theorem nmX3 : ∀ a, a < 3 → ∀ b, b < 3 → a ≠ b → (TX3 a).2.1 ≠ (TX3 b).2.1 := by decide +kernel
theorem tyX3_ok : ∀ k, k < 3 → parseFieldDescriptor (TX3 k).2.2.1 = some (tyX3 k) := by decide +kernel
abbrev cX3_init : ByteArray := prog_5_method_1_code
def yX3_init : MethodName := ⟨RX3, "<init>", "(LShedStages$Plan;)V"⟩
abbrev cX3_clear : ByteArray := prog_5_method_2_code
def yX3_clear : MethodName := ⟨RX3, "clear", "()V"⟩
abbrev cX3_keep : ByteArray := prog_5_method_3_code
def yX3_keep : MethodName := ⟨RX3, "keep", "(LShedStages$Grid;)V"⟩
abbrev cX3_giveBack : ByteArray := prog_5_method_4_code
def yX3_giveBack : MethodName := ⟨RX3, "giveBack", "(LShedStages$Grid;)V"⟩
def RX4 : String := "ShedStages$Plan"
def TX4 : u_T := fun k => match k with
  | 0 => ("ShedStages$Plan", "buses", "I", false)
  | 1 => ("ShedStages$Plan", "links", "I", false)
  | 2 => ("ShedStages$Plan", "plants", "I", false)
  | 3 => ("ShedStages$Plan", "feeders", "I", false)
  | 4 => ("ShedStages$Plan", "stages", "I", false)
  | 5 => ("ShedStages$Plan", "linkFrom", "[I", true)
  | 6 => ("ShedStages$Plan", "linkTo", "[I", true)
  | 7 => ("ShedStages$Plan", "plantBus", "[I", true)
  | 8 => ("ShedStages$Plan", "cap", "[I", true)
  | 9 => ("ShedStages$Plan", "pace", "[I", true)
  | 10 => ("ShedStages$Plan", "heavy", "[I", true)
  | 11 => ("ShedStages$Plan", "feederBus", "[I", true)
  | 12 => ("ShedStages$Plan", "load", "[I", true)
  | 13 => ("ShedStages$Plan", "stage", "[I", true)
  | 14 => ("ShedStages$Plan", "marksTold", "[I", true)
  | _ => ("ShedStages$Plan", "waits", "[I", true)
def tyX4 : Nat → FieldType := fun k => match k with
  | 0 => .int
  | 1 => .int
  | 2 => .int
  | 3 => .int
  | 4 => .int
  | 5 => .array .int
  | 6 => .array .int
  | 7 => .array .int
  | 8 => .array .int
  | 9 => .array .int
  | 10 => .array .int
  | 11 => .array .int
  | 12 => .array .int
  | 13 => .array .int
  | 14 => .array .int
  | _ => .array .int
abbrev wsX40 : List Cond := u_ws RX4 TX4 16
theorem nmX4 : ∀ a, a < 16 → ∀ b, b < 16 → a ≠ b → (TX4 a).2.1 ≠ (TX4 b).2.1 := by decide +kernel
theorem tyX4_ok : ∀ k, k < 16 → parseFieldDescriptor (TX4 k).2.2.1 = some (tyX4 k) := by decide +kernel
abbrev cX4_init : ByteArray := prog_6_method_1_code
def yX4_init : MethodName := ⟨RX4, "<init>", "()V"⟩
abbrev cX4_clear : ByteArray := prog_6_method_2_code
def yX4_clear : MethodName := ⟨RX4, "clear", "()V"⟩
abbrev cX4_isBus : ByteArray := prog_6_method_3_code
def yX4_isBus : MethodName := ⟨RX4, "isBus", "(I)Z"⟩
abbrev cX4_isRow : ByteArray := prog_6_method_4_code
def yX4_isRow : MethodName := ⟨RX4, "isRow", "(I)Z"⟩
abbrev cX4_isMark : ByteArray := prog_6_method_5_code
def yX4_isMark : MethodName := ⟨RX4, "isMark", "(II)Z"⟩
abbrev cX4_isFrom : ByteArray := prog_6_method_6_code
def yX4_isFrom : MethodName := ⟨RX4, "isFrom", "(III)Z"⟩
abbrev cX4_addBuses : ByteArray := prog_6_method_7_code
def yX4_addBuses : MethodName := ⟨RX4, "addBuses", "(I)Z"⟩
abbrev cX4_addLink : ByteArray := prog_6_method_8_code
def yX4_addLink : MethodName := ⟨RX4, "addLink", "(II)Z"⟩
abbrev cX4_addPlant : ByteArray := prog_6_method_9_code
def yX4_addPlant : MethodName := ⟨RX4, "addPlant", "(IIII)Z"⟩
abbrev cX4_addFeeder : ByteArray := prog_6_method_10_code
def yX4_addFeeder : MethodName := ⟨RX4, "addFeeder", "(III)Z"⟩
abbrev cX4_addStage : ByteArray := prog_6_method_11_code
def yX4_addStage : MethodName := ⟨RX4, "addStage", "(II)Z"⟩
abbrev cX4_setBack : ByteArray := prog_6_method_12_code
def yX4_setBack : MethodName := ⟨RX4, "setBack", "(II)Z"⟩
abbrev cX4_setRow : ByteArray := prog_6_method_13_code
def yX4_setRow : MethodName := ⟨RX4, "setRow", "(III)Z"⟩
abbrev cX4_loadOfSet : ByteArray := prog_6_method_14_code
def yX4_loadOfSet : MethodName := ⟨RX4, "loadOfSet", "(I)I"⟩
def RX5 : String := "ShedStages$Reader"
def TX5 : u_T := fun k => match k with
  | _ => ("ShedStages$Reader", "numbers", "[I", true)
def tyX5 : Nat → FieldType := fun k => match k with
  | _ => .array .int
abbrev wsX50 : List Cond := u_ws RX5 TX5 1
theorem nmX5 : ∀ a, a < 1 → ∀ b, b < 1 → a ≠ b → (TX5 a).2.1 ≠ (TX5 b).2.1 := by decide +kernel
theorem tyX5_ok : ∀ k, k < 1 → parseFieldDescriptor (TX5 k).2.2.1 = some (tyX5 k) := by decide +kernel
abbrev cX5_init : ByteArray := prog_7_method_1_code
def yX5_init : MethodName := ⟨RX5, "<init>", "()V"⟩
abbrev cX5_read : ByteArray := prog_7_method_2_code
def yX5_read : MethodName := ⟨RX5, "read", "(LShedStages$Letters;LShedStages$Plan;)I"⟩
abbrev cX5_takeItem : ByteArray := prog_7_method_3_code
def yX5_takeItem : MethodName := ⟨RX5, "takeItem", "(LShedStages$Letters;IILShedStages$Plan;)Z"⟩
abbrev cX5_readNumbers : ByteArray := prog_7_method_4_code
def yX5_readNumbers : MethodName := ⟨RX5, "readNumbers", "(LShedStages$Letters;II)I"⟩
def RX6 : String := "ShedStages"
def TX6 : u_T := fun k => match k with
  | 0 => ("ShedStages", "text", "LShedStages$Letters;", true)
  | 1 => ("ShedStages", "reader", "LShedStages$Reader;", true)
  | 2 => ("ShedStages", "draft", "LShedStages$Plan;", true)
  | 3 => ("ShedStages", "plan", "LShedStages$Plan;", true)
  | 4 => ("ShedStages", "now", "LShedStages$Grid;", true)
  | 5 => ("ShedStages", "trial", "LShedStages$Grid;", true)
  | 6 => ("ShedStages", "course", "LShedStages$Course;", true)
  | 7 => ("ShedStages", "trialCourse", "LShedStages$Course;", true)
  | _ => ("ShedStages", "past", "LShedStages$Past;", true)
def tyX6 : Nat → FieldType := fun k => match k with
  | 0 => .object "ShedStages$Letters"
  | 1 => .object "ShedStages$Reader"
  | 2 => .object "ShedStages$Plan"
  | 3 => .object "ShedStages$Plan"
  | 4 => .object "ShedStages$Grid"
  | 5 => .object "ShedStages$Grid"
  | 6 => .object "ShedStages$Course"
  | 7 => .object "ShedStages$Course"
  | _ => .object "ShedStages$Past"
abbrev wsX60 : List Cond := u_ws RX6 TX6 9
theorem nmX6 : ∀ a, a < 9 → ∀ b, b < 9 → a ≠ b → (TX6 a).2.1 ≠ (TX6 b).2.1 := by decide +kernel
theorem tyX6_ok : ∀ k, k < 9 → parseFieldDescriptor (TX6 k).2.2.1 = some (tyX6 k) := by decide +kernel
abbrev cX6_init : ByteArray := prog_1_method_1_code
def yX6_init : MethodName := ⟨RX6, "<init>", "()V"⟩
abbrev cX6_write : ByteArray := prog_1_method_2_code
def yX6_write : MethodName := ⟨RX6, "write", "(I)I"⟩
abbrev cX6_wipe : ByteArray := prog_1_method_3_code
def yX6_wipe : MethodName := ⟨RX6, "wipe", "()I"⟩
abbrev cX6_fault : ByteArray := prog_1_method_4_code
def yX6_fault : MethodName := ⟨RX6, "fault", "()I"⟩
abbrev cX6_lay : ByteArray := prog_1_method_5_code
def yX6_lay : MethodName := ⟨RX6, "lay", "()I"⟩
abbrev cX6_tick : ByteArray := prog_1_method_6_code
def yX6_tick : MethodName := ⟨RX6, "tick", "(I)I"⟩
abbrev cX6_link : ByteArray := prog_1_method_7_code
def yX6_link : MethodName := ⟨RX6, "link", "(II)I"⟩
abbrev cX6_feeder : ByteArray := prog_1_method_8_code
def yX6_feeder : MethodName := ⟨RX6, "feeder", "(II)I"⟩
abbrev cX6_begin : ByteArray := prog_1_method_9_code
def yX6_begin : MethodName := ⟨RX6, "begin", "(I)I"⟩
abbrev cX6_mark : ByteArray := prog_1_method_10_code
def yX6_mark : MethodName := ⟨RX6, "mark", "(II)I"⟩
abbrev cX6_undo : ByteArray := prog_1_method_11_code
def yX6_undo : MethodName := ⟨RX6, "undo", "()I"⟩
abbrev cX6_island : ByteArray := prog_1_method_12_code
def yX6_island : MethodName := ⟨RX6, "island", "(II)I"⟩
abbrev cX6_counted : ByteArray := prog_1_method_13_code
def yX6_counted : MethodName := ⟨RX6, "counted", "(II)I"⟩
abbrev cX6_at : ByteArray := prog_1_method_14_code
def yX6_at : MethodName := ⟨RX6, "at", "(I)I"⟩
abbrev cX6_plant : ByteArray := prog_1_method_15_code
def yX6_plant : MethodName := ⟨RX6, "plant", "(I)I"⟩
abbrev cX6_isOn : ByteArray := prog_1_method_16_code
def yX6_isOn : MethodName := ⟨RX6, "isOn", "(I)I"⟩
abbrev cX6_isClosed : ByteArray := prog_1_method_17_code
def yX6_isClosed : MethodName := ⟨RX6, "isClosed", "(I)I"⟩
abbrev cX6_dropped : ByteArray := prog_1_method_18_code
def yX6_dropped : MethodName := ⟨RX6, "dropped", "(I)I"⟩
abbrev cX6_ahead : ByteArray := prog_1_method_19_code
def yX6_ahead : MethodName := ⟨RX6, "ahead", "(III)I"⟩
abbrev cX6_least : ByteArray := prog_1_method_20_code
def yX6_least : MethodName := ⟨RX6, "least", "(III)I"⟩
abbrev cX6_dark : ByteArray := prog_1_method_21_code
def yX6_dark : MethodName := ⟨RX6, "dark", "(I)I"⟩
abbrev cX6_count : ByteArray := prog_1_method_22_code
def yX6_count : MethodName := ⟨RX6, "count", "(I)I"⟩
abbrev cX6_isSwitch : ByteArray := prog_1_method_23_code
def yX6_isSwitch : MethodName := ⟨RX6, "isSwitch", "(I)Z"⟩
abbrev cX6_has : ByteArray := prog_1_method_24_code
def yX6_has : MethodName := ⟨RX6, "has", "(II)Z"⟩
abbrev cX6_leastSet : ByteArray := prog_1_method_25_code
def yX6_leastSet : MethodName := ⟨RX6, "leastSet", "(II)I"⟩
abbrev cX6_isLess : ByteArray := prog_1_method_26_code
def yX6_isLess : MethodName := ⟨RX6, "isLess", "(II)Z"⟩
abbrev cX6_holds : ByteArray := prog_1_method_27_code
def yX6_holds : MethodName := ⟨RX6, "holds", "(III)Z"⟩
def RX7 : String := "ShedStagesModel"
def TX7 : u_T := fun k => match k with
  | 0 => ("ShedStagesModel", "length", "I", false)
  | 1 => ("ShedStagesModel", "text", "[I", true)
  | 2 => ("ShedStagesModel", "many", "[I", true)
  | 3 => ("ShedStagesModel", "link", "[I", true)
  | 4 => ("ShedStagesModel", "plant", "[I", true)
  | 5 => ("ShedStagesModel", "feeder", "[I", true)
  | 6 => ("ShedStagesModel", "stage", "[I", true)
  | 7 => ("ShedStagesModel", "row", "[I", true)
  | 8 => ("ShedStagesModel", "was", "[I", true)
  | 9 => ("ShedStagesModel", "aside", "[I", true)
  | 10 => ("ShedStagesModel", "changes", "I", false)
  | 11 => ("ShedStagesModel", "value", "I", false)
  | 12 => ("ShedStagesModel", "ends", "I", false)
  | 13 => ("ShedStagesModel", "drops", "I", false)
  | 14 => ("ShedStagesModel", "dropLoad", "I", false)
  | 15 => ("ShedStagesModel", "backs", "I", false)
  | _ => ("ShedStagesModel", "dropSet", "I", false)
def tyX7 : Nat → FieldType := fun k => match k with
  | 0 => .int
  | 1 => .array .int
  | 2 => .array .int
  | 3 => .array .int
  | 4 => .array .int
  | 5 => .array .int
  | 6 => .array .int
  | 7 => .array .int
  | 8 => .array .int
  | 9 => .array .int
  | 10 => .int
  | 11 => .int
  | 12 => .int
  | 13 => .int
  | 14 => .int
  | 15 => .int
  | _ => .int
abbrev wsX70 : List Cond := u_ws RX7 TX7 17
theorem nmX7 : ∀ a, a < 17 → ∀ b, b < 17 → a ≠ b → (TX7 a).2.1 ≠ (TX7 b).2.1 := by decide +kernel
theorem tyX7_ok : ∀ k, k < 17 → parseFieldDescriptor (TX7 k).2.2.1 = some (tyX7 k) := by decide +kernel
abbrev cX7_init : ByteArray := prog_9_method_1_code
def yX7_init : MethodName := ⟨RX7, "<init>", "()V"⟩
abbrev cX7_isIn : ByteArray := prog_9_method_2_code
def yX7_isIn : MethodName := ⟨RX7, "isIn", "(III)Z"⟩
abbrev cX7_has : ByteArray := prog_9_method_3_code
def yX7_has : MethodName := ⟨RX7, "has", "(II)Z"⟩
abbrev cX7_clears : ByteArray := prog_9_method_4_code
def yX7_clears : MethodName := ⟨RX7, "clears", "()V"⟩
abbrev cX7_adds : ByteArray := prog_9_method_5_code
def yX7_adds : MethodName := ⟨RX7, "adds", "(IIIII)V"⟩
abbrev cX7_takes : ByteArray := prog_9_method_6_code
def yX7_takes : MethodName := ⟨RX7, "takes", "()V"⟩
abbrev cX7_begins : ByteArray := prog_9_method_7_code
def yX7_begins : MethodName := ⟨RX7, "begins", "(I)V"⟩
abbrev cX7_letterAt : ByteArray := prog_9_method_8_code
def yX7_letterAt : MethodName := ⟨RX7, "letterAt", "(I)I"⟩
abbrev cX7_number : ByteArray := prog_9_method_9_code
def yX7_number : MethodName := ⟨RX7, "number", "(III)Z"⟩
abbrev cX7_more : ByteArray := prog_9_method_10_code
def yX7_more : MethodName := ⟨RX7, "more", "(II)Z"⟩
abbrev cX7_readsLink : ByteArray := prog_9_method_11_code
def yX7_readsLink : MethodName := ⟨RX7, "readsLink", "(I)Z"⟩
abbrev cX7_readsPlant : ByteArray := prog_9_method_12_code
def yX7_readsPlant : MethodName := ⟨RX7, "readsPlant", "(I)Z"⟩
abbrev cX7_readsFeeder : ByteArray := prog_9_method_13_code
def yX7_readsFeeder : MethodName := ⟨RX7, "readsFeeder", "(I)Z"⟩
abbrev cX7_readsStage : ByteArray := prog_9_method_14_code
def yX7_readsStage : MethodName := ⟨RX7, "readsStage", "(I)Z"⟩
abbrev cX7_readsBack : ByteArray := prog_9_method_15_code
def yX7_readsBack : MethodName := ⟨RX7, "readsBack", "(I)Z"⟩
abbrev cX7_readsItem : ByteArray := prog_9_method_16_code
def yX7_readsItem : MethodName := ⟨RX7, "readsItem", "(IIZ)Z"⟩
abbrev cX7_reads : ByteArray := prog_9_method_17_code
def yX7_reads : MethodName := ⟨RX7, "reads", "()I"⟩
abbrev cX7_write : ByteArray := prog_9_method_18_code
def yX7_write : MethodName := ⟨RX7, "write", "(I)I"⟩
abbrev cX7_wipe : ByteArray := prog_9_method_19_code
def yX7_wipe : MethodName := ⟨RX7, "wipe", "()I"⟩
abbrev cX7_fault : ByteArray := prog_9_method_20_code
def yX7_fault : MethodName := ⟨RX7, "fault", "()I"⟩
abbrev cX7_lay : ByteArray := prog_9_method_21_code
def yX7_lay : MethodName := ⟨RX7, "lay", "()I"⟩
abbrev cX7_busesOf : ByteArray := prog_9_method_22_code
def yX7_busesOf : MethodName := ⟨RX7, "busesOf", "(I)I"⟩
abbrev cX7_isLowest : ByteArray := prog_9_method_23_code
def yX7_isLowest : MethodName := ⟨RX7, "isLowest", "(I)Z"⟩
abbrev cX7_islands : ByteArray := prog_9_method_24_code
def yX7_islands : MethodName := ⟨RX7, "islands", "()I"⟩
abbrev cX7_busOf : ByteArray := prog_9_method_25_code
def yX7_busOf : MethodName := ⟨RX7, "busOf", "(I)I"⟩
abbrev cX7_load : ByteArray := prog_9_method_26_code
def yX7_load : MethodName := ⟨RX7, "load", "(I)I"⟩
abbrev cX7_plants : ByteArray := prog_9_method_27_code
def yX7_plants : MethodName := ⟨RX7, "plants", "(II)I"⟩
abbrev cX7_aim : ByteArray := prog_9_method_28_code
def yX7_aim : MethodName := ⟨RX7, "aim", "(II)I"⟩
abbrev cX7_frequency : ByteArray := prog_9_method_29_code
def yX7_frequency : MethodName := ⟨RX7, "frequency", "(II)V"⟩
abbrev cX7_counts : ByteArray := prog_9_method_30_code
def yX7_counts : MethodName := ⟨RX7, "counts", "(III)V"⟩
abbrev cX7_drop : ByteArray := prog_9_method_31_code
def yX7_drop : MethodName := ⟨RX7, "drop", "(I)V"⟩
abbrev cX7_on : ByteArray := prog_9_method_32_code
def yX7_on : MethodName := ⟨RX7, "on", "(I)V"⟩
abbrev cX7_dropAll : ByteArray := prog_9_method_33_code
def yX7_dropAll : MethodName := ⟨RX7, "dropAll", "(II)Z"⟩
abbrev cX7_follow : ByteArray := prog_9_method_34_code
def yX7_follow : MethodName := ⟨RX7, "follow", "(II)V"⟩
abbrev cX7_goesDark : ByteArray := prog_9_method_35_code
def yX7_goesDark : MethodName := ⟨RX7, "goesDark", "(I)V"⟩
abbrev cX7_fitting : ByteArray := prog_9_method_36_code
def yX7_fitting : MethodName := ⟨RX7, "fitting", "(I)I"⟩
abbrev cX7_goes : ByteArray := prog_9_method_37_code
def yX7_goes : MethodName := ⟨RX7, "goes", "(I)V"⟩
abbrev cX7_ticks : ByteArray := prog_9_method_38_code
def yX7_ticks : MethodName := ⟨RX7, "ticks", "()V"⟩
abbrev cX7_fresh : ByteArray := prog_9_method_39_code
def yX7_fresh : MethodName := ⟨RX7, "fresh", "()V"⟩
abbrev cX7_keeps : ByteArray := prog_9_method_40_code
def yX7_keeps : MethodName := ⟨RX7, "keeps", "()V"⟩
abbrev cX7_undo : ByteArray := prog_9_method_41_code
def yX7_undo : MethodName := ⟨RX7, "undo", "()I"⟩
abbrev cX7_tick : ByteArray := prog_9_method_42_code
def yX7_tick : MethodName := ⟨RX7, "tick", "(I)I"⟩
abbrev cX7_canClose : ByteArray := prog_9_method_43_code
def yX7_canClose : MethodName := ⟨RX7, "canClose", "(II)Z"⟩
abbrev cX7_bothF : ByteArray := prog_9_method_44_code
def yX7_bothF : MethodName := ⟨RX7, "bothF", "(IIII)I"⟩
abbrev cX7_joins : ByteArray := prog_9_method_45_code
def yX7_joins : MethodName := ⟨RX7, "joins", "(II)V"⟩
abbrev cX7_link : ByteArray := prog_9_method_46_code
def yX7_link : MethodName := ⟨RX7, "link", "(II)I"⟩
abbrev cX7_feeder : ByteArray := prog_9_method_47_code
def yX7_feeder : MethodName := ⟨RX7, "feeder", "(II)I"⟩
abbrev cX7_isBus : ByteArray := prog_9_method_48_code
def yX7_isBus : MethodName := ⟨RX7, "isBus", "(I)Z"⟩
abbrev cX7_begin : ByteArray := prog_9_method_49_code
def yX7_begin : MethodName := ⟨RX7, "begin", "(I)I"⟩
abbrev cX7_mark : ByteArray := prog_9_method_50_code
def yX7_mark : MethodName := ⟨RX7, "mark", "(II)I"⟩
abbrev cX7_bits : ByteArray := prog_9_method_51_code
def yX7_bits : MethodName := ⟨RX7, "bits", "(I)I"⟩
abbrev cX7_feedersOf : ByteArray := prog_9_method_52_code
def yX7_feedersOf : MethodName := ⟨RX7, "feedersOf", "(I)I"⟩
abbrev cX7_island : ByteArray := prog_9_method_53_code
def yX7_island : MethodName := ⟨RX7, "island", "(II)I"⟩
abbrev cX7_counted : ByteArray := prog_9_method_54_code
def yX7_counted : MethodName := ⟨RX7, "counted", "(II)I"⟩
abbrev cX7_at : ByteArray := prog_9_method_55_code
def yX7_at : MethodName := ⟨RX7, "at", "(I)I"⟩
abbrev cX7_plant : ByteArray := prog_9_method_56_code
def yX7_plant : MethodName := ⟨RX7, "plant", "(I)I"⟩
abbrev cX7_isOn : ByteArray := prog_9_method_57_code
def yX7_isOn : MethodName := ⟨RX7, "isOn", "(I)I"⟩
abbrev cX7_isClosed : ByteArray := prog_9_method_58_code
def yX7_isClosed : MethodName := ⟨RX7, "isClosed", "(I)I"⟩
abbrev cX7_dropped : ByteArray := prog_9_method_59_code
def yX7_dropped : MethodName := ⟨RX7, "dropped", "(I)I"⟩
abbrev cX7_saves : ByteArray := prog_9_method_60_code
def yX7_saves : MethodName := ⟨RX7, "saves", "()V"⟩
abbrev cX7_restores : ByteArray := prog_9_method_61_code
def yX7_restores : MethodName := ⟨RX7, "restores", "()V"⟩
abbrev cX7_ahead : ByteArray := prog_9_method_62_code
def yX7_ahead : MethodName := ⟨RX7, "ahead", "(III)I"⟩
abbrev cX7_isBorne : ByteArray := prog_9_method_63_code
def yX7_isBorne : MethodName := ⟨RX7, "isBorne", "(III)Z"⟩
abbrev cX7_loadOf : ByteArray := prog_9_method_64_code
def yX7_loadOf : MethodName := ⟨RX7, "loadOf", "(I)I"⟩
abbrev cX7_least : ByteArray := prog_9_method_65_code
def yX7_least : MethodName := ⟨RX7, "least", "(III)I"⟩
abbrev cX7_dark : ByteArray := prog_9_method_66_code
def yX7_dark : MethodName := ⟨RX7, "dark", "(I)I"⟩
abbrev cX7_count : ByteArray := prog_9_method_67_code
def yX7_count : MethodName := ⟨RX7, "count", "(I)I"⟩
def RJ6 : String := "java/lang/Integer"
def TJ6 : u_T := fun k => match k with
  | _ => ("", "", "", false)
def tyJ6 : Nat → FieldType := fun k => match k with
  | _ => .int
theorem nmJ6 : ∀ a, a < 0 → ∀ b, b < 0 → a ≠ b → (TJ6 a).2.1 ≠ (TJ6 b).2.1 := by decide +kernel
theorem tyJ6_ok : ∀ k, k < 0 → parseFieldDescriptor (TJ6 k).2.2.1 = some (tyJ6 k) := by decide +kernel
abbrev cJ6_compare_7cf53 : ByteArray := prog_10_method_40_code
def yJ6_compare_7cf53 : MethodName := ⟨RJ6, "compare", "(II)I"⟩
abbrev cJ6_bitCount_0f7a4 : ByteArray := prog_10_method_49_code
def yJ6_bitCount_0f7a4 : MethodName := ⟨RJ6, "bitCount", "(I)I"⟩
def RJ9 : String := "java/lang/Math"
def TJ9 : u_T := fun k => match k with
  | _ => ("", "", "", false)
def tyJ9 : Nat → FieldType := fun k => match k with
  | _ => .int
theorem nmJ9 : ∀ a, a < 0 → ∀ b, b < 0 → a ≠ b → (TJ9 a).2.1 ≠ (TJ9 b).2.1 := by decide +kernel
theorem tyJ9_ok : ∀ k, k < 0 → parseFieldDescriptor (TJ9 k).2.2.1 = some (tyJ9 k) := by decide +kernel
abbrev cJ9_abs_0f7a4 : ByteArray := prog_11_method_59_code
def yJ9_abs_0f7a4 : MethodName := ⟨RJ9, "abs", "(I)I"⟩
abbrev cJ9_max_7cf53 : ByteArray := prog_11_method_65_code
def yJ9_max_7cf53 : MethodName := ⟨RJ9, "max", "(II)I"⟩
abbrev cJ9_min_7cf53 : ByteArray := prog_11_method_69_code
def yJ9_min_7cf53 : MethodName := ⟨RJ9, "min", "(II)I"⟩
def RJ0 : String := "java/lang/String"
def TJ0 : u_T := fun k => match k with
  | _ => ("", "", "", false)
def tyJ0 : Nat → FieldType := fun k => match k with
  | _ => .int
theorem nmJ0 : ∀ a, a < 0 → ∀ b, b < 0 → a ≠ b → (TJ0 a).2.1 ≠ (TJ0 b).2.1 := by decide +kernel
theorem tyJ0_ok : ∀ k, k < 0 → parseFieldDescriptor (TJ0 k).2.2.1 = some (tyJ0 k) := by decide +kernel
abbrev cJ0_length_8abf5 : ByteArray := prog_12_method_54_code
def yJ0_length_8abf5 : MethodName := ⟨RJ0, "length", "()I"⟩
abbrev cJ0_charAt_5068e : ByteArray := prog_12_method_56_code
def yJ0_charAt_5068e : MethodName := ⟨RJ0, "charAt", "(I)C"⟩
abbrev cJ0_coder_7d493 : ByteArray := prog_12_method_152_code
def yJ0_coder_7d493 : MethodName := ⟨RJ0, "coder", "()B"⟩
abbrev cJ0_isLatin1_aae02 : ByteArray := prog_12_method_154_code
def yJ0_isLatin1_aae02 : MethodName := ⟨RJ0, "isLatin1", "()Z"⟩
abbrev cJ0_checkIndex_df160 : ByteArray := prog_12_method_155_code
def yJ0_checkIndex_df160 : MethodName := ⟨RJ0, "checkIndex", "(II)V"⟩
def RJ1 : String := "java/lang/StringLatin1"
def TJ1 : u_T := fun k => match k with
  | _ => ("", "", "", false)
def tyJ1 : Nat → FieldType := fun k => match k with
  | _ => .int
theorem nmJ1 : ∀ a, a < 0 → ∀ b, b < 0 → a ≠ b → (TJ1 a).2.1 ≠ (TJ1 b).2.1 := by decide +kernel
theorem tyJ1_ok : ∀ k, k < 0 → parseFieldDescriptor (TJ1 k).2.2.1 = some (tyJ1 k) := by decide +kernel
abbrev cJ1_charAt_3b067 : ByteArray := prog_13_method_2_code
def yJ1_charAt_3b067 : MethodName := ⟨RJ1, "charAt", "([BI)C"⟩
def RJ2 : String := "java/lang/StringUTF16"
def TJ2 : u_T := fun k => match k with
  | _ => ("", "", "", false)
def tyJ2 : Nat → FieldType := fun k => match k with
  | _ => .int
theorem nmJ2 : ∀ a, a < 0 → ∀ b, b < 0 → a ≠ b → (TJ2 a).2.1 ≠ (TJ2 b).2.1 := by decide +kernel
theorem tyJ2_ok : ∀ k, k < 0 → parseFieldDescriptor (TJ2 k).2.2.1 = some (tyJ2 k) := by decide +kernel
abbrev cJ2_getChar_3b067 : ByteArray := prog_14_method_5_code
def yJ2_getChar_3b067 : MethodName := ⟨RJ2, "getChar", "([BI)C"⟩
abbrev cJ2_length_9d52b : ByteArray := prog_14_method_6_code
def yJ2_length_9d52b : MethodName := ⟨RJ2, "length", "([B)I"⟩
abbrev cJ2_charAt_3b067 : ByteArray := prog_14_method_83_code
def yJ2_charAt_3b067 : MethodName := ⟨RJ2, "charAt", "([BI)C"⟩
abbrev cJ2_checkIndex_2214a : ByteArray := prog_14_method_91_code
def yJ2_checkIndex_2214a : MethodName := ⟨RJ2, "checkIndex", "(I[B)V"⟩
def RJ10 : String := "java/lang/System"
def TJ10 : u_T := fun k => match k with
  | _ => ("", "", "", false)
def tyJ10 : Nat → FieldType := fun k => match k with
  | _ => .int
theorem nmJ10 : ∀ a, a < 0 → ∀ b, b < 0 → a ≠ b → (TJ10 a).2.1 ≠ (TJ10 b).2.1 := by decide +kernel
theorem tyJ10_ok : ∀ k, k < 0 → parseFieldDescriptor (TJ10 k).2.2.1 = some (tyJ10 k) := by decide +kernel
def RJ3 : String := "jdk/internal/util/Preconditions"
def TJ3 : u_T := fun k => match k with
  | _ => ("", "", "", false)
def tyJ3 : Nat → FieldType := fun k => match k with
  | _ => .int
theorem nmJ3 : ∀ a, a < 0 → ∀ b, b < 0 → a ≠ b → (TJ3 a).2.1 ≠ (TJ3 b).2.1 := by decide +kernel
theorem tyJ3_ok : ∀ k, k < 0 → parseFieldDescriptor (TJ3 k).2.2.1 = some (tyJ3 k) := by decide +kernel
abbrev cJ3_checkIndex_8e157 : ByteArray := prog_16_method_11_code
def yJ3_checkIndex_8e157 : MethodName := ⟨RJ3, "checkIndex", "(IILjava/util/function/BiFunction;)I"⟩
def RL : String := "ShedStagesLaw"
abbrev cL_law : ByteArray := code
def yL_law : MethodName := ⟨RL, "law", "([I)Z"⟩
abbrev vwCl : List vw_C := [(RX0, TX0, 5), (RX1, TX1, 12), (RX2, TX2, 2), (RX3, TX3, 3), (RX4, TX4, 16), (RX5, TX5, 1), (RX6, TX6, 9), (RX7, TX7, 17)]
end
section
/-! THE CORE: a state of the class or of the reference after its making is a fixed list of cells ('sh': what each is) and the ints in them ('h'); a method's meaning is an Option of its answer and of the ints behind it; 'zG' says that the machine, at a frame, comes to what such an Option holds. -/
def zWd : List Cond := lw_tbl.filter goodWord
theorem zmem {w : Cond} (i : Nat) (h : lw_tbl[i]? = some w) (g : goodWord w = true) : w ∈ zWd := List.mem_filter.mpr ⟨List.mem_of_getElem? h, g⟩
theorem z_good {a b : Cond} (hb : b ∈ zWd) : GoodIn (a :: zWd) (b :: zWd) := by
  have k : ∀ w ∈ zWd, (w.onTables && w.keeps) = true ∨ ∃ ty, w = .arrayClass ty := fun w h => good_of_word (List.mem_filter.mp h).2
  intro w hw
  rcases List.mem_cons.mp hw with h | h
  · subst h; exact ⟨List.mem_cons_of_mem _ hb, k _ hb⟩
  · exact ⟨List.mem_cons_of_mem _ h, k _ h⟩
/-- the private methods of nest mates -/
def zNs : List (String × Nat × MethodName) := [(RX0, 117, yX6_has), (RX1, 102, yX6_has), (RX4, 76, yX6_has)]
def zNw (U : State) : Prop := ∀ q ∈ zNs, va_Nw (.methodLinkNest q.1 q.2.1 q.2.2 "ShedStages") U
theorem zNw.warm {s U : State} (hW : s.WarmedH U.vm) (h : zNw s) : zNw U := fun q hq => va_Nw.warmM hW (h q hq)
theorem zNw.same {u U : State} (hv : u.vm = U.vm) (h : zNw u) : zNw U := fun q hq => va_Nw.same rfl hv (h q hq)
abbrev zH : Type := Nat → Nat → Int32
abbrev zK : Type := Nat ⊕ ((Nat × List (Option Nat)) ⊕ List Nat)
def zF1 (ad : Nat → Nat) (h : zH) (k j : Nat) (o : Option Nat) : Value := match o with
  | none => .int (h k j)
  | some q => .ref (ad q)
def zF (ad : Nat → Nat) (h : zH) (k : Nat) (fs : List (Option Nat)) : List Value := fs.mapIdx (fun j o => zF1 ad h k j o)
def zE (cI cG : ClassId) (ad : Nat → Nat) (h : zH) (k : Nat) (x : zK) : va_E := match x with
  | .inl n => .inl (cI, n, .inl (h k))
  | .inr (.inl q) => .inr (q.1, zF ad h k q.2)
  | .inr (.inr L) => .inl (cG, L.length, .inr (.inr (.inr (.inr (fun j => (L[j]?).map ad)))))
def zW (cI cG : ClassId) (ad : Nat → Nat) (sh : List zK) (h : zH) : va_W := sh.mapIdx (fun k x => (ad k, zE cI cG ad h k x))
theorem zW_at {cI cG : ClassId} {ad : Nat → Nat} {sh : List zK} {h : zH} {k : Nat} {x : zK} (hk : sh[k]? = some x) : (zW cI cG ad sh h)[k]? = some (ad k, zE cI cG ad h k x) := by
  simp [zW, List.getElem?_mapIdx, hk]
def upd2 (h : zH) (a i : Nat) (v : Int32) : zH := fun k => if k = a then upd (h a) i v else h k
theorem zW_set {cI cG : ClassId} {ad : Nat → Nat} {sh : List zK} {h h' : zH} {a : Nat} {x : zK} (ha : sh[a]? = some x) (hh : ∀ k, k ≠ a → h' k = h k) : (zW cI cG ad sh h).set a (ad a, zE cI cG ad h' a x) = zW cI cG ad sh h' := by
  apply List.ext_getElem?
  intro k
  by_cases hk : k = a
  · subst hk
    rw [zW_at ha, List.getElem?_set_self]
    simp [zW]
    exact (List.getElem?_eq_some_iff.mp ha).1
  · rw [List.getElem?_set_ne (Ne.symm hk)]
    simp only [zW, List.getElem?_mapIdx]
    cases hs : sh[k]? with
    | none => rfl
    | some y =>
      simp only [Option.map_some]
      congr 2
      have e := hh k hk
      rcases y with n | q | L
      · simp only [zE, e]
      · simp only [zE, zF]
        congr 2
        apply List.ext_getElem?
        intro j
        simp only [List.getElem?_mapIdx]
        cases q.2[j]? with
        | none => rfl
        | some o => cases o <;> simp [zF1, e]
      · rfl
def zA (ad : Nat → Nat) (sh : List zK) : Nat → Prop := fun q => ∃ k, k < sh.length ∧ q = ad k
def zJ (ad : Nat → Nat) (sh : List zK) : Prop := ∀ i j, i < sh.length → j < sh.length → ad i = ad j → i = j
theorem zJ.D {cI cG : ClassId} {ad : Nat → Nat} {sh : List zK} {h : zH} (hj : zJ ad sh) : va_D (zA ad sh) (zW cI cG ad sh h) := by
  have key : ∀ (k : Nat) (q : Nat × va_E), (zW cI cG ad sh h)[k]? = some q → k < sh.length ∧ q.1 = ad k := by
    intro k q hk
    simp only [zW, List.getElem?_mapIdx] at hk
    cases hs : sh[k]? with
    | none => rw [hs] at hk; cases hk
    | some y =>
      rw [hs] at hk
      simp only [Option.map_some, Option.some.injEq] at hk
      exact ⟨(List.getElem?_eq_some_iff.mp hs).1, by rw [← hk]⟩
  refine ⟨fun i j p q hi hj' e => ?_, fun k q hk => ?_⟩
  · obtain ⟨a1, b1⟩ := key i p hi
    obtain ⟨a2, b2⟩ := key j q hj'
    exact hj i j a1 a2 (by rw [← b1, ← b2]; exact e)
  · obtain ⟨a1, b1⟩ := key k q hk
    exact ⟨k, a1, b1⟩
/-- locals: what each place holds, where that is known -/
def zL (ls : Array Slot) (nL : Nat) (lv : List (Option Value)) : Prop := ls.size = nL ∧ lv_wf ls ∧ ∀ (k : Nat) (v : Value), lv[k]? = some (some v) → ls[k]? = some (.val v) ∧ v.category = 1
def zl1 (lv : List (Option Value)) : List (Nat × Value) := (List.range lv.length).filterMap (fun k => match lv[k]? with
  | some (some v) => some (k, v)
  | _ => none)
theorem zl1_mem {lv : List (Option Value)} {q : Nat × Value} : q ∈ zl1 lv ↔ lv[q.1]? = some (some q.2) := by
  simp only [zl1, List.mem_filterMap, List.mem_range]
  constructor
  · rintro ⟨k, -, h⟩
    split at h
    · cases h; assumption
    · cases h
  · intro h
    refine ⟨q.1, (List.getElem?_eq_some_iff.mp h).1, ?_⟩
    rw [h]
theorem zL.has {ls : Array Slot} {nL : Nat} {lv : List (Option Value)} (h : zL ls nL lv) : lv_has ls nL (zl1 lv) := ⟨h.1, h.2.1, fun q hq => (h.2.2 q.1 q.2 (zl1_mem.mp hq)).1⟩
theorem zL.store {ls : Array Slot} {nL : Nat} {lv : List (Option Value)} {i : Nat} {v : Value} (h : zL ls nL lv) (hi : i < nL) (hc : v.category = 1) : ∃ ls', storeLocals ls i v = some ls' ∧ zL ls' nL (lv.set i (some v)) := by
  obtain ⟨ls', e, h1, h2, h3⟩ := lv_store1 h.has hi hc
  refine ⟨ls', e, h1, h2, fun k w hk => ?_⟩
  by_cases hki : k = i
  · subst hki
    have hw : w = v := by
      by_cases hl : k < lv.length
      · rw [List.getElem?_set_self hl] at hk; cases hk; rfl
      · rw [List.getElem?_eq_none (by simp; omega)] at hk; cases hk
    subst hw
    exact ⟨h3 (k, w) List.mem_cons_self, hc⟩
  · rw [List.getElem?_set_ne (Ne.symm hki)] at hk
    have hcat := (h.2.2 k w hk).2
    refine ⟨h3 (k, w) (List.mem_cons_of_mem _ (List.mem_filter.mpr ⟨zl1_mem.mpr hk, ?_⟩)), hcat⟩
    simp [hki, hcat]
theorem zL.weak {ls : Array Slot} {nL : Nat} {lv lv' : List (Option Value)} (h : zL ls nL lv) (hw : ∀ (k : Nat) (v : Value), lv'[k]? = some (some v) → lv[k]? = some (some v)) : zL ls nL lv' := ⟨h.1, h.2.1, fun k v hk => h.2.2 k v (hw k v hk)⟩
/-- a method's answer and the ints behind it, out of what its function gives -/
abbrev zR (d : Nat) : Room := { frames := d, cells := 0, slots := 0, locals := 35 * d }
def zQ (D : va_G) (cI cG : ClassId) (ad : Nat → Nat) (sh : List zK) (x : Option Value × zH) : Array Value → State → Outcome → State → Prop := fun _ st oc t => oc = .returned x.1 ∧ va_P D vwCl (zW cI cG ad sh x.2) t.heap ∧ va_F (zA ad sh) st t
/-- the machine's own things at a frame -/
abbrev zX : Type := Program × Launch × Env × Room × State × MethodId × Array Value × List Frame × Method × Code × Nat × va_G × ClassId × ClassId
abbrev zTy (cI cG : ClassId) : List (ClassId × FieldType) := [(cI, .int), (cG, .object RX1)]
def zC (X : zX) (ad : Nat → Nat) (sh : List zK) (cc : ByteArray) (own : String) (ret : Option FieldType) (d : Nat) : Prop := match X with
  | (p, _, _, R, s, m, args, _, meth, c, nL, D, cI, cG) => p.tables.exec = Jvm.exec ∧ c.code = cc ∧ c.maxLocals = nL ∧ s.vm.findClass own = some m.cls ∧ (∀ w ∈ zWd, w.before args s = true) ∧ va_K D vwCl (zTy cI cG) s ∧ zNw s ∧ meth.locks = false ∧ meth.sig.returnType = ret ∧ zJ ad sh ∧ R = zR d
def zG {ρ : Type} (X : zX) (ad : Nat → Nat) (sh : List zK) (emb : ρ → Option Value × zH) (pc : Nat) (lv : List (Option Value)) (st : List Value) (h : zH) (o : Option ρ) : Prop := match X with
  | (p, l, e, R, s, m, args, below, meth, c, nL, D, cI, cG) => ∀ x, o = some x → ∀ (H : Heap) (locs : List Loc) (ls : Array Slot), va_P D vwCl (zW cI cG ad sh h) H → va_S (zA ad sh) s.heap H locs → zL ls nL lv →
    W p l e R s m args below meth c H locs 0 0 (MQ below (zQ D cI cG ad sh (emb x)) args s 0 0 (zA ad sh)) (F0 m pc ls st)
/-- an instruction at its place, and the place behind it -/
def zI (cc : ByteArray) (pc : Nat) (i : Instr) (n q : Nat) : Prop := decode cc pc = .ok (i, n) ∧ pc + n = q
/-- a guard: what the machine tests by itself -/
def gd {ρ : Type} (b : Bool) (o : Option ρ) : Option ρ := match b with
  | true => o
  | false => none
theorem gd_true {ρ : Type} (o : Option ρ) : gd true o = o := rfl
theorem gd_some {ρ : Type} {b : Bool} {o : Option ρ} {x : ρ} (h : gd b o = some x) : b = true ∧ o = some x := by
  cases b with
  | true => exact ⟨rfl, h⟩
  | false => cases h
def zr (i : Int32) (n : Nat) : Bool := !(decide (i < 0) || decide (n ≤ i.toNatClampNeg))
theorem zr_in {i : Int32} {n : Nat} (h : zr i n = true) : vp_in i n := by
  simp only [zr, Bool.not_eq_true', Bool.or_eq_false_iff, decide_eq_false_iff_not] at h
  exact fun q => q.elim h.1 h.2
def zlet {α ρ : Type} (e : α) (f : α → Option ρ) : Option ρ := f e
def zmin (x y : Int32) : Int32 := if y < x then y else x
def zmax (x y : Int32) : Int32 := if x < y then y else x
def zabs (x : Int32) : Int32 := if 0 ≤ x then x else 0 - x
end
section
section ZR
variable {ρ : Type} {X : zX} {ad : Nat → Nat} {sh : List zK} {cc : ByteArray} {own : String} {ret : Option FieldType} {d : Nat} {emb : ρ → Option Value × zH} {pc q : Nat} {lv : List (Option Value)} {st : List Value} {h : zH} {o : Option ρ}
theorem g_ite {c : Prop} {ic : Decidable c} {o1 o2 : Option ρ} (k1 : c → zG X ad sh emb pc lv st h o1) (k2 : ¬ c → zG X ad sh emb pc lv st h o2) : zG X ad sh emb pc lv st h (@ite _ c ic o1 o2) := by
  by_cases hc : c
  · rw [if_pos hc]; exact k1 hc
  · rw [if_neg hc]; exact k2 hc
theorem g_none : zG X ad sh emb pc lv st h none := by
  obtain ⟨p, l, e, R, s, m, args, below, meth, c, nL, D, cI, cG⟩ := X
  intro x hx; cases hx
theorem g_weak {lv' : List (Option Value)} (hw : ∀ (k : Nat) (v : Value), lv'[k]? = some (some v) → lv[k]? = some (some v)) (k : zG X ad sh emb pc lv' st h o) : zG X ad sh emb pc lv st h o := by
  obtain ⟨p, l, e, R, s, m, args, below, meth, c, nL, D, cI, cG⟩ := X
  intro x hx H locs ls hP hS hL
  exact k x hx H locs ls hP hS (hL.weak hw)
def zsub : List (Option Value) → List (Option Value) → Prop
  | [], _ => True
  | none :: a, _ :: b => zsub a b
  | some v :: a, w :: b => some v = w ∧ zsub a b
  | _ :: _, [] => False
theorem zsub_ok : ∀ {a b : List (Option Value)}, zsub a b → ∀ (k : Nat) (v : Value), a[k]? = some (some v) → b[k]? = some (some v)
  | [], _, _, k, v, h => by simp at h
  | none :: a, _ :: b, hs, k, v, h => by
    cases k with
    | zero => simp at h
    | succ k => simp only [List.getElem?_cons_succ] at h ⊢; exact zsub_ok (a := a) hs k v h
  | some w :: a, y :: b, hs, k, v, h => by
    cases k with
    | zero => simp only [List.getElem?_cons_zero] at h ⊢; cases h; rw [hs.1]
    | succ k => simp only [List.getElem?_cons_succ] at h ⊢; exact zsub_ok (a := a) hs.2 k v h
  | _ :: _, [], hs, k, v, h => by exact absurd hs (by simp [zsub])
theorem g_sub {lv' : List (Option Value)} (hw : zsub lv' lv) (k : zG X ad sh emb pc lv' st h o) : zG X ad sh emb pc lv st h o := g_weak (zsub_ok hw) k
theorem g_iconst (C : zC X ad sh cc own ret d) {n : Int} (v : Int32) (i : zI cc pc (.iconst n) 1 q) (hv : Int32.ofInt n = v) (k : zG X ad sh emb q lv (.int v :: st) h o) : zG X ad sh emb pc lv (st) h o := by
  obtain ⟨p, l, e, R, s, m, args, below, meth, c, nL, D, cI, cG⟩ := X
  obtain ⟨hx, hb, hml, hown, hts, hK, hN, hlk, hr, hj, hR⟩ := C
  obtain ⟨di, rfl⟩ := i
  intro x9 hx9 H locs ls hP hS hL
  exact lv_iconst hx hb di hv (k x9 hx9 H locs ls hP hS hL)
theorem g_bipush (C : zC X ad sh cc own ret d) {n : Int} (v : Int32) (i : zI cc pc (.bipush n) 2 q) (hv : (Int8.ofInt n).toInt32 = v) (k : zG X ad sh emb q lv (.int v :: st) h o) : zG X ad sh emb pc lv (st) h o := by
  obtain ⟨p, l, e, R, s, m, args, below, meth, c, nL, D, cI, cG⟩ := X
  obtain ⟨hx, hb, hml, hown, hts, hK, hN, hlk, hr, hj, hR⟩ := C
  obtain ⟨di, rfl⟩ := i
  intro x9 hx9 H locs ls hP hS hL
  exact lv_bipush hx hb di hv (k x9 hx9 H locs ls hP hS hL)
theorem g_sipush (C : zC X ad sh cc own ret d) {n : Int} (v : Int32) (i : zI cc pc (.sipush n) 3 q) (hv : (Int16.ofInt n).toInt32 = v) (k : zG X ad sh emb q lv (.int v :: st) h o) : zG X ad sh emb pc lv (st) h o := by
  obtain ⟨p, l, e, R, s, m, args, below, meth, c, nL, D, cI, cG⟩ := X
  obtain ⟨hx, hb, hml, hown, hts, hK, hN, hlk, hr, hj, hR⟩ := C
  obtain ⟨di, rfl⟩ := i
  intro x9 hx9 H locs ls hP hS hL
  exact lv_sipush hx hb di hv (k x9 hx9 H locs ls hP hS hL)
theorem g_iload_n (C : zC X ad sh cc own ret d) {k : Fin 4} {x : Int32} (i : zI cc pc (.iload_n k) 1 q) (hl : lv[(k : Nat)]? = some (some (.int x))) (k : zG X ad sh emb q lv (.int x :: st) h o) : zG X ad sh emb pc lv (st) h o := by
  obtain ⟨p, l, e, R, s, m, args, below, meth, c, nL, D, cI, cG⟩ := X
  obtain ⟨hx, hb, hml, hown, hts, hK, hN, hlk, hr, hj, hR⟩ := C
  obtain ⟨di, rfl⟩ := i
  intro x9 hx9 H locs ls hP hS hL
  exact lv_iload_n hx hb di rfl (hL.2.2 _ _ hl).1 (k x9 hx9 H locs ls hP hS hL)
theorem g_iload (C : zC X ad sh cc own ret d) {k : Nat} {x : Int32} (i : zI cc pc (.iload k) 2 q) (hl : lv[k]? = some (some (.int x))) (k : zG X ad sh emb q lv (.int x :: st) h o) : zG X ad sh emb pc lv (st) h o := by
  obtain ⟨p, l, e, R, s, m, args, below, meth, c, nL, D, cI, cG⟩ := X
  obtain ⟨hx, hb, hml, hown, hts, hK, hN, hlk, hr, hj, hR⟩ := C
  obtain ⟨di, rfl⟩ := i
  intro x9 hx9 H locs ls hP hS hL
  exact lv_iload hx hb di (hL.2.2 _ _ hl).1 (k x9 hx9 H locs ls hP hS hL)
theorem g_aload_n (C : zC X ad sh cc own ret d) {k : Fin 4} {x : Nat} (i : zI cc pc (.aload_n k) 1 q) (hl : lv[(k : Nat)]? = some (some (.ref x))) (k : zG X ad sh emb q lv (.ref x :: st) h o) : zG X ad sh emb pc lv (st) h o := by
  obtain ⟨p, l, e, R, s, m, args, below, meth, c, nL, D, cI, cG⟩ := X
  obtain ⟨hx, hb, hml, hown, hts, hK, hN, hlk, hr, hj, hR⟩ := C
  obtain ⟨di, rfl⟩ := i
  intro x9 hx9 H locs ls hP hS hL
  exact lv_aload_n hx hb di rfl (hL.2.2 _ _ hl).1 (k x9 hx9 H locs ls hP hS hL)
theorem g_aload (C : zC X ad sh cc own ret d) {k : Nat} {x : Nat} (i : zI cc pc (.aload k) 2 q) (hl : lv[k]? = some (some (.ref x))) (k : zG X ad sh emb q lv (.ref x :: st) h o) : zG X ad sh emb pc lv (st) h o := by
  obtain ⟨p, l, e, R, s, m, args, below, meth, c, nL, D, cI, cG⟩ := X
  obtain ⟨hx, hb, hml, hown, hts, hK, hN, hlk, hr, hj, hR⟩ := C
  obtain ⟨di, rfl⟩ := i
  intro x9 hx9 H locs ls hP hS hL
  exact lv_aload hx hb di (hL.2.2 _ _ hl).1 (k x9 hx9 H locs ls hP hS hL)
theorem g_iadd (C : zC X ad sh cc own ret d) {x y : Int32} (i : zI cc pc .iadd 1 q) (k : zG X ad sh emb q lv (.int (x + y) :: st) h o) : zG X ad sh emb pc lv (.int y :: .int x :: st) h o := by
  obtain ⟨p, l, e, R, s, m, args, below, meth, c, nL, D, cI, cG⟩ := X
  obtain ⟨hx, hb, hml, hown, hts, hK, hN, hlk, hr, hj, hR⟩ := C
  obtain ⟨di, rfl⟩ := i
  intro x9 hx9 H locs ls hP hS hL
  exact lv_iadd hx hb di (k x9 hx9 H locs ls hP hS hL)
theorem g_isub (C : zC X ad sh cc own ret d) {x y : Int32} (i : zI cc pc .isub 1 q) (k : zG X ad sh emb q lv (.int (x - y) :: st) h o) : zG X ad sh emb pc lv (.int y :: .int x :: st) h o := by
  obtain ⟨p, l, e, R, s, m, args, below, meth, c, nL, D, cI, cG⟩ := X
  obtain ⟨hx, hb, hml, hown, hts, hK, hN, hlk, hr, hj, hR⟩ := C
  obtain ⟨di, rfl⟩ := i
  intro x9 hx9 H locs ls hP hS hL
  exact lv_isub hx hb di (k x9 hx9 H locs ls hP hS hL)
theorem g_imul (C : zC X ad sh cc own ret d) {x y : Int32} (i : zI cc pc .imul 1 q) (k : zG X ad sh emb q lv (.int (x * y) :: st) h o) : zG X ad sh emb pc lv (.int y :: .int x :: st) h o := by
  obtain ⟨p, l, e, R, s, m, args, below, meth, c, nL, D, cI, cG⟩ := X
  obtain ⟨hx, hb, hml, hown, hts, hK, hN, hlk, hr, hj, hR⟩ := C
  obtain ⟨di, rfl⟩ := i
  intro x9 hx9 H locs ls hP hS hL
  exact lv_imul hx hb di (k x9 hx9 H locs ls hP hS hL)
theorem g_iand (C : zC X ad sh cc own ret d) {x y : Int32} (i : zI cc pc .iand 1 q) (k : zG X ad sh emb q lv (.int (x &&& y) :: st) h o) : zG X ad sh emb pc lv (.int y :: .int x :: st) h o := by
  obtain ⟨p, l, e, R, s, m, args, below, meth, c, nL, D, cI, cG⟩ := X
  obtain ⟨hx, hb, hml, hown, hts, hK, hN, hlk, hr, hj, hR⟩ := C
  obtain ⟨di, rfl⟩ := i
  intro x9 hx9 H locs ls hP hS hL
  exact lv_iand hx hb di (k x9 hx9 H locs ls hP hS hL)
theorem g_ior (C : zC X ad sh cc own ret d) {x y : Int32} (i : zI cc pc .ior 1 q) (k : zG X ad sh emb q lv (.int (x ||| y) :: st) h o) : zG X ad sh emb pc lv (.int y :: .int x :: st) h o := by
  obtain ⟨p, l, e, R, s, m, args, below, meth, c, nL, D, cI, cG⟩ := X
  obtain ⟨hx, hb, hml, hown, hts, hK, hN, hlk, hr, hj, hR⟩ := C
  obtain ⟨di, rfl⟩ := i
  intro x9 hx9 H locs ls hP hS hL
  exact lv_ior hx hb di (k x9 hx9 H locs ls hP hS hL)
theorem g_ixor (C : zC X ad sh cc own ret d) {x y : Int32} (i : zI cc pc .ixor 1 q) (k : zG X ad sh emb q lv (.int (x ^^^ y) :: st) h o) : zG X ad sh emb pc lv (.int y :: .int x :: st) h o := by
  obtain ⟨p, l, e, R, s, m, args, below, meth, c, nL, D, cI, cG⟩ := X
  obtain ⟨hx, hb, hml, hown, hts, hK, hN, hlk, hr, hj, hR⟩ := C
  obtain ⟨di, rfl⟩ := i
  intro x9 hx9 H locs ls hP hS hL
  exact lv_ixor hx hb di (k x9 hx9 H locs ls hP hS hL)
theorem g_ineg (C : zC X ad sh cc own ret d) {x : Int32} (i : zI cc pc .ineg 1 q) (k : zG X ad sh emb q lv (.int (-x) :: st) h o) : zG X ad sh emb pc lv (.int x :: st) h o := by
  obtain ⟨p, l, e, R, s, m, args, below, meth, c, nL, D, cI, cG⟩ := X
  obtain ⟨hx, hb, hml, hown, hts, hK, hN, hlk, hr, hj, hR⟩ := C
  obtain ⟨di, rfl⟩ := i
  intro x9 hx9 H locs ls hP hS hL
  exact lv_ineg hx hb di (k x9 hx9 H locs ls hP hS hL)
theorem g_dup (C : zC X ad sh cc own ret d) {v : Value} (i : zI cc pc .dup 1 q) (hv : v.category = 1) (k : zG X ad sh emb q lv (v :: v :: st) h o) : zG X ad sh emb pc lv (v :: st) h o := by
  obtain ⟨p, l, e, R, s, m, args, below, meth, c, nL, D, cI, cG⟩ := X
  obtain ⟨hx, hb, hml, hown, hts, hK, hN, hlk, hr, hj, hR⟩ := C
  obtain ⟨di, rfl⟩ := i
  intro x9 hx9 H locs ls hP hS hL
  exact lv_dup hx hb di hv (k x9 hx9 H locs ls hP hS hL)
theorem g_dup2 (C : zC X ad sh cc own ret d) {v w : Value} (i : zI cc pc .dup2 1 q) (hv : v.category = 1) (hw : w.category = 1) (k : zG X ad sh emb q lv (v :: w :: v :: w :: st) h o) : zG X ad sh emb pc lv (v :: w :: st) h o := by
  obtain ⟨p, l, e, R, s, m, args, below, meth, c, nL, D, cI, cG⟩ := X
  obtain ⟨hx, hb, hml, hown, hts, hK, hN, hlk, hr, hj, hR⟩ := C
  obtain ⟨di, rfl⟩ := i
  intro x9 hx9 H locs ls hP hS hL
  exact lv_dup2_11 hx hb di hv hw (k x9 hx9 H locs ls hP hS hL)
theorem g_pop (C : zC X ad sh cc own ret d) {v : Value} (i : zI cc pc .pop 1 q) (hv : v.category = 1) (k : zG X ad sh emb q lv (st) h o) : zG X ad sh emb pc lv (v :: st) h o := by
  obtain ⟨p, l, e, R, s, m, args, below, meth, c, nL, D, cI, cG⟩ := X
  obtain ⟨hx, hb, hml, hown, hts, hK, hN, hlk, hr, hj, hR⟩ := C
  obtain ⟨di, rfl⟩ := i
  intro x9 hx9 H locs ls hP hS hL
  exact lv_pop hx hb di hv (k x9 hx9 H locs ls hP hS hL)
theorem g_ishl (C : zC X ad sh cc own ret d) {x y : Int32} (i : zI cc pc .ishl 1 q) (k : zG X ad sh emb q lv (.int (x <<< (y &&& 31)) :: st) h o) : zG X ad sh emb pc lv (.int y :: .int x :: st) h o := by
  obtain ⟨p, l, e, R, s, m, args, below, meth, c, nL, D, cI, cG⟩ := X
  obtain ⟨hx, hb, hml, hown, hts, hK, hN, hlk, hr, hj, hR⟩ := C
  obtain ⟨di, rfl⟩ := i
  intro x9 hx9 H locs ls hP hS hL
  exact lv_ishl hx hb di (k x9 hx9 H locs ls hP hS hL)
theorem g_ishr (C : zC X ad sh cc own ret d) {x y : Int32} (i : zI cc pc .ishr 1 q) (k : zG X ad sh emb q lv (.int (x >>> (y &&& 31)) :: st) h o) : zG X ad sh emb pc lv (.int y :: .int x :: st) h o := by
  obtain ⟨p, l, e, R, s, m, args, below, meth, c, nL, D, cI, cG⟩ := X
  obtain ⟨hx, hb, hml, hown, hts, hK, hN, hlk, hr, hj, hR⟩ := C
  obtain ⟨di, rfl⟩ := i
  intro x9 hx9 H locs ls hP hS hL
  exact lv_ishr hx hb di (k x9 hx9 H locs ls hP hS hL)
theorem g_iushr (C : zC X ad sh cc own ret d) {x y : Int32} (i : zI cc pc .iushr 1 q) (k : zG X ad sh emb q lv (.int (x.toUInt32 >>> (y.toUInt32 &&& Int32.toUInt32 31)).toInt32 :: st) h o) : zG X ad sh emb pc lv (.int y :: .int x :: st) h o := by
  obtain ⟨p, l, e, R, s, m, args, below, meth, c, nL, D, cI, cG⟩ := X
  obtain ⟨hx, hb, hml, hown, hts, hK, hN, hlk, hr, hj, hR⟩ := C
  obtain ⟨di, rfl⟩ := i
  intro x9 hx9 H locs ls hP hS hL
  exact lv_iushr hx hb di rfl (k x9 hx9 H locs ls hP hS hL)
theorem g_idiv (C : zC X ad sh cc own ret d) {x y : Int32} (i : zI cc pc .idiv 1 q) (k : zG X ad sh emb q lv (.int (x / y) :: st) h o) : zG X ad sh emb pc lv (.int y :: .int x :: st) h (gd (decide (¬ y = 0)) o) := by
  obtain ⟨p, l, e, R, s, m, args, below, meth, c, nL, D, cI, cG⟩ := X
  obtain ⟨hx, hb, hml, hown, hts, hK, hN, hlk, hr, hj, hR⟩ := C
  obtain ⟨di, rfl⟩ := i
  intro x9 hx9 H locs ls hP hS hL
  obtain ⟨hg, hx9⟩ := gd_some hx9
  exact lv_idiv hx hb di (of_decide_eq_true hg) (k x9 hx9 H locs ls hP hS hL)
theorem g_irem (C : zC X ad sh cc own ret d) {x y : Int32} (i : zI cc pc .irem 1 q) (k : zG X ad sh emb q lv (.int (x - x / y * y) :: st) h o) : zG X ad sh emb pc lv (.int y :: .int x :: st) h (gd (decide (¬ y = 0)) o) := by
  obtain ⟨p, l, e, R, s, m, args, below, meth, c, nL, D, cI, cG⟩ := X
  obtain ⟨hx, hb, hml, hown, hts, hK, hN, hlk, hr, hj, hR⟩ := C
  obtain ⟨di, rfl⟩ := i
  intro x9 hx9 H locs ls hP hS hL
  obtain ⟨hg, hx9⟩ := gd_some hx9
  exact lv_irem hx hb di (of_decide_eq_true hg) (k x9 hx9 H locs ls hP hS hL)
theorem g_istore_n (C : zC X ad sh cc own ret d) {k : Fin 4} {nL : Nat} (hnL : nL = X.2.2.2.2.2.2.2.2.2.2.1) {x : Int32} (i : zI cc pc (.istore_n k) 1 q) (hk : (k : Nat) < nL) (kt : zG X ad sh emb q (lv.set (k : Nat) (some (.int x))) st h o) : zG X ad sh emb pc lv (.int x :: st) h o := by
  obtain ⟨p, l, e, R, s, m, args, below, meth, c, nL, D, cI, cG⟩ := X
  obtain ⟨hx, hb, hml, hown, hts, hK, hN, hlk, hr, hj, hR⟩ := C
  obtain ⟨di, rfl⟩ := i
  subst hnL
  intro x9 hx9 H locs ls hP hS hL
  obtain ⟨ls', e', hL'⟩ := hL.store (v := .int x) hk rfl
  intro T hT X
  obtain ⟨t, a, b⟩ := kt x9 hx9 H locs ls' hP hS hL' T hT X
  refine ⟨t, ?_, b⟩
  jvm_step X.here [X.here.top, ↓top_set X.here.top, hx, hb, di, e']
  exact a
theorem g_istore (C : zC X ad sh cc own ret d) {k : Nat} {nL : Nat} (hnL : nL = X.2.2.2.2.2.2.2.2.2.2.1) {x : Int32} (i : zI cc pc (.istore k) 2 q) (hk : k < nL) (kt : zG X ad sh emb q (lv.set k (some (.int x))) st h o) : zG X ad sh emb pc lv (.int x :: st) h o := by
  obtain ⟨p, l, e, R, s, m, args, below, meth, c, nL, D, cI, cG⟩ := X
  obtain ⟨hx, hb, hml, hown, hts, hK, hN, hlk, hr, hj, hR⟩ := C
  obtain ⟨di, rfl⟩ := i
  subst hnL
  intro x9 hx9 H locs ls hP hS hL
  obtain ⟨ls', e', hL'⟩ := hL.store (v := .int x) hk rfl
  intro T hT X
  obtain ⟨t, a, b⟩ := kt x9 hx9 H locs ls' hP hS hL' T hT X
  refine ⟨t, ?_, b⟩
  jvm_step X.here [X.here.top, ↓top_set X.here.top, hx, hb, di, e']
  exact a
theorem g_iinc (C : zC X ad sh cc own ret d) {k : Nat} {n : Int} {nL : Nat} (hnL : nL = X.2.2.2.2.2.2.2.2.2.2.1) {x : Int32} (i : zI cc pc (.iinc k n) 3 q) (hk : k < nL) (hl : lv[k]? = some (some (.int x))) (kt : zG X ad sh emb q (lv.set k (some (.int (x + Int32.ofInt n)))) st h o) : zG X ad sh emb pc lv st h o := by
  obtain ⟨p, l, e, R, s, m, args, below, meth, c, nL, D, cI, cG⟩ := X
  obtain ⟨hx, hb, hml, hown, hts, hK, hN, hlk, hr, hj, hR⟩ := C
  obtain ⟨di, rfl⟩ := i
  subst hnL
  intro x9 hx9 H locs ls hP hS hL
  obtain ⟨ls', e', hL'⟩ := hL.store (v := .int (x + Int32.ofInt n)) hk rfl
  have hg := (hL.2.2 _ _ hl).1
  intro T hT X
  obtain ⟨t, a, b⟩ := kt x9 hx9 H locs ls' hP hS hL' T hT X
  refine ⟨t, ?_, b⟩
  jvm_step X.here [X.here.top, ↓top_set X.here.top, hx, hb, di, hg, e']
  exact a
theorem g_if_eq (C : zC X ad sh cc own ret d) {x : Int32} {off : Int} (tgt : Nat) {o1 o2 : Option ρ} {ic : Decidable (x = 0)} (i : zI cc pc (.ifCond .eq off) 3 q) (ht : (pc : Int) + off = (tgt : Int)) (k1 : x = 0 → zG X ad sh emb tgt lv st h o1) (k2 : ¬ (x = 0) → zG X ad sh emb q lv st h o2) : zG X ad sh emb pc lv (.int x :: st) h (@ite _ (x = 0) ic o1 o2) := by
  refine g_ite (fun hc => ?_) (fun hc => ?_)
  · have k1 := k1 hc
    clear k2
    obtain ⟨p, l, e, R, s, m, args, below, meth, c, nL, D, cI, cG⟩ := X
    obtain ⟨hx, hb, hml, hown, hts, hK, hN, hlk, hr, hj, hR⟩ := C
    obtain ⟨di, rfl⟩ := i
    intro x9 hx9 H locs ls hP hS hL
    exact lv_if_eq hx hb di ht (fun _ => k1 x9 hx9 H locs ls hP hS hL) (fun h9 => absurd hc h9)
  · have k2 := k2 hc
    clear k1
    obtain ⟨p, l, e, R, s, m, args, below, meth, c, nL, D, cI, cG⟩ := X
    obtain ⟨hx, hb, hml, hown, hts, hK, hN, hlk, hr, hj, hR⟩ := C
    obtain ⟨di, rfl⟩ := i
    intro x9 hx9 H locs ls hP hS hL
    exact lv_if_eq hx hb di ht (fun h9 => absurd h9 hc) (fun _ => k2 x9 hx9 H locs ls hP hS hL)
theorem g_icmp_eq (C : zC X ad sh cc own ret d) {x y : Int32} {off : Int} (tgt : Nat) {o1 o2 : Option ρ} {ic : Decidable (x = y)} (i : zI cc pc (.if_icmp .eq off) 3 q) (ht : (pc : Int) + off = (tgt : Int)) (k1 : x = y → zG X ad sh emb tgt lv st h o1) (k2 : ¬ (x = y) → zG X ad sh emb q lv st h o2) : zG X ad sh emb pc lv (.int y :: .int x :: st) h (@ite _ (x = y) ic o1 o2) := by
  refine g_ite (fun hc => ?_) (fun hc => ?_)
  · have k1 := k1 hc
    clear k2
    obtain ⟨p, l, e, R, s, m, args, below, meth, c, nL, D, cI, cG⟩ := X
    obtain ⟨hx, hb, hml, hown, hts, hK, hN, hlk, hr, hj, hR⟩ := C
    obtain ⟨di, rfl⟩ := i
    intro x9 hx9 H locs ls hP hS hL
    exact lv_icmp_eq hx hb di ht (fun _ => k1 x9 hx9 H locs ls hP hS hL) (fun h9 => absurd hc h9)
  · have k2 := k2 hc
    clear k1
    obtain ⟨p, l, e, R, s, m, args, below, meth, c, nL, D, cI, cG⟩ := X
    obtain ⟨hx, hb, hml, hown, hts, hK, hN, hlk, hr, hj, hR⟩ := C
    obtain ⟨di, rfl⟩ := i
    intro x9 hx9 H locs ls hP hS hL
    exact lv_icmp_eq hx hb di ht (fun h9 => absurd h9 hc) (fun _ => k2 x9 hx9 H locs ls hP hS hL)
theorem g_if_ne (C : zC X ad sh cc own ret d) {x : Int32} {off : Int} (tgt : Nat) {o1 o2 : Option ρ} {ic : Decidable (x = 0)} (i : zI cc pc (.ifCond .ne off) 3 q) (ht : (pc : Int) + off = (tgt : Int)) (k1 : x = 0 → zG X ad sh emb q lv st h o1) (k2 : ¬ (x = 0) → zG X ad sh emb tgt lv st h o2) : zG X ad sh emb pc lv (.int x :: st) h (@ite _ (x = 0) ic o1 o2) := by
  refine g_ite (fun hc => ?_) (fun hc => ?_)
  · have k1 := k1 hc
    clear k2
    obtain ⟨p, l, e, R, s, m, args, below, meth, c, nL, D, cI, cG⟩ := X
    obtain ⟨hx, hb, hml, hown, hts, hK, hN, hlk, hr, hj, hR⟩ := C
    obtain ⟨di, rfl⟩ := i
    intro x9 hx9 H locs ls hP hS hL
    exact lv_if_ne hx hb di ht (fun h9 => absurd hc h9) (fun _ => k1 x9 hx9 H locs ls hP hS hL)
  · have k2 := k2 hc
    clear k1
    obtain ⟨p, l, e, R, s, m, args, below, meth, c, nL, D, cI, cG⟩ := X
    obtain ⟨hx, hb, hml, hown, hts, hK, hN, hlk, hr, hj, hR⟩ := C
    obtain ⟨di, rfl⟩ := i
    intro x9 hx9 H locs ls hP hS hL
    exact lv_if_ne hx hb di ht (fun _ => k2 x9 hx9 H locs ls hP hS hL) (fun h9 => absurd h9 hc)
theorem g_icmp_ne (C : zC X ad sh cc own ret d) {x y : Int32} {off : Int} (tgt : Nat) {o1 o2 : Option ρ} {ic : Decidable (x = y)} (i : zI cc pc (.if_icmp .ne off) 3 q) (ht : (pc : Int) + off = (tgt : Int)) (k1 : x = y → zG X ad sh emb q lv st h o1) (k2 : ¬ (x = y) → zG X ad sh emb tgt lv st h o2) : zG X ad sh emb pc lv (.int y :: .int x :: st) h (@ite _ (x = y) ic o1 o2) := by
  refine g_ite (fun hc => ?_) (fun hc => ?_)
  · have k1 := k1 hc
    clear k2
    obtain ⟨p, l, e, R, s, m, args, below, meth, c, nL, D, cI, cG⟩ := X
    obtain ⟨hx, hb, hml, hown, hts, hK, hN, hlk, hr, hj, hR⟩ := C
    obtain ⟨di, rfl⟩ := i
    intro x9 hx9 H locs ls hP hS hL
    exact lv_icmp_ne hx hb di ht (fun h9 => absurd hc h9) (fun _ => k1 x9 hx9 H locs ls hP hS hL)
  · have k2 := k2 hc
    clear k1
    obtain ⟨p, l, e, R, s, m, args, below, meth, c, nL, D, cI, cG⟩ := X
    obtain ⟨hx, hb, hml, hown, hts, hK, hN, hlk, hr, hj, hR⟩ := C
    obtain ⟨di, rfl⟩ := i
    intro x9 hx9 H locs ls hP hS hL
    exact lv_icmp_ne hx hb di ht (fun _ => k2 x9 hx9 H locs ls hP hS hL) (fun h9 => absurd h9 hc)
theorem g_if_lt (C : zC X ad sh cc own ret d) {x : Int32} {off : Int} (tgt : Nat) {o1 o2 : Option ρ} {ic : Decidable (x < 0)} (i : zI cc pc (.ifCond .lt off) 3 q) (ht : (pc : Int) + off = (tgt : Int)) (k1 : x < 0 → zG X ad sh emb tgt lv st h o1) (k2 : ¬ (x < 0) → zG X ad sh emb q lv st h o2) : zG X ad sh emb pc lv (.int x :: st) h (@ite _ (x < 0) ic o1 o2) := by
  refine g_ite (fun hc => ?_) (fun hc => ?_)
  · have k1 := k1 hc
    clear k2
    obtain ⟨p, l, e, R, s, m, args, below, meth, c, nL, D, cI, cG⟩ := X
    obtain ⟨hx, hb, hml, hown, hts, hK, hN, hlk, hr, hj, hR⟩ := C
    obtain ⟨di, rfl⟩ := i
    intro x9 hx9 H locs ls hP hS hL
    exact lv_if_lt hx hb di ht (fun _ => k1 x9 hx9 H locs ls hP hS hL) (fun h9 => absurd hc h9)
  · have k2 := k2 hc
    clear k1
    obtain ⟨p, l, e, R, s, m, args, below, meth, c, nL, D, cI, cG⟩ := X
    obtain ⟨hx, hb, hml, hown, hts, hK, hN, hlk, hr, hj, hR⟩ := C
    obtain ⟨di, rfl⟩ := i
    intro x9 hx9 H locs ls hP hS hL
    exact lv_if_lt hx hb di ht (fun h9 => absurd h9 hc) (fun _ => k2 x9 hx9 H locs ls hP hS hL)
theorem g_icmp_lt (C : zC X ad sh cc own ret d) {x y : Int32} {off : Int} (tgt : Nat) {o1 o2 : Option ρ} {ic : Decidable (x < y)} (i : zI cc pc (.if_icmp .lt off) 3 q) (ht : (pc : Int) + off = (tgt : Int)) (k1 : x < y → zG X ad sh emb tgt lv st h o1) (k2 : ¬ (x < y) → zG X ad sh emb q lv st h o2) : zG X ad sh emb pc lv (.int y :: .int x :: st) h (@ite _ (x < y) ic o1 o2) := by
  refine g_ite (fun hc => ?_) (fun hc => ?_)
  · have k1 := k1 hc
    clear k2
    obtain ⟨p, l, e, R, s, m, args, below, meth, c, nL, D, cI, cG⟩ := X
    obtain ⟨hx, hb, hml, hown, hts, hK, hN, hlk, hr, hj, hR⟩ := C
    obtain ⟨di, rfl⟩ := i
    intro x9 hx9 H locs ls hP hS hL
    exact lv_icmp_lt hx hb di ht (fun _ => k1 x9 hx9 H locs ls hP hS hL) (fun h9 => absurd hc h9)
  · have k2 := k2 hc
    clear k1
    obtain ⟨p, l, e, R, s, m, args, below, meth, c, nL, D, cI, cG⟩ := X
    obtain ⟨hx, hb, hml, hown, hts, hK, hN, hlk, hr, hj, hR⟩ := C
    obtain ⟨di, rfl⟩ := i
    intro x9 hx9 H locs ls hP hS hL
    exact lv_icmp_lt hx hb di ht (fun h9 => absurd h9 hc) (fun _ => k2 x9 hx9 H locs ls hP hS hL)
theorem g_if_ge (C : zC X ad sh cc own ret d) {x : Int32} {off : Int} (tgt : Nat) {o1 o2 : Option ρ} {ic : Decidable (0 ≤ x)} (i : zI cc pc (.ifCond .ge off) 3 q) (ht : (pc : Int) + off = (tgt : Int)) (k1 : 0 ≤ x → zG X ad sh emb tgt lv st h o1) (k2 : ¬ (0 ≤ x) → zG X ad sh emb q lv st h o2) : zG X ad sh emb pc lv (.int x :: st) h (@ite _ (0 ≤ x) ic o1 o2) := by
  refine g_ite (fun hc => ?_) (fun hc => ?_)
  · have k1 := k1 hc
    clear k2
    obtain ⟨p, l, e, R, s, m, args, below, meth, c, nL, D, cI, cG⟩ := X
    obtain ⟨hx, hb, hml, hown, hts, hK, hN, hlk, hr, hj, hR⟩ := C
    obtain ⟨di, rfl⟩ := i
    intro x9 hx9 H locs ls hP hS hL
    exact lv_if_ge hx hb di ht (fun _ => k1 x9 hx9 H locs ls hP hS hL) (fun h9 => absurd hc h9)
  · have k2 := k2 hc
    clear k1
    obtain ⟨p, l, e, R, s, m, args, below, meth, c, nL, D, cI, cG⟩ := X
    obtain ⟨hx, hb, hml, hown, hts, hK, hN, hlk, hr, hj, hR⟩ := C
    obtain ⟨di, rfl⟩ := i
    intro x9 hx9 H locs ls hP hS hL
    exact lv_if_ge hx hb di ht (fun h9 => absurd h9 hc) (fun _ => k2 x9 hx9 H locs ls hP hS hL)
theorem g_icmp_ge (C : zC X ad sh cc own ret d) {x y : Int32} {off : Int} (tgt : Nat) {o1 o2 : Option ρ} {ic : Decidable (y ≤ x)} (i : zI cc pc (.if_icmp .ge off) 3 q) (ht : (pc : Int) + off = (tgt : Int)) (k1 : y ≤ x → zG X ad sh emb tgt lv st h o1) (k2 : ¬ (y ≤ x) → zG X ad sh emb q lv st h o2) : zG X ad sh emb pc lv (.int y :: .int x :: st) h (@ite _ (y ≤ x) ic o1 o2) := by
  refine g_ite (fun hc => ?_) (fun hc => ?_)
  · have k1 := k1 hc
    clear k2
    obtain ⟨p, l, e, R, s, m, args, below, meth, c, nL, D, cI, cG⟩ := X
    obtain ⟨hx, hb, hml, hown, hts, hK, hN, hlk, hr, hj, hR⟩ := C
    obtain ⟨di, rfl⟩ := i
    intro x9 hx9 H locs ls hP hS hL
    exact lv_icmp_ge hx hb di ht (fun _ => k1 x9 hx9 H locs ls hP hS hL) (fun h9 => absurd hc h9)
  · have k2 := k2 hc
    clear k1
    obtain ⟨p, l, e, R, s, m, args, below, meth, c, nL, D, cI, cG⟩ := X
    obtain ⟨hx, hb, hml, hown, hts, hK, hN, hlk, hr, hj, hR⟩ := C
    obtain ⟨di, rfl⟩ := i
    intro x9 hx9 H locs ls hP hS hL
    exact lv_icmp_ge hx hb di ht (fun h9 => absurd h9 hc) (fun _ => k2 x9 hx9 H locs ls hP hS hL)
theorem g_if_gt (C : zC X ad sh cc own ret d) {x : Int32} {off : Int} (tgt : Nat) {o1 o2 : Option ρ} {ic : Decidable (0 < x)} (i : zI cc pc (.ifCond .gt off) 3 q) (ht : (pc : Int) + off = (tgt : Int)) (k1 : 0 < x → zG X ad sh emb tgt lv st h o1) (k2 : ¬ (0 < x) → zG X ad sh emb q lv st h o2) : zG X ad sh emb pc lv (.int x :: st) h (@ite _ (0 < x) ic o1 o2) := by
  refine g_ite (fun hc => ?_) (fun hc => ?_)
  · have k1 := k1 hc
    clear k2
    obtain ⟨p, l, e, R, s, m, args, below, meth, c, nL, D, cI, cG⟩ := X
    obtain ⟨hx, hb, hml, hown, hts, hK, hN, hlk, hr, hj, hR⟩ := C
    obtain ⟨di, rfl⟩ := i
    intro x9 hx9 H locs ls hP hS hL
    exact lv_if_gt hx hb di ht (fun _ => k1 x9 hx9 H locs ls hP hS hL) (fun h9 => absurd hc h9)
  · have k2 := k2 hc
    clear k1
    obtain ⟨p, l, e, R, s, m, args, below, meth, c, nL, D, cI, cG⟩ := X
    obtain ⟨hx, hb, hml, hown, hts, hK, hN, hlk, hr, hj, hR⟩ := C
    obtain ⟨di, rfl⟩ := i
    intro x9 hx9 H locs ls hP hS hL
    exact lv_if_gt hx hb di ht (fun h9 => absurd h9 hc) (fun _ => k2 x9 hx9 H locs ls hP hS hL)
theorem g_icmp_gt (C : zC X ad sh cc own ret d) {x y : Int32} {off : Int} (tgt : Nat) {o1 o2 : Option ρ} {ic : Decidable (y < x)} (i : zI cc pc (.if_icmp .gt off) 3 q) (ht : (pc : Int) + off = (tgt : Int)) (k1 : y < x → zG X ad sh emb tgt lv st h o1) (k2 : ¬ (y < x) → zG X ad sh emb q lv st h o2) : zG X ad sh emb pc lv (.int y :: .int x :: st) h (@ite _ (y < x) ic o1 o2) := by
  refine g_ite (fun hc => ?_) (fun hc => ?_)
  · have k1 := k1 hc
    clear k2
    obtain ⟨p, l, e, R, s, m, args, below, meth, c, nL, D, cI, cG⟩ := X
    obtain ⟨hx, hb, hml, hown, hts, hK, hN, hlk, hr, hj, hR⟩ := C
    obtain ⟨di, rfl⟩ := i
    intro x9 hx9 H locs ls hP hS hL
    exact lv_icmp_gt hx hb di ht (fun _ => k1 x9 hx9 H locs ls hP hS hL) (fun h9 => absurd hc h9)
  · have k2 := k2 hc
    clear k1
    obtain ⟨p, l, e, R, s, m, args, below, meth, c, nL, D, cI, cG⟩ := X
    obtain ⟨hx, hb, hml, hown, hts, hK, hN, hlk, hr, hj, hR⟩ := C
    obtain ⟨di, rfl⟩ := i
    intro x9 hx9 H locs ls hP hS hL
    exact lv_icmp_gt hx hb di ht (fun h9 => absurd h9 hc) (fun _ => k2 x9 hx9 H locs ls hP hS hL)
theorem g_if_le (C : zC X ad sh cc own ret d) {x : Int32} {off : Int} (tgt : Nat) {o1 o2 : Option ρ} {ic : Decidable (x ≤ 0)} (i : zI cc pc (.ifCond .le off) 3 q) (ht : (pc : Int) + off = (tgt : Int)) (k1 : x ≤ 0 → zG X ad sh emb tgt lv st h o1) (k2 : ¬ (x ≤ 0) → zG X ad sh emb q lv st h o2) : zG X ad sh emb pc lv (.int x :: st) h (@ite _ (x ≤ 0) ic o1 o2) := by
  refine g_ite (fun hc => ?_) (fun hc => ?_)
  · have k1 := k1 hc
    clear k2
    obtain ⟨p, l, e, R, s, m, args, below, meth, c, nL, D, cI, cG⟩ := X
    obtain ⟨hx, hb, hml, hown, hts, hK, hN, hlk, hr, hj, hR⟩ := C
    obtain ⟨di, rfl⟩ := i
    intro x9 hx9 H locs ls hP hS hL
    exact lv_if_le hx hb di ht (fun _ => k1 x9 hx9 H locs ls hP hS hL) (fun h9 => absurd hc h9)
  · have k2 := k2 hc
    clear k1
    obtain ⟨p, l, e, R, s, m, args, below, meth, c, nL, D, cI, cG⟩ := X
    obtain ⟨hx, hb, hml, hown, hts, hK, hN, hlk, hr, hj, hR⟩ := C
    obtain ⟨di, rfl⟩ := i
    intro x9 hx9 H locs ls hP hS hL
    exact lv_if_le hx hb di ht (fun h9 => absurd h9 hc) (fun _ => k2 x9 hx9 H locs ls hP hS hL)
theorem g_icmp_le (C : zC X ad sh cc own ret d) {x y : Int32} {off : Int} (tgt : Nat) {o1 o2 : Option ρ} {ic : Decidable (x ≤ y)} (i : zI cc pc (.if_icmp .le off) 3 q) (ht : (pc : Int) + off = (tgt : Int)) (k1 : x ≤ y → zG X ad sh emb tgt lv st h o1) (k2 : ¬ (x ≤ y) → zG X ad sh emb q lv st h o2) : zG X ad sh emb pc lv (.int y :: .int x :: st) h (@ite _ (x ≤ y) ic o1 o2) := by
  refine g_ite (fun hc => ?_) (fun hc => ?_)
  · have k1 := k1 hc
    clear k2
    obtain ⟨p, l, e, R, s, m, args, below, meth, c, nL, D, cI, cG⟩ := X
    obtain ⟨hx, hb, hml, hown, hts, hK, hN, hlk, hr, hj, hR⟩ := C
    obtain ⟨di, rfl⟩ := i
    intro x9 hx9 H locs ls hP hS hL
    exact lv_icmp_le hx hb di ht (fun _ => k1 x9 hx9 H locs ls hP hS hL) (fun h9 => absurd hc h9)
  · have k2 := k2 hc
    clear k1
    obtain ⟨p, l, e, R, s, m, args, below, meth, c, nL, D, cI, cG⟩ := X
    obtain ⟨hx, hb, hml, hown, hts, hK, hN, hlk, hr, hj, hR⟩ := C
    obtain ⟨di, rfl⟩ := i
    intro x9 hx9 H locs ls hP hS hL
    exact lv_icmp_le hx hb di ht (fun h9 => absurd h9 hc) (fun _ => k2 x9 hx9 H locs ls hP hS hL)
theorem g_goto (C : zC X ad sh cc own ret d) {off : Int} (tgt : Nat) (i : zI cc pc (.goto off) 3 q) (ht : (pc : Int) + off = (tgt : Int)) (k : zG X ad sh emb tgt lv st h o) : zG X ad sh emb pc lv st h o := by
  obtain ⟨p, l, e, R, s, m, args, below, meth, c, nL, D, cI, cG⟩ := X
  obtain ⟨hx, hb, hml, hown, hts, hK, hN, hlk, hr, hj, hR⟩ := C
  obtain ⟨di, rfl⟩ := i
  intro x9 hx9 H locs ls hP hS hL
  exact lv_goto hx hb di ht (k x9 hx9 H locs ls hP hS hL)
end ZR
end
section
/-- a field's link, its class and place -/
def zFl (own : String) (idx ci k : Nat) : Prop := ∃ (Cn : String) (T : u_T) (N : Nat), vwCl[ci]? = some (Cn, T, N) ∧ k < N ∧ Cond.fieldLink own idx (T k).1 (T k).2.1 (T k).2.2.1 ∈ zWd ∧ (∀ w ∈ u_ws Cn T N, w ∈ zWd)
def zFp (own : String) (idx ci k : Nat) : Prop := ∃ (Cn : String) (T : u_T) (N : Nat), vwCl[ci]? = some (Cn, T, N) ∧ k < N ∧ Cond.fieldLink own idx (T k).1 (T k).2.1 (T k).2.2.1 ∈ zWd ∧ (∀ w ∈ u_ws Cn T N, w ∈ zWd) ∧ (T k).2.2.2 = false ∧ parseFieldDescriptor (T k).2.2.1 = some .int ∧ (∃ ty0 : Nat → FieldType, ∀ k, k < N → parseFieldDescriptor (T k).2.2.1 = some (ty0 k)) ∧ ∀ a, a < N → ∀ b, b < N → a ≠ b → (T a).2.1 ≠ (T b).2.1
theorem zF_at {ad : Nat → Nat} {h : zH} {a k : Nat} {fs : List (Option Nat)} {o : Option Nat} (hf : fs[k]? = some o) : (zF ad h a fs)[k]? = some (zF1 ad h a k o) := by simp [zF, List.getElem?_mapIdx, hf]
theorem upd2_ne {h : zH} {a i k : Nat} {v : Int32} (hk : k ≠ a) : upd2 h a i v k = h k := by simp [upd2, hk]
theorem upd2_eq {h : zH} {a i : Nat} {v : Int32} : upd2 h a i v a = upd (h a) i v := by simp [upd2]
theorem zF_set {ad : Nat → Nat} {h : zH} {a k : Nat} {fs : List (Option Nat)} {v : Int32} (hf : fs[k]? = some none) : (zF ad h a fs).set k (.int v) = zF ad (upd2 h a k v) a fs := by
  apply List.ext_getElem?
  intro j
  have hl := (List.getElem?_eq_some_iff.mp hf).1
  by_cases hj : j = k
  · subst hj
    rw [List.getElem?_set_self (by simpa [zF] using hl), zF_at hf]
    simp [zF1, upd2_eq, upd]
  · rw [List.getElem?_set_ne (Ne.symm hj)]
    simp only [zF, List.getElem?_mapIdx]
    cases fs[j]? with
    | none => rfl
    | some o => cases o <;> simp [zF1, upd2_eq, upd, hj]
def zTg (pc : Nat) (dflt lo hi : Int) (offs : Array Int) (x : Int32) : Int := if x.toInt < lo ∨ hi < x.toInt then (pc : Int) + dflt else match offs[(x.toInt - lo).toNat]? with
  | some off => (pc : Int) + off
  | none => -1
theorem zTg_def {pc : Nat} {dflt lo hi : Int} {offs : Array Int} {x : Int32} (ks : List Int) (hk : ∀ k ∈ ks, ¬ x.toInt = k) (hc : (List.range ((hi - lo).toNat + 1)).all (fun j => ks.contains (lo + j) || offs[j]? == some dflt) = true) : zTg pc dflt lo hi offs x = (pc : Int) + dflt := by
  unfold zTg
  split
  · rfl
  · rename_i hn
    have h1 : lo ≤ x.toInt := by omega
    have h2 : x.toInt ≤ hi := by omega
    have h3 := List.all_eq_true.mp hc (x.toInt - lo).toNat (List.mem_range.mpr (by omega))
    rcases Bool.or_eq_true_iff.mp h3 with h4 | h4
    · have e : lo + ((x.toInt - lo).toNat : Int) = x.toInt := by omega
      rw [e] at h4
      exact absurd rfl (hk _ (by simpa using h4))
    · have h5 : offs[(x.toInt - lo).toNat]? = some dflt := by simpa using h4
      rw [h5]
section ZR2
variable {ρ : Type} {X : zX} {ad : Nat → Nat} {sh : List zK} {cc : ByteArray} {own : String} {ret : Option FieldType} {d : Nat} {emb : ρ → Option Value × zH} {pc q : Nat} {lv : List (Option Value)} {st : List Value} {h : zH} {o : Option ρ}
theorem g_getI (C : zC X ad sh cc own ret d) {idx ci k a : Nat} {fs : List (Option Nat)} (f : zFl own idx ci k) (i : zI cc pc (.getfield idx) 3 q) (ha : sh[a]? = some (.inr (.inl (ci, fs)))) (hf : fs[k]? = some none) (kt : zG X ad sh emb q lv (.int (h a k) :: st) h o) : zG X ad sh emb pc lv (.ref (ad a) :: st) h o := by
  obtain ⟨p, l, e, R, s, m, args, below, meth, c, nL, D, cI, cG⟩ := X
  obtain ⟨hx, hb, hml, hown, hts, hK, hN, hlk, hr, hj, hR⟩ := C
  obtain ⟨di, rfl⟩ := i
  obtain ⟨Cn, T, N, f1, f2, f3, f4⟩ := f
  intro x9 hx9 H locs ls hP hS hL
  exact va_get hx hb hts f4 hown hK hP a (zW_at ha) f1 k f2 (hts _ f3) (fun _ h9 => h9) (zF_at hf) di (kt x9 hx9 H locs ls hP hS hL)
theorem g_getR (C : zC X ad sh cc own ret d) {idx ci k a b : Nat} {fs : List (Option Nat)} (f : zFl own idx ci k) (i : zI cc pc (.getfield idx) 3 q) (ha : sh[a]? = some (.inr (.inl (ci, fs)))) (hf : fs[k]? = some (some b)) (kt : zG X ad sh emb q lv (.ref (ad b) :: st) h o) : zG X ad sh emb pc lv (.ref (ad a) :: st) h o := by
  obtain ⟨p, l, e, R, s, m, args, below, meth, c, nL, D, cI, cG⟩ := X
  obtain ⟨hx, hb, hml, hown, hts, hK, hN, hlk, hr, hj, hR⟩ := C
  obtain ⟨di, rfl⟩ := i
  obtain ⟨Cn, T, N, f1, f2, f3, f4⟩ := f
  intro x9 hx9 H locs ls hP hS hL
  exact va_get hx hb hts f4 hown hK hP a (zW_at ha) f1 k f2 (hts _ f3) (fun _ h9 => h9) (zF_at hf) di (kt x9 hx9 H locs ls hP hS hL)
theorem g_putI (C : zC X ad sh cc own ret d) {idx ci k a : Nat} {fs : List (Option Nat)} {v : Int32} {ko : zH → Option ρ} (f : zFp own idx ci k) (i : zI cc pc (.putfield idx) 3 q) (ha : sh[a]? = some (.inr (.inl (ci, fs)))) (hf : fs[k]? = some none) (kt : ∀ h', zG X ad sh emb q lv st h' (ko h')) : zG X ad sh emb pc lv (.int v :: .ref (ad a) :: st) h (zlet (upd2 h a k v) ko) := by
  have kt := kt (upd2 h a k v)
  obtain ⟨p, l, e, R, s, m, args, below, meth, c, nL, D, cI, cG⟩ := X
  obtain ⟨hx, hb, hml, hown, hts, hK, hN, hlk, hr, hj, hR⟩ := C
  obtain ⟨di, rfl⟩ := i
  obtain ⟨Cn, T, N, f1, f2, f3, f4, f5, f6, ⟨ty0, f7⟩, f8⟩ := f
  intro x9 hx9 H locs ls hP hS hL
  refine va_put (ty := .int) hx hb hts f4 ty0 f7 f8 hown hK hP hj.D hS a (zW_at ha) f1 k f2 (hts _ f3) (fun _ h9 => h9) f5 f6 rfl rfl (by simpa [zF] using (List.getElem?_eq_some_iff.mp hf).1) di (fun H1 locs1 hP1 _ hS1 => ?_)
  refine kt x9 hx9 H1 locs1 ls ?_ hS1 hL
  rw [zF_set hf] at hP1
  rw [← zW_set (h := h) (h' := upd2 h a k v) ha (fun k hk => upd2_ne hk)]
  exact hP1
theorem g_iaload (C : zC X ad sh cc own ret d) {a n : Nat} {j : Int32} (i : zI cc pc .iaload 1 q) (ha : sh[a]? = some (.inl n)) (kt : zG X ad sh emb q lv (.int (h a j.toNatClampNeg) :: st) h o) : zG X ad sh emb pc lv (.int j :: .ref (ad a) :: st) h (gd (zr j n) o) := by
  obtain ⟨p, l, e, R, s, m, args, below, meth, c, nL, D, cI, cG⟩ := X
  obtain ⟨hx, hb, hml, hown, hts, hK, hN, hlk, hr, hj, hR⟩ := C
  obtain ⟨di, rfl⟩ := i
  intro x9 hx9 H locs ls hP hS hL
  obtain ⟨hg, hx9⟩ := gd_some hx9
  exact va_iald hx hb hK hP a 0 (zW_at ha) rfl (zr_in hg) di (kt x9 hx9 H locs ls hP hS hL)
theorem g_iastore (C : zC X ad sh cc own ret d) {a n : Nat} {j v : Int32} {ko : zH → Option ρ} (i : zI cc pc .iastore 1 q) (ha : sh[a]? = some (.inl n)) (kt : ∀ h', zG X ad sh emb q lv st h' (ko h')) : zG X ad sh emb pc lv (.int v :: .int j :: .ref (ad a) :: st) h (gd (zr j n) (zlet (upd2 h a j.toNatClampNeg v) ko)) := by
  have kt := kt (upd2 h a j.toNatClampNeg v)
  obtain ⟨p, l, e, R, s, m, args, below, meth, c, nL, D, cI, cG⟩ := X
  obtain ⟨hx, hb, hml, hown, hts, hK, hN, hlk, hr, hj, hR⟩ := C
  obtain ⟨di, rfl⟩ := i
  intro x9 hx9 H locs ls hP hS hL
  obtain ⟨hg, hx9⟩ := gd_some hx9
  refine va_iast hx hb hK hP hj.D hS a 0 (zW_at ha) rfl (zr_in hg) di (fun H1 locs1 hP1 _ hS1 => ?_)
  refine kt x9 hx9 H1 locs1 ls ?_ hS1 hL
  rw [← upd2_eq (h := h) (a := a)] at hP1
  rw [← zW_set (h := h) (h' := upd2 h a j.toNatClampNeg v) ha (fun k hk => upd2_ne hk)]
  exact hP1
theorem g_aaload (C : zC X ad sh cc own ret d) {a : Nat} {L : List Nat} {j : Int32} (i : zI cc pc .aaload 1 q) (ha : sh[a]? = some (.inr (.inr L))) (kt : zr j L.length = true → zG X ad sh emb q lv (.ref (ad (L.getD j.toNatClampNeg 0)) :: st) h o) : zG X ad sh emb pc lv (.int j :: .ref (ad a) :: st) h (gd (zr j L.length) o) := by
  obtain ⟨p, l, e, R, s, m, args, below, meth, c, nL, D, cI, cG⟩ := X
  obtain ⟨hx, hb, hml, hown, hts, hK, hN, hlk, hr, hj, hR⟩ := C
  obtain ⟨di, rfl⟩ := i
  intro x9 hx9 H locs ls hP hS hL
  obtain ⟨hg, hx9⟩ := gd_some hx9
  have hlt : j.toNatClampNeg < L.length := Nat.not_le.mp fun q => zr_in hg (Or.inr q)
  refine va_aldq (C := RX1) hx hb hK hP a 1 (zW_at ha) rfl (zr_in hg) di ?_
  have e1 : va_rf ((L[j.toNatClampNeg]?).map ad) = .ref (ad (L.getD j.toNatClampNeg 0)) := by
    simp [List.getD_eq_getElem?_getD, List.getElem?_eq_getElem hlt, va_rf]
  show W _ _ _ _ _ _ _ _ _ _ _ _ _ _ _ (F0 _ _ _ (va_rf ((L[j.toNatClampNeg]?).map ad) :: _))
  rw [e1]
  exact kt hg x9 hx9 H locs ls hP hS hL
theorem g_tab (C : zC X ad sh cc own ret d) {dflt lo hi : Int} {offs : Array Int} {n : Nat} {x : Int32} (tgt : Nat) (i : zI cc pc (.tableswitch dflt lo hi offs) n q) (ht : zTg pc dflt lo hi offs x = (tgt : Int)) (k : zG X ad sh emb tgt lv st h o) : zG X ad sh emb pc lv (.int x :: st) h o := by
  obtain ⟨p, l, e, R, s, m, args, below, meth, c, nL, D, cI, cG⟩ := X
  obtain ⟨hx, hb, hml, hown, hts, hK, hN, hlk, hr, hj, hR⟩ := C
  obtain ⟨di, rfl⟩ := i
  intro x9 hx9 H locs ls hP hS hL
  have k := k x9 hx9 H locs ls hP hS hL
  unfold zTg at ht
  split at ht
  · rename_i hc
    exact lv_tableOut hx hb di hc ht k
  · rename_i hc
    split at ht
    · rename_i off ho
      exact lv_tableIn hx hb di (fun z => hc (Or.inl z)) (fun z => hc (Or.inr z)) ho ht k
    · omega
theorem g_iret (C : zC X ad sh cc own (some .int) d) {v : Int32} {x : ρ} (i : zI cc pc .ireturn 1 q) (he : emb x = (some (.int v), h)) : zG X ad sh emb pc lv [.int v] h (some x) := by
  obtain ⟨p, l, e, R, s, m, args, below, meth, c, nL, D, cI, cG⟩ := X
  obtain ⟨hx, hb, hml, hown, hts, hK, hN, hlk, hr, hj, hR⟩ := C
  obtain ⟨di, rfl⟩ := i
  intro x9 hx9 H locs ls hP hS hL
  cases hx9
  rw [he]
  exact W.iret hx hb hr (fun t ht hW => ⟨rfl, by rw [ht]; exact hP, hS.F ht⟩) hS.2.2 di hlk
theorem g_zret (C : zC X ad sh cc own (some .boolean) d) {v : Int32} {x : ρ} (i : zI cc pc .ireturn 1 q) (hn : narrow .boolean (.int v) = .int v) (he : emb x = (some (.int v), h)) : zG X ad sh emb pc lv [.int v] h (some x) := by
  obtain ⟨p, l, e, R, s, m, args, below, meth, c, nL, D, cI, cG⟩ := X
  obtain ⟨hx, hb, hml, hown, hts, hK, hN, hlk, hr, hj, hR⟩ := C
  obtain ⟨di, rfl⟩ := i
  intro x9 hx9 H locs ls hP hS hL
  cases hx9
  rw [he]
  exact W.zret hx hb hr hn (fun t ht hW => ⟨rfl, by rw [ht]; exact hP, hS.F ht⟩) hS.2.2 di hlk
def zb (v : Int32) : Bool := decide (v = 0 ∨ v = 1)
theorem g_zretG (C : zC X ad sh cc own (some .boolean) d) {v : Int32} {x : ρ} (i : zI cc pc .ireturn 1 q) (he : emb x = (some (.int v), h)) : zG X ad sh emb pc lv [.int v] h (gd (zb v) (some x)) := by
  by_cases hv : v = 0 ∨ v = 1
  · rw [show zb v = true from decide_eq_true hv]
    refine g_zret C i ?_ he
    rcases hv with rfl | rfl <;> rfl
  · rw [show zb v = false from decide_eq_false hv]
    exact g_none
theorem g_vret (C : zC X ad sh cc own none d) {x : ρ} (i : zI cc pc .return_ 1 q) (he : emb x = (none, h)) : zG X ad sh emb pc lv [] h (some x) := by
  obtain ⟨p, l, e, R, s, m, args, below, meth, c, nL, D, cI, cG⟩ := X
  obtain ⟨hx, hb, hml, hown, hts, hK, hN, hlk, hr, hj, hR⟩ := C
  obtain ⟨di, rfl⟩ := i
  intro x9 hx9 H locs ls hP hS hL
  cases hx9
  rw [he]
  exact W.vret hx hb hr (fun t ht hW => ⟨rfl, by rw [ht]; exact hP, hS.F ht⟩) hS.2.2 di hlk
theorem g_bindI {e0 : Int32} {lvf : Int32 → List (Option Value)} {stf : Int32 → List Value} {ko : Int32 → Option ρ} (k : ∀ v, zG X ad sh emb pc (lvf v) (stf v) h (ko v)) : zG X ad sh emb pc (lvf e0) (stf e0) h (zlet e0 ko) := k e0
end ZR2
end
section
/-- what a method's caller must hold, and the contract of a method: its function's value -/
def zPc (D : va_G) (cI cG : ClassId) (ad : Nat → Nat) (sh : List zK) (h : zH) (U : State) : Prop := va_P D vwCl (zW cI cG ad sh h) U.heap ∧ va_K D vwCl (zTy cI cG) U ∧ zNw U
def zM {ρ : Type} (y : MethodName) (bytes : ByteArray) (maxL : Nat) (ret : Option FieldType) (d : Nat) (sh : List zK) (av : (Nat → Nat) → List Value) (h : zH) (emb : ρ → Option Value × zH) (o : Option ρ) : Prop :=
  ∀ x, o = some x → ∀ (l : Launch) (D : va_G) (cI cG : ClassId) (ad : Nat → Nat), zJ ad sh → Met l y (Cond.code y bytes maxL ret :: zWd) (zR d) (va_Pc (av ad) (zPc D cI cG ad sh h)) (zQ D cI cG ad sh (emb x)) 0 0 (zA ad sh)
def zlv0 (vs : List Value) (n : Nat) : List (Option Value) := vs.map some ++ List.replicate (n - vs.length) none
theorem lg_sl1 : ∀ (vs : List Value), (∀ v ∈ vs, v.category = 1) → lg_sl vs = vs.map Slot.val
  | [], _ => rfl
  | v :: vs, h => by
    have h1 : v.category = 1 := h v List.mem_cons_self
    have ih := lg_sl1 vs (fun w hw => h w (List.mem_cons_of_mem _ hw))
    show (v :: vs).flatMap _ = _
    rw [List.flatMap_cons, if_neg (by omega)]
    show Slot.val v :: lg_sl vs = _
    rw [ih, List.map_cons]
theorem zL_entry {vs : List Value} {n : Nat} (hc : ∀ v ∈ vs, v.category = 1) (hn : vs.length ≤ n) : zL ((lg_sl vs ++ List.replicate (n - (lg_sl vs).length) Slot.unset).toArray) n (zlv0 vs n) := by
  have e := lg_sl1 vs hc
  have hl : (lg_sl vs).length = vs.length := by rw [e, List.length_map]
  have h0 := lv_entry vs (n := n) (by rw [hl]; exact hn)
  refine ⟨h0.1, h0.2.1, fun k v hk => ?_⟩
  by_cases hk2 : k < vs.length
  · rw [zlv0, List.getElem?_append_left (by simpa using hk2), List.getElem?_map, List.getElem?_eq_getElem hk2] at hk
    simp only [Option.map_some, Option.some.injEq] at hk
    refine ⟨?_, by rw [← hk]; exact hc _ (List.getElem_mem hk2)⟩
    rw [List.getElem?_toArray, e, List.getElem?_append_left (by simpa using hk2), List.getElem?_map, List.getElem?_eq_getElem hk2, ← hk]
    rfl
  · rw [zlv0, List.getElem?_append_right (by simpa using hk2), List.getElem?_replicate] at hk
    split at hk
    · simp at hk
    · cases hk
theorem zM.of {ρ : Type} {y : MethodName} {bytes : ByteArray} {maxL : Nat} {ret : Option FieldType} {d : Nat} {sh : List zK} {av : (Nat → Nat) → List Value} {h : zH} {emb : ρ → Option Value × zH} {o : Option ρ} (hy : plainName y.cls = true) (hc : ∀ ad, ∀ v ∈ av ad, v.category = 1) (hn : ∀ ad, (av ad).length ≤ maxL)
    (k : ∀ (X : zX) (ad : Nat → Nat), maxL = X.2.2.2.2.2.2.2.2.2.2.1 → zC X ad sh bytes y.cls ret d → zG X ad sh emb 0 (zlv0 (av ad) maxL) [] h o) : zM y bytes maxL ret d sh av h emb o := by
  intro x hx l D cI cG ad hj
  refine Met.ofW (cc := bytes) (maxL := maxL) (ret := ret) hy rfl ?_
  intro p e s m args below meth c s₁ B hml hv
  obtain ⟨rfl, hP, hK, hN⟩ := hv
  have hts := atoms_spec (ws := Cond.code y bytes maxL ret :: zWd) B.pre
  have kk := k (p, l, e, zR d, s, m, (av ad).toArray, below, meth, c, maxL, D, cI, cG) ad rfl ⟨B.exec, B.bytes, hml, findClass_of_methodNamed B.named, fun w hw => hts w (List.mem_cons_of_mem _ hw), hK, hN, B.notSynchronized, B.returns, hj, rfl⟩
  rw [lg_entry_eq]
  exact kk x hx s.heap [] _ hP va_S.rf (zL_entry (hc ad) (hn ad))
/-- the words of a call -/
def zCk (own : String) (idx : Nat) (y : MethodName) (bytes : ByteArray) (maxL : Nat) (ret : Option FieldType) (n : Nat) : Prop := Cond.methodLink own idx y ∈ zWd ∧ Cond.initialized y.cls ∈ zWd ∧ Cond.code y bytes maxL ret ∈ zWd ∧ (y.cls ≠ "java/lang/invoke/MethodHandle" ∧ y.cls ≠ "java/lang/invoke/VarHandle" ∧ (parseMethodDescriptor y.desc).map (fun d => d.parameters.length) = some n) ∧ maxL ≤ 16
def zCv (own : String) (idx : Nat) (y : MethodName) (bytes : ByteArray) (maxL : Nat) (ret : Option FieldType) (n : Nat) : Prop := zCk own idx y bytes maxL ret n ∧ Cond.instanceMethod y ∈ zWd ∧ Cond.selects y.cls y y ∈ zWd
def zCs (own : String) (idx : Nat) (y : MethodName) (bytes : ByteArray) (maxL : Nat) (ret : Option FieldType) (n : Nat) : Prop := zCk own idx y bytes maxL ret n ∧ Cond.static y ∈ zWd
def zCn (own : String) (idx : Nat) (y : MethodName) (bytes : ByteArray) (maxL : Nat) (ret : Option FieldType) (n : Nat) : Prop := (own, idx, y) ∈ zNs ∧ Cond.initialized y.cls ∈ zWd ∧ Cond.code y bytes maxL ret ∈ zWd ∧ (y.cls ≠ "java/lang/invoke/MethodHandle" ∧ y.cls ≠ "java/lang/invoke/VarHandle" ∧ (parseMethodDescriptor y.desc).map (fun d => d.parameters.length) = some n) ∧ maxL ≤ 16 ∧ Cond.static y ∈ zWd
theorem z_goodT {b : Cond} (hb : b ∈ zWd) : GoodIn zWd (b :: zWd) := by
  have k : ∀ w ∈ zWd, (w.onTables && w.keeps) = true ∨ ∃ ty, w = .arrayClass ty := fun w h => good_of_word (List.mem_filter.mp h).2
  intro w hw
  rcases List.mem_cons.mp hw with h | h
  · subst h; exact ⟨hb, k _ hb⟩
  · exact ⟨h, k _ h⟩
theorem zPc_blind {D : va_G} {cI cG : ClassId} {ad : Nat → Nat} {sh : List zK} {h : zH} {as : List Value} : FrameBlind (va_Pc as (zPc D cI cG ad sh h)) := fun a U g mk q => by
  obtain ⟨q0, qP, qK, qN⟩ := q
  exact ⟨q0, qP, va_K.moved (u := U) (U := U.calling g mk a) (Vm.Alike.refl U.vm) qK, qN.same rfl⟩
section ZC
variable {p : Program} {l : Launch} {e : Env} {R : Room} {s : State} {m : MethodId} {args : Array Value} {below : List Frame} {meth : Method} {c : Code} {H : Heap} {locs : List Loc} {Q : State → Prop}
/-- behind a call -/
theorem z_after {D : va_G} {cI cG : ClassId} {ad : Nat → Nat} {sh : List zK} {y : Option Value × zH} {pc : Nat} {ls : Array Slot} {st0 rest : List Value} {a : Array Value} {H0 : Heap} (hr : va_Run p l e R s m args below meth c H locs 0 0 0 0 (F0 m pc ls st0) rest (zQ D cI cG ad sh y a) (zA ad sh)) (hS : va_S (zA ad sh) H0 H locs)
    (kk : ∀ (H1 : Heap) (locs1 : List Loc), va_P D vwCl (zW cI cG ad sh y.2) H1 → va_S (zA ad sh) H0 H1 locs1 → W p l e R s m args below meth c H1 locs1 0 0 Q (F0 m (pc + 3) ls (y.1.toList ++ rest))) : W p l e R s m args below meth c H locs 0 0 Q (F0 m pc ls st0) := by
  intro T hT X
  obtain ⟨v, st₀, t, T', L, h0, X', hL, e1, e2, ⟨hv, hp, hz, hk⟩, st⟩ := hr T hT X
  cases hv
  rw [h0] at hz hk
  obtain ⟨t2, a1, b1⟩ := kk T'.heap (locs ++ L) (by rw [e1]; exact hp)
    ⟨Nat.le_trans hS.1 (by rw [e1]; exact hz), fun q h1 h2 => by rw [e1, hk q (Nat.lt_of_lt_of_le h1 hS.1) h2]; exact hS.2.1 q h1 h2, fun q hq => by
      rcases List.mem_append.mp hq with h | h
      · exact hS.2.2 q h
      · exact hL q h⟩ T' rfl X'
  exact ⟨t2, st t2 a1, b1⟩
end ZC
section ZR3
variable {ρ : Type} {X : zX} {ad : Nat → Nat} {sh : List zK} {cc : ByteArray} {own : String} {ret : Option FieldType} {d : Nat} {emb : ρ → Option Value × zH} {pc q : Nat} {lv : List (Option Value)} {st : List Value} {h : zH} {o : Option ρ}
variable {σ : Type} {y : MethodName} {bytes : ByteArray} {maxL idx n d' : Nat} {rt : Option FieldType} {embc : σ → Option Value × zH} {oc : Option σ} {ko : σ → Option ρ} {av : (Nat → Nat) → List Value} {As st0 : List Value}
theorem g_callV (C : zC X ad sh cc own ret d) (w : zCv own idx y bytes maxL rt n) (i : zI cc pc (.invokevirtual idx) 3 q) (hM : zM y bytes maxL rt d' sh av h embc oc) (hd : d' + 1 ≤ d) {a ci : Nat} {fs : List (Option Nat)} {T : u_T} {N : Nat} (ha : sh[a]? = some (.inr (.inl (ci, fs)))) (hci : vwCl[ci]? = some (y.cls, T, N)) (hav : av ad = .ref (ad a) :: As) (hn : As.length = n) (hst : st0 = As.reverse ++ .ref (ad a) :: st) (hrm : (st.map fun v => v.category).sum ≤ 8)
    (k : ∀ x, zG X ad sh emb q lv ((embc x).1.toList ++ st) (embc x).2 (ko x)) : zG X ad sh emb pc lv st0 h (oc.bind ko) := by
  obtain ⟨p, l, e, R, s, m, args, below, meth, c, nL, D, cI, cG⟩ := X
  obtain ⟨hx, hb, hml, hown, hts, hK, hN, hlk, hr, hj, hR⟩ := C
  obtain ⟨di, rfl⟩ := i
  obtain ⟨⟨w1, w2, w3, w4, w5⟩, w6, w7⟩ := w
  subst hR
  intro x9 hx9 H locs ls hP hS hL
  obtain ⟨x8, hx8, hx9⟩ := Option.bind_eq_some_iff.mp hx9
  have M := hM x8 hx8 l D cI cG ad hj
  rw [hav] at M
  have hcw : CallW (zR d) s args own y.cls idx y bytes maxL rt (Cond.code y bytes maxL rt :: zWd) (zR d') 0 0 n := ⟨callB_of n hts (z_goodT w3) rfl rfl rfl (hts _ w2) (hts _ w1) w4 ⟨hd, by show 8 + (maxL + 11) + 35 * d' ≤ 35 * d; omega⟩, hts _ w6, hts _ w7⟩
  refine z_after (va_runV (Ts := zWd) (As := As) (rest := st) ⟨hx, hb, hml, hown, hts⟩ M hcw ⟨zPc_blind, va_recv hK hP hci (zW_at ha), fun U hU hW => ⟨rfl, by rw [hU]; exact hP, va_K.moved hW.alike hK, hN.warm hW⟩⟩ rfl hn hL.1 hst (lv_room hrm) di ⟨Nat.zero_le _, Nat.zero_le _⟩) hS (fun H1 locs1 hP1 hS1 => ?_)
  exact k x8 x9 hx9 H1 locs1 ls hP1 hS1 hL
theorem g_callS (C : zC X ad sh cc own ret d) (w : zCs own idx y bytes maxL rt n) (i : zI cc pc (.invokestatic idx) 3 q) (hM : zM y bytes maxL rt d' sh av h embc oc) (hd : d' + 1 ≤ d) (hav : av ad = As) (hn : As.length = n) (hst : st0 = As.reverse ++ st) (hrm : (st.map fun v => v.category).sum ≤ 8)
    (k : ∀ x, zG X ad sh emb q lv ((embc x).1.toList ++ st) (embc x).2 (ko x)) : zG X ad sh emb pc lv st0 h (oc.bind ko) := by
  obtain ⟨p, l, e, R, s, m, args, below, meth, c, nL, D, cI, cG⟩ := X
  obtain ⟨hx, hb, hml, hown, hts, hK, hN, hlk, hr, hj, hR⟩ := C
  obtain ⟨di, rfl⟩ := i
  obtain ⟨⟨w1, w2, w3, w4, w5⟩, w6⟩ := w
  subst hR
  intro x9 hx9 H locs ls hP hS hL
  obtain ⟨x8, hx8, hx9⟩ := Option.bind_eq_some_iff.mp hx9
  have M := hM x8 hx8 l D cI cG ad hj
  rw [hav] at M
  refine z_after (va_runS (Ts := zWd) (As := As) (rest := st) (n := n) ⟨hx, hb, hml, hown, hts⟩ M ⟨callB_of n hts (z_goodT w3) rfl rfl rfl (hts _ w2) (hts _ w1) w4 ⟨hd, by show 8 + (maxL + 11) + 35 * d' ≤ 35 * d; omega⟩, hts _ w6⟩ ⟨zPc_blind, fun U hU hW => ⟨rfl, by rw [hU]; exact hP, va_K.moved hW.alike hK, hN.warm hW⟩⟩ rfl hn hL.1 hst (lv_room hrm) di ⟨Nat.zero_le _, Nat.zero_le _⟩) hS (fun H1 locs1 hP1 hS1 => ?_)
  exact k x8 x9 hx9 H1 locs1 ls hP1 hS1 hL
theorem g_callN (C : zC X ad sh cc own ret d) (w : zCn own idx y bytes maxL rt n) (i : zI cc pc (.invokestatic idx) 3 q) (hM : zM y bytes maxL rt d' sh av h embc oc) (hd : d' + 1 ≤ d) (hav : av ad = As) (hn : As.length = n) (hst : st0 = As.reverse ++ st) (hrm : (st.map fun v => v.category).sum ≤ 8)
    (k : ∀ x, zG X ad sh emb q lv ((embc x).1.toList ++ st) (embc x).2 (ko x)) : zG X ad sh emb pc lv st0 h (oc.bind ko) := by
  obtain ⟨p, l, e, R, s, m, args, below, meth, c, nL, D, cI, cG⟩ := X
  obtain ⟨hx, hb, hml, hown, hts, hK, hN, hlk, hr, hj, hR⟩ := C
  obtain ⟨di, rfl⟩ := i
  obtain ⟨w1, w2, w3, w4, w5, w6⟩ := w
  subst hR
  intro x9 hx9 H locs ls hP hS hL
  obtain ⟨x8, hx8, hx9⟩ := Option.bind_eq_some_iff.mp hx9
  have M := hM x8 hx8 l D cI cG ad hj
  rw [hav] at M
  refine z_after (va_runSN (Ts := zWd) (As := As) (rest := st) (n := n) (host := "ShedStages") ⟨hx, hb, hml, hown, hts⟩ M ⟨va_cnB n hts (z_goodT w3) rfl rfl rfl (hN _ w1) (hts _ w2) w4 ⟨hd, by show 8 + (maxL + 11) + 35 * d' ≤ 35 * d; omega⟩, hts _ w6, trivial⟩ ⟨zPc_blind, fun U hU hW => ⟨rfl, by rw [hU]; exact hP, va_K.moved hW.alike hK, hN.warm hW⟩⟩ rfl hn hL.1 hst (lv_room hrm) di ⟨Nat.zero_le _, Nat.zero_le _⟩) hS (fun H1 locs1 hP1 hS1 => ?_)
  exact k x8 x9 hx9 H1 locs1 ls hP1 hS1 hL
def zMw (own : String) (idx : Nat) (y : MethodName) (bytes : ByteArray) (maxL : Nat) : Prop := Cond.methodLink own idx y ∈ zWd ∧ Cond.static y ∈ zWd ∧ Cond.initialized "java/lang/Math" ∈ zWd ∧ Cond.code y bytes maxL (some .int) ∈ zWd
theorem g_min (C : zC X ad sh cc own ret d) {x z : Int32} (w : zMw own idx Lib.Math.min.name Lib.Math.min.code 2) (i : zI cc pc (.invokestatic idx) 3 q) (hd : 1 ≤ d) (hrm : (st.map fun v => v.category).sum ≤ 8) (k : zG X ad sh emb q lv (.int (zmin x z) :: st) h o) : zG X ad sh emb pc lv (.int z :: .int x :: st) h o := by
  obtain ⟨p, l, e, R, s, m, args, below, meth, c, nL, D, cI, cG⟩ := X
  obtain ⟨hx, hb, hml, hown, hts, hK, hN, hlk, hr, hj, hR⟩ := C
  obtain ⟨di, rfl⟩ := i
  obtain ⟨w1, w2, w3, w4⟩ := w
  subst hR
  intro x9 hx9 H locs ls hP hS hL
  exact va_mmin hx hb (hml.trans hL.1.symm) hown (hts _ w1) (hts _ w2) (hts _ w3) (hts _ w4) hd (by show _ ≤ 35 * d; omega) (Nat.zero_le _) (Nat.zero_le _) di (k x9 hx9 H locs ls hP hS hL)
theorem g_max (C : zC X ad sh cc own ret d) {x z : Int32} (w : zMw own idx Lib.Math.max.name Lib.Math.max.code 2) (i : zI cc pc (.invokestatic idx) 3 q) (hd : 1 ≤ d) (hrm : (st.map fun v => v.category).sum ≤ 8) (k : zG X ad sh emb q lv (.int (zmax x z) :: st) h o) : zG X ad sh emb pc lv (.int z :: .int x :: st) h o := by
  obtain ⟨p, l, e, R, s, m, args, below, meth, c, nL, D, cI, cG⟩ := X
  obtain ⟨hx, hb, hml, hown, hts, hK, hN, hlk, hr, hj, hR⟩ := C
  obtain ⟨di, rfl⟩ := i
  obtain ⟨w1, w2, w3, w4⟩ := w
  subst hR
  intro x9 hx9 H locs ls hP hS hL
  exact va_mmax hx hb (hml.trans hL.1.symm) hown (hts _ w1) (hts _ w2) (hts _ w3) (hts _ w4) hd (by show _ ≤ 35 * d; omega) (Nat.zero_le _) (Nat.zero_le _) di (k x9 hx9 H locs ls hP hS hL)
theorem g_abs (C : zC X ad sh cc own ret d) {x : Int32} (w : zMw own idx Lib.Math.abs.name Lib.Math.abs.code 1) (i : zI cc pc (.invokestatic idx) 3 q) (hd : 1 ≤ d) (hrm : (st.map fun v => v.category).sum ≤ 8) (k : zG X ad sh emb q lv (.int (zabs x) :: st) h o) : zG X ad sh emb pc lv (.int x :: st) h o := by
  obtain ⟨p, l, e, R, s, m, args, below, meth, c, nL, D, cI, cG⟩ := X
  obtain ⟨hx, hb, hml, hown, hts, hK, hN, hlk, hr, hj, hR⟩ := C
  obtain ⟨di, rfl⟩ := i
  obtain ⟨w1, w2, w3, w4⟩ := w
  subst hR
  intro x9 hx9 H locs ls hP hS hL
  exact va_mabs hx hb (hml.trans hL.1.symm) hown (hts _ w1) (hts _ w2) (hts _ w3) (hts _ w4) hd (by show _ ≤ 35 * d; omega) (Nat.zero_le _) (Nat.zero_le _) di (k x9 hx9 H locs ls hP hS hL)
def zCp (own : String) (idx : Nat) : Prop := Cond.methodLink own idx arraycopyName ∈ zWd ∧ Cond.native arraycopyName ∈ zWd ∧ Cond.static arraycopyName ∈ zWd ∧ Cond.initialized "java/lang/System" ∈ zWd
/-- the row b becomes the first n of the row a -/
def cpy2 (h : zH) (a b n : Nat) : zH := fun k => if k = b then va_cpy (h a) (h b) 0 0 n else h k
theorem g_copy (C : zC X ad sh cc own ret d) {a b na nb nn : Nat} {n0 : Int32} {ko : zH → Option ρ} (w : zCp own idx) (i : zI cc pc (.invokestatic idx) 3 q) (hd : 2 ≤ d) (hrm : (st.map fun v => v.category).sum ≤ 8) (ha : sh[a]? = some (.inl na)) (hb2 : sh[b]? = some (.inl nb)) (hn : n0.toNatClampNeg = nn) (h0 : ¬ n0 < 0) (h1 : nn ≤ na) (h2 : nn ≤ nb) (kt : ∀ h', zG X ad sh emb q lv st h' (ko h')) : zG X ad sh emb pc lv (.int n0 :: .int 0 :: .ref (ad b) :: .int 0 :: .ref (ad a) :: st) h (zlet (cpy2 h a b nn) ko) := by
  have kt := kt (cpy2 h a b nn)
  obtain ⟨p, l, e, R, s, m, args, below, meth, c, nL, D, cI, cG⟩ := X
  obtain ⟨hx, hb, hml, hown, hts, hK, hN, hlk, hr, hj, hR⟩ := C
  obtain ⟨di, rfl⟩ := i
  obtain ⟨w1, w2, w3, w4⟩ := w
  subst hR
  subst hn
  intro x9 hx9 H locs ls hP hS hL
  refine va_copyi (ty := .int) hx hb (hml.trans hL.1.symm) hown (hts _ w1) (hts _ w2) (hts _ w3) (hts _ w4) hK hP hj.D hS a b 0 0 (zW_at ha) (zW_at hb2) rfl rfl rfl (by decide) (by decide) h0 (by simpa using h1) (by simpa using h2) (fun _ _ => rfl) (by show 1 ≤ d; omega) (by
    have e1 : nativeFrameWords "java/lang/System" "arraycopy" 5 + 11 ≤ 50 := by decide +kernel
    show _ ≤ 35 * d; omega) di (fun H1 locs1 hP1 _ hS1 => ?_)
  refine kt x9 hx9 H1 locs1 ls ?_ hS1 hL
  rw [← zW_set (h := h) (h' := cpy2 h a b n0.toNatClampNeg) hb2 (fun k hk => by simp [cpy2, hk])]
  have e2 : cpy2 h a b n0.toNatClampNeg b = va_cpy (h a) (h b) 0 0 n0.toNatClampNeg := by simp [cpy2]
  show va_P D vwCl ((zW cI cG ad sh h).set b (ad b, .inl (cI, nb, .inl (cpy2 h a b n0.toNatClampNeg b)))) H1
  rw [e2]
  exact hP1
theorem g_ldc (C : zC X ad sh cc own ret d) {v : Int32} (w : Cond.constant own idx v ∈ zWd) (i : zI cc pc (.ldc idx) 2 q) (k : zG X ad sh emb q lv (.int v :: st) h o) : zG X ad sh emb pc lv st h o := by
  obtain ⟨p, l, e, R, s, m, args, below, meth, c, nL, D, cI, cG⟩ := X
  obtain ⟨hx, hb, hml, hown, hts, hK, hN, hlk, hr, hj, hR⟩ := C
  obtain ⟨di, rfl⟩ := i
  intro x9 hx9 H locs ls hP hS hL
  exact lv_ldc hx hb hown (hts _ w) di (k x9 hx9 H locs ls hP hS hL)
theorem g_ldcw (C : zC X ad sh cc own ret d) {v : Int32} (w : Cond.constant own idx v ∈ zWd) (i : zI cc pc (.ldc_w idx) 3 q) (k : zG X ad sh emb q lv (.int v :: st) h o) : zG X ad sh emb pc lv st h o := by
  obtain ⟨p, l, e, R, s, m, args, below, meth, c, nL, D, cI, cG⟩ := X
  obtain ⟨hx, hb, hml, hown, hts, hK, hN, hlk, hr, hj, hR⟩ := C
  obtain ⟨di, rfl⟩ := i
  intro x9 hx9 H locs ls hP hS hL
  exact lv_ldcw hx hb hown (hts _ w) di (k x9 hx9 H locs ls hP hS hL)
end ZR3
end
