section
-- ===== PART A: goes FIRST, ahead of the names: the tables' words, and 'selects' of the private methods out of them =====
/-- a private method of a class that the tables say can be made, by its rows of tables_1 -/
def lw_okq (q : MethodName × Nat) : Prop := (q.1.cls ≠ "java/lang/invoke/MethodHandle" ∧ q.1.cls ≠ "java/lang/invoke/VarHandle") ∧ Cond.instantiable q.1.cls q.2 ∈ tables_1 ∧ Cond.privateMethod q.1 ∈ tables_1 ∧ Cond.instanceMethod q.1 ∈ tables_1
theorem lw_p0 : lw_okq (⟨"RollingLoads$Solver", "writeCondition", "(II[I)V"⟩, 3) := ⟨⟨by decide +kernel, by decide +kernel⟩, List.mem_of_getElem? (i := 71) (by decide +kernel), List.mem_of_getElem? (i := 316) (by decide +kernel), List.mem_of_getElem? (i := 317) (by decide +kernel)⟩
theorem lw_p1 : lw_okq (⟨"RollingLoads$Solver", "eliminate", "()Z"⟩, 3) := ⟨⟨by decide +kernel, by decide +kernel⟩, List.mem_of_getElem? (i := 71) (by decide +kernel), List.mem_of_getElem? (i := 323) (by decide +kernel), List.mem_of_getElem? (i := 324) (by decide +kernel)⟩
theorem lw_p2 : lw_okq (⟨"RollingLoads$Solver", "bringPivot", "(I)Z"⟩, 3) := ⟨⟨by decide +kernel, by decide +kernel⟩, List.mem_of_getElem? (i := 71) (by decide +kernel), List.mem_of_getElem? (i := 327) (by decide +kernel), List.mem_of_getElem? (i := 328) (by decide +kernel)⟩
theorem lw_p3 : lw_okq (⟨"RollingLoads$Solver", "clear", "(IIJ)V"⟩, 3) := ⟨⟨by decide +kernel, by decide +kernel⟩, List.mem_of_getElem? (i := 71) (by decide +kernel), List.mem_of_getElem? (i := 331) (by decide +kernel), List.mem_of_getElem? (i := 332) (by decide +kernel)⟩
theorem lw_p4 : lw_okq (⟨"RollingLoads", "bridgeAt", "(I)LRollingLoads$Bridge;"⟩, 14) := ⟨⟨by decide +kernel, by decide +kernel⟩, List.mem_of_getElem? (i := 17) (by decide +kernel), List.mem_of_getElem? (i := 394) (by decide +kernel), List.mem_of_getElem? (i := 395) (by decide +kernel)⟩
theorem lw_p5 : lw_okq (⟨"RollingLoads", "trainAt", "(I)LRollingLoads$Train;"⟩, 14) := ⟨⟨by decide +kernel, by decide +kernel⟩, List.mem_of_getElem? (i := 17) (by decide +kernel), List.mem_of_getElem? (i := 451) (by decide +kernel), List.mem_of_getElem? (i := 452) (by decide +kernel)⟩
theorem lw_p6 : lw_okq (⟨"RollingLoads$Sweep", "addAxle", "(LRollingLoads$Line;JI)V"⟩, 2) := ⟨⟨by decide +kernel, by decide +kernel⟩, List.mem_of_getElem? (i := 111) (by decide +kernel), List.mem_of_getElem? (i := 488) (by decide +kernel), List.mem_of_getElem? (i := 489) (by decide +kernel)⟩
theorem lw_p7 : lw_okq (⟨"RollingLoads$Extremes", "set", "(IJII)V"⟩, 3) := ⟨⟨by decide +kernel, by decide +kernel⟩, List.mem_of_getElem? (i := 128) (by decide +kernel), List.mem_of_getElem? (i := 492) (by decide +kernel), List.mem_of_getElem? (i := 493) (by decide +kernel)⟩
theorem lw_p8 : lw_okq (⟨"RollingLoads$Inspector", "isMet", "(ILRollingLoads$Check;LRollingLoads$Train;)Z"⟩, 8) := ⟨⟨by decide +kernel, by decide +kernel⟩, List.mem_of_getElem? (i := 150) (by decide +kernel), List.mem_of_getElem? (i := 567) (by decide +kernel), List.mem_of_getElem? (i := 568) (by decide +kernel)⟩
theorem lw_p9 : lw_okq (⟨"RollingLoads$Inspector", "failsAsBefore", "(LRollingLoads$Bridge;LRollingLoads$Train;)Z"⟩, 8) := ⟨⟨by decide +kernel, by decide +kernel⟩, List.mem_of_getElem? (i := 150) (by decide +kernel), List.mem_of_getElem? (i := 589) (by decide +kernel), List.mem_of_getElem? (i := 590) (by decide +kernel)⟩
theorem lw_p10 : lw_okq (⟨"RollingLoads", "closeRoadsUnmet", "(LRollingLoads$Train;I)V"⟩, 14) := ⟨⟨by decide +kernel, by decide +kernel⟩, List.mem_of_getElem? (i := 17) (by decide +kernel), List.mem_of_getElem? (i := 618) (by decide +kernel), List.mem_of_getElem? (i := 619) (by decide +kernel)⟩
theorem lw_p11 : lw_okq (⟨"RollingLoads$Roads", "spreadCosts", "(I)V"⟩, 10) := ⟨⟨by decide +kernel, by decide +kernel⟩, List.mem_of_getElem? (i := 29) (by decide +kernel), List.mem_of_getElem? (i := 634) (by decide +kernel), List.mem_of_getElem? (i := 635) (by decide +kernel)⟩
theorem lw_p12 : lw_okq (⟨"RollingLoads$Roads", "costOf", "(I)I"⟩, 10) := ⟨⟨by decide +kernel, by decide +kernel⟩, List.mem_of_getElem? (i := 29) (by decide +kernel), List.mem_of_getElem? (i := 642) (by decide +kernel), List.mem_of_getElem? (i := 643) (by decide +kernel)⟩
theorem lw_p13 : lw_okq (⟨"RollingLoads$Roads", "firstRoadOn", "(I)I"⟩, 10) := ⟨⟨by decide +kernel, by decide +kernel⟩, List.mem_of_getElem? (i := 29) (by decide +kernel), List.mem_of_getElem? (i := 647) (by decide +kernel), List.mem_of_getElem? (i := 648) (by decide +kernel)⟩
theorem lw_p14 : lw_okq (⟨"RollingLoads$Roads", "otherEnd", "(II)I"⟩, 10) := ⟨⟨by decide +kernel, by decide +kernel⟩, List.mem_of_getElem? (i := 29) (by decide +kernel), List.mem_of_getElem? (i := 651) (by decide +kernel), List.mem_of_getElem? (i := 652) (by decide +kernel)⟩
theorem lw_p15 : lw_okq (⟨"RollingLoads", "firstUnmetOnWay", "()I"⟩, 14) := ⟨⟨by decide +kernel, by decide +kernel⟩, List.mem_of_getElem? (i := 17) (by decide +kernel), List.mem_of_getElem? (i := 664) (by decide +kernel), List.mem_of_getElem? (i := 665) (by decide +kernel)⟩
def lw_privs_1 : List (MethodName × Nat) := [(⟨"RollingLoads$Solver", "writeCondition", "(II[I)V"⟩, 3), (⟨"RollingLoads$Solver", "eliminate", "()Z"⟩, 3), (⟨"RollingLoads$Solver", "bringPivot", "(I)Z"⟩, 3), (⟨"RollingLoads$Solver", "clear", "(IIJ)V"⟩, 3), (⟨"RollingLoads", "bridgeAt", "(I)LRollingLoads$Bridge;"⟩, 14), (⟨"RollingLoads", "trainAt", "(I)LRollingLoads$Train;"⟩, 14), (⟨"RollingLoads$Sweep", "addAxle", "(LRollingLoads$Line;JI)V"⟩, 2), (⟨"RollingLoads$Extremes", "set", "(IJII)V"⟩, 3), (⟨"RollingLoads$Inspector", "isMet", "(ILRollingLoads$Check;LRollingLoads$Train;)Z"⟩, 8), (⟨"RollingLoads$Inspector", "failsAsBefore", "(LRollingLoads$Bridge;LRollingLoads$Train;)Z"⟩, 8), (⟨"RollingLoads", "closeRoadsUnmet", "(LRollingLoads$Train;I)V"⟩, 14), (⟨"RollingLoads$Roads", "spreadCosts", "(I)V"⟩, 10), (⟨"RollingLoads$Roads", "costOf", "(I)I"⟩, 10), (⟨"RollingLoads$Roads", "firstRoadOn", "(I)I"⟩, 10), (⟨"RollingLoads$Roads", "otherEnd", "(II)I"⟩, 10), (⟨"RollingLoads", "firstUnmetOnWay", "()I"⟩, 14)]
theorem lw_r1 : ∀ q ∈ lw_privs_1, lw_okq q := List.forall_mem_cons.mpr ⟨lw_p0, List.forall_mem_cons.mpr ⟨lw_p1, List.forall_mem_cons.mpr ⟨lw_p2, List.forall_mem_cons.mpr ⟨lw_p3, List.forall_mem_cons.mpr ⟨lw_p4, List.forall_mem_cons.mpr ⟨lw_p5, List.forall_mem_cons.mpr ⟨lw_p6, List.forall_mem_cons.mpr ⟨lw_p7, List.forall_mem_cons.mpr ⟨lw_p8, List.forall_mem_cons.mpr ⟨lw_p9, List.forall_mem_cons.mpr ⟨lw_p10, List.forall_mem_cons.mpr ⟨lw_p11, List.forall_mem_cons.mpr ⟨lw_p12, List.forall_mem_cons.mpr ⟨lw_p13, List.forall_mem_cons.mpr ⟨lw_p14, List.forall_mem_cons.mpr ⟨lw_p15, fun _ h => absurd h List.not_mem_nil⟩⟩⟩⟩⟩⟩⟩⟩⟩⟩⟩⟩⟩⟩⟩⟩
theorem lw_p16 : lw_okq (⟨"RollingLoads$Turns", "push", "(J)V"⟩, 5) := ⟨⟨by decide +kernel, by decide +kernel⟩, List.mem_of_getElem? (i := 186) (by decide +kernel), List.mem_of_getElem? (i := 681) (by decide +kernel), List.mem_of_getElem? (i := 682) (by decide +kernel)⟩
theorem lw_p17 : lw_okq (⟨"RollingLoads$Turns", "takeWholeTurns", "(LRollingLoads$Line;)V"⟩, 5) := ⟨⟨by decide +kernel, by decide +kernel⟩, List.mem_of_getElem? (i := 186) (by decide +kernel), List.mem_of_getElem? (i := 694) (by decide +kernel), List.mem_of_getElem? (i := 695) (by decide +kernel)⟩
theorem lw_p18 : lw_okq (⟨"RollingLoads$Turns", "innerStepIsLeast", "(I)Z"⟩, 5) := ⟨⟨by decide +kernel, by decide +kernel⟩, List.mem_of_getElem? (i := 186) (by decide +kernel), List.mem_of_getElem? (i := 698) (by decide +kernel), List.mem_of_getElem? (i := 699) (by decide +kernel)⟩
theorem lw_p19 : lw_okq (⟨"RollingLoads$Turns", "step", "(I)J"⟩, 5) := ⟨⟨by decide +kernel, by decide +kernel⟩, List.mem_of_getElem? (i := 186) (by decide +kernel), List.mem_of_getElem? (i := 702) (by decide +kernel), List.mem_of_getElem? (i := 703) (by decide +kernel)⟩
theorem lw_p20 : lw_okq (⟨"RollingLoads$Turns", "takeHalfTurns", "(LRollingLoads$Line;)V"⟩, 5) := ⟨⟨by decide +kernel, by decide +kernel⟩, List.mem_of_getElem? (i := 186) (by decide +kernel), List.mem_of_getElem? (i := 715) (by decide +kernel), List.mem_of_getElem? (i := 716) (by decide +kernel)⟩
theorem lw_p21 : lw_okq (⟨"RollingLoads", "allChecks", "()I"⟩, 14) := ⟨⟨by decide +kernel, by decide +kernel⟩, List.mem_of_getElem? (i := 17) (by decide +kernel), List.mem_of_getElem? (i := 731) (by decide +kernel), List.mem_of_getElem? (i := 732) (by decide +kernel)⟩
theorem lw_p22 : lw_okq (⟨"RollingLoads", "allTraffic", "()I"⟩, 14) := ⟨⟨by decide +kernel, by decide +kernel⟩, List.mem_of_getElem? (i := 17) (by decide +kernel), List.mem_of_getElem? (i := 735) (by decide +kernel), List.mem_of_getElem? (i := 736) (by decide +kernel)⟩
theorem lw_p23 : lw_okq (⟨"RollingLoadsModel", "isLoose", "(IJJI)Z"⟩, 41) := ⟨⟨by decide +kernel, by decide +kernel⟩, List.mem_of_getElem? (i := 739) (by decide +kernel), List.mem_of_getElem? (i := 882) (by decide +kernel), List.mem_of_getElem? (i := 883) (by decide +kernel)⟩
theorem lw_p24 : lw_okq (⟨"RollingLoadsModel", "laySupports", "(IJ)V"⟩, 41) := ⟨⟨by decide +kernel, by decide +kernel⟩, List.mem_of_getElem? (i := 739) (by decide +kernel), List.mem_of_getElem? (i := 886) (by decide +kernel), List.mem_of_getElem? (i := 887) (by decide +kernel)⟩
theorem lw_p25 : lw_okq (⟨"RollingLoadsModel", "layTable", "(IJI)V"⟩, 41) := ⟨⟨by decide +kernel, by decide +kernel⟩, List.mem_of_getElem? (i := 739) (by decide +kernel), List.mem_of_getElem? (i := 890) (by decide +kernel), List.mem_of_getElem? (i := 891) (by decide +kernel)⟩
theorem lw_p26 : lw_okq (⟨"RollingLoadsModel", "solve", "(I)J"⟩, 41) := ⟨⟨by decide +kernel, by decide +kernel⟩, List.mem_of_getElem? (i := 739) (by decide +kernel), List.mem_of_getElem? (i := 894) (by decide +kernel), List.mem_of_getElem? (i := 895) (by decide +kernel)⟩
theorem lw_p27 : lw_okq (⟨"RollingLoadsModel", "change", "(II)V"⟩, 41) := ⟨⟨by decide +kernel, by decide +kernel⟩, List.mem_of_getElem? (i := 739) (by decide +kernel), List.mem_of_getElem? (i := 898) (by decide +kernel), List.mem_of_getElem? (i := 899) (by decide +kernel)⟩
theorem lw_p28 : lw_okq (⟨"RollingLoadsModel", "findBridge", "(IJ)Z"⟩, 41) := ⟨⟨by decide +kernel, by decide +kernel⟩, List.mem_of_getElem? (i := 739) (by decide +kernel), List.mem_of_getElem? (i := 902) (by decide +kernel), List.mem_of_getElem? (i := 903) (by decide +kernel)⟩
theorem lw_p29 : lw_okq (⟨"RollingLoadsModel", "noBridge", "(I)Z"⟩, 41) := ⟨⟨by decide +kernel, by decide +kernel⟩, List.mem_of_getElem? (i := 739) (by decide +kernel), List.mem_of_getElem? (i := 913) (by decide +kernel), List.mem_of_getElem? (i := 914) (by decide +kernel)⟩
theorem lw_p30 : lw_okq (⟨"RollingLoadsModel", "noSupport", "(III)Z"⟩, 41) := ⟨⟨by decide +kernel, by decide +kernel⟩, List.mem_of_getElem? (i := 739) (by decide +kernel), List.mem_of_getElem? (i := 921) (by decide +kernel), List.mem_of_getElem? (i := 922) (by decide +kernel)⟩
theorem lw_p31 : lw_okq (⟨"RollingLoadsModel", "isResponse", "(III)Z"⟩, 41) := ⟨⟨by decide +kernel, by decide +kernel⟩, List.mem_of_getElem? (i := 739) (by decide +kernel), List.mem_of_getElem? (i := 926) (by decide +kernel), List.mem_of_getElem? (i := 927) (by decide +kernel)⟩
def lw_privs_2 : List (MethodName × Nat) := [(⟨"RollingLoads$Turns", "push", "(J)V"⟩, 5), (⟨"RollingLoads$Turns", "takeWholeTurns", "(LRollingLoads$Line;)V"⟩, 5), (⟨"RollingLoads$Turns", "innerStepIsLeast", "(I)Z"⟩, 5), (⟨"RollingLoads$Turns", "step", "(I)J"⟩, 5), (⟨"RollingLoads$Turns", "takeHalfTurns", "(LRollingLoads$Line;)V"⟩, 5), (⟨"RollingLoads", "allChecks", "()I"⟩, 14), (⟨"RollingLoads", "allTraffic", "()I"⟩, 14), (⟨"RollingLoadsModel", "isLoose", "(IJJI)Z"⟩, 41), (⟨"RollingLoadsModel", "laySupports", "(IJ)V"⟩, 41), (⟨"RollingLoadsModel", "layTable", "(IJI)V"⟩, 41), (⟨"RollingLoadsModel", "solve", "(I)J"⟩, 41), (⟨"RollingLoadsModel", "change", "(II)V"⟩, 41), (⟨"RollingLoadsModel", "findBridge", "(IJ)Z"⟩, 41), (⟨"RollingLoadsModel", "noBridge", "(I)Z"⟩, 41), (⟨"RollingLoadsModel", "noSupport", "(III)Z"⟩, 41), (⟨"RollingLoadsModel", "isResponse", "(III)Z"⟩, 41)]
theorem lw_r2 : ∀ q ∈ lw_privs_2, lw_okq q := List.forall_mem_cons.mpr ⟨lw_p16, List.forall_mem_cons.mpr ⟨lw_p17, List.forall_mem_cons.mpr ⟨lw_p18, List.forall_mem_cons.mpr ⟨lw_p19, List.forall_mem_cons.mpr ⟨lw_p20, List.forall_mem_cons.mpr ⟨lw_p21, List.forall_mem_cons.mpr ⟨lw_p22, List.forall_mem_cons.mpr ⟨lw_p23, List.forall_mem_cons.mpr ⟨lw_p24, List.forall_mem_cons.mpr ⟨lw_p25, List.forall_mem_cons.mpr ⟨lw_p26, List.forall_mem_cons.mpr ⟨lw_p27, List.forall_mem_cons.mpr ⟨lw_p28, List.forall_mem_cons.mpr ⟨lw_p29, List.forall_mem_cons.mpr ⟨lw_p30, List.forall_mem_cons.mpr ⟨lw_p31, fun _ h => absurd h List.not_mem_nil⟩⟩⟩⟩⟩⟩⟩⟩⟩⟩⟩⟩⟩⟩⟩⟩
theorem lw_p32 : lw_okq (⟨"RollingLoadsModel", "influenceAt", "(IIII)J"⟩, 41) := ⟨⟨by decide +kernel, by decide +kernel⟩, List.mem_of_getElem? (i := 739) (by decide +kernel), List.mem_of_getElem? (i := 931) (by decide +kernel), List.mem_of_getElem? (i := 932) (by decide +kernel)⟩
theorem lw_p33 : lw_okq (⟨"RollingLoadsModel", "noTrain", "(I)Z"⟩, 41) := ⟨⟨by decide +kernel, by decide +kernel⟩, List.mem_of_getElem? (i := 739) (by decide +kernel), List.mem_of_getElem? (i := 956) (by decide +kernel), List.mem_of_getElem? (i := 957) (by decide +kernel)⟩
theorem lw_p34 : lw_okq (⟨"RollingLoadsModel", "allGaps", "(I)I"⟩, 41) := ⟨⟨by decide +kernel, by decide +kernel⟩, List.mem_of_getElem? (i := 739) (by decide +kernel), List.mem_of_getElem? (i := 965) (by decide +kernel), List.mem_of_getElem? (i := 966) (by decide +kernel)⟩
theorem lw_p35 : lw_okq (⟨"RollingLoadsModel", "gapOf", "(II)I"⟩, 41) := ⟨⟨by decide +kernel, by decide +kernel⟩, List.mem_of_getElem? (i := 739) (by decide +kernel), List.mem_of_getElem? (i := 969) (by decide +kernel), List.mem_of_getElem? (i := 970) (by decide +kernel)⟩
theorem lw_p36 : lw_okq (⟨"RollingLoadsModel", "effectAt", "(IIIIII)J"⟩, 41) := ⟨⟨by decide +kernel, by decide +kernel⟩, List.mem_of_getElem? (i := 739) (by decide +kernel), List.mem_of_getElem? (i := 977) (by decide +kernel), List.mem_of_getElem? (i := 978) (by decide +kernel)⟩
theorem lw_p37 : lw_okq (⟨"RollingLoadsModel", "weightOf", "(II)I"⟩, 41) := ⟨⟨by decide +kernel, by decide +kernel⟩, List.mem_of_getElem? (i := 739) (by decide +kernel), List.mem_of_getElem? (i := 981) (by decide +kernel), List.mem_of_getElem? (i := 982) (by decide +kernel)⟩
theorem lw_p38 : lw_okq (⟨"RollingLoadsModel", "extreme", "(IIIII)J"⟩, 41) := ⟨⟨by decide +kernel, by decide +kernel⟩, List.mem_of_getElem? (i := 739) (by decide +kernel), List.mem_of_getElem? (i := 990) (by decide +kernel), List.mem_of_getElem? (i := 991) (by decide +kernel)⟩
theorem lw_p39 : lw_okq (⟨"RollingLoadsModel", "noCheck", "(II)Z"⟩, 41) := ⟨⟨by decide +kernel, by decide +kernel⟩, List.mem_of_getElem? (i := 739) (by decide +kernel), List.mem_of_getElem? (i := 1007) (by decide +kernel), List.mem_of_getElem? (i := 1008) (by decide +kernel)⟩
theorem lw_p40 : lw_okq (⟨"RollingLoadsModel", "totalOf", "(IIIII)J"⟩, 41) := ⟨⟨by decide +kernel, by decide +kernel⟩, List.mem_of_getElem? (i := 739) (by decide +kernel), List.mem_of_getElem? (i := 1022) (by decide +kernel), List.mem_of_getElem? (i := 1023) (by decide +kernel)⟩
theorem lw_p41 : lw_okq (⟨"RollingLoadsModel", "failing", "(III)I"⟩, 41) := ⟨⟨by decide +kernel, by decide +kernel⟩, List.mem_of_getElem? (i := 739) (by decide +kernel), List.mem_of_getElem? (i := 1031) (by decide +kernel), List.mem_of_getElem? (i := 1032) (by decide +kernel)⟩
theorem lw_p42 : lw_okq (⟨"RollingLoadsModel", "isMet", "(IIII)Z"⟩, 41) := ⟨⟨by decide +kernel, by decide +kernel⟩, List.mem_of_getElem? (i := 739) (by decide +kernel), List.mem_of_getElem? (i := 1035) (by decide +kernel), List.mem_of_getElem? (i := 1036) (by decide +kernel)⟩
theorem lw_p43 : lw_okq (⟨"RollingLoadsModel", "holds", "(IIIII)Z"⟩, 41) := ⟨⟨by decide +kernel, by decide +kernel⟩, List.mem_of_getElem? (i := 739) (by decide +kernel), List.mem_of_getElem? (i := 1043) (by decide +kernel), List.mem_of_getElem? (i := 1044) (by decide +kernel)⟩
theorem lw_p44 : lw_okq (⟨"RollingLoadsModel", "open", "(IIZ)V"⟩, 41) := ⟨⟨by decide +kernel, by decide +kernel⟩, List.mem_of_getElem? (i := 739) (by decide +kernel), List.mem_of_getElem? (i := 1065) (by decide +kernel), List.mem_of_getElem? (i := 1066) (by decide +kernel)⟩
theorem lw_p45 : lw_okq (⟨"RollingLoadsModel", "layRoute", "(II)I"⟩, 41) := ⟨⟨by decide +kernel, by decide +kernel⟩, List.mem_of_getElem? (i := 739) (by decide +kernel), List.mem_of_getElem? (i := 1069) (by decide +kernel), List.mem_of_getElem? (i := 1070) (by decide +kernel)⟩
theorem lw_p46 : lw_okq (⟨"RollingLoadsModel", "findFar", "(I)V"⟩, 41) := ⟨⟨by decide +kernel, by decide +kernel⟩, List.mem_of_getElem? (i := 739) (by decide +kernel), List.mem_of_getElem? (i := 1073) (by decide +kernel), List.mem_of_getElem? (i := 1074) (by decide +kernel)⟩
theorem lw_p47 : lw_okq (⟨"RollingLoadsModel", "beyond", "(II)I"⟩, 41) := ⟨⟨by decide +kernel, by decide +kernel⟩, List.mem_of_getElem? (i := 739) (by decide +kernel), List.mem_of_getElem? (i := 1077) (by decide +kernel), List.mem_of_getElem? (i := 1078) (by decide +kernel)⟩
def lw_privs_3 : List (MethodName × Nat) := [(⟨"RollingLoadsModel", "influenceAt", "(IIII)J"⟩, 41), (⟨"RollingLoadsModel", "noTrain", "(I)Z"⟩, 41), (⟨"RollingLoadsModel", "allGaps", "(I)I"⟩, 41), (⟨"RollingLoadsModel", "gapOf", "(II)I"⟩, 41), (⟨"RollingLoadsModel", "effectAt", "(IIIIII)J"⟩, 41), (⟨"RollingLoadsModel", "weightOf", "(II)I"⟩, 41), (⟨"RollingLoadsModel", "extreme", "(IIIII)J"⟩, 41), (⟨"RollingLoadsModel", "noCheck", "(II)Z"⟩, 41), (⟨"RollingLoadsModel", "totalOf", "(IIIII)J"⟩, 41), (⟨"RollingLoadsModel", "failing", "(III)I"⟩, 41), (⟨"RollingLoadsModel", "isMet", "(IIII)Z"⟩, 41), (⟨"RollingLoadsModel", "holds", "(IIIII)Z"⟩, 41), (⟨"RollingLoadsModel", "open", "(IIZ)V"⟩, 41), (⟨"RollingLoadsModel", "layRoute", "(II)I"⟩, 41), (⟨"RollingLoadsModel", "findFar", "(I)V"⟩, 41), (⟨"RollingLoadsModel", "beyond", "(II)I"⟩, 41)]
theorem lw_r3 : ∀ q ∈ lw_privs_3, lw_okq q := List.forall_mem_cons.mpr ⟨lw_p32, List.forall_mem_cons.mpr ⟨lw_p33, List.forall_mem_cons.mpr ⟨lw_p34, List.forall_mem_cons.mpr ⟨lw_p35, List.forall_mem_cons.mpr ⟨lw_p36, List.forall_mem_cons.mpr ⟨lw_p37, List.forall_mem_cons.mpr ⟨lw_p38, List.forall_mem_cons.mpr ⟨lw_p39, List.forall_mem_cons.mpr ⟨lw_p40, List.forall_mem_cons.mpr ⟨lw_p41, List.forall_mem_cons.mpr ⟨lw_p42, List.forall_mem_cons.mpr ⟨lw_p43, List.forall_mem_cons.mpr ⟨lw_p44, List.forall_mem_cons.mpr ⟨lw_p45, List.forall_mem_cons.mpr ⟨lw_p46, List.forall_mem_cons.mpr ⟨lw_p47, fun _ h => absurd h List.not_mem_nil⟩⟩⟩⟩⟩⟩⟩⟩⟩⟩⟩⟩⟩⟩⟩⟩
theorem lw_p48 : lw_okq (⟨"RollingLoadsModel", "wearOf", "(IIII)J"⟩, 41) := ⟨⟨by decide +kernel, by decide +kernel⟩, List.mem_of_getElem? (i := 739) (by decide +kernel), List.mem_of_getElem? (i := 1089) (by decide +kernel), List.mem_of_getElem? (i := 1090) (by decide +kernel)⟩
theorem lw_p49 : lw_okq (⟨"RollingLoadsModel", "isIdle", "(I)Z"⟩, 41) := ⟨⟨by decide +kernel, by decide +kernel⟩, List.mem_of_getElem? (i := 739) (by decide +kernel), List.mem_of_getElem? (i := 1093) (by decide +kernel), List.mem_of_getElem? (i := 1094) (by decide +kernel)⟩
theorem lw_p50 : lw_okq (⟨"RollingLoadsModel", "out", "(II)V"⟩, 41) := ⟨⟨by decide +kernel, by decide +kernel⟩, List.mem_of_getElem? (i := 739) (by decide +kernel), List.mem_of_getElem? (i := 1097) (by decide +kernel), List.mem_of_getElem? (i := 1098) (by decide +kernel)⟩
theorem lw_p51 : lw_okq (⟨"RollingLoadsModel", "stepAt", "(I)J"⟩, 41) := ⟨⟨by decide +kernel, by decide +kernel⟩, List.mem_of_getElem? (i := 739) (by decide +kernel), List.mem_of_getElem? (i := 1101) (by decide +kernel), List.mem_of_getElem? (i := 1102) (by decide +kernel)⟩
def lw_privs_4 : List (MethodName × Nat) := [(⟨"RollingLoadsModel", "wearOf", "(IIII)J"⟩, 41), (⟨"RollingLoadsModel", "isIdle", "(I)Z"⟩, 41), (⟨"RollingLoadsModel", "out", "(II)V"⟩, 41), (⟨"RollingLoadsModel", "stepAt", "(I)J"⟩, 41)]
theorem lw_r4 : ∀ q ∈ lw_privs_4, lw_okq q := List.forall_mem_cons.mpr ⟨lw_p48, List.forall_mem_cons.mpr ⟨lw_p49, List.forall_mem_cons.mpr ⟨lw_p50, List.forall_mem_cons.mpr ⟨lw_p51, fun _ h => absurd h List.not_mem_nil⟩⟩⟩⟩
def lw_privs : List (MethodName × Nat) := lw_privs_1 ++ (lw_privs_2 ++ (lw_privs_3 ++ (lw_privs_4)))
def lw_tbl : List Cond := k2_sels lw_privs ++ tables_1
theorem lw_privs_ok : ∀ q ∈ lw_privs, lw_okq q := by
  show ∀ q ∈ lw_privs_1 ++ (lw_privs_2 ++ (lw_privs_3 ++ (lw_privs_4))), lw_okq q
  exact List.forall_mem_append.mpr ⟨lw_r1, List.forall_mem_append.mpr ⟨lw_r2, List.forall_mem_append.mpr ⟨lw_r3, lw_r4⟩⟩⟩
-- ===== end of PART A; then your names; then what follows =====
end
section
/-! ===== BEGIN printed: names, fields, word lists, decode rows ===== -/
def RX0 : String := "RollingLoads$Bridge"
def TX0 : u_T := fun k => match k with
  | 0 => ("RollingLoads$Bridge", "length", "I", true)
  | 1 => ("RollingLoads$Bridge", "supports", "[I", true)
  | 2 => ("RollingLoads$Bridge", "hingeCount", "I", true)
  | 3 => ("RollingLoads$Bridge", "lower", "J", true)
  | 4 => ("RollingLoads$Bridge", "reactions", "[[J", true)
  | 5 => ("RollingLoads$Bridge", "rules", "[I", true)
  | 6 => ("RollingLoads$Bridge", "checks", "[LRollingLoads$Check;", true)
  | _ => ("RollingLoads$Bridge", "checkCount", "I", false)
def tyX0 : Nat → FieldType := fun k => match k with
  | 0 => .int
  | 1 => .array .int
  | 2 => .int
  | 3 => .long
  | 4 => .array (.array .long)
  | 5 => .array .int
  | 6 => .array (.object "RollingLoads$Check")
  | _ => .int
abbrev wsX00 : List Cond := u_ws RX0 TX0 8
theorem nmX0 : ∀ a, a < 8 → ∀ b, b < 8 → a ≠ b → (TX0 a).2.1 ≠ (TX0 b).2.1 := by decide +kernel
theorem tyX0_ok : ∀ k, k < 8 → parseFieldDescriptor (TX0 k).2.2.1 = some (tyX0 k) := by decide +kernel
abbrev cX0_init : ByteArray := prog_2_method_1_code
def yX0_init : MethodName := ⟨RX0, "<init>", "(I[IILRollingLoads$Solver;)V"⟩
abbrev cX0_lacksSupport : ByteArray := prog_2_method_2_code
def yX0_lacksSupport : MethodName := ⟨RX0, "lacksSupport", "(II)Z"⟩
abbrev cX0_hasResponse : ByteArray := prog_2_method_3_code
def yX0_hasResponse : MethodName := ⟨RX0, "hasResponse", "(II)Z"⟩
abbrev cX0_checkAt : ByteArray := prog_2_method_4_code
def yX0_checkAt : MethodName := ⟨RX0, "checkAt", "(I)LRollingLoads$Check;"⟩
abbrev cX0_momentUpper : ByteArray := prog_2_method_5_code
def yX0_momentUpper : MethodName := ⟨RX0, "momentUpper", "(II)J"⟩
def RX1 : String := "RollingLoads$Check"
def TX1 : u_T := fun k => match k with
  | 0 => ("RollingLoads$Check", "line", "LRollingLoads$Line;", true)
  | 1 => ("RollingLoads$Check", "high", "I", false)
  | _ => ("RollingLoads$Check", "low", "I", false)
def tyX1 : Nat → FieldType := fun k => match k with
  | 0 => .object "RollingLoads$Line"
  | 1 => .int
  | _ => .int
abbrev wsX10 : List Cond := u_ws RX1 TX1 3
theorem nmX1 : ∀ a, a < 3 → ∀ b, b < 3 → a ≠ b → (TX1 a).2.1 ≠ (TX1 b).2.1 := by decide +kernel
theorem tyX1_ok : ∀ k, k < 3 → parseFieldDescriptor (TX1 k).2.2.1 = some (tyX1 k) := by decide +kernel
abbrev cX1_init : ByteArray := prog_3_method_1_code
def yX1_init : MethodName := ⟨RX1, "<init>", "(II)V"⟩
abbrev cX1_totalLower : ByteArray := prog_3_method_2_code
def yX1_totalLower : MethodName := ⟨RX1, "totalLower", "()J"⟩
abbrev cX1_allows : ByteArray := prog_3_method_3_code
def yX1_allows : MethodName := ⟨RX1, "allows", "(IJ)Z"⟩
def RX2 : String := "RollingLoads$Extremes"
def TX2 : u_T := fun k => match k with
  | 0 => ("RollingLoads$Extremes", "uppers", "[J", true)
  | 1 => ("RollingLoads$Extremes", "ways", "[I", true)
  | _ => ("RollingLoads$Extremes", "times", "[I", true)
def tyX2 : Nat → FieldType := fun k => match k with
  | 0 => .array .long
  | 1 => .array .int
  | _ => .array .int
abbrev wsX20 : List Cond := u_ws RX2 TX2 3
theorem nmX2 : ∀ a, a < 3 → ∀ b, b < 3 → a ≠ b → (TX2 a).2.1 ≠ (TX2 b).2.1 := by decide +kernel
theorem tyX2_ok : ∀ k, k < 3 → parseFieldDescriptor (TX2 k).2.2.1 = some (tyX2 k) := by decide +kernel
abbrev cX2_init : ByteArray := prog_4_method_1_code
def yX2_init : MethodName := ⟨RX2, "<init>", "()V"⟩
abbrev cX2_find : ByteArray := prog_4_method_2_code
def yX2_find : MethodName := ⟨RX2, "find", "(LRollingLoads$Line;LRollingLoads$Train;LRollingLoads$Sweep;)V"⟩
abbrev cX2_set : ByteArray := prog_4_method_3_code
def yX2_set : MethodName := ⟨RX2, "set", "(IJII)V"⟩
def RX3 : String := "RollingLoads$Inspector"
def TX3 : u_T := fun k => match k with
  | 0 => ("RollingLoads$Inspector", "sweep", "LRollingLoads$Sweep;", true)
  | 1 => ("RollingLoads$Inspector", "extremes", "LRollingLoads$Extremes;", true)
  | 2 => ("RollingLoads$Inspector", "others", "[[J", true)
  | 3 => ("RollingLoads$Inspector", "shaken", "I", false)
  | 4 => ("RollingLoads$Inspector", "failedCheck", "I", false)
  | 5 => ("RollingLoads$Inspector", "failedEnd", "I", false)
  | 6 => ("RollingLoads$Inspector", "failedWay", "I", false)
  | _ => ("RollingLoads$Inspector", "failedTime", "I", false)
def tyX3 : Nat → FieldType := fun k => match k with
  | 0 => .object "RollingLoads$Sweep"
  | 1 => .object "RollingLoads$Extremes"
  | 2 => .array (.array .long)
  | 3 => .int
  | 4 => .int
  | 5 => .int
  | 6 => .int
  | _ => .int
abbrev wsX30 : List Cond := u_ws RX3 TX3 8
theorem nmX3 : ∀ a, a < 8 → ∀ b, b < 8 → a ≠ b → (TX3 a).2.1 ≠ (TX3 b).2.1 := by decide +kernel
theorem tyX3_ok : ∀ k, k < 8 → parseFieldDescriptor (TX3 k).2.2.1 = some (tyX3 k) := by decide +kernel
abbrev cX3_init : ByteArray := prog_5_method_1_code
def yX3_init : MethodName := ⟨RX3, "<init>", "()V"⟩
abbrev cX3_prepare : ByteArray := prog_5_method_2_code
def yX3_prepare : MethodName := ⟨RX3, "prepare", "(LRollingLoads$Bridge;LRollingLoads$Train;I)V"⟩
abbrev cX3_totalOf : ByteArray := prog_5_method_3_code
def yX3_totalOf : MethodName := ⟨RX3, "totalOf", "(IIJ)J"⟩
abbrev cX3_firstUnmet : ByteArray := prog_5_method_4_code
def yX3_firstUnmet : MethodName := ⟨RX3, "firstUnmet", "(LRollingLoads$Bridge;LRollingLoads$Train;)I"⟩
abbrev cX3_allMet : ByteArray := prog_5_method_5_code
def yX3_allMet : MethodName := ⟨RX3, "allMet", "(LRollingLoads$Bridge;LRollingLoads$Train;)Z"⟩
abbrev cX3_failsAsBefore : ByteArray := prog_5_method_6_code
def yX3_failsAsBefore : MethodName := ⟨RX3, "failsAsBefore", "(LRollingLoads$Bridge;LRollingLoads$Train;)Z"⟩
abbrev cX3_isMet : ByteArray := prog_5_method_7_code
def yX3_isMet : MethodName := ⟨RX3, "isMet", "(ILRollingLoads$Check;LRollingLoads$Train;)Z"⟩
def RX4 : String := "RollingLoads$Line"
def TX4 : u_T := fun k => match k with
  | 0 => ("RollingLoads$Line", "uppers", "[J", true)
  | 1 => ("RollingLoads$Line", "lower", "J", false)
  | _ => ("RollingLoads$Line", "length", "I", false)
def tyX4 : Nat → FieldType := fun k => match k with
  | 0 => .array .long
  | 1 => .long
  | _ => .int
abbrev wsX40 : List Cond := u_ws RX4 TX4 3
theorem nmX4 : ∀ a, a < 3 → ∀ b, b < 3 → a ≠ b → (TX4 a).2.1 ≠ (TX4 b).2.1 := by decide +kernel
theorem tyX4_ok : ∀ k, k < 3 → parseFieldDescriptor (TX4 k).2.2.1 = some (tyX4 k) := by decide +kernel
abbrev cX4_init : ByteArray := prog_6_method_1_code
def yX4_init : MethodName := ⟨RX4, "<init>", "()V"⟩
abbrev cX4_draw : ByteArray := prog_6_method_2_code
def yX4_draw : MethodName := ⟨RX4, "draw", "(LRollingLoads$Bridge;II)V"⟩
abbrev cX4_effectOf : ByteArray := prog_6_method_3_code
def yX4_effectOf : MethodName := ⟨RX4, "effectOf", "(LRollingLoads$Train;II)J"⟩
abbrev cX4_cut : ByteArray := prog_6_method_4_code
def yX4_cut : MethodName := ⟨RX4, "cut", "(J)J"⟩
def RX5 : String := "RollingLoads$Roads"
def TX5 : u_T := fun k => match k with
  | 0 => ("RollingLoads$Roads", "froms", "[I", true)
  | 1 => ("RollingLoads$Roads", "tos", "[I", true)
  | 2 => ("RollingLoads$Roads", "miles", "[I", true)
  | 3 => ("RollingLoads$Roads", "overs", "[I", true)
  | 4 => ("RollingLoads$Roads", "closed", "[Z", true)
  | 5 => ("RollingLoads$Roads", "roadCount", "I", false)
  | 6 => ("RollingLoads$Roads", "costs", "[I", true)
  | 7 => ("RollingLoads$Roads", "way", "[I", true)
  | 8 => ("RollingLoads$Roads", "wayCount", "I", false)
  | _ => ("RollingLoads$Roads", "wayMiles", "I", false)
def tyX5 : Nat → FieldType := fun k => match k with
  | 0 => .array .int
  | 1 => .array .int
  | 2 => .array .int
  | 3 => .array .int
  | 4 => .array .boolean
  | 5 => .int
  | 6 => .array .int
  | 7 => .array .int
  | 8 => .int
  | _ => .int
abbrev wsX50 : List Cond := u_ws RX5 TX5 10
theorem nmX5 : ∀ a, a < 10 → ∀ b, b < 10 → a ≠ b → (TX5 a).2.1 ≠ (TX5 b).2.1 := by decide +kernel
theorem tyX5_ok : ∀ k, k < 10 → parseFieldDescriptor (TX5 k).2.2.1 = some (tyX5 k) := by decide +kernel
abbrev cX5_init : ByteArray := prog_7_method_1_code
def yX5_init : MethodName := ⟨RX5, "<init>", "()V"⟩
abbrev cX5_lay : ByteArray := prog_7_method_2_code
def yX5_lay : MethodName := ⟨RX5, "lay", "(IIII)Z"⟩
abbrev cX5_openAll : ByteArray := prog_7_method_3_code
def yX5_openAll : MethodName := ⟨RX5, "openAll", "()V"⟩
abbrev cX5_closeOver : ByteArray := prog_7_method_4_code
def yX5_closeOver : MethodName := ⟨RX5, "closeOver", "(I)V"⟩
abbrev cX5_bridgeOf : ByteArray := prog_7_method_5_code
def yX5_bridgeOf : MethodName := ⟨RX5, "bridgeOf", "(I)I"⟩
abbrev cX5_wayRoad : ByteArray := prog_7_method_6_code
def yX5_wayRoad : MethodName := ⟨RX5, "wayRoad", "(I)I"⟩
abbrev cX5_search : ByteArray := prog_7_method_7_code
def yX5_search : MethodName := ⟨RX5, "search", "(II)Z"⟩
abbrev cX5_spreadCosts : ByteArray := prog_7_method_8_code
def yX5_spreadCosts : MethodName := ⟨RX5, "spreadCosts", "(I)V"⟩
abbrev cX5_firstRoadOn : ByteArray := prog_7_method_9_code
def yX5_firstRoadOn : MethodName := ⟨RX5, "firstRoadOn", "(I)I"⟩
abbrev cX5_costOf : ByteArray := prog_7_method_10_code
def yX5_costOf : MethodName := ⟨RX5, "costOf", "(I)I"⟩
abbrev cX5_otherEnd : ByteArray := prog_7_method_11_code
def yX5_otherEnd : MethodName := ⟨RX5, "otherEnd", "(II)I"⟩
def RX6 : String := "RollingLoads$Solver"
def TX6 : u_T := fun k => match k with
  | 0 => ("RollingLoads$Solver", "rows", "[[J", true)
  | 1 => ("RollingLoads$Solver", "size", "I", false)
  | _ => ("RollingLoads$Solver", "width", "I", false)
def tyX6 : Nat → FieldType := fun k => match k with
  | 0 => .array (.array .long)
  | 1 => .int
  | _ => .int
abbrev wsX60 : List Cond := u_ws RX6 TX6 3
theorem nmX6 : ∀ a, a < 3 → ∀ b, b < 3 → a ≠ b → (TX6 a).2.1 ≠ (TX6 b).2.1 := by decide +kernel
theorem tyX6_ok : ∀ k, k < 3 → parseFieldDescriptor (TX6 k).2.2.1 = some (tyX6 k) := by decide +kernel
abbrev cX6_init : ByteArray := prog_8_method_1_code
def yX6_init : MethodName := ⟨RX6, "<init>", "()V"⟩
abbrev cX6_solve : ByteArray := prog_8_method_2_code
def yX6_solve : MethodName := ⟨RX6, "solve", "(I[I[I)Z"⟩
abbrev cX6_writeCondition : ByteArray := prog_8_method_3_code
def yX6_writeCondition : MethodName := ⟨RX6, "writeCondition", "(II[I)V"⟩
abbrev cX6_eliminate : ByteArray := prog_8_method_4_code
def yX6_eliminate : MethodName := ⟨RX6, "eliminate", "()Z"⟩
abbrev cX6_bringPivot : ByteArray := prog_8_method_5_code
def yX6_bringPivot : MethodName := ⟨RX6, "bringPivot", "(I)Z"⟩
abbrev cX6_clear : ByteArray := prog_8_method_6_code
def yX6_clear : MethodName := ⟨RX6, "clear", "(IIJ)V"⟩
abbrev cX6_lower : ByteArray := prog_8_method_7_code
def yX6_lower : MethodName := ⟨RX6, "lower", "()J"⟩
abbrev cX6_upper : ByteArray := prog_8_method_8_code
def yX6_upper : MethodName := ⟨RX6, "upper", "(II)J"⟩
def RX7 : String := "RollingLoads$Sweep"
def TX7 : u_T := fun k => match k with
  | 0 => ("RollingLoads$Sweep", "effects", "[J", true)
  | _ => ("RollingLoads$Sweep", "times", "I", false)
def tyX7 : Nat → FieldType := fun k => match k with
  | 0 => .array .long
  | _ => .int
abbrev wsX70 : List Cond := u_ws RX7 TX7 2
theorem nmX7 : ∀ a, a < 2 → ∀ b, b < 2 → a ≠ b → (TX7 a).2.1 ≠ (TX7 b).2.1 := by decide +kernel
theorem tyX7_ok : ∀ k, k < 2 → parseFieldDescriptor (TX7 k).2.2.1 = some (tyX7 k) := by decide +kernel
abbrev cX7_init : ByteArray := prog_9_method_1_code
def yX7_init : MethodName := ⟨RX7, "<init>", "()V"⟩
abbrev cX7_roll : ByteArray := prog_9_method_2_code
def yX7_roll : MethodName := ⟨RX7, "roll", "(LRollingLoads$Line;LRollingLoads$Train;I)V"⟩
abbrev cX7_addAxle : ByteArray := prog_9_method_3_code
def yX7_addAxle : MethodName := ⟨RX7, "addAxle", "(LRollingLoads$Line;JI)V"⟩
def RX8 : String := "RollingLoads$Train"
def TX8 : u_T := fun k => match k with
  | 0 => ("RollingLoads$Train", "weights", "[I", true)
  | 1 => ("RollingLoads$Train", "gaps", "[I", true)
  | 2 => ("RollingLoads$Train", "axleCount", "I", false)
  | _ => ("RollingLoads$Train", "runs", "I", false)
def tyX8 : Nat → FieldType := fun k => match k with
  | 0 => .array .int
  | 1 => .array .int
  | 2 => .int
  | _ => .int
abbrev wsX80 : List Cond := u_ws RX8 TX8 4
theorem nmX8 : ∀ a, a < 4 → ∀ b, b < 4 → a ≠ b → (TX8 a).2.1 ≠ (TX8 b).2.1 := by decide +kernel
theorem tyX8_ok : ∀ k, k < 4 → parseFieldDescriptor (TX8 k).2.2.1 = some (tyX8 k) := by decide +kernel
abbrev cX8_init : ByteArray := prog_10_method_1_code
def yX8_init : MethodName := ⟨RX8, "<init>", "()V"⟩
abbrev cX8_couple : ByteArray := prog_10_method_2_code
def yX8_couple : MethodName := ⟨RX8, "couple", "(II)Z"⟩
abbrev cX8_allGaps : ByteArray := prog_10_method_3_code
def yX8_allGaps : MethodName := ⟨RX8, "allGaps", "()I"⟩
abbrev cX8_copyWeighing : ByteArray := prog_10_method_4_code
def yX8_copyWeighing : MethodName := ⟨RX8, "copyWeighing", "(LRollingLoads$Train;I)V"⟩
abbrev cX8_copySpread : ByteArray := prog_10_method_5_code
def yX8_copySpread : MethodName := ⟨RX8, "copySpread", "(LRollingLoads$Train;I)V"⟩
def RX9 : String := "RollingLoads$Turns"
def TX9 : u_T := fun k => match k with
  | 0 => ("RollingLoads$Turns", "row", "[J", true)
  | 1 => ("RollingLoads$Turns", "size", "I", false)
  | 2 => ("RollingLoads$Turns", "wholeTurns", "I", false)
  | 3 => ("RollingLoads$Turns", "halfTurns", "I", false)
  | _ => ("RollingLoads$Turns", "wearSum", "J", false)
def tyX9 : Nat → FieldType := fun k => match k with
  | 0 => .array .long
  | 1 => .int
  | 2 => .int
  | 3 => .int
  | _ => .long
abbrev wsX90 : List Cond := u_ws RX9 TX9 5
theorem nmX9 : ∀ a, a < 5 → ∀ b, b < 5 → a ≠ b → (TX9 a).2.1 ≠ (TX9 b).2.1 := by decide +kernel
theorem tyX9_ok : ∀ k, k < 5 → parseFieldDescriptor (TX9 k).2.2.1 = some (tyX9 k) := by decide +kernel
abbrev cX9_init : ByteArray := prog_11_method_1_code
def yX9_init : MethodName := ⟨RX9, "<init>", "()V"⟩
abbrev cX9_take : ByteArray := prog_11_method_2_code
def yX9_take : MethodName := ⟨RX9, "take", "(LRollingLoads$Sweep;LRollingLoads$Line;)V"⟩
abbrev cX9_push : ByteArray := prog_11_method_3_code
def yX9_push : MethodName := ⟨RX9, "push", "(J)V"⟩
abbrev cX9_liesBetween : ByteArray := prog_11_method_4_code
def yX9_liesBetween : MethodName := ⟨RX9, "liesBetween", "(JJJ)Z"⟩
abbrev cX9_takeWholeTurns : ByteArray := prog_11_method_5_code
def yX9_takeWholeTurns : MethodName := ⟨RX9, "takeWholeTurns", "(LRollingLoads$Line;)V"⟩
abbrev cX9_innerStepIsLeast : ByteArray := prog_11_method_6_code
def yX9_innerStepIsLeast : MethodName := ⟨RX9, "innerStepIsLeast", "(I)Z"⟩
abbrev cX9_takeHalfTurns : ByteArray := prog_11_method_7_code
def yX9_takeHalfTurns : MethodName := ⟨RX9, "takeHalfTurns", "(LRollingLoads$Line;)V"⟩
abbrev cX9_step : ByteArray := prog_11_method_8_code
def yX9_step : MethodName := ⟨RX9, "step", "(I)J"⟩
abbrev cX9_cube : ByteArray := prog_11_method_9_code
def yX9_cube : MethodName := ⟨RX9, "cube", "(J)J"⟩
def RX10 : String := "RollingLoads"
def TX10 : u_T := fun k => match k with
  | 0 => ("RollingLoads", "bridges", "[LRollingLoads$Bridge;", true)
  | 1 => ("RollingLoads", "bridgeCount", "I", false)
  | 2 => ("RollingLoads", "trains", "[LRollingLoads$Train;", true)
  | 3 => ("RollingLoads", "trainCount", "I", false)
  | 4 => ("RollingLoads", "usualTrain", "I", false)
  | 5 => ("RollingLoads", "roads", "LRollingLoads$Roads;", true)
  | 6 => ("RollingLoads", "solver", "LRollingLoads$Solver;", true)
  | 7 => ("RollingLoads", "line", "LRollingLoads$Line;", true)
  | 8 => ("RollingLoads", "sweep", "LRollingLoads$Sweep;", true)
  | 9 => ("RollingLoads", "extremes", "LRollingLoads$Extremes;", true)
  | 10 => ("RollingLoads", "inspector", "LRollingLoads$Inspector;", true)
  | 11 => ("RollingLoads", "turns", "LRollingLoads$Turns;", true)
  | 12 => ("RollingLoads", "trial", "LRollingLoads$Train;", true)
  | _ => ("RollingLoads", "unmetOfBridge", "[I", true)
def tyX10 : Nat → FieldType := fun k => match k with
  | 0 => .array (.object "RollingLoads$Bridge")
  | 1 => .int
  | 2 => .array (.object "RollingLoads$Train")
  | 3 => .int
  | 4 => .int
  | 5 => .object "RollingLoads$Roads"
  | 6 => .object "RollingLoads$Solver"
  | 7 => .object "RollingLoads$Line"
  | 8 => .object "RollingLoads$Sweep"
  | 9 => .object "RollingLoads$Extremes"
  | 10 => .object "RollingLoads$Inspector"
  | 11 => .object "RollingLoads$Turns"
  | 12 => .object "RollingLoads$Train"
  | _ => .array .int
abbrev wsX100 : List Cond := u_ws RX10 TX10 14
theorem nmX10 : ∀ a, a < 14 → ∀ b, b < 14 → a ≠ b → (TX10 a).2.1 ≠ (TX10 b).2.1 := by decide +kernel
theorem tyX10_ok : ∀ k, k < 14 → parseFieldDescriptor (TX10 k).2.2.1 = some (tyX10 k) := by decide +kernel
abbrev cX10_init : ByteArray := prog_1_method_1_code
def yX10_init : MethodName := ⟨RX10, "<init>", "()V"⟩
abbrev cX10_bridge : ByteArray := prog_1_method_2_code
def yX10_bridge : MethodName := ⟨RX10, "bridge", "(IJJ)I"⟩
abbrev cX10_told : ByteArray := prog_1_method_3_code
def yX10_told : MethodName := ⟨RX10, "told", "(II)I"⟩
abbrev cX10_influence : ByteArray := prog_1_method_4_code
def yX10_influence : MethodName := ⟨RX10, "influence", "(IIIII)J"⟩
abbrev cX10_rule : ByteArray := prog_1_method_5_code
def yX10_rule : MethodName := ⟨RX10, "rule", "(III)I"⟩
abbrev cX10_train : ByteArray := prog_1_method_6_code
def yX10_train : MethodName := ⟨RX10, "train", "(I)I"⟩
abbrev cX10_axle : ByteArray := prog_1_method_7_code
def yX10_axle : MethodName := ⟨RX10, "axle", "(III)I"⟩
abbrev cX10_axles : ByteArray := prog_1_method_8_code
def yX10_axles : MethodName := ⟨RX10, "axles", "(III)I"⟩
abbrev cX10_effect : ByteArray := prog_1_method_9_code
def yX10_effect : MethodName := ⟨RX10, "effect", "(IIIIIII)J"⟩
abbrev cX10_worst : ByteArray := prog_1_method_10_code
def yX10_worst : MethodName := ⟨RX10, "worst", "(IIIIII)J"⟩
abbrev cX10_check : ByteArray := prog_1_method_11_code
def yX10_check : MethodName := ⟨RX10, "check", "(IIIII)I"⟩
abbrev cX10_limit : ByteArray := prog_1_method_12_code
def yX10_limit : MethodName := ⟨RX10, "limit", "(IIII)I"⟩
abbrev cX10_usual : ByteArray := prog_1_method_13_code
def yX10_usual : MethodName := ⟨RX10, "usual", "(I)I"⟩
abbrev cX10_total : ByteArray := prog_1_method_14_code
def yX10_total : MethodName := ⟨RX10, "total", "(IIIIII)J"⟩
abbrev cX10_fails : ByteArray := prog_1_method_15_code
def yX10_fails : MethodName := ⟨RX10, "fails", "(III)I"⟩
abbrev cX10_posted : ByteArray := prog_1_method_16_code
def yX10_posted : MethodName := ⟨RX10, "posted", "(II)I"⟩
abbrev cX10_spread : ByteArray := prog_1_method_17_code
def yX10_spread : MethodName := ⟨RX10, "spread", "(III)I"⟩
abbrev cX10_road : ByteArray := prog_1_method_18_code
def yX10_road : MethodName := ⟨RX10, "road", "(IIII)I"⟩
abbrev cX10_route : ByteArray := prog_1_method_19_code
def yX10_route : MethodName := ⟨RX10, "route", "(IIIII)I"⟩
abbrev cX10_why : ByteArray := prog_1_method_20_code
def yX10_why : MethodName := ⟨RX10, "why", "(IIII)I"⟩
abbrev cX10_wear : ByteArray := prog_1_method_21_code
def yX10_wear : MethodName := ⟨RX10, "wear", "(IIIII)J"⟩
abbrev cX10_traffic : ByteArray := prog_1_method_22_code
def yX10_traffic : MethodName := ⟨RX10, "traffic", "(II)I"⟩
abbrev cX10_worn : ByteArray := prog_1_method_23_code
def yX10_worn : MethodName := ⟨RX10, "worn", "(III)J"⟩
abbrev cX10_count : ByteArray := prog_1_method_24_code
def yX10_count : MethodName := ⟨RX10, "count", "(I)I"⟩
abbrev cX10_within : ByteArray := prog_1_method_25_code
def yX10_within : MethodName := ⟨RX10, "within", "(III)Z"⟩
abbrev cX10_isTown : ByteArray := prog_1_method_26_code
def yX10_isTown : MethodName := ⟨RX10, "isTown", "(I)Z"⟩
abbrev cX10_limitsHold : ByteArray := prog_1_method_27_code
def yX10_limitsHold : MethodName := ⟨RX10, "limitsHold", "(II)Z"⟩
abbrev cX10_wellFormed : ByteArray := prog_1_method_28_code
def yX10_wellFormed : MethodName := ⟨RX10, "wellFormed", "(IJJ)Z"⟩
abbrev cX10_placesOf : ByteArray := prog_1_method_29_code
def yX10_placesOf : MethodName := ⟨RX10, "placesOf", "(J)[I"⟩
abbrev cX10_bridgeAt : ByteArray := prog_1_method_30_code
def yX10_bridgeAt : MethodName := ⟨RX10, "bridgeAt", "(I)LRollingLoads$Bridge;"⟩
abbrev cX10_trainAt : ByteArray := prog_1_method_31_code
def yX10_trainAt : MethodName := ⟨RX10, "trainAt", "(I)LRollingLoads$Train;"⟩
abbrev cX10_partOf : ByteArray := prog_1_method_32_code
def yX10_partOf : MethodName := ⟨RX10, "partOf", "(JJI)J"⟩
abbrev cX10_commonDivisor : ByteArray := prog_1_method_33_code
def yX10_commonDivisor : MethodName := ⟨RX10, "commonDivisor", "(JJ)J"⟩
abbrev cX10_closeRoadsUnmet : ByteArray := prog_1_method_34_code
def yX10_closeRoadsUnmet : MethodName := ⟨RX10, "closeRoadsUnmet", "(LRollingLoads$Train;I)V"⟩
abbrev cX10_firstUnmetOnWay : ByteArray := prog_1_method_35_code
def yX10_firstUnmetOnWay : MethodName := ⟨RX10, "firstUnmetOnWay", "()I"⟩
abbrev cX10_allChecks : ByteArray := prog_1_method_36_code
def yX10_allChecks : MethodName := ⟨RX10, "allChecks", "()I"⟩
abbrev cX10_allTraffic : ByteArray := prog_1_method_37_code
def yX10_allTraffic : MethodName := ⟨RX10, "allTraffic", "()I"⟩
def RX11 : String := "RollingLoadsModel"
def TX11 : u_T := fun k => match k with
  | 0 => ("RollingLoadsModel", "bridges", "I", false)
  | 1 => ("RollingLoadsModel", "length", "[I", true)
  | 2 => ("RollingLoadsModel", "supports", "[I", true)
  | 3 => ("RollingLoadsModel", "hinges", "[I", true)
  | 4 => ("RollingLoadsModel", "supportAt", "[I", true)
  | 5 => ("RollingLoadsModel", "shake", "[I", true)
  | 6 => ("RollingLoadsModel", "lanes", "[I", true)
  | 7 => ("RollingLoadsModel", "share", "[I", true)
  | 8 => ("RollingLoadsModel", "react", "[J", true)
  | 9 => ("RollingLoadsModel", "lower", "[J", true)
  | 10 => ("RollingLoadsModel", "table", "[J", true)
  | 11 => ("RollingLoadsModel", "kept", "[I", true)
  | 12 => ("RollingLoadsModel", "trains", "I", false)
  | 13 => ("RollingLoadsModel", "axles", "[I", true)
  | 14 => ("RollingLoadsModel", "weight", "[I", true)
  | 15 => ("RollingLoadsModel", "gap", "[I", true)
  | 16 => ("RollingLoadsModel", "traffic", "[I", true)
  | 17 => ("RollingLoadsModel", "usual", "I", false)
  | 18 => ("RollingLoadsModel", "scale", "I", false)
  | 19 => ("RollingLoadsModel", "wider", "I", false)
  | 20 => ("RollingLoadsModel", "scaled", "I", false)
  | 21 => ("RollingLoadsModel", "bestWay", "I", false)
  | 22 => ("RollingLoadsModel", "bestTime", "I", false)
  | 23 => ("RollingLoadsModel", "checks", "[I", true)
  | 24 => ("RollingLoadsModel", "checkKind", "[I", true)
  | 25 => ("RollingLoadsModel", "checkAt", "[I", true)
  | 26 => ("RollingLoadsModel", "checkHigh", "[I", true)
  | 27 => ("RollingLoadsModel", "checkLow", "[I", true)
  | 28 => ("RollingLoadsModel", "roads", "I", false)
  | 29 => ("RollingLoadsModel", "from", "[I", true)
  | 30 => ("RollingLoadsModel", "to", "[I", true)
  | 31 => ("RollingLoadsModel", "miles", "[I", true)
  | 32 => ("RollingLoadsModel", "over", "[I", true)
  | 33 => ("RollingLoadsModel", "isOpen", "[Z", true)
  | 34 => ("RollingLoadsModel", "far", "[I", true)
  | 35 => ("RollingLoadsModel", "steps", "[I", true)
  | 36 => ("RollingLoadsModel", "row", "[I", true)
  | 37 => ("RollingLoadsModel", "heights", "[J", true)
  | 38 => ("RollingLoadsModel", "many", "I", false)
  | 39 => ("RollingLoadsModel", "wholes", "I", false)
  | _ => ("RollingLoadsModel", "halves", "I", false)
def tyX11 : Nat → FieldType := fun k => match k with
  | 0 => .int
  | 1 => .array .int
  | 2 => .array .int
  | 3 => .array .int
  | 4 => .array .int
  | 5 => .array .int
  | 6 => .array .int
  | 7 => .array .int
  | 8 => .array .long
  | 9 => .array .long
  | 10 => .array .long
  | 11 => .array .int
  | 12 => .int
  | 13 => .array .int
  | 14 => .array .int
  | 15 => .array .int
  | 16 => .array .int
  | 17 => .int
  | 18 => .int
  | 19 => .int
  | 20 => .int
  | 21 => .int
  | 22 => .int
  | 23 => .array .int
  | 24 => .array .int
  | 25 => .array .int
  | 26 => .array .int
  | 27 => .array .int
  | 28 => .int
  | 29 => .array .int
  | 30 => .array .int
  | 31 => .array .int
  | 32 => .array .int
  | 33 => .array .boolean
  | 34 => .array .int
  | 35 => .array .int
  | 36 => .array .int
  | 37 => .array .long
  | 38 => .int
  | 39 => .int
  | _ => .int
abbrev wsX110 : List Cond := u_ws RX11 TX11 41
theorem nmX11 : ∀ a, a < 41 → ∀ b, b < 41 → a ≠ b → (TX11 a).2.1 ≠ (TX11 b).2.1 := by decide +kernel
theorem tyX11_ok : ∀ k, k < 41 → parseFieldDescriptor (TX11 k).2.2.1 = some (tyX11 k) := by decide +kernel
abbrev cX11_init : ByteArray := prog_13_method_1_code
def yX11_init : MethodName := ⟨RX11, "<init>", "()V"⟩
abbrev cX11_in : ByteArray := prog_13_method_3_code
def yX11_in : MethodName := ⟨RX11, "in", "(JJJ)Z"⟩
abbrev cX11_size : ByteArray := prog_13_method_4_code
def yX11_size : MethodName := ⟨RX11, "size", "(J)J"⟩
abbrev cX11_gcd : ByteArray := prog_13_method_5_code
def yX11_gcd : MethodName := ⟨RX11, "gcd", "(JJ)J"⟩
abbrev cX11_part : ByteArray := prog_13_method_6_code
def yX11_part : MethodName := ⟨RX11, "part", "(JJI)J"⟩
abbrev cX11_countOf : ByteArray := prog_13_method_7_code
def yX11_countOf : MethodName := ⟨RX11, "countOf", "(J)I"⟩
abbrev cX11_layTable : ByteArray := prog_13_method_8_code
def yX11_layTable : MethodName := ⟨RX11, "layTable", "(IJI)V"⟩
abbrev cX11_change : ByteArray := prog_13_method_9_code
def yX11_change : MethodName := ⟨RX11, "change", "(II)V"⟩
abbrev cX11_solve : ByteArray := prog_13_method_10_code
def yX11_solve : MethodName := ⟨RX11, "solve", "(I)J"⟩
abbrev cX11_findBridge : ByteArray := prog_13_method_11_code
def yX11_findBridge : MethodName := ⟨RX11, "findBridge", "(IJ)Z"⟩
abbrev cX11_bridge : ByteArray := prog_13_method_12_code
def yX11_bridge : MethodName := ⟨RX11, "bridge", "(IJJ)I"⟩
abbrev cX11_laySupports : ByteArray := prog_13_method_13_code
def yX11_laySupports : MethodName := ⟨RX11, "laySupports", "(IJ)V"⟩
abbrev cX11_isLoose : ByteArray := prog_13_method_14_code
def yX11_isLoose : MethodName := ⟨RX11, "isLoose", "(IJJI)Z"⟩
abbrev cX11_noBridge : ByteArray := prog_13_method_15_code
def yX11_noBridge : MethodName := ⟨RX11, "noBridge", "(I)Z"⟩
abbrev cX11_told : ByteArray := prog_13_method_16_code
def yX11_told : MethodName := ⟨RX11, "told", "(II)I"⟩
abbrev cX11_noSupport : ByteArray := prog_13_method_17_code
def yX11_noSupport : MethodName := ⟨RX11, "noSupport", "(III)Z"⟩
abbrev cX11_isResponse : ByteArray := prog_13_method_18_code
def yX11_isResponse : MethodName := ⟨RX11, "isResponse", "(III)Z"⟩
abbrev cX11_influenceAt : ByteArray := prog_13_method_19_code
def yX11_influenceAt : MethodName := ⟨RX11, "influenceAt", "(IIII)J"⟩
abbrev cX11_influence : ByteArray := prog_13_method_20_code
def yX11_influence : MethodName := ⟨RX11, "influence", "(IIIII)J"⟩
abbrev cX11_rule : ByteArray := prog_13_method_21_code
def yX11_rule : MethodName := ⟨RX11, "rule", "(III)I"⟩
abbrev cX11_noTrain : ByteArray := prog_13_method_22_code
def yX11_noTrain : MethodName := ⟨RX11, "noTrain", "(I)Z"⟩
abbrev cX11_train : ByteArray := prog_13_method_23_code
def yX11_train : MethodName := ⟨RX11, "train", "(I)I"⟩
abbrev cX11_axle : ByteArray := prog_13_method_24_code
def yX11_axle : MethodName := ⟨RX11, "axle", "(III)I"⟩
abbrev cX11_weightOf : ByteArray := prog_13_method_25_code
def yX11_weightOf : MethodName := ⟨RX11, "weightOf", "(II)I"⟩
abbrev cX11_gapOf : ByteArray := prog_13_method_26_code
def yX11_gapOf : MethodName := ⟨RX11, "gapOf", "(II)I"⟩
abbrev cX11_allGaps : ByteArray := prog_13_method_27_code
def yX11_allGaps : MethodName := ⟨RX11, "allGaps", "(I)I"⟩
abbrev cX11_axles : ByteArray := prog_13_method_28_code
def yX11_axles : MethodName := ⟨RX11, "axles", "(III)I"⟩
abbrev cX11_effectAt : ByteArray := prog_13_method_29_code
def yX11_effectAt : MethodName := ⟨RX11, "effectAt", "(IIIIII)J"⟩
abbrev cX11_effect : ByteArray := prog_13_method_30_code
def yX11_effect : MethodName := ⟨RX11, "effect", "(IIIIIII)J"⟩
abbrev cX11_extreme : ByteArray := prog_13_method_31_code
def yX11_extreme : MethodName := ⟨RX11, "extreme", "(IIIII)J"⟩
abbrev cX11_worst : ByteArray := prog_13_method_32_code
def yX11_worst : MethodName := ⟨RX11, "worst", "(IIIIII)J"⟩
abbrev cX11_isLimit : ByteArray := prog_13_method_33_code
def yX11_isLimit : MethodName := ⟨RX11, "isLimit", "(II)Z"⟩
abbrev cX11_check : ByteArray := prog_13_method_34_code
def yX11_check : MethodName := ⟨RX11, "check", "(IIIII)I"⟩
abbrev cX11_noCheck : ByteArray := prog_13_method_35_code
def yX11_noCheck : MethodName := ⟨RX11, "noCheck", "(II)Z"⟩
abbrev cX11_limit : ByteArray := prog_13_method_36_code
def yX11_limit : MethodName := ⟨RX11, "limit", "(IIII)I"⟩
abbrev cX11_usual : ByteArray := prog_13_method_37_code
def yX11_usual : MethodName := ⟨RX11, "usual", "(I)I"⟩
abbrev cX11_totalOf : ByteArray := prog_13_method_38_code
def yX11_totalOf : MethodName := ⟨RX11, "totalOf", "(IIIII)J"⟩
abbrev cX11_isMode : ByteArray := prog_13_method_39_code
def yX11_isMode : MethodName := ⟨RX11, "isMode", "(I)Z"⟩
abbrev cX11_total : ByteArray := prog_13_method_40_code
def yX11_total : MethodName := ⟨RX11, "total", "(IIIIII)J"⟩
abbrev cX11_isMet : ByteArray := prog_13_method_41_code
def yX11_isMet : MethodName := ⟨RX11, "isMet", "(IIII)Z"⟩
abbrev cX11_failing : ByteArray := prog_13_method_42_code
def yX11_failing : MethodName := ⟨RX11, "failing", "(III)I"⟩
abbrev cX11_fails : ByteArray := prog_13_method_43_code
def yX11_fails : MethodName := ⟨RX11, "fails", "(III)I"⟩
abbrev cX11_holds : ByteArray := prog_13_method_44_code
def yX11_holds : MethodName := ⟨RX11, "holds", "(IIIII)Z"⟩
abbrev cX11_posted : ByteArray := prog_13_method_45_code
def yX11_posted : MethodName := ⟨RX11, "posted", "(II)I"⟩
abbrev cX11_spread : ByteArray := prog_13_method_46_code
def yX11_spread : MethodName := ⟨RX11, "spread", "(III)I"⟩
abbrev cX11_isTown : ByteArray := prog_13_method_47_code
def yX11_isTown : MethodName := ⟨RX11, "isTown", "(I)Z"⟩
abbrev cX11_road : ByteArray := prog_13_method_48_code
def yX11_road : MethodName := ⟨RX11, "road", "(IIII)I"⟩
abbrev cX11_open : ByteArray := prog_13_method_49_code
def yX11_open : MethodName := ⟨RX11, "open", "(IIZ)V"⟩
abbrev cX11_beyond : ByteArray := prog_13_method_50_code
def yX11_beyond : MethodName := ⟨RX11, "beyond", "(II)I"⟩
abbrev cX11_findFar : ByteArray := prog_13_method_51_code
def yX11_findFar : MethodName := ⟨RX11, "findFar", "(I)V"⟩
abbrev cX11_layRoute : ByteArray := prog_13_method_52_code
def yX11_layRoute : MethodName := ⟨RX11, "layRoute", "(II)I"⟩
abbrev cX11_route : ByteArray := prog_13_method_53_code
def yX11_route : MethodName := ⟨RX11, "route", "(IIIII)I"⟩
abbrev cX11_why : ByteArray := prog_13_method_54_code
def yX11_why : MethodName := ⟨RX11, "why", "(IIII)I"⟩
abbrev cX11_out : ByteArray := prog_13_method_55_code
def yX11_out : MethodName := ⟨RX11, "out", "(II)V"⟩
abbrev cX11_stepAt : ByteArray := prog_13_method_56_code
def yX11_stepAt : MethodName := ⟨RX11, "stepAt", "(I)J"⟩
abbrev cX11_isIdle : ByteArray := prog_13_method_57_code
def yX11_isIdle : MethodName := ⟨RX11, "isIdle", "(I)Z"⟩
abbrev cX11_cube : ByteArray := prog_13_method_58_code
def yX11_cube : MethodName := ⟨RX11, "cube", "(J)J"⟩
abbrev cX11_wearOf : ByteArray := prog_13_method_59_code
def yX11_wearOf : MethodName := ⟨RX11, "wearOf", "(IIII)J"⟩
abbrev cX11_wear : ByteArray := prog_13_method_60_code
def yX11_wear : MethodName := ⟨RX11, "wear", "(IIIII)J"⟩
abbrev cX11_traffic : ByteArray := prog_13_method_61_code
def yX11_traffic : MethodName := ⟨RX11, "traffic", "(II)I"⟩
abbrev cX11_worn : ByteArray := prog_13_method_62_code
def yX11_worn : MethodName := ⟨RX11, "worn", "(III)J"⟩
abbrev cX11_count : ByteArray := prog_13_method_63_code
def yX11_count : MethodName := ⟨RX11, "count", "(I)I"⟩
def RJ13 : String := "java/lang/Long"
def TJ13 : u_T := fun k => match k with
  | _ => ("", "", "", false)
def tyJ13 : Nat → FieldType := fun k => match k with
  | _ => .int
abbrev wsJ130 : List Cond := u_ws RJ13 TJ13 0
theorem nmJ13 : ∀ a, a < 0 → ∀ b, b < 0 → a ≠ b → (TJ13 a).2.1 ≠ (TJ13 b).2.1 := by decide +kernel
theorem tyJ13_ok : ∀ k, k < 0 → parseFieldDescriptor (TJ13 k).2.2.1 = some (tyJ13 k) := by decide +kernel
abbrev cJ13_bitCount_95d88 : ByteArray := prog_14_method_50_code
def yJ13_bitCount_95d88 : MethodName := ⟨RJ13, "bitCount", "(J)I"⟩
def RJ9 : String := "java/lang/Math"
def TJ9 : u_T := fun k => match k with
  | _ => ("", "", "", false)
def tyJ9 : Nat → FieldType := fun k => match k with
  | _ => .int
abbrev wsJ90 : List Cond := u_ws RJ9 TJ9 0
theorem nmJ9 : ∀ a, a < 0 → ∀ b, b < 0 → a ≠ b → (TJ9 a).2.1 ≠ (TJ9 b).2.1 := by decide +kernel
theorem tyJ9_ok : ∀ k, k < 0 → parseFieldDescriptor (TJ9 k).2.2.1 = some (tyJ9 k) := by decide +kernel
abbrev cJ9_abs_067f4 : ByteArray := prog_15_method_61_code
def yJ9_abs_067f4 : MethodName := ⟨RJ9, "abs", "(J)J"⟩
abbrev cJ9_max_7cf53 : ByteArray := prog_15_method_65_code
def yJ9_max_7cf53 : MethodName := ⟨RJ9, "max", "(II)I"⟩
abbrev cJ9_max_f86c9 : ByteArray := prog_15_method_66_code
def yJ9_max_f86c9 : MethodName := ⟨RJ9, "max", "(JJ)J"⟩
abbrev cJ9_min_7cf53 : ByteArray := prog_15_method_69_code
def yJ9_min_7cf53 : MethodName := ⟨RJ9, "min", "(II)I"⟩
abbrev cJ9_min_f86c9 : ByteArray := prog_15_method_70_code
def yJ9_min_f86c9 : MethodName := ⟨RJ9, "min", "(JJ)J"⟩
def RJ7 : String := "java/util/Arrays"
def TJ7 : u_T := fun k => match k with
  | _ => ("", "", "", false)
def tyJ7 : Nat → FieldType := fun k => match k with
  | _ => .int
abbrev wsJ70 : List Cond := u_ws RJ7 TJ7 0
theorem nmJ7 : ∀ a, a < 0 → ∀ b, b < 0 → a ≠ b → (TJ7 a).2.1 ≠ (TJ7 b).2.1 := by decide +kernel
theorem tyJ7_ok : ∀ k, k < 0 → parseFieldDescriptor (TJ7 k).2.2.1 = some (tyJ7 k) := by decide +kernel
abbrev cJ7_rangeCheck_23922 : ByteArray := prog_16_method_30_code
def yJ7_rangeCheck_23922 : MethodName := ⟨RJ7, "rangeCheck", "(III)V"⟩
abbrev cJ7_fill_bad5a : ByteArray := prog_16_method_102_code
def yJ7_fill_bad5a : MethodName := ⟨RJ7, "fill", "([JIIJ)V"⟩
abbrev cJ7_fill_53178 : ByteArray := prog_16_method_103_code
def yJ7_fill_53178 : MethodName := ⟨RJ7, "fill", "([II)V"⟩
def RL : String := "RollingLoadsLaw"
abbrev cL_law : ByteArray := code
def yL_law : MethodName := ⟨RL, "law", "([I)Z"⟩
abbrev vwCl : List vw_C := [(RX0, TX0, 8), (RX1, TX1, 3), (RX2, TX2, 3), (RX3, TX3, 8), (RX4, TX4, 3), (RX5, TX5, 10), (RX6, TX6, 3), (RX7, TX7, 2), (RX8, TX8, 4), (RX9, TX9, 5), (RX10, TX10, 14), (RX11, TX11, 41)]
end
section
theorem dX0_init_0 : decode cX0_init 0 = .ok (.aload_n 0, 1) := by decide +kernel
theorem dX0_init_1 : decode cX0_init 1 = .ok (.invokespecial 3, 3) := by decide +kernel
theorem dX0_init_4 : decode cX0_init 4 = .ok (.aload_n 0, 1) := by decide +kernel
theorem dX0_init_5 : decode cX0_init 5 = .ok (.iconst 3, 1) := by decide +kernel
theorem dX0_init_6 : decode cX0_init 6 = .ok (.newarray .int, 2) := by decide +kernel
theorem dX0_init_8 : decode cX0_init 8 = .ok (.dup, 1) := by decide +kernel
theorem dX0_init_9 : decode cX0_init 9 = .ok (.iconst 0, 1) := by decide +kernel
theorem dX0_init_10 : decode cX0_init 10 = .ok (.bipush 30, 2) := by decide +kernel
theorem dX0_init_12 : decode cX0_init 12 = .ok (.iastore, 1) := by decide +kernel
theorem dX0_init_13 : decode cX0_init 13 = .ok (.dup, 1) := by decide +kernel
theorem dX0_init_14 : decode cX0_init 14 = .ok (.iconst 1, 1) := by decide +kernel
theorem dX0_init_15 : decode cX0_init 15 = .ok (.iconst 1, 1) := by decide +kernel
theorem dX0_init_16 : decode cX0_init 16 = .ok (.iastore, 1) := by decide +kernel
theorem dX0_init_17 : decode cX0_init 17 = .ok (.dup, 1) := by decide +kernel
theorem dX0_init_18 : decode cX0_init 18 = .ok (.iconst 2, 1) := by decide +kernel
theorem dX0_init_19 : decode cX0_init 19 = .ok (.bipush 50, 2) := by decide +kernel
theorem dX0_init_21 : decode cX0_init 21 = .ok (.iastore, 1) := by decide +kernel
theorem dX0_init_22 : decode cX0_init 22 = .ok (.putfield 9, 3) := by decide +kernel
theorem dX0_init_25 : decode cX0_init 25 = .ok (.aload_n 0, 1) := by decide +kernel
theorem dX0_init_26 : decode cX0_init 26 = .ok (.iconst 5, 1) := by decide +kernel
theorem dX0_init_27 : decode cX0_init 27 = .ok (.anewarray 15, 3) := by decide +kernel
theorem dX0_init_30 : decode cX0_init 30 = .ok (.putfield 17, 3) := by decide +kernel
theorem dX0_init_33 : decode cX0_init 33 = .ok (.aload_n 0, 1) := by decide +kernel
theorem dX0_init_34 : decode cX0_init 34 = .ok (.iconst 0, 1) := by decide +kernel
theorem dX0_init_35 : decode cX0_init 35 = .ok (.putfield 21, 3) := by decide +kernel
theorem dX0_init_38 : decode cX0_init 38 = .ok (.aload_n 0, 1) := by decide +kernel
theorem dX0_init_39 : decode cX0_init 39 = .ok (.iload_n 1, 1) := by decide +kernel
theorem dX0_init_40 : decode cX0_init 40 = .ok (.putfield 25, 3) := by decide +kernel
theorem dX0_init_43 : decode cX0_init 43 = .ok (.aload_n 0, 1) := by decide +kernel
theorem dX0_init_44 : decode cX0_init 44 = .ok (.aload_n 2, 1) := by decide +kernel
theorem dX0_init_45 : decode cX0_init 45 = .ok (.putfield 28, 3) := by decide +kernel
theorem dX0_init_48 : decode cX0_init 48 = .ok (.aload_n 0, 1) := by decide +kernel
theorem dX0_init_49 : decode cX0_init 49 = .ok (.iload_n 3, 1) := by decide +kernel
theorem dX0_init_50 : decode cX0_init 50 = .ok (.putfield 31, 3) := by decide +kernel
theorem dX0_init_53 : decode cX0_init 53 = .ok (.aload_n 0, 1) := by decide +kernel
theorem dX0_init_54 : decode cX0_init 54 = .ok (.aload 4, 2) := by decide +kernel
theorem dX0_init_56 : decode cX0_init 56 = .ok (.invokevirtual 34, 3) := by decide +kernel
theorem dX0_init_59 : decode cX0_init 59 = .ok (.putfield 40, 3) := by decide +kernel
theorem dX0_init_62 : decode cX0_init 62 = .ok (.aload_n 0, 1) := by decide +kernel
theorem dX0_init_63 : decode cX0_init 63 = .ok (.aload_n 2, 1) := by decide +kernel
theorem dX0_init_64 : decode cX0_init 64 = .ok (.arraylength, 1) := by decide +kernel
theorem dX0_init_65 : decode cX0_init 65 = .ok (.iload_n 1, 1) := by decide +kernel
theorem dX0_init_66 : decode cX0_init 66 = .ok (.iconst 1, 1) := by decide +kernel
theorem dX0_init_67 : decode cX0_init 67 = .ok (.iadd, 1) := by decide +kernel
theorem dX0_init_68 : decode cX0_init 68 = .ok (.multianewarray 43 2, 4) := by decide +kernel
theorem dX0_init_72 : decode cX0_init 72 = .ok (.putfield 45, 3) := by decide +kernel
theorem dX0_init_75 : decode cX0_init 75 = .ok (.iconst 0, 1) := by decide +kernel
theorem dX0_init_76 : decode cX0_init 76 = .ok (.istore 5, 2) := by decide +kernel
theorem dX0_init_78 : decode cX0_init 78 = .ok (.iload 5, 2) := by decide +kernel
theorem dX0_init_80 : decode cX0_init 80 = .ok (.aload_n 2, 1) := by decide +kernel
theorem dX0_init_81 : decode cX0_init 81 = .ok (.arraylength, 1) := by decide +kernel
theorem dX0_init_82 : decode cX0_init 82 = .ok (.if_icmp .ge 43, 3) := by decide +kernel
theorem dX0_init_85 : decode cX0_init 85 = .ok (.iconst 0, 1) := by decide +kernel
theorem dX0_init_86 : decode cX0_init 86 = .ok (.istore 6, 2) := by decide +kernel
theorem dX0_init_88 : decode cX0_init 88 = .ok (.iload 6, 2) := by decide +kernel
theorem dX0_init_90 : decode cX0_init 90 = .ok (.iload_n 1, 1) := by decide +kernel
theorem dX0_init_91 : decode cX0_init 91 = .ok (.if_icmp .gt 28, 3) := by decide +kernel
theorem dX0_init_94 : decode cX0_init 94 = .ok (.aload_n 0, 1) := by decide +kernel
theorem dX0_init_95 : decode cX0_init 95 = .ok (.getfield 45, 3) := by decide +kernel
theorem dX0_init_98 : decode cX0_init 98 = .ok (.iload 5, 2) := by decide +kernel
theorem dX0_init_100 : decode cX0_init 100 = .ok (.aaload, 1) := by decide +kernel
theorem dX0_init_101 : decode cX0_init 101 = .ok (.iload 6, 2) := by decide +kernel
theorem dX0_init_103 : decode cX0_init 103 = .ok (.aload 4, 2) := by decide +kernel
theorem dX0_init_105 : decode cX0_init 105 = .ok (.iload 5, 2) := by decide +kernel
theorem dX0_init_107 : decode cX0_init 107 = .ok (.iload 6, 2) := by decide +kernel
theorem dX0_init_109 : decode cX0_init 109 = .ok (.invokevirtual 48, 3) := by decide +kernel
theorem dX0_init_112 : decode cX0_init 112 = .ok (.lastore, 1) := by decide +kernel
theorem dX0_init_113 : decode cX0_init 113 = .ok (.iinc 6 1, 3) := by decide +kernel
theorem dX0_init_116 : decode cX0_init 116 = .ok (.goto (-28), 3) := by decide +kernel
theorem dX0_init_119 : decode cX0_init 119 = .ok (.iinc 5 1, 3) := by decide +kernel
theorem dX0_init_122 : decode cX0_init 122 = .ok (.goto (-44), 3) := by decide +kernel
theorem dX0_init_125 : decode cX0_init 125 = .ok (.return_, 1) := by decide +kernel
theorem dX0_lacksSupport_0 : decode cX0_lacksSupport 0 = .ok (.iload_n 1, 1) := by decide +kernel
theorem dX0_lacksSupport_1 : decode cX0_lacksSupport 1 = .ok (.ifCond .ne 22, 3) := by decide +kernel
theorem dX0_lacksSupport_4 : decode cX0_lacksSupport 4 = .ok (.iload_n 2, 1) := by decide +kernel
theorem dX0_lacksSupport_5 : decode cX0_lacksSupport 5 = .ok (.iconst 0, 1) := by decide +kernel
theorem dX0_lacksSupport_6 : decode cX0_lacksSupport 6 = .ok (.aload_n 0, 1) := by decide +kernel
theorem dX0_lacksSupport_7 : decode cX0_lacksSupport 7 = .ok (.getfield 28, 3) := by decide +kernel
theorem dX0_lacksSupport_10 : decode cX0_lacksSupport 10 = .ok (.arraylength, 1) := by decide +kernel
theorem dX0_lacksSupport_11 : decode cX0_lacksSupport 11 = .ok (.iconst 1, 1) := by decide +kernel
theorem dX0_lacksSupport_12 : decode cX0_lacksSupport 12 = .ok (.isub, 1) := by decide +kernel
theorem dX0_lacksSupport_13 : decode cX0_lacksSupport 13 = .ok (.invokestatic 52, 3) := by decide +kernel
theorem dX0_lacksSupport_16 : decode cX0_lacksSupport 16 = .ok (.ifCond .ne 7, 3) := by decide +kernel
theorem dX0_lacksSupport_19 : decode cX0_lacksSupport 19 = .ok (.iconst 1, 1) := by decide +kernel
theorem dX0_lacksSupport_20 : decode cX0_lacksSupport 20 = .ok (.goto 4, 3) := by decide +kernel
theorem dX0_lacksSupport_23 : decode cX0_lacksSupport 23 = .ok (.iconst 0, 1) := by decide +kernel
theorem dX0_lacksSupport_24 : decode cX0_lacksSupport 24 = .ok (.ireturn, 1) := by decide +kernel
theorem dX0_hasResponse_0 : decode cX0_hasResponse 0 = .ok (.iload_n 1, 1) := by decide +kernel
theorem dX0_hasResponse_1 : decode cX0_hasResponse 1 = .ok (.ifCond .ne 20, 3) := by decide +kernel
theorem dX0_hasResponse_4 : decode cX0_hasResponse 4 = .ok (.aload_n 0, 1) := by decide +kernel
theorem dX0_hasResponse_5 : decode cX0_hasResponse 5 = .ok (.iload_n 1, 1) := by decide +kernel
theorem dX0_hasResponse_6 : decode cX0_hasResponse 6 = .ok (.iload_n 2, 1) := by decide +kernel
theorem dX0_hasResponse_7 : decode cX0_hasResponse 7 = .ok (.invokevirtual 56, 3) := by decide +kernel
theorem dX0_hasResponse_10 : decode cX0_hasResponse 10 = .ok (.ifCond .ne 7, 3) := by decide +kernel
theorem dX0_hasResponse_13 : decode cX0_hasResponse 13 = .ok (.iconst 1, 1) := by decide +kernel
theorem dX0_hasResponse_14 : decode cX0_hasResponse 14 = .ok (.goto 29, 3) := by decide +kernel
theorem dX0_hasResponse_17 : decode cX0_hasResponse 17 = .ok (.iconst 0, 1) := by decide +kernel
theorem dX0_hasResponse_18 : decode cX0_hasResponse 18 = .ok (.goto 25, 3) := by decide +kernel
theorem dX0_hasResponse_21 : decode cX0_hasResponse 21 = .ok (.iload_n 1, 1) := by decide +kernel
theorem dX0_hasResponse_22 : decode cX0_hasResponse 22 = .ok (.iconst 1, 1) := by decide +kernel
theorem dX0_hasResponse_23 : decode cX0_hasResponse 23 = .ok (.if_icmp .ne 19, 3) := by decide +kernel
theorem dX0_hasResponse_26 : decode cX0_hasResponse 26 = .ok (.iload_n 2, 1) := by decide +kernel
theorem dX0_hasResponse_27 : decode cX0_hasResponse 27 = .ok (.iconst 0, 1) := by decide +kernel
theorem dX0_hasResponse_28 : decode cX0_hasResponse 28 = .ok (.aload_n 0, 1) := by decide +kernel
theorem dX0_hasResponse_29 : decode cX0_hasResponse 29 = .ok (.getfield 25, 3) := by decide +kernel
theorem dX0_hasResponse_32 : decode cX0_hasResponse 32 = .ok (.invokestatic 52, 3) := by decide +kernel
theorem dX0_hasResponse_35 : decode cX0_hasResponse 35 = .ok (.ifCond .eq 7, 3) := by decide +kernel
theorem dX0_hasResponse_38 : decode cX0_hasResponse 38 = .ok (.iconst 1, 1) := by decide +kernel
theorem dX0_hasResponse_39 : decode cX0_hasResponse 39 = .ok (.goto 4, 3) := by decide +kernel
theorem dX0_hasResponse_42 : decode cX0_hasResponse 42 = .ok (.iconst 0, 1) := by decide +kernel
theorem dX0_hasResponse_43 : decode cX0_hasResponse 43 = .ok (.ireturn, 1) := by decide +kernel
theorem dX0_checkAt_0 : decode cX0_checkAt 0 = .ok (.iload_n 1, 1) := by decide +kernel
theorem dX0_checkAt_1 : decode cX0_checkAt 1 = .ok (.iconst 0, 1) := by decide +kernel
theorem dX0_checkAt_2 : decode cX0_checkAt 2 = .ok (.aload_n 0, 1) := by decide +kernel
theorem dX0_checkAt_3 : decode cX0_checkAt 3 = .ok (.getfield 21, 3) := by decide +kernel
theorem dX0_checkAt_6 : decode cX0_checkAt 6 = .ok (.iconst 1, 1) := by decide +kernel
theorem dX0_checkAt_7 : decode cX0_checkAt 7 = .ok (.isub, 1) := by decide +kernel
theorem dX0_checkAt_8 : decode cX0_checkAt 8 = .ok (.invokestatic 52, 3) := by decide +kernel
theorem dX0_checkAt_11 : decode cX0_checkAt 11 = .ok (.ifCond .eq 12, 3) := by decide +kernel
theorem dX0_checkAt_14 : decode cX0_checkAt 14 = .ok (.aload_n 0, 1) := by decide +kernel
theorem dX0_checkAt_15 : decode cX0_checkAt 15 = .ok (.getfield 17, 3) := by decide +kernel
theorem dX0_checkAt_18 : decode cX0_checkAt 18 = .ok (.iload_n 1, 1) := by decide +kernel
theorem dX0_checkAt_19 : decode cX0_checkAt 19 = .ok (.aaload, 1) := by decide +kernel
theorem dX0_checkAt_20 : decode cX0_checkAt 20 = .ok (.goto 4, 3) := by decide +kernel
theorem dX0_checkAt_23 : decode cX0_checkAt 23 = .ok (.aconst_null, 1) := by decide +kernel
theorem dX0_checkAt_24 : decode cX0_checkAt 24 = .ok (.areturn, 1) := by decide +kernel
theorem dX0_momentUpper_0 : decode cX0_momentUpper 0 = .ok (.aload_n 0, 1) := by decide +kernel
theorem dX0_momentUpper_1 : decode cX0_momentUpper 1 = .ok (.getfield 40, 3) := by decide +kernel
theorem dX0_momentUpper_4 : decode cX0_momentUpper 4 = .ok (.lneg, 1) := by decide +kernel
theorem dX0_momentUpper_5 : decode cX0_momentUpper 5 = .ok (.iconst 0, 1) := by decide +kernel
theorem dX0_momentUpper_6 : decode cX0_momentUpper 6 = .ok (.iload_n 1, 1) := by decide +kernel
theorem dX0_momentUpper_7 : decode cX0_momentUpper 7 = .ok (.iload_n 2, 1) := by decide +kernel
theorem dX0_momentUpper_8 : decode cX0_momentUpper 8 = .ok (.isub, 1) := by decide +kernel
theorem dX0_momentUpper_9 : decode cX0_momentUpper 9 = .ok (.invokestatic 60, 3) := by decide +kernel
theorem dX0_momentUpper_12 : decode cX0_momentUpper 12 = .ok (.i2l, 1) := by decide +kernel
theorem dX0_momentUpper_13 : decode cX0_momentUpper 13 = .ok (.lmul, 1) := by decide +kernel
theorem dX0_momentUpper_14 : decode cX0_momentUpper 14 = .ok (.lstore_n 3, 1) := by decide +kernel
theorem dX0_momentUpper_15 : decode cX0_momentUpper 15 = .ok (.iconst 0, 1) := by decide +kernel
theorem dX0_momentUpper_16 : decode cX0_momentUpper 16 = .ok (.istore 5, 2) := by decide +kernel
theorem dX0_momentUpper_18 : decode cX0_momentUpper 18 = .ok (.iload 5, 2) := by decide +kernel
theorem dX0_momentUpper_20 : decode cX0_momentUpper 20 = .ok (.aload_n 0, 1) := by decide +kernel
theorem dX0_momentUpper_21 : decode cX0_momentUpper 21 = .ok (.getfield 28, 3) := by decide +kernel
theorem dX0_momentUpper_24 : decode cX0_momentUpper 24 = .ok (.arraylength, 1) := by decide +kernel
theorem dX0_momentUpper_25 : decode cX0_momentUpper 25 = .ok (.if_icmp .ge 36, 3) := by decide +kernel
theorem dX0_momentUpper_28 : decode cX0_momentUpper 28 = .ok (.lload_n 3, 1) := by decide +kernel
theorem dX0_momentUpper_29 : decode cX0_momentUpper 29 = .ok (.aload_n 0, 1) := by decide +kernel
theorem dX0_momentUpper_30 : decode cX0_momentUpper 30 = .ok (.getfield 45, 3) := by decide +kernel
theorem dX0_momentUpper_33 : decode cX0_momentUpper 33 = .ok (.iload 5, 2) := by decide +kernel
theorem dX0_momentUpper_35 : decode cX0_momentUpper 35 = .ok (.aaload, 1) := by decide +kernel
theorem dX0_momentUpper_36 : decode cX0_momentUpper 36 = .ok (.iload_n 2, 1) := by decide +kernel
theorem dX0_momentUpper_37 : decode cX0_momentUpper 37 = .ok (.laload, 1) := by decide +kernel
theorem dX0_momentUpper_38 : decode cX0_momentUpper 38 = .ok (.iconst 0, 1) := by decide +kernel
theorem dX0_momentUpper_39 : decode cX0_momentUpper 39 = .ok (.iload_n 1, 1) := by decide +kernel
theorem dX0_momentUpper_40 : decode cX0_momentUpper 40 = .ok (.aload_n 0, 1) := by decide +kernel
theorem dX0_momentUpper_41 : decode cX0_momentUpper 41 = .ok (.getfield 28, 3) := by decide +kernel
theorem dX0_momentUpper_44 : decode cX0_momentUpper 44 = .ok (.iload 5, 2) := by decide +kernel
theorem dX0_momentUpper_46 : decode cX0_momentUpper 46 = .ok (.iaload, 1) := by decide +kernel
theorem dX0_momentUpper_47 : decode cX0_momentUpper 47 = .ok (.isub, 1) := by decide +kernel
theorem dX0_momentUpper_48 : decode cX0_momentUpper 48 = .ok (.invokestatic 60, 3) := by decide +kernel
theorem dX0_momentUpper_51 : decode cX0_momentUpper 51 = .ok (.i2l, 1) := by decide +kernel
theorem dX0_momentUpper_52 : decode cX0_momentUpper 52 = .ok (.lmul, 1) := by decide +kernel
theorem dX0_momentUpper_53 : decode cX0_momentUpper 53 = .ok (.ladd, 1) := by decide +kernel
theorem dX0_momentUpper_54 : decode cX0_momentUpper 54 = .ok (.lstore_n 3, 1) := by decide +kernel
theorem dX0_momentUpper_55 : decode cX0_momentUpper 55 = .ok (.iinc 5 1, 3) := by decide +kernel
theorem dX0_momentUpper_58 : decode cX0_momentUpper 58 = .ok (.goto (-40), 3) := by decide +kernel
theorem dX0_momentUpper_61 : decode cX0_momentUpper 61 = .ok (.lload_n 3, 1) := by decide +kernel
theorem dX0_momentUpper_62 : decode cX0_momentUpper 62 = .ok (.lreturn, 1) := by decide +kernel
theorem dX1_init_0 : decode cX1_init 0 = .ok (.aload_n 0, 1) := by decide +kernel
theorem dX1_init_1 : decode cX1_init 1 = .ok (.invokespecial 3, 3) := by decide +kernel
theorem dX1_init_4 : decode cX1_init 4 = .ok (.aload_n 0, 1) := by decide +kernel
theorem dX1_init_5 : decode cX1_init 5 = .ok (.new 9, 3) := by decide +kernel
theorem dX1_init_8 : decode cX1_init 8 = .ok (.dup, 1) := by decide +kernel
theorem dX1_init_9 : decode cX1_init 9 = .ok (.invokespecial 11, 3) := by decide +kernel
theorem dX1_init_12 : decode cX1_init 12 = .ok (.putfield 12, 3) := by decide +kernel
theorem dX1_init_15 : decode cX1_init 15 = .ok (.aload_n 0, 1) := by decide +kernel
theorem dX1_init_16 : decode cX1_init 16 = .ok (.iload_n 1, 1) := by decide +kernel
theorem dX1_init_17 : decode cX1_init 17 = .ok (.putfield 18, 3) := by decide +kernel
theorem dX1_init_20 : decode cX1_init 20 = .ok (.aload_n 0, 1) := by decide +kernel
theorem dX1_init_21 : decode cX1_init 21 = .ok (.iload_n 2, 1) := by decide +kernel
theorem dX1_init_22 : decode cX1_init 22 = .ok (.putfield 22, 3) := by decide +kernel
theorem dX1_init_25 : decode cX1_init 25 = .ok (.return_, 1) := by decide +kernel
theorem dX1_totalLower_0 : decode cX1_totalLower 0 = .ok (.aload_n 0, 1) := by decide +kernel
theorem dX1_totalLower_1 : decode cX1_totalLower 1 = .ok (.getfield 12, 3) := by decide +kernel
theorem dX1_totalLower_4 : decode cX1_totalLower 4 = .ok (.getfield 25, 3) := by decide +kernel
theorem dX1_totalLower_7 : decode cX1_totalLower 7 = .ok (.ldc2_w 29, 3) := by decide +kernel
theorem dX1_totalLower_10 : decode cX1_totalLower 10 = .ok (.lmul, 1) := by decide +kernel
theorem dX1_totalLower_11 : decode cX1_totalLower 11 = .ok (.ldc2_w 29, 3) := by decide +kernel
theorem dX1_totalLower_14 : decode cX1_totalLower 14 = .ok (.lmul, 1) := by decide +kernel
theorem dX1_totalLower_15 : decode cX1_totalLower 15 = .ok (.lreturn, 1) := by decide +kernel
theorem dX1_allows_0 : decode cX1_allows 0 = .ok (.iload_n 1, 1) := by decide +kernel
theorem dX1_allows_1 : decode cX1_allows 1 = .ok (.ifCond .ne 26, 3) := by decide +kernel
theorem dX1_allows_4 : decode cX1_allows 4 = .ok (.lload_n 2, 1) := by decide +kernel
theorem dX1_allows_5 : decode cX1_allows 5 = .ok (.aload_n 0, 1) := by decide +kernel
theorem dX1_allows_6 : decode cX1_allows 6 = .ok (.getfield 18, 3) := by decide +kernel
theorem dX1_allows_9 : decode cX1_allows 9 = .ok (.i2l, 1) := by decide +kernel
theorem dX1_allows_10 : decode cX1_allows 10 = .ok (.aload_n 0, 1) := by decide +kernel
theorem dX1_allows_11 : decode cX1_allows 11 = .ok (.invokevirtual 31, 3) := by decide +kernel
theorem dX1_allows_14 : decode cX1_allows 14 = .ok (.lmul, 1) := by decide +kernel
theorem dX1_allows_15 : decode cX1_allows 15 = .ok (.lcmp, 1) := by decide +kernel
theorem dX1_allows_16 : decode cX1_allows 16 = .ok (.ifCond .gt 7, 3) := by decide +kernel
theorem dX1_allows_19 : decode cX1_allows 19 = .ok (.iconst 1, 1) := by decide +kernel
theorem dX1_allows_20 : decode cX1_allows 20 = .ok (.goto 27, 3) := by decide +kernel
theorem dX1_allows_23 : decode cX1_allows 23 = .ok (.iconst 0, 1) := by decide +kernel
theorem dX1_allows_24 : decode cX1_allows 24 = .ok (.goto 23, 3) := by decide +kernel
theorem dX1_allows_27 : decode cX1_allows 27 = .ok (.lload_n 2, 1) := by decide +kernel
theorem dX1_allows_28 : decode cX1_allows 28 = .ok (.aload_n 0, 1) := by decide +kernel
theorem dX1_allows_29 : decode cX1_allows 29 = .ok (.getfield 22, 3) := by decide +kernel
theorem dX1_allows_32 : decode cX1_allows 32 = .ok (.i2l, 1) := by decide +kernel
theorem dX1_allows_33 : decode cX1_allows 33 = .ok (.aload_n 0, 1) := by decide +kernel
theorem dX1_allows_34 : decode cX1_allows 34 = .ok (.invokevirtual 31, 3) := by decide +kernel
theorem dX1_allows_37 : decode cX1_allows 37 = .ok (.lmul, 1) := by decide +kernel
theorem dX1_allows_38 : decode cX1_allows 38 = .ok (.lcmp, 1) := by decide +kernel
theorem dX1_allows_39 : decode cX1_allows 39 = .ok (.ifCond .lt 7, 3) := by decide +kernel
theorem dX1_allows_42 : decode cX1_allows 42 = .ok (.iconst 1, 1) := by decide +kernel
theorem dX1_allows_43 : decode cX1_allows 43 = .ok (.goto 4, 3) := by decide +kernel
theorem dX1_allows_46 : decode cX1_allows 46 = .ok (.iconst 0, 1) := by decide +kernel
theorem dX1_allows_47 : decode cX1_allows 47 = .ok (.ireturn, 1) := by decide +kernel
theorem dX2_init_0 : decode cX2_init 0 = .ok (.aload_n 0, 1) := by decide +kernel
theorem dX2_init_1 : decode cX2_init 1 = .ok (.invokespecial 3, 3) := by decide +kernel
theorem dX2_init_4 : decode cX2_init 4 = .ok (.aload_n 0, 1) := by decide +kernel
theorem dX2_init_5 : decode cX2_init 5 = .ok (.iconst 2, 1) := by decide +kernel
theorem dX2_init_6 : decode cX2_init 6 = .ok (.newarray .long, 2) := by decide +kernel
theorem dX2_init_8 : decode cX2_init 8 = .ok (.putfield 9, 3) := by decide +kernel
theorem dX2_init_11 : decode cX2_init 11 = .ok (.aload_n 0, 1) := by decide +kernel
theorem dX2_init_12 : decode cX2_init 12 = .ok (.iconst 2, 1) := by decide +kernel
theorem dX2_init_13 : decode cX2_init 13 = .ok (.newarray .int, 2) := by decide +kernel
theorem dX2_init_15 : decode cX2_init 15 = .ok (.putfield 15, 3) := by decide +kernel
theorem dX2_init_18 : decode cX2_init 18 = .ok (.aload_n 0, 1) := by decide +kernel
theorem dX2_init_19 : decode cX2_init 19 = .ok (.iconst 2, 1) := by decide +kernel
theorem dX2_init_20 : decode cX2_init 20 = .ok (.newarray .int, 2) := by decide +kernel
theorem dX2_init_22 : decode cX2_init 22 = .ok (.putfield 19, 3) := by decide +kernel
theorem dX2_init_25 : decode cX2_init 25 = .ok (.return_, 1) := by decide +kernel
theorem dX2_find_0 : decode cX2_find 0 = .ok (.iconst 0, 1) := by decide +kernel
theorem dX2_find_1 : decode cX2_find 1 = .ok (.istore 4, 2) := by decide +kernel
theorem dX2_find_3 : decode cX2_find 3 = .ok (.iload 4, 2) := by decide +kernel
theorem dX2_find_5 : decode cX2_find 5 = .ok (.iconst 2, 1) := by decide +kernel
theorem dX2_find_6 : decode cX2_find 6 = .ok (.if_icmp .ge 117, 3) := by decide +kernel
theorem dX2_find_9 : decode cX2_find 9 = .ok (.aload_n 3, 1) := by decide +kernel
theorem dX2_find_10 : decode cX2_find 10 = .ok (.aload_n 1, 1) := by decide +kernel
theorem dX2_find_11 : decode cX2_find 11 = .ok (.aload_n 2, 1) := by decide +kernel
theorem dX2_find_12 : decode cX2_find 12 = .ok (.iload 4, 2) := by decide +kernel
theorem dX2_find_14 : decode cX2_find 14 = .ok (.invokevirtual 22, 3) := by decide +kernel
theorem dX2_find_17 : decode cX2_find 17 = .ok (.iconst 0, 1) := by decide +kernel
theorem dX2_find_18 : decode cX2_find 18 = .ok (.istore 5, 2) := by decide +kernel
theorem dX2_find_20 : decode cX2_find 20 = .ok (.iload 5, 2) := by decide +kernel
theorem dX2_find_22 : decode cX2_find 22 = .ok (.aload_n 3, 1) := by decide +kernel
theorem dX2_find_23 : decode cX2_find 23 = .ok (.getfield 28, 3) := by decide +kernel
theorem dX2_find_26 : decode cX2_find 26 = .ok (.if_icmp .ge 91, 3) := by decide +kernel
theorem dX2_find_29 : decode cX2_find 29 = .ok (.aload_n 3, 1) := by decide +kernel
theorem dX2_find_30 : decode cX2_find 30 = .ok (.getfield 31, 3) := by decide +kernel
theorem dX2_find_33 : decode cX2_find 33 = .ok (.iload 5, 2) := by decide +kernel
theorem dX2_find_35 : decode cX2_find 35 = .ok (.laload, 1) := by decide +kernel
theorem dX2_find_36 : decode cX2_find 36 = .ok (.lstore 6, 2) := by decide +kernel
theorem dX2_find_38 : decode cX2_find 38 = .ok (.iload 4, 2) := by decide +kernel
theorem dX2_find_40 : decode cX2_find 40 = .ok (.ifCond .ne 12, 3) := by decide +kernel
theorem dX2_find_43 : decode cX2_find 43 = .ok (.iload 5, 2) := by decide +kernel
theorem dX2_find_45 : decode cX2_find 45 = .ok (.ifCond .ne 7, 3) := by decide +kernel
theorem dX2_find_48 : decode cX2_find 48 = .ok (.iconst 1, 1) := by decide +kernel
theorem dX2_find_49 : decode cX2_find 49 = .ok (.goto 4, 3) := by decide +kernel
theorem dX2_find_52 : decode cX2_find 52 = .ok (.iconst 0, 1) := by decide +kernel
theorem dX2_find_53 : decode cX2_find 53 = .ok (.istore 8, 2) := by decide +kernel
theorem dX2_find_55 : decode cX2_find 55 = .ok (.iload 8, 2) := by decide +kernel
theorem dX2_find_57 : decode cX2_find 57 = .ok (.ifCond .ne 15, 3) := by decide +kernel
theorem dX2_find_60 : decode cX2_find 60 = .ok (.lload 6, 2) := by decide +kernel
theorem dX2_find_62 : decode cX2_find 62 = .ok (.aload_n 0, 1) := by decide +kernel
theorem dX2_find_63 : decode cX2_find 63 = .ok (.getfield 9, 3) := by decide +kernel
theorem dX2_find_66 : decode cX2_find 66 = .ok (.iconst 0, 1) := by decide +kernel
theorem dX2_find_67 : decode cX2_find 67 = .ok (.laload, 1) := by decide +kernel
theorem dX2_find_68 : decode cX2_find 68 = .ok (.lcmp, 1) := by decide +kernel
theorem dX2_find_69 : decode cX2_find 69 = .ok (.ifCond .le 14, 3) := by decide +kernel
theorem dX2_find_72 : decode cX2_find 72 = .ok (.aload_n 0, 1) := by decide +kernel
theorem dX2_find_73 : decode cX2_find 73 = .ok (.iconst 0, 1) := by decide +kernel
theorem dX2_find_74 : decode cX2_find 74 = .ok (.lload 6, 2) := by decide +kernel
theorem dX2_find_76 : decode cX2_find 76 = .ok (.iload 4, 2) := by decide +kernel
theorem dX2_find_78 : decode cX2_find 78 = .ok (.iload 5, 2) := by decide +kernel
theorem dX2_find_80 : decode cX2_find 80 = .ok (.invokevirtual 34, 3) := by decide +kernel
theorem dX2_find_83 : decode cX2_find 83 = .ok (.iload 8, 2) := by decide +kernel
theorem dX2_find_85 : decode cX2_find 85 = .ok (.ifCond .ne 15, 3) := by decide +kernel
theorem dX2_find_88 : decode cX2_find 88 = .ok (.lload 6, 2) := by decide +kernel
theorem dX2_find_90 : decode cX2_find 90 = .ok (.aload_n 0, 1) := by decide +kernel
theorem dX2_find_91 : decode cX2_find 91 = .ok (.getfield 9, 3) := by decide +kernel
theorem dX2_find_94 : decode cX2_find 94 = .ok (.iconst 1, 1) := by decide +kernel
theorem dX2_find_95 : decode cX2_find 95 = .ok (.laload, 1) := by decide +kernel
theorem dX2_find_96 : decode cX2_find 96 = .ok (.lcmp, 1) := by decide +kernel
theorem dX2_find_97 : decode cX2_find 97 = .ok (.ifCond .ge 14, 3) := by decide +kernel
theorem dX2_find_100 : decode cX2_find 100 = .ok (.aload_n 0, 1) := by decide +kernel
theorem dX2_find_101 : decode cX2_find 101 = .ok (.iconst 1, 1) := by decide +kernel
theorem dX2_find_102 : decode cX2_find 102 = .ok (.lload 6, 2) := by decide +kernel
theorem dX2_find_104 : decode cX2_find 104 = .ok (.iload 4, 2) := by decide +kernel
theorem dX2_find_106 : decode cX2_find 106 = .ok (.iload 5, 2) := by decide +kernel
theorem dX2_find_108 : decode cX2_find 108 = .ok (.invokevirtual 34, 3) := by decide +kernel
theorem dX2_find_111 : decode cX2_find 111 = .ok (.iinc 5 1, 3) := by decide +kernel
theorem dX2_find_114 : decode cX2_find 114 = .ok (.goto (-94), 3) := by decide +kernel
theorem dX2_find_117 : decode cX2_find 117 = .ok (.iinc 4 1, 3) := by decide +kernel
theorem dX2_find_120 : decode cX2_find 120 = .ok (.goto (-117), 3) := by decide +kernel
theorem dX2_find_123 : decode cX2_find 123 = .ok (.aload_n 0, 1) := by decide +kernel
theorem dX2_find_124 : decode cX2_find 124 = .ok (.getfield 9, 3) := by decide +kernel
theorem dX2_find_127 : decode cX2_find 127 = .ok (.iconst 0, 1) := by decide +kernel
theorem dX2_find_128 : decode cX2_find 128 = .ok (.laload, 1) := by decide +kernel
theorem dX2_find_129 : decode cX2_find 129 = .ok (.lconst 0, 1) := by decide +kernel
theorem dX2_find_130 : decode cX2_find 130 = .ok (.lcmp, 1) := by decide +kernel
theorem dX2_find_131 : decode cX2_find 131 = .ok (.ifCond .ge 11, 3) := by decide +kernel
theorem dX2_find_134 : decode cX2_find 134 = .ok (.aload_n 0, 1) := by decide +kernel
theorem dX2_find_135 : decode cX2_find 135 = .ok (.iconst 0, 1) := by decide +kernel
theorem dX2_find_136 : decode cX2_find 136 = .ok (.lconst 0, 1) := by decide +kernel
theorem dX2_find_137 : decode cX2_find 137 = .ok (.iconst (-1), 1) := by decide +kernel
theorem dX2_find_138 : decode cX2_find 138 = .ok (.iconst (-1), 1) := by decide +kernel
theorem dX2_find_139 : decode cX2_find 139 = .ok (.invokevirtual 34, 3) := by decide +kernel
theorem dX2_find_142 : decode cX2_find 142 = .ok (.aload_n 0, 1) := by decide +kernel
theorem dX2_find_143 : decode cX2_find 143 = .ok (.getfield 9, 3) := by decide +kernel
theorem dX2_find_146 : decode cX2_find 146 = .ok (.iconst 1, 1) := by decide +kernel
theorem dX2_find_147 : decode cX2_find 147 = .ok (.laload, 1) := by decide +kernel
theorem dX2_find_148 : decode cX2_find 148 = .ok (.lconst 0, 1) := by decide +kernel
theorem dX2_find_149 : decode cX2_find 149 = .ok (.lcmp, 1) := by decide +kernel
theorem dX2_find_150 : decode cX2_find 150 = .ok (.ifCond .le 11, 3) := by decide +kernel
theorem dX2_find_153 : decode cX2_find 153 = .ok (.aload_n 0, 1) := by decide +kernel
theorem dX2_find_154 : decode cX2_find 154 = .ok (.iconst 1, 1) := by decide +kernel
theorem dX2_find_155 : decode cX2_find 155 = .ok (.lconst 0, 1) := by decide +kernel
theorem dX2_find_156 : decode cX2_find 156 = .ok (.iconst (-1), 1) := by decide +kernel
theorem dX2_find_157 : decode cX2_find 157 = .ok (.iconst (-1), 1) := by decide +kernel
theorem dX2_find_158 : decode cX2_find 158 = .ok (.invokevirtual 34, 3) := by decide +kernel
theorem dX2_find_161 : decode cX2_find 161 = .ok (.return_, 1) := by decide +kernel
theorem dX2_set_0 : decode cX2_set 0 = .ok (.aload_n 0, 1) := by decide +kernel
theorem dX2_set_1 : decode cX2_set 1 = .ok (.getfield 9, 3) := by decide +kernel
theorem dX2_set_4 : decode cX2_set 4 = .ok (.iload_n 1, 1) := by decide +kernel
theorem dX2_set_5 : decode cX2_set 5 = .ok (.lload_n 2, 1) := by decide +kernel
theorem dX2_set_6 : decode cX2_set 6 = .ok (.lastore, 1) := by decide +kernel
theorem dX2_set_7 : decode cX2_set 7 = .ok (.aload_n 0, 1) := by decide +kernel
theorem dX2_set_8 : decode cX2_set 8 = .ok (.getfield 15, 3) := by decide +kernel
theorem dX2_set_11 : decode cX2_set 11 = .ok (.iload_n 1, 1) := by decide +kernel
theorem dX2_set_12 : decode cX2_set 12 = .ok (.iload 4, 2) := by decide +kernel
theorem dX2_set_14 : decode cX2_set 14 = .ok (.iastore, 1) := by decide +kernel
theorem dX2_set_15 : decode cX2_set 15 = .ok (.aload_n 0, 1) := by decide +kernel
theorem dX2_set_16 : decode cX2_set 16 = .ok (.getfield 19, 3) := by decide +kernel
theorem dX2_set_19 : decode cX2_set 19 = .ok (.iload_n 1, 1) := by decide +kernel
theorem dX2_set_20 : decode cX2_set 20 = .ok (.iload 5, 2) := by decide +kernel
theorem dX2_set_22 : decode cX2_set 22 = .ok (.iastore, 1) := by decide +kernel
theorem dX2_set_23 : decode cX2_set 23 = .ok (.return_, 1) := by decide +kernel
theorem dX3_init_0 : decode cX3_init 0 = .ok (.aload_n 0, 1) := by decide +kernel
theorem dX3_init_1 : decode cX3_init 1 = .ok (.invokespecial 3, 3) := by decide +kernel
theorem dX3_init_4 : decode cX3_init 4 = .ok (.aload_n 0, 1) := by decide +kernel
theorem dX3_init_5 : decode cX3_init 5 = .ok (.new 9, 3) := by decide +kernel
theorem dX3_init_8 : decode cX3_init 8 = .ok (.dup, 1) := by decide +kernel
theorem dX3_init_9 : decode cX3_init 9 = .ok (.invokespecial 11, 3) := by decide +kernel
theorem dX3_init_12 : decode cX3_init 12 = .ok (.putfield 12, 3) := by decide +kernel
theorem dX3_init_15 : decode cX3_init 15 = .ok (.aload_n 0, 1) := by decide +kernel
theorem dX3_init_16 : decode cX3_init 16 = .ok (.new 18, 3) := by decide +kernel
theorem dX3_init_19 : decode cX3_init 19 = .ok (.dup, 1) := by decide +kernel
theorem dX3_init_20 : decode cX3_init 20 = .ok (.invokespecial 20, 3) := by decide +kernel
theorem dX3_init_23 : decode cX3_init 23 = .ok (.putfield 21, 3) := by decide +kernel
theorem dX3_init_26 : decode cX3_init 26 = .ok (.aload_n 0, 1) := by decide +kernel
theorem dX3_init_27 : decode cX3_init 27 = .ok (.iconst 2, 1) := by decide +kernel
theorem dX3_init_28 : decode cX3_init 28 = .ok (.iconst 5, 1) := by decide +kernel
theorem dX3_init_29 : decode cX3_init 29 = .ok (.multianewarray 25 2, 4) := by decide +kernel
theorem dX3_init_33 : decode cX3_init 33 = .ok (.putfield 27, 3) := by decide +kernel
theorem dX3_init_36 : decode cX3_init 36 = .ok (.aload_n 0, 1) := by decide +kernel
theorem dX3_init_37 : decode cX3_init 37 = .ok (.bipush 100, 2) := by decide +kernel
theorem dX3_init_39 : decode cX3_init 39 = .ok (.putfield 30, 3) := by decide +kernel
theorem dX3_init_42 : decode cX3_init 42 = .ok (.aload_n 0, 1) := by decide +kernel
theorem dX3_init_43 : decode cX3_init 43 = .ok (.iconst (-1), 1) := by decide +kernel
theorem dX3_init_44 : decode cX3_init 44 = .ok (.putfield 34, 3) := by decide +kernel
theorem dX3_init_47 : decode cX3_init 47 = .ok (.aload_n 0, 1) := by decide +kernel
theorem dX3_init_48 : decode cX3_init 48 = .ok (.iconst 0, 1) := by decide +kernel
theorem dX3_init_49 : decode cX3_init 49 = .ok (.putfield 37, 3) := by decide +kernel
theorem dX3_init_52 : decode cX3_init 52 = .ok (.aload_n 0, 1) := by decide +kernel
theorem dX3_init_53 : decode cX3_init 53 = .ok (.iconst (-1), 1) := by decide +kernel
theorem dX3_init_54 : decode cX3_init 54 = .ok (.putfield 40, 3) := by decide +kernel
theorem dX3_init_57 : decode cX3_init 57 = .ok (.aload_n 0, 1) := by decide +kernel
theorem dX3_init_58 : decode cX3_init 58 = .ok (.iconst (-1), 1) := by decide +kernel
theorem dX3_init_59 : decode cX3_init 59 = .ok (.putfield 43, 3) := by decide +kernel
theorem dX3_init_62 : decode cX3_init 62 = .ok (.return_, 1) := by decide +kernel
theorem dX3_prepare_0 : decode cX3_prepare 0 = .ok (.aload_n 0, 1) := by decide +kernel
theorem dX3_prepare_1 : decode cX3_prepare 1 = .ok (.iconst (-1), 1) := by decide +kernel
theorem dX3_prepare_2 : decode cX3_prepare 2 = .ok (.putfield 34, 3) := by decide +kernel
theorem dX3_prepare_5 : decode cX3_prepare 5 = .ok (.aload_n 0, 1) := by decide +kernel
theorem dX3_prepare_6 : decode cX3_prepare 6 = .ok (.iload_n 3, 1) := by decide +kernel
theorem dX3_prepare_7 : decode cX3_prepare 7 = .ok (.iconst 2, 1) := by decide +kernel
theorem dX3_prepare_8 : decode cX3_prepare 8 = .ok (.if_icmp .ne 8, 3) := by decide +kernel
theorem dX3_prepare_11 : decode cX3_prepare 11 = .ok (.bipush 100, 2) := by decide +kernel
theorem dX3_prepare_13 : decode cX3_prepare 13 = .ok (.goto 12, 3) := by decide +kernel
theorem dX3_prepare_16 : decode cX3_prepare 16 = .ok (.bipush 100, 2) := by decide +kernel
theorem dX3_prepare_18 : decode cX3_prepare 18 = .ok (.aload_n 1, 1) := by decide +kernel
theorem dX3_prepare_19 : decode cX3_prepare 19 = .ok (.getfield 46, 3) := by decide +kernel
theorem dX3_prepare_22 : decode cX3_prepare 22 = .ok (.iconst 0, 1) := by decide +kernel
theorem dX3_prepare_23 : decode cX3_prepare 23 = .ok (.iaload, 1) := by decide +kernel
theorem dX3_prepare_24 : decode cX3_prepare 24 = .ok (.iadd, 1) := by decide +kernel
theorem dX3_prepare_25 : decode cX3_prepare 25 = .ok (.putfield 30, 3) := by decide +kernel
theorem dX3_prepare_28 : decode cX3_prepare 28 = .ok (.iload_n 3, 1) := by decide +kernel
theorem dX3_prepare_29 : decode cX3_prepare 29 = .ok (.ifCond .ne 11, 3) := by decide +kernel
theorem dX3_prepare_32 : decode cX3_prepare 32 = .ok (.aload_n 2, 1) := by decide +kernel
theorem dX3_prepare_33 : decode cX3_prepare 33 = .ok (.ifnull 7, 3) := by decide +kernel
theorem dX3_prepare_36 : decode cX3_prepare 36 = .ok (.iconst 1, 1) := by decide +kernel
theorem dX3_prepare_37 : decode cX3_prepare 37 = .ok (.goto 4, 3) := by decide +kernel
theorem dX3_prepare_40 : decode cX3_prepare 40 = .ok (.iconst 0, 1) := by decide +kernel
theorem dX3_prepare_41 : decode cX3_prepare 41 = .ok (.istore 4, 2) := by decide +kernel
theorem dX3_prepare_43 : decode cX3_prepare 43 = .ok (.iload 4, 2) := by decide +kernel
theorem dX3_prepare_45 : decode cX3_prepare 45 = .ok (.ifCond .eq 22, 3) := by decide +kernel
theorem dX3_prepare_48 : decode cX3_prepare 48 = .ok (.aload_n 1, 1) := by decide +kernel
theorem dX3_prepare_49 : decode cX3_prepare 49 = .ok (.getfield 46, 3) := by decide +kernel
theorem dX3_prepare_52 : decode cX3_prepare 52 = .ok (.iconst 1, 1) := by decide +kernel
theorem dX3_prepare_53 : decode cX3_prepare 53 = .ok (.iaload, 1) := by decide +kernel
theorem dX3_prepare_54 : decode cX3_prepare 54 = .ok (.iconst 1, 1) := by decide +kernel
theorem dX3_prepare_55 : decode cX3_prepare 55 = .ok (.isub, 1) := by decide +kernel
theorem dX3_prepare_56 : decode cX3_prepare 56 = .ok (.aload_n 1, 1) := by decide +kernel
theorem dX3_prepare_57 : decode cX3_prepare 57 = .ok (.getfield 46, 3) := by decide +kernel
theorem dX3_prepare_60 : decode cX3_prepare 60 = .ok (.iconst 2, 1) := by decide +kernel
theorem dX3_prepare_61 : decode cX3_prepare 61 = .ok (.iaload, 1) := by decide +kernel
theorem dX3_prepare_62 : decode cX3_prepare 62 = .ok (.imul, 1) := by decide +kernel
theorem dX3_prepare_63 : decode cX3_prepare 63 = .ok (.i2l, 1) := by decide +kernel
theorem dX3_prepare_64 : decode cX3_prepare 64 = .ok (.goto 4, 3) := by decide +kernel
theorem dX3_prepare_67 : decode cX3_prepare 67 = .ok (.lconst 0, 1) := by decide +kernel
theorem dX3_prepare_68 : decode cX3_prepare 68 = .ok (.lstore 5, 2) := by decide +kernel
theorem dX3_prepare_70 : decode cX3_prepare 70 = .ok (.iconst 0, 1) := by decide +kernel
theorem dX3_prepare_71 : decode cX3_prepare 71 = .ok (.istore 7, 2) := by decide +kernel
theorem dX3_prepare_73 : decode cX3_prepare 73 = .ok (.iload 7, 2) := by decide +kernel
theorem dX3_prepare_75 : decode cX3_prepare 75 = .ok (.iconst 5, 1) := by decide +kernel
theorem dX3_prepare_76 : decode cX3_prepare 76 = .ok (.if_icmp .ge 108, 3) := by decide +kernel
theorem dX3_prepare_79 : decode cX3_prepare 79 = .ok (.aload_n 0, 1) := by decide +kernel
theorem dX3_prepare_80 : decode cX3_prepare 80 = .ok (.getfield 27, 3) := by decide +kernel
theorem dX3_prepare_83 : decode cX3_prepare 83 = .ok (.iconst 0, 1) := by decide +kernel
theorem dX3_prepare_84 : decode cX3_prepare 84 = .ok (.aaload, 1) := by decide +kernel
theorem dX3_prepare_85 : decode cX3_prepare 85 = .ok (.iload 7, 2) := by decide +kernel
theorem dX3_prepare_87 : decode cX3_prepare 87 = .ok (.lconst 0, 1) := by decide +kernel
theorem dX3_prepare_88 : decode cX3_prepare 88 = .ok (.lastore, 1) := by decide +kernel
theorem dX3_prepare_89 : decode cX3_prepare 89 = .ok (.aload_n 0, 1) := by decide +kernel
theorem dX3_prepare_90 : decode cX3_prepare 90 = .ok (.getfield 27, 3) := by decide +kernel
theorem dX3_prepare_93 : decode cX3_prepare 93 = .ok (.iconst 1, 1) := by decide +kernel
theorem dX3_prepare_94 : decode cX3_prepare 94 = .ok (.aaload, 1) := by decide +kernel
theorem dX3_prepare_95 : decode cX3_prepare 95 = .ok (.iload 7, 2) := by decide +kernel
theorem dX3_prepare_97 : decode cX3_prepare 97 = .ok (.lconst 0, 1) := by decide +kernel
theorem dX3_prepare_98 : decode cX3_prepare 98 = .ok (.lastore, 1) := by decide +kernel
theorem dX3_prepare_99 : decode cX3_prepare 99 = .ok (.aload_n 1, 1) := by decide +kernel
theorem dX3_prepare_100 : decode cX3_prepare 100 = .ok (.iload 7, 2) := by decide +kernel
theorem dX3_prepare_102 : decode cX3_prepare 102 = .ok (.invokevirtual 52, 3) := by decide +kernel
theorem dX3_prepare_105 : decode cX3_prepare 105 = .ok (.astore 8, 2) := by decide +kernel
theorem dX3_prepare_107 : decode cX3_prepare 107 = .ok (.aload 8, 2) := by decide +kernel
theorem dX3_prepare_109 : decode cX3_prepare 109 = .ok (.ifnull 69, 3) := by decide +kernel
theorem dX3_prepare_112 : decode cX3_prepare 112 = .ok (.lload 5, 2) := by decide +kernel
theorem dX3_prepare_114 : decode cX3_prepare 114 = .ok (.lconst 0, 1) := by decide +kernel
theorem dX3_prepare_115 : decode cX3_prepare 115 = .ok (.lcmp, 1) := by decide +kernel
theorem dX3_prepare_116 : decode cX3_prepare 116 = .ok (.ifCond .eq 62, 3) := by decide +kernel
theorem dX3_prepare_119 : decode cX3_prepare 119 = .ok (.aload_n 0, 1) := by decide +kernel
theorem dX3_prepare_120 : decode cX3_prepare 120 = .ok (.getfield 21, 3) := by decide +kernel
theorem dX3_prepare_123 : decode cX3_prepare 123 = .ok (.aload 8, 2) := by decide +kernel
theorem dX3_prepare_125 : decode cX3_prepare 125 = .ok (.getfield 56, 3) := by decide +kernel
theorem dX3_prepare_128 : decode cX3_prepare 128 = .ok (.aload_n 2, 1) := by decide +kernel
theorem dX3_prepare_129 : decode cX3_prepare 129 = .ok (.aload_n 0, 1) := by decide +kernel
theorem dX3_prepare_130 : decode cX3_prepare 130 = .ok (.getfield 12, 3) := by decide +kernel
theorem dX3_prepare_133 : decode cX3_prepare 133 = .ok (.invokevirtual 62, 3) := by decide +kernel
theorem dX3_prepare_136 : decode cX3_prepare 136 = .ok (.aload_n 0, 1) := by decide +kernel
theorem dX3_prepare_137 : decode cX3_prepare 137 = .ok (.getfield 27, 3) := by decide +kernel
theorem dX3_prepare_140 : decode cX3_prepare 140 = .ok (.iconst 0, 1) := by decide +kernel
theorem dX3_prepare_141 : decode cX3_prepare 141 = .ok (.aaload, 1) := by decide +kernel
theorem dX3_prepare_142 : decode cX3_prepare 142 = .ok (.iload 7, 2) := by decide +kernel
theorem dX3_prepare_144 : decode cX3_prepare 144 = .ok (.lload 5, 2) := by decide +kernel
theorem dX3_prepare_146 : decode cX3_prepare 146 = .ok (.aload_n 0, 1) := by decide +kernel
theorem dX3_prepare_147 : decode cX3_prepare 147 = .ok (.getfield 21, 3) := by decide +kernel
theorem dX3_prepare_150 : decode cX3_prepare 150 = .ok (.getfield 66, 3) := by decide +kernel
theorem dX3_prepare_153 : decode cX3_prepare 153 = .ok (.iconst 0, 1) := by decide +kernel
theorem dX3_prepare_154 : decode cX3_prepare 154 = .ok (.laload, 1) := by decide +kernel
theorem dX3_prepare_155 : decode cX3_prepare 155 = .ok (.lmul, 1) := by decide +kernel
theorem dX3_prepare_156 : decode cX3_prepare 156 = .ok (.lastore, 1) := by decide +kernel
theorem dX3_prepare_157 : decode cX3_prepare 157 = .ok (.aload_n 0, 1) := by decide +kernel
theorem dX3_prepare_158 : decode cX3_prepare 158 = .ok (.getfield 27, 3) := by decide +kernel
theorem dX3_prepare_161 : decode cX3_prepare 161 = .ok (.iconst 1, 1) := by decide +kernel
theorem dX3_prepare_162 : decode cX3_prepare 162 = .ok (.aaload, 1) := by decide +kernel
theorem dX3_prepare_163 : decode cX3_prepare 163 = .ok (.iload 7, 2) := by decide +kernel
theorem dX3_prepare_165 : decode cX3_prepare 165 = .ok (.lload 5, 2) := by decide +kernel
theorem dX3_prepare_167 : decode cX3_prepare 167 = .ok (.aload_n 0, 1) := by decide +kernel
theorem dX3_prepare_168 : decode cX3_prepare 168 = .ok (.getfield 21, 3) := by decide +kernel
theorem dX3_prepare_171 : decode cX3_prepare 171 = .ok (.getfield 66, 3) := by decide +kernel
theorem dX3_prepare_174 : decode cX3_prepare 174 = .ok (.iconst 1, 1) := by decide +kernel
theorem dX3_prepare_175 : decode cX3_prepare 175 = .ok (.laload, 1) := by decide +kernel
theorem dX3_prepare_176 : decode cX3_prepare 176 = .ok (.lmul, 1) := by decide +kernel
theorem dX3_prepare_177 : decode cX3_prepare 177 = .ok (.lastore, 1) := by decide +kernel
theorem dX3_prepare_178 : decode cX3_prepare 178 = .ok (.iinc 7 1, 3) := by decide +kernel
theorem dX3_prepare_181 : decode cX3_prepare 181 = .ok (.goto (-108), 3) := by decide +kernel
theorem dX3_prepare_184 : decode cX3_prepare 184 = .ok (.return_, 1) := by decide +kernel
theorem dX3_totalOf_0 : decode cX3_totalOf 0 = .ok (.ldc2_w 70, 3) := by decide +kernel
theorem dX3_totalOf_3 : decode cX3_totalOf 3 = .ok (.lload_n 3, 1) := by decide +kernel
theorem dX3_totalOf_4 : decode cX3_totalOf 4 = .ok (.lmul, 1) := by decide +kernel
theorem dX3_totalOf_5 : decode cX3_totalOf 5 = .ok (.aload_n 0, 1) := by decide +kernel
theorem dX3_totalOf_6 : decode cX3_totalOf 6 = .ok (.getfield 27, 3) := by decide +kernel
theorem dX3_totalOf_9 : decode cX3_totalOf 9 = .ok (.iload_n 2, 1) := by decide +kernel
theorem dX3_totalOf_10 : decode cX3_totalOf 10 = .ok (.aaload, 1) := by decide +kernel
theorem dX3_totalOf_11 : decode cX3_totalOf 11 = .ok (.iload_n 1, 1) := by decide +kernel
theorem dX3_totalOf_12 : decode cX3_totalOf 12 = .ok (.laload, 1) := by decide +kernel
theorem dX3_totalOf_13 : decode cX3_totalOf 13 = .ok (.ladd, 1) := by decide +kernel
theorem dX3_totalOf_14 : decode cX3_totalOf 14 = .ok (.aload_n 0, 1) := by decide +kernel
theorem dX3_totalOf_15 : decode cX3_totalOf 15 = .ok (.getfield 30, 3) := by decide +kernel
theorem dX3_totalOf_18 : decode cX3_totalOf 18 = .ok (.i2l, 1) := by decide +kernel
theorem dX3_totalOf_19 : decode cX3_totalOf 19 = .ok (.lmul, 1) := by decide +kernel
theorem dX3_totalOf_20 : decode cX3_totalOf 20 = .ok (.lreturn, 1) := by decide +kernel
theorem dX3_firstUnmet_0 : decode cX3_firstUnmet 0 = .ok (.iconst 0, 1) := by decide +kernel
theorem dX3_firstUnmet_1 : decode cX3_firstUnmet 1 = .ok (.istore_n 3, 1) := by decide +kernel
theorem dX3_firstUnmet_2 : decode cX3_firstUnmet 2 = .ok (.iload_n 3, 1) := by decide +kernel
theorem dX3_firstUnmet_3 : decode cX3_firstUnmet 3 = .ok (.aload_n 1, 1) := by decide +kernel
theorem dX3_firstUnmet_4 : decode cX3_firstUnmet 4 = .ok (.getfield 72, 3) := by decide +kernel
theorem dX3_firstUnmet_7 : decode cX3_firstUnmet 7 = .ok (.if_icmp .ge 34, 3) := by decide +kernel
theorem dX3_firstUnmet_10 : decode cX3_firstUnmet 10 = .ok (.aload_n 1, 1) := by decide +kernel
theorem dX3_firstUnmet_11 : decode cX3_firstUnmet 11 = .ok (.iload_n 3, 1) := by decide +kernel
theorem dX3_firstUnmet_12 : decode cX3_firstUnmet 12 = .ok (.invokevirtual 52, 3) := by decide +kernel
theorem dX3_firstUnmet_15 : decode cX3_firstUnmet 15 = .ok (.astore 4, 2) := by decide +kernel
theorem dX3_firstUnmet_17 : decode cX3_firstUnmet 17 = .ok (.aload 4, 2) := by decide +kernel
theorem dX3_firstUnmet_19 : decode cX3_firstUnmet 19 = .ok (.ifnull 16, 3) := by decide +kernel
theorem dX3_firstUnmet_22 : decode cX3_firstUnmet 22 = .ok (.aload_n 0, 1) := by decide +kernel
theorem dX3_firstUnmet_23 : decode cX3_firstUnmet 23 = .ok (.iload_n 3, 1) := by decide +kernel
theorem dX3_firstUnmet_24 : decode cX3_firstUnmet 24 = .ok (.aload 4, 2) := by decide +kernel
theorem dX3_firstUnmet_26 : decode cX3_firstUnmet 26 = .ok (.aload_n 2, 1) := by decide +kernel
theorem dX3_firstUnmet_27 : decode cX3_firstUnmet 27 = .ok (.invokevirtual 75, 3) := by decide +kernel
theorem dX3_firstUnmet_30 : decode cX3_firstUnmet 30 = .ok (.ifCond .ne 5, 3) := by decide +kernel
theorem dX3_firstUnmet_33 : decode cX3_firstUnmet 33 = .ok (.iload_n 3, 1) := by decide +kernel
theorem dX3_firstUnmet_34 : decode cX3_firstUnmet 34 = .ok (.ireturn, 1) := by decide +kernel
theorem dX3_firstUnmet_35 : decode cX3_firstUnmet 35 = .ok (.iinc 3 1, 3) := by decide +kernel
theorem dX3_firstUnmet_38 : decode cX3_firstUnmet 38 = .ok (.goto (-36), 3) := by decide +kernel
theorem dX3_firstUnmet_41 : decode cX3_firstUnmet 41 = .ok (.iconst (-1), 1) := by decide +kernel
theorem dX3_firstUnmet_42 : decode cX3_firstUnmet 42 = .ok (.ireturn, 1) := by decide +kernel
theorem dX3_allMet_0 : decode cX3_allMet 0 = .ok (.aload_n 0, 1) := by decide +kernel
theorem dX3_allMet_1 : decode cX3_allMet 1 = .ok (.aload_n 1, 1) := by decide +kernel
theorem dX3_allMet_2 : decode cX3_allMet 2 = .ok (.aload_n 2, 1) := by decide +kernel
theorem dX3_allMet_3 : decode cX3_allMet 3 = .ok (.invokevirtual 79, 3) := by decide +kernel
theorem dX3_allMet_6 : decode cX3_allMet 6 = .ok (.ifCond .ne 17, 3) := by decide +kernel
theorem dX3_allMet_9 : decode cX3_allMet 9 = .ok (.aload_n 0, 1) := by decide +kernel
theorem dX3_allMet_10 : decode cX3_allMet 10 = .ok (.aload_n 1, 1) := by decide +kernel
theorem dX3_allMet_11 : decode cX3_allMet 11 = .ok (.aload_n 2, 1) := by decide +kernel
theorem dX3_allMet_12 : decode cX3_allMet 12 = .ok (.invokevirtual 83, 3) := by decide +kernel
theorem dX3_allMet_15 : decode cX3_allMet 15 = .ok (.iconst (-1), 1) := by decide +kernel
theorem dX3_allMet_16 : decode cX3_allMet 16 = .ok (.if_icmp .ne 7, 3) := by decide +kernel
theorem dX3_allMet_19 : decode cX3_allMet 19 = .ok (.iconst 1, 1) := by decide +kernel
theorem dX3_allMet_20 : decode cX3_allMet 20 = .ok (.goto 4, 3) := by decide +kernel
theorem dX3_allMet_23 : decode cX3_allMet 23 = .ok (.iconst 0, 1) := by decide +kernel
theorem dX3_allMet_24 : decode cX3_allMet 24 = .ok (.ireturn, 1) := by decide +kernel
theorem dX3_failsAsBefore_0 : decode cX3_failsAsBefore 0 = .ok (.aload_n 1, 1) := by decide +kernel
theorem dX3_failsAsBefore_1 : decode cX3_failsAsBefore 1 = .ok (.aload_n 0, 1) := by decide +kernel
theorem dX3_failsAsBefore_2 : decode cX3_failsAsBefore 2 = .ok (.getfield 34, 3) := by decide +kernel
theorem dX3_failsAsBefore_5 : decode cX3_failsAsBefore 5 = .ok (.invokevirtual 52, 3) := by decide +kernel
theorem dX3_failsAsBefore_8 : decode cX3_failsAsBefore 8 = .ok (.astore_n 3, 1) := by decide +kernel
theorem dX3_failsAsBefore_9 : decode cX3_failsAsBefore 9 = .ok (.aload_n 3, 1) := by decide +kernel
theorem dX3_failsAsBefore_10 : decode cX3_failsAsBefore 10 = .ok (.ifnull 11, 3) := by decide +kernel
theorem dX3_failsAsBefore_13 : decode cX3_failsAsBefore 13 = .ok (.aload_n 0, 1) := by decide +kernel
theorem dX3_failsAsBefore_14 : decode cX3_failsAsBefore 14 = .ok (.getfield 40, 3) := by decide +kernel
theorem dX3_failsAsBefore_17 : decode cX3_failsAsBefore 17 = .ok (.iconst (-1), 1) := by decide +kernel
theorem dX3_failsAsBefore_18 : decode cX3_failsAsBefore 18 = .ok (.if_icmp .ne 5, 3) := by decide +kernel
theorem dX3_failsAsBefore_21 : decode cX3_failsAsBefore 21 = .ok (.iconst 0, 1) := by decide +kernel
theorem dX3_failsAsBefore_22 : decode cX3_failsAsBefore 22 = .ok (.ireturn, 1) := by decide +kernel
theorem dX3_failsAsBefore_23 : decode cX3_failsAsBefore 23 = .ok (.aload_n 3, 1) := by decide +kernel
theorem dX3_failsAsBefore_24 : decode cX3_failsAsBefore 24 = .ok (.getfield 56, 3) := by decide +kernel
theorem dX3_failsAsBefore_27 : decode cX3_failsAsBefore 27 = .ok (.aload_n 2, 1) := by decide +kernel
theorem dX3_failsAsBefore_28 : decode cX3_failsAsBefore 28 = .ok (.aload_n 0, 1) := by decide +kernel
theorem dX3_failsAsBefore_29 : decode cX3_failsAsBefore 29 = .ok (.getfield 40, 3) := by decide +kernel
theorem dX3_failsAsBefore_32 : decode cX3_failsAsBefore 32 = .ok (.aload_n 0, 1) := by decide +kernel
theorem dX3_failsAsBefore_33 : decode cX3_failsAsBefore 33 = .ok (.getfield 43, 3) := by decide +kernel
theorem dX3_failsAsBefore_36 : decode cX3_failsAsBefore 36 = .ok (.invokevirtual 87, 3) := by decide +kernel
theorem dX3_failsAsBefore_39 : decode cX3_failsAsBefore 39 = .ok (.lstore 4, 2) := by decide +kernel
theorem dX3_failsAsBefore_41 : decode cX3_failsAsBefore 41 = .ok (.aload_n 3, 1) := by decide +kernel
theorem dX3_failsAsBefore_42 : decode cX3_failsAsBefore 42 = .ok (.aload_n 0, 1) := by decide +kernel
theorem dX3_failsAsBefore_43 : decode cX3_failsAsBefore 43 = .ok (.getfield 37, 3) := by decide +kernel
theorem dX3_failsAsBefore_46 : decode cX3_failsAsBefore 46 = .ok (.aload_n 0, 1) := by decide +kernel
theorem dX3_failsAsBefore_47 : decode cX3_failsAsBefore 47 = .ok (.aload_n 0, 1) := by decide +kernel
theorem dX3_failsAsBefore_48 : decode cX3_failsAsBefore 48 = .ok (.getfield 34, 3) := by decide +kernel
theorem dX3_failsAsBefore_51 : decode cX3_failsAsBefore 51 = .ok (.aload_n 0, 1) := by decide +kernel
theorem dX3_failsAsBefore_52 : decode cX3_failsAsBefore 52 = .ok (.getfield 37, 3) := by decide +kernel
theorem dX3_failsAsBefore_55 : decode cX3_failsAsBefore 55 = .ok (.lload 4, 2) := by decide +kernel
theorem dX3_failsAsBefore_57 : decode cX3_failsAsBefore 57 = .ok (.invokevirtual 93, 3) := by decide +kernel
theorem dX3_failsAsBefore_60 : decode cX3_failsAsBefore 60 = .ok (.invokevirtual 97, 3) := by decide +kernel
theorem dX3_failsAsBefore_63 : decode cX3_failsAsBefore 63 = .ok (.ifCond .ne 7, 3) := by decide +kernel
theorem dX3_failsAsBefore_66 : decode cX3_failsAsBefore 66 = .ok (.iconst 1, 1) := by decide +kernel
theorem dX3_failsAsBefore_67 : decode cX3_failsAsBefore 67 = .ok (.goto 4, 3) := by decide +kernel
theorem dX3_failsAsBefore_70 : decode cX3_failsAsBefore 70 = .ok (.iconst 0, 1) := by decide +kernel
theorem dX3_failsAsBefore_71 : decode cX3_failsAsBefore 71 = .ok (.ireturn, 1) := by decide +kernel
theorem dX3_isMet_0 : decode cX3_isMet 0 = .ok (.aload_n 0, 1) := by decide +kernel
theorem dX3_isMet_1 : decode cX3_isMet 1 = .ok (.getfield 21, 3) := by decide +kernel
theorem dX3_isMet_4 : decode cX3_isMet 4 = .ok (.aload_n 2, 1) := by decide +kernel
theorem dX3_isMet_5 : decode cX3_isMet 5 = .ok (.getfield 56, 3) := by decide +kernel
theorem dX3_isMet_8 : decode cX3_isMet 8 = .ok (.aload_n 3, 1) := by decide +kernel
theorem dX3_isMet_9 : decode cX3_isMet 9 = .ok (.aload_n 0, 1) := by decide +kernel
theorem dX3_isMet_10 : decode cX3_isMet 10 = .ok (.getfield 12, 3) := by decide +kernel
theorem dX3_isMet_13 : decode cX3_isMet 13 = .ok (.invokevirtual 62, 3) := by decide +kernel
theorem dX3_isMet_16 : decode cX3_isMet 16 = .ok (.iconst 0, 1) := by decide +kernel
theorem dX3_isMet_17 : decode cX3_isMet 17 = .ok (.istore 4, 2) := by decide +kernel
theorem dX3_isMet_19 : decode cX3_isMet 19 = .ok (.iload 4, 2) := by decide +kernel
theorem dX3_isMet_21 : decode cX3_isMet 21 = .ok (.iconst 1, 1) := by decide +kernel
theorem dX3_isMet_22 : decode cX3_isMet 22 = .ok (.if_icmp .gt 76, 3) := by decide +kernel
theorem dX3_isMet_25 : decode cX3_isMet 25 = .ok (.aload_n 2, 1) := by decide +kernel
theorem dX3_isMet_26 : decode cX3_isMet 26 = .ok (.iload 4, 2) := by decide +kernel
theorem dX3_isMet_28 : decode cX3_isMet 28 = .ok (.aload_n 0, 1) := by decide +kernel
theorem dX3_isMet_29 : decode cX3_isMet 29 = .ok (.iload_n 1, 1) := by decide +kernel
theorem dX3_isMet_30 : decode cX3_isMet 30 = .ok (.iload 4, 2) := by decide +kernel
theorem dX3_isMet_32 : decode cX3_isMet 32 = .ok (.aload_n 0, 1) := by decide +kernel
theorem dX3_isMet_33 : decode cX3_isMet 33 = .ok (.getfield 21, 3) := by decide +kernel
theorem dX3_isMet_36 : decode cX3_isMet 36 = .ok (.getfield 66, 3) := by decide +kernel
theorem dX3_isMet_39 : decode cX3_isMet 39 = .ok (.iload 4, 2) := by decide +kernel
theorem dX3_isMet_41 : decode cX3_isMet 41 = .ok (.laload, 1) := by decide +kernel
theorem dX3_isMet_42 : decode cX3_isMet 42 = .ok (.invokevirtual 93, 3) := by decide +kernel
theorem dX3_isMet_45 : decode cX3_isMet 45 = .ok (.invokevirtual 97, 3) := by decide +kernel
theorem dX3_isMet_48 : decode cX3_isMet 48 = .ok (.ifCond .ne 44, 3) := by decide +kernel
theorem dX3_isMet_51 : decode cX3_isMet 51 = .ok (.aload_n 0, 1) := by decide +kernel
theorem dX3_isMet_52 : decode cX3_isMet 52 = .ok (.iload_n 1, 1) := by decide +kernel
theorem dX3_isMet_53 : decode cX3_isMet 53 = .ok (.putfield 34, 3) := by decide +kernel
theorem dX3_isMet_56 : decode cX3_isMet 56 = .ok (.aload_n 0, 1) := by decide +kernel
theorem dX3_isMet_57 : decode cX3_isMet 57 = .ok (.iload 4, 2) := by decide +kernel
theorem dX3_isMet_59 : decode cX3_isMet 59 = .ok (.putfield 37, 3) := by decide +kernel
theorem dX3_isMet_62 : decode cX3_isMet 62 = .ok (.aload_n 0, 1) := by decide +kernel
theorem dX3_isMet_63 : decode cX3_isMet 63 = .ok (.aload_n 0, 1) := by decide +kernel
theorem dX3_isMet_64 : decode cX3_isMet 64 = .ok (.getfield 21, 3) := by decide +kernel
theorem dX3_isMet_67 : decode cX3_isMet 67 = .ok (.getfield 101, 3) := by decide +kernel
theorem dX3_isMet_70 : decode cX3_isMet 70 = .ok (.iload 4, 2) := by decide +kernel
theorem dX3_isMet_72 : decode cX3_isMet 72 = .ok (.iaload, 1) := by decide +kernel
theorem dX3_isMet_73 : decode cX3_isMet 73 = .ok (.putfield 40, 3) := by decide +kernel
theorem dX3_isMet_76 : decode cX3_isMet 76 = .ok (.aload_n 0, 1) := by decide +kernel
theorem dX3_isMet_77 : decode cX3_isMet 77 = .ok (.aload_n 0, 1) := by decide +kernel
theorem dX3_isMet_78 : decode cX3_isMet 78 = .ok (.getfield 21, 3) := by decide +kernel
theorem dX3_isMet_81 : decode cX3_isMet 81 = .ok (.getfield 104, 3) := by decide +kernel
theorem dX3_isMet_84 : decode cX3_isMet 84 = .ok (.iload 4, 2) := by decide +kernel
theorem dX3_isMet_86 : decode cX3_isMet 86 = .ok (.iaload, 1) := by decide +kernel
theorem dX3_isMet_87 : decode cX3_isMet 87 = .ok (.putfield 43, 3) := by decide +kernel
theorem dX3_isMet_90 : decode cX3_isMet 90 = .ok (.iconst 0, 1) := by decide +kernel
theorem dX3_isMet_91 : decode cX3_isMet 91 = .ok (.ireturn, 1) := by decide +kernel
theorem dX3_isMet_92 : decode cX3_isMet 92 = .ok (.iinc 4 1, 3) := by decide +kernel
theorem dX3_isMet_95 : decode cX3_isMet 95 = .ok (.goto (-76), 3) := by decide +kernel
theorem dX3_isMet_98 : decode cX3_isMet 98 = .ok (.iconst 1, 1) := by decide +kernel
theorem dX3_isMet_99 : decode cX3_isMet 99 = .ok (.ireturn, 1) := by decide +kernel
theorem dX4_init_0 : decode cX4_init 0 = .ok (.aload_n 0, 1) := by decide +kernel
theorem dX4_init_1 : decode cX4_init 1 = .ok (.invokespecial 3, 3) := by decide +kernel
theorem dX4_init_4 : decode cX4_init 4 = .ok (.aload_n 0, 1) := by decide +kernel
theorem dX4_init_5 : decode cX4_init 5 = .ok (.bipush 61, 2) := by decide +kernel
theorem dX4_init_7 : decode cX4_init 7 = .ok (.newarray .long, 2) := by decide +kernel
theorem dX4_init_9 : decode cX4_init 9 = .ok (.putfield 9, 3) := by decide +kernel
theorem dX4_init_12 : decode cX4_init 12 = .ok (.aload_n 0, 1) := by decide +kernel
theorem dX4_init_13 : decode cX4_init 13 = .ok (.lconst 1, 1) := by decide +kernel
theorem dX4_init_14 : decode cX4_init 14 = .ok (.putfield 15, 3) := by decide +kernel
theorem dX4_init_17 : decode cX4_init 17 = .ok (.aload_n 0, 1) := by decide +kernel
theorem dX4_init_18 : decode cX4_init 18 = .ok (.iconst 0, 1) := by decide +kernel
theorem dX4_init_19 : decode cX4_init 19 = .ok (.putfield 19, 3) := by decide +kernel
theorem dX4_init_22 : decode cX4_init 22 = .ok (.return_, 1) := by decide +kernel
theorem dX4_draw_0 : decode cX4_draw 0 = .ok (.aload_n 1, 1) := by decide +kernel
theorem dX4_draw_1 : decode cX4_draw 1 = .ok (.iload_n 2, 1) := by decide +kernel
theorem dX4_draw_2 : decode cX4_draw 2 = .ok (.iload_n 3, 1) := by decide +kernel
theorem dX4_draw_3 : decode cX4_draw 3 = .ok (.invokevirtual 23, 3) := by decide +kernel
theorem dX4_draw_6 : decode cX4_draw 6 = .ok (.ifCond .ne 4, 3) := by decide +kernel
theorem dX4_draw_9 : decode cX4_draw 9 = .ok (.return_, 1) := by decide +kernel
theorem dX4_draw_10 : decode cX4_draw 10 = .ok (.aload_n 0, 1) := by decide +kernel
theorem dX4_draw_11 : decode cX4_draw 11 = .ok (.aload_n 1, 1) := by decide +kernel
theorem dX4_draw_12 : decode cX4_draw 12 = .ok (.getfield 29, 3) := by decide +kernel
theorem dX4_draw_15 : decode cX4_draw 15 = .ok (.putfield 19, 3) := by decide +kernel
theorem dX4_draw_18 : decode cX4_draw 18 = .ok (.aload_n 0, 1) := by decide +kernel
theorem dX4_draw_19 : decode cX4_draw 19 = .ok (.aload_n 1, 1) := by decide +kernel
theorem dX4_draw_20 : decode cX4_draw 20 = .ok (.getfield 30, 3) := by decide +kernel
theorem dX4_draw_23 : decode cX4_draw 23 = .ok (.putfield 15, 3) := by decide +kernel
theorem dX4_draw_26 : decode cX4_draw 26 = .ok (.iconst 0, 1) := by decide +kernel
theorem dX4_draw_27 : decode cX4_draw 27 = .ok (.istore 4, 2) := by decide +kernel
theorem dX4_draw_29 : decode cX4_draw 29 = .ok (.iload 4, 2) := by decide +kernel
theorem dX4_draw_31 : decode cX4_draw 31 = .ok (.aload_n 0, 1) := by decide +kernel
theorem dX4_draw_32 : decode cX4_draw 32 = .ok (.getfield 19, 3) := by decide +kernel
theorem dX4_draw_35 : decode cX4_draw 35 = .ok (.if_icmp .gt 39, 3) := by decide +kernel
theorem dX4_draw_38 : decode cX4_draw 38 = .ok (.aload_n 0, 1) := by decide +kernel
theorem dX4_draw_39 : decode cX4_draw 39 = .ok (.getfield 9, 3) := by decide +kernel
theorem dX4_draw_42 : decode cX4_draw 42 = .ok (.iload 4, 2) := by decide +kernel
theorem dX4_draw_44 : decode cX4_draw 44 = .ok (.iload_n 2, 1) := by decide +kernel
theorem dX4_draw_45 : decode cX4_draw 45 = .ok (.ifCond .ne 15, 3) := by decide +kernel
theorem dX4_draw_48 : decode cX4_draw 48 = .ok (.aload_n 1, 1) := by decide +kernel
theorem dX4_draw_49 : decode cX4_draw 49 = .ok (.getfield 31, 3) := by decide +kernel
theorem dX4_draw_52 : decode cX4_draw 52 = .ok (.iload_n 3, 1) := by decide +kernel
theorem dX4_draw_53 : decode cX4_draw 53 = .ok (.aaload, 1) := by decide +kernel
theorem dX4_draw_54 : decode cX4_draw 54 = .ok (.iload 4, 2) := by decide +kernel
theorem dX4_draw_56 : decode cX4_draw 56 = .ok (.laload, 1) := by decide +kernel
theorem dX4_draw_57 : decode cX4_draw 57 = .ok (.goto 10, 3) := by decide +kernel
theorem dX4_draw_60 : decode cX4_draw 60 = .ok (.aload_n 1, 1) := by decide +kernel
theorem dX4_draw_61 : decode cX4_draw 61 = .ok (.iload_n 3, 1) := by decide +kernel
theorem dX4_draw_62 : decode cX4_draw 62 = .ok (.iload 4, 2) := by decide +kernel
theorem dX4_draw_64 : decode cX4_draw 64 = .ok (.invokevirtual 35, 3) := by decide +kernel
theorem dX4_draw_67 : decode cX4_draw 67 = .ok (.lastore, 1) := by decide +kernel
theorem dX4_draw_68 : decode cX4_draw 68 = .ok (.iinc 4 1, 3) := by decide +kernel
theorem dX4_draw_71 : decode cX4_draw 71 = .ok (.goto (-42), 3) := by decide +kernel
theorem dX4_draw_74 : decode cX4_draw 74 = .ok (.return_, 1) := by decide +kernel
theorem dX4_effectOf_0 : decode cX4_effectOf 0 = .ok (.aload_n 1, 1) := by decide +kernel
theorem dX4_effectOf_1 : decode cX4_effectOf 1 = .ok (.invokevirtual 39, 3) := by decide +kernel
theorem dX4_effectOf_4 : decode cX4_effectOf 4 = .ok (.istore 4, 2) := by decide +kernel
theorem dX4_effectOf_6 : decode cX4_effectOf 6 = .ok (.iconst 0, 1) := by decide +kernel
theorem dX4_effectOf_7 : decode cX4_effectOf 7 = .ok (.istore 5, 2) := by decide +kernel
theorem dX4_effectOf_9 : decode cX4_effectOf 9 = .ok (.lconst 0, 1) := by decide +kernel
theorem dX4_effectOf_10 : decode cX4_effectOf 10 = .ok (.lstore 6, 2) := by decide +kernel
theorem dX4_effectOf_12 : decode cX4_effectOf 12 = .ok (.iconst 0, 1) := by decide +kernel
theorem dX4_effectOf_13 : decode cX4_effectOf 13 = .ok (.istore 8, 2) := by decide +kernel
theorem dX4_effectOf_15 : decode cX4_effectOf 15 = .ok (.iload 8, 2) := by decide +kernel
theorem dX4_effectOf_17 : decode cX4_effectOf 17 = .ok (.aload_n 1, 1) := by decide +kernel
theorem dX4_effectOf_18 : decode cX4_effectOf 18 = .ok (.getfield 45, 3) := by decide +kernel
theorem dX4_effectOf_21 : decode cX4_effectOf 21 = .ok (.if_icmp .ge 73, 3) := by decide +kernel
theorem dX4_effectOf_24 : decode cX4_effectOf 24 = .ok (.iload 5, 2) := by decide +kernel
theorem dX4_effectOf_26 : decode cX4_effectOf 26 = .ok (.aload_n 1, 1) := by decide +kernel
theorem dX4_effectOf_27 : decode cX4_effectOf 27 = .ok (.getfield 48, 3) := by decide +kernel
theorem dX4_effectOf_30 : decode cX4_effectOf 30 = .ok (.iload 8, 2) := by decide +kernel
theorem dX4_effectOf_32 : decode cX4_effectOf 32 = .ok (.iaload, 1) := by decide +kernel
theorem dX4_effectOf_33 : decode cX4_effectOf 33 = .ok (.iadd, 1) := by decide +kernel
theorem dX4_effectOf_34 : decode cX4_effectOf 34 = .ok (.istore 5, 2) := by decide +kernel
theorem dX4_effectOf_36 : decode cX4_effectOf 36 = .ok (.iload_n 3, 1) := by decide +kernel
theorem dX4_effectOf_37 : decode cX4_effectOf 37 = .ok (.iload_n 2, 1) := by decide +kernel
theorem dX4_effectOf_38 : decode cX4_effectOf 38 = .ok (.ifCond .ne 8, 3) := by decide +kernel
theorem dX4_effectOf_41 : decode cX4_effectOf 41 = .ok (.iload 5, 2) := by decide +kernel
theorem dX4_effectOf_43 : decode cX4_effectOf 43 = .ok (.goto 8, 3) := by decide +kernel
theorem dX4_effectOf_46 : decode cX4_effectOf 46 = .ok (.iload 4, 2) := by decide +kernel
theorem dX4_effectOf_48 : decode cX4_effectOf 48 = .ok (.iload 5, 2) := by decide +kernel
theorem dX4_effectOf_50 : decode cX4_effectOf 50 = .ok (.isub, 1) := by decide +kernel
theorem dX4_effectOf_51 : decode cX4_effectOf 51 = .ok (.isub, 1) := by decide +kernel
theorem dX4_effectOf_52 : decode cX4_effectOf 52 = .ok (.istore 9, 2) := by decide +kernel
theorem dX4_effectOf_54 : decode cX4_effectOf 54 = .ok (.iload 9, 2) := by decide +kernel
theorem dX4_effectOf_56 : decode cX4_effectOf 56 = .ok (.iconst 0, 1) := by decide +kernel
theorem dX4_effectOf_57 : decode cX4_effectOf 57 = .ok (.aload_n 0, 1) := by decide +kernel
theorem dX4_effectOf_58 : decode cX4_effectOf 58 = .ok (.getfield 19, 3) := by decide +kernel
theorem dX4_effectOf_61 : decode cX4_effectOf 61 = .ok (.invokestatic 52, 3) := by decide +kernel
theorem dX4_effectOf_64 : decode cX4_effectOf 64 = .ok (.ifCond .eq 24, 3) := by decide +kernel
theorem dX4_effectOf_67 : decode cX4_effectOf 67 = .ok (.lload 6, 2) := by decide +kernel
theorem dX4_effectOf_69 : decode cX4_effectOf 69 = .ok (.aload_n 1, 1) := by decide +kernel
theorem dX4_effectOf_70 : decode cX4_effectOf 70 = .ok (.getfield 56, 3) := by decide +kernel
theorem dX4_effectOf_73 : decode cX4_effectOf 73 = .ok (.iload 8, 2) := by decide +kernel
theorem dX4_effectOf_75 : decode cX4_effectOf 75 = .ok (.iaload, 1) := by decide +kernel
theorem dX4_effectOf_76 : decode cX4_effectOf 76 = .ok (.i2l, 1) := by decide +kernel
theorem dX4_effectOf_77 : decode cX4_effectOf 77 = .ok (.aload_n 0, 1) := by decide +kernel
theorem dX4_effectOf_78 : decode cX4_effectOf 78 = .ok (.getfield 9, 3) := by decide +kernel
theorem dX4_effectOf_81 : decode cX4_effectOf 81 = .ok (.iload 9, 2) := by decide +kernel
theorem dX4_effectOf_83 : decode cX4_effectOf 83 = .ok (.laload, 1) := by decide +kernel
theorem dX4_effectOf_84 : decode cX4_effectOf 84 = .ok (.lmul, 1) := by decide +kernel
theorem dX4_effectOf_85 : decode cX4_effectOf 85 = .ok (.ladd, 1) := by decide +kernel
theorem dX4_effectOf_86 : decode cX4_effectOf 86 = .ok (.lstore 6, 2) := by decide +kernel
theorem dX4_effectOf_88 : decode cX4_effectOf 88 = .ok (.iinc 8 1, 3) := by decide +kernel
theorem dX4_effectOf_91 : decode cX4_effectOf 91 = .ok (.goto (-76), 3) := by decide +kernel
theorem dX4_effectOf_94 : decode cX4_effectOf 94 = .ok (.lload 6, 2) := by decide +kernel
theorem dX4_effectOf_96 : decode cX4_effectOf 96 = .ok (.lreturn, 1) := by decide +kernel
theorem dX4_cut_0 : decode cX4_cut 0 = .ok (.aload_n 0, 1) := by decide +kernel
theorem dX4_cut_1 : decode cX4_cut 1 = .ok (.getfield 15, 3) := by decide +kernel
theorem dX4_cut_4 : decode cX4_cut 4 = .ok (.lconst 0, 1) := by decide +kernel
theorem dX4_cut_5 : decode cX4_cut 5 = .ok (.lcmp, 1) := by decide +kernel
theorem dX4_cut_6 : decode cX4_cut 6 = .ok (.ifCond .ne 7, 3) := by decide +kernel
theorem dX4_cut_9 : decode cX4_cut 9 = .ok (.lconst 0, 1) := by decide +kernel
theorem dX4_cut_10 : decode cX4_cut 10 = .ok (.goto 9, 3) := by decide +kernel
theorem dX4_cut_13 : decode cX4_cut 13 = .ok (.lload_n 1, 1) := by decide +kernel
theorem dX4_cut_14 : decode cX4_cut 14 = .ok (.aload_n 0, 1) := by decide +kernel
theorem dX4_cut_15 : decode cX4_cut 15 = .ok (.getfield 15, 3) := by decide +kernel
theorem dX4_cut_18 : decode cX4_cut 18 = .ok (.ldiv, 1) := by decide +kernel
theorem dX4_cut_19 : decode cX4_cut 19 = .ok (.lreturn, 1) := by decide +kernel
theorem dX5_init_0 : decode cX5_init 0 = .ok (.aload_n 0, 1) := by decide +kernel
theorem dX5_init_1 : decode cX5_init 1 = .ok (.invokespecial 3, 3) := by decide +kernel
theorem dX5_init_4 : decode cX5_init 4 = .ok (.aload_n 0, 1) := by decide +kernel
theorem dX5_init_5 : decode cX5_init 5 = .ok (.bipush 24, 2) := by decide +kernel
theorem dX5_init_7 : decode cX5_init 7 = .ok (.newarray .int, 2) := by decide +kernel
theorem dX5_init_9 : decode cX5_init 9 = .ok (.putfield 9, 3) := by decide +kernel
theorem dX5_init_12 : decode cX5_init 12 = .ok (.aload_n 0, 1) := by decide +kernel
theorem dX5_init_13 : decode cX5_init 13 = .ok (.bipush 24, 2) := by decide +kernel
theorem dX5_init_15 : decode cX5_init 15 = .ok (.newarray .int, 2) := by decide +kernel
theorem dX5_init_17 : decode cX5_init 17 = .ok (.putfield 15, 3) := by decide +kernel
theorem dX5_init_20 : decode cX5_init 20 = .ok (.aload_n 0, 1) := by decide +kernel
theorem dX5_init_21 : decode cX5_init 21 = .ok (.bipush 24, 2) := by decide +kernel
theorem dX5_init_23 : decode cX5_init 23 = .ok (.newarray .int, 2) := by decide +kernel
theorem dX5_init_25 : decode cX5_init 25 = .ok (.putfield 18, 3) := by decide +kernel
theorem dX5_init_28 : decode cX5_init 28 = .ok (.aload_n 0, 1) := by decide +kernel
theorem dX5_init_29 : decode cX5_init 29 = .ok (.bipush 24, 2) := by decide +kernel
theorem dX5_init_31 : decode cX5_init 31 = .ok (.newarray .int, 2) := by decide +kernel
theorem dX5_init_33 : decode cX5_init 33 = .ok (.putfield 21, 3) := by decide +kernel
theorem dX5_init_36 : decode cX5_init 36 = .ok (.aload_n 0, 1) := by decide +kernel
theorem dX5_init_37 : decode cX5_init 37 = .ok (.bipush 24, 2) := by decide +kernel
theorem dX5_init_39 : decode cX5_init 39 = .ok (.newarray .boolean, 2) := by decide +kernel
theorem dX5_init_41 : decode cX5_init 41 = .ok (.putfield 24, 3) := by decide +kernel
theorem dX5_init_44 : decode cX5_init 44 = .ok (.aload_n 0, 1) := by decide +kernel
theorem dX5_init_45 : decode cX5_init 45 = .ok (.iconst 0, 1) := by decide +kernel
theorem dX5_init_46 : decode cX5_init 46 = .ok (.putfield 28, 3) := by decide +kernel
theorem dX5_init_49 : decode cX5_init 49 = .ok (.aload_n 0, 1) := by decide +kernel
theorem dX5_init_50 : decode cX5_init 50 = .ok (.bipush 10, 2) := by decide +kernel
theorem dX5_init_52 : decode cX5_init 52 = .ok (.newarray .int, 2) := by decide +kernel
theorem dX5_init_54 : decode cX5_init 54 = .ok (.putfield 32, 3) := by decide +kernel
theorem dX5_init_57 : decode cX5_init 57 = .ok (.aload_n 0, 1) := by decide +kernel
theorem dX5_init_58 : decode cX5_init 58 = .ok (.bipush 10, 2) := by decide +kernel
theorem dX5_init_60 : decode cX5_init 60 = .ok (.newarray .int, 2) := by decide +kernel
theorem dX5_init_62 : decode cX5_init 62 = .ok (.putfield 35, 3) := by decide +kernel
theorem dX5_init_65 : decode cX5_init 65 = .ok (.aload_n 0, 1) := by decide +kernel
theorem dX5_init_66 : decode cX5_init 66 = .ok (.iconst 0, 1) := by decide +kernel
theorem dX5_init_67 : decode cX5_init 67 = .ok (.putfield 38, 3) := by decide +kernel
theorem dX5_init_70 : decode cX5_init 70 = .ok (.aload_n 0, 1) := by decide +kernel
theorem dX5_init_71 : decode cX5_init 71 = .ok (.iconst 0, 1) := by decide +kernel
theorem dX5_init_72 : decode cX5_init 72 = .ok (.putfield 41, 3) := by decide +kernel
theorem dX5_init_75 : decode cX5_init 75 = .ok (.return_, 1) := by decide +kernel
theorem dX5_lay_0 : decode cX5_lay 0 = .ok (.aload_n 0, 1) := by decide +kernel
theorem dX5_lay_1 : decode cX5_lay 1 = .ok (.getfield 28, 3) := by decide +kernel
theorem dX5_lay_4 : decode cX5_lay 4 = .ok (.bipush 24, 2) := by decide +kernel
theorem dX5_lay_6 : decode cX5_lay 6 = .ok (.if_icmp .lt 5, 3) := by decide +kernel
theorem dX5_lay_9 : decode cX5_lay 9 = .ok (.iconst 0, 1) := by decide +kernel
theorem dX5_lay_10 : decode cX5_lay 10 = .ok (.ireturn, 1) := by decide +kernel
theorem dX5_lay_11 : decode cX5_lay 11 = .ok (.aload_n 0, 1) := by decide +kernel
theorem dX5_lay_12 : decode cX5_lay 12 = .ok (.getfield 9, 3) := by decide +kernel
theorem dX5_lay_15 : decode cX5_lay 15 = .ok (.aload_n 0, 1) := by decide +kernel
theorem dX5_lay_16 : decode cX5_lay 16 = .ok (.getfield 28, 3) := by decide +kernel
theorem dX5_lay_19 : decode cX5_lay 19 = .ok (.iload_n 1, 1) := by decide +kernel
theorem dX5_lay_20 : decode cX5_lay 20 = .ok (.iastore, 1) := by decide +kernel
theorem dX5_lay_21 : decode cX5_lay 21 = .ok (.aload_n 0, 1) := by decide +kernel
theorem dX5_lay_22 : decode cX5_lay 22 = .ok (.getfield 15, 3) := by decide +kernel
theorem dX5_lay_25 : decode cX5_lay 25 = .ok (.aload_n 0, 1) := by decide +kernel
theorem dX5_lay_26 : decode cX5_lay 26 = .ok (.getfield 28, 3) := by decide +kernel
theorem dX5_lay_29 : decode cX5_lay 29 = .ok (.iload_n 2, 1) := by decide +kernel
theorem dX5_lay_30 : decode cX5_lay 30 = .ok (.iastore, 1) := by decide +kernel
theorem dX5_lay_31 : decode cX5_lay 31 = .ok (.aload_n 0, 1) := by decide +kernel
theorem dX5_lay_32 : decode cX5_lay 32 = .ok (.getfield 18, 3) := by decide +kernel
theorem dX5_lay_35 : decode cX5_lay 35 = .ok (.aload_n 0, 1) := by decide +kernel
theorem dX5_lay_36 : decode cX5_lay 36 = .ok (.getfield 28, 3) := by decide +kernel
theorem dX5_lay_39 : decode cX5_lay 39 = .ok (.iload_n 3, 1) := by decide +kernel
theorem dX5_lay_40 : decode cX5_lay 40 = .ok (.iastore, 1) := by decide +kernel
theorem dX5_lay_41 : decode cX5_lay 41 = .ok (.aload_n 0, 1) := by decide +kernel
theorem dX5_lay_42 : decode cX5_lay 42 = .ok (.getfield 21, 3) := by decide +kernel
theorem dX5_lay_45 : decode cX5_lay 45 = .ok (.aload_n 0, 1) := by decide +kernel
theorem dX5_lay_46 : decode cX5_lay 46 = .ok (.getfield 28, 3) := by decide +kernel
theorem dX5_lay_49 : decode cX5_lay 49 = .ok (.iload 4, 2) := by decide +kernel
theorem dX5_lay_51 : decode cX5_lay 51 = .ok (.iastore, 1) := by decide +kernel
theorem dX5_lay_52 : decode cX5_lay 52 = .ok (.aload_n 0, 1) := by decide +kernel
theorem dX5_lay_53 : decode cX5_lay 53 = .ok (.dup, 1) := by decide +kernel
theorem dX5_lay_54 : decode cX5_lay 54 = .ok (.getfield 28, 3) := by decide +kernel
theorem dX5_lay_57 : decode cX5_lay 57 = .ok (.iconst 1, 1) := by decide +kernel
theorem dX5_lay_58 : decode cX5_lay 58 = .ok (.iadd, 1) := by decide +kernel
theorem dX5_lay_59 : decode cX5_lay 59 = .ok (.putfield 28, 3) := by decide +kernel
theorem dX5_lay_62 : decode cX5_lay 62 = .ok (.iconst 1, 1) := by decide +kernel
theorem dX5_lay_63 : decode cX5_lay 63 = .ok (.ireturn, 1) := by decide +kernel
theorem dX5_openAll_0 : decode cX5_openAll 0 = .ok (.iconst 0, 1) := by decide +kernel
theorem dX5_openAll_1 : decode cX5_openAll 1 = .ok (.istore_n 1, 1) := by decide +kernel
theorem dX5_openAll_2 : decode cX5_openAll 2 = .ok (.iload_n 1, 1) := by decide +kernel
theorem dX5_openAll_3 : decode cX5_openAll 3 = .ok (.aload_n 0, 1) := by decide +kernel
theorem dX5_openAll_4 : decode cX5_openAll 4 = .ok (.getfield 28, 3) := by decide +kernel
theorem dX5_openAll_7 : decode cX5_openAll 7 = .ok (.if_icmp .ge 16, 3) := by decide +kernel
theorem dX5_openAll_10 : decode cX5_openAll 10 = .ok (.aload_n 0, 1) := by decide +kernel
theorem dX5_openAll_11 : decode cX5_openAll 11 = .ok (.getfield 24, 3) := by decide +kernel
theorem dX5_openAll_14 : decode cX5_openAll 14 = .ok (.iload_n 1, 1) := by decide +kernel
theorem dX5_openAll_15 : decode cX5_openAll 15 = .ok (.iconst 0, 1) := by decide +kernel
theorem dX5_openAll_16 : decode cX5_openAll 16 = .ok (.bastore, 1) := by decide +kernel
theorem dX5_openAll_17 : decode cX5_openAll 17 = .ok (.iinc 1 1, 3) := by decide +kernel
theorem dX5_openAll_20 : decode cX5_openAll 20 = .ok (.goto (-18), 3) := by decide +kernel
theorem dX5_openAll_23 : decode cX5_openAll 23 = .ok (.return_, 1) := by decide +kernel
theorem dX5_closeOver_0 : decode cX5_closeOver 0 = .ok (.iconst 0, 1) := by decide +kernel
theorem dX5_closeOver_1 : decode cX5_closeOver 1 = .ok (.istore_n 2, 1) := by decide +kernel
theorem dX5_closeOver_2 : decode cX5_closeOver 2 = .ok (.iload_n 2, 1) := by decide +kernel
theorem dX5_closeOver_3 : decode cX5_closeOver 3 = .ok (.aload_n 0, 1) := by decide +kernel
theorem dX5_closeOver_4 : decode cX5_closeOver 4 = .ok (.getfield 28, 3) := by decide +kernel
theorem dX5_closeOver_7 : decode cX5_closeOver 7 = .ok (.if_icmp .ge 26, 3) := by decide +kernel
theorem dX5_closeOver_10 : decode cX5_closeOver 10 = .ok (.aload_n 0, 1) := by decide +kernel
theorem dX5_closeOver_11 : decode cX5_closeOver 11 = .ok (.getfield 21, 3) := by decide +kernel
theorem dX5_closeOver_14 : decode cX5_closeOver 14 = .ok (.iload_n 2, 1) := by decide +kernel
theorem dX5_closeOver_15 : decode cX5_closeOver 15 = .ok (.iaload, 1) := by decide +kernel
theorem dX5_closeOver_16 : decode cX5_closeOver 16 = .ok (.iload_n 1, 1) := by decide +kernel
theorem dX5_closeOver_17 : decode cX5_closeOver 17 = .ok (.if_icmp .ne 10, 3) := by decide +kernel
theorem dX5_closeOver_20 : decode cX5_closeOver 20 = .ok (.aload_n 0, 1) := by decide +kernel
theorem dX5_closeOver_21 : decode cX5_closeOver 21 = .ok (.getfield 24, 3) := by decide +kernel
theorem dX5_closeOver_24 : decode cX5_closeOver 24 = .ok (.iload_n 2, 1) := by decide +kernel
theorem dX5_closeOver_25 : decode cX5_closeOver 25 = .ok (.iconst 1, 1) := by decide +kernel
theorem dX5_closeOver_26 : decode cX5_closeOver 26 = .ok (.bastore, 1) := by decide +kernel
theorem dX5_closeOver_27 : decode cX5_closeOver 27 = .ok (.iinc 2 1, 3) := by decide +kernel
theorem dX5_closeOver_30 : decode cX5_closeOver 30 = .ok (.goto (-28), 3) := by decide +kernel
theorem dX5_closeOver_33 : decode cX5_closeOver 33 = .ok (.return_, 1) := by decide +kernel
theorem dX5_bridgeOf_0 : decode cX5_bridgeOf 0 = .ok (.iload_n 1, 1) := by decide +kernel
theorem dX5_bridgeOf_1 : decode cX5_bridgeOf 1 = .ok (.iconst 0, 1) := by decide +kernel
theorem dX5_bridgeOf_2 : decode cX5_bridgeOf 2 = .ok (.aload_n 0, 1) := by decide +kernel
theorem dX5_bridgeOf_3 : decode cX5_bridgeOf 3 = .ok (.getfield 28, 3) := by decide +kernel
theorem dX5_bridgeOf_6 : decode cX5_bridgeOf 6 = .ok (.iconst 1, 1) := by decide +kernel
theorem dX5_bridgeOf_7 : decode cX5_bridgeOf 7 = .ok (.isub, 1) := by decide +kernel
theorem dX5_bridgeOf_8 : decode cX5_bridgeOf 8 = .ok (.invokestatic 44, 3) := by decide +kernel
theorem dX5_bridgeOf_11 : decode cX5_bridgeOf 11 = .ok (.ifCond .eq 12, 3) := by decide +kernel
theorem dX5_bridgeOf_14 : decode cX5_bridgeOf 14 = .ok (.aload_n 0, 1) := by decide +kernel
theorem dX5_bridgeOf_15 : decode cX5_bridgeOf 15 = .ok (.getfield 21, 3) := by decide +kernel
theorem dX5_bridgeOf_18 : decode cX5_bridgeOf 18 = .ok (.iload_n 1, 1) := by decide +kernel
theorem dX5_bridgeOf_19 : decode cX5_bridgeOf 19 = .ok (.iaload, 1) := by decide +kernel
theorem dX5_bridgeOf_20 : decode cX5_bridgeOf 20 = .ok (.goto 4, 3) := by decide +kernel
theorem dX5_bridgeOf_23 : decode cX5_bridgeOf 23 = .ok (.iconst (-1), 1) := by decide +kernel
theorem dX5_bridgeOf_24 : decode cX5_bridgeOf 24 = .ok (.ireturn, 1) := by decide +kernel
theorem dX5_wayRoad_0 : decode cX5_wayRoad 0 = .ok (.iload_n 1, 1) := by decide +kernel
theorem dX5_wayRoad_1 : decode cX5_wayRoad 1 = .ok (.iconst 0, 1) := by decide +kernel
theorem dX5_wayRoad_2 : decode cX5_wayRoad 2 = .ok (.aload_n 0, 1) := by decide +kernel
theorem dX5_wayRoad_3 : decode cX5_wayRoad 3 = .ok (.getfield 38, 3) := by decide +kernel
theorem dX5_wayRoad_6 : decode cX5_wayRoad 6 = .ok (.iconst 1, 1) := by decide +kernel
theorem dX5_wayRoad_7 : decode cX5_wayRoad 7 = .ok (.isub, 1) := by decide +kernel
theorem dX5_wayRoad_8 : decode cX5_wayRoad 8 = .ok (.invokestatic 44, 3) := by decide +kernel
theorem dX5_wayRoad_11 : decode cX5_wayRoad 11 = .ok (.ifCond .eq 12, 3) := by decide +kernel
theorem dX5_wayRoad_14 : decode cX5_wayRoad 14 = .ok (.aload_n 0, 1) := by decide +kernel
theorem dX5_wayRoad_15 : decode cX5_wayRoad 15 = .ok (.getfield 35, 3) := by decide +kernel
theorem dX5_wayRoad_18 : decode cX5_wayRoad 18 = .ok (.iload_n 1, 1) := by decide +kernel
theorem dX5_wayRoad_19 : decode cX5_wayRoad 19 = .ok (.iaload, 1) := by decide +kernel
theorem dX5_wayRoad_20 : decode cX5_wayRoad 20 = .ok (.goto 4, 3) := by decide +kernel
theorem dX5_wayRoad_23 : decode cX5_wayRoad 23 = .ok (.iconst (-1), 1) := by decide +kernel
theorem dX5_wayRoad_24 : decode cX5_wayRoad 24 = .ok (.ireturn, 1) := by decide +kernel
theorem dX5_search_0 : decode cX5_search 0 = .ok (.aload_n 0, 1) := by decide +kernel
theorem dX5_search_1 : decode cX5_search 1 = .ok (.iload_n 2, 1) := by decide +kernel
theorem dX5_search_2 : decode cX5_search 2 = .ok (.invokevirtual 48, 3) := by decide +kernel
theorem dX5_search_5 : decode cX5_search 5 = .ok (.aload_n 0, 1) := by decide +kernel
theorem dX5_search_6 : decode cX5_search 6 = .ok (.iconst 0, 1) := by decide +kernel
theorem dX5_search_7 : decode cX5_search 7 = .ok (.putfield 38, 3) := by decide +kernel
theorem dX5_search_10 : decode cX5_search 10 = .ok (.aload_n 0, 1) := by decide +kernel
theorem dX5_search_11 : decode cX5_search 11 = .ok (.aload_n 0, 1) := by decide +kernel
theorem dX5_search_12 : decode cX5_search 12 = .ok (.getfield 32, 3) := by decide +kernel
theorem dX5_search_15 : decode cX5_search 15 = .ok (.iload_n 1, 1) := by decide +kernel
theorem dX5_search_16 : decode cX5_search 16 = .ok (.iaload, 1) := by decide +kernel
theorem dX5_search_17 : decode cX5_search 17 = .ok (.sipush 1000, 3) := by decide +kernel
theorem dX5_search_20 : decode cX5_search 20 = .ok (.idiv, 1) := by decide +kernel
theorem dX5_search_21 : decode cX5_search 21 = .ok (.putfield 41, 3) := by decide +kernel
theorem dX5_search_24 : decode cX5_search 24 = .ok (.aload_n 0, 1) := by decide +kernel
theorem dX5_search_25 : decode cX5_search 25 = .ok (.getfield 32, 3) := by decide +kernel
theorem dX5_search_28 : decode cX5_search 28 = .ok (.iload_n 1, 1) := by decide +kernel
theorem dX5_search_29 : decode cX5_search 29 = .ok (.iaload, 1) := by decide +kernel
theorem dX5_search_30 : decode cX5_search 30 = .ok (.ldc 52, 2) := by decide +kernel
theorem dX5_search_32 : decode cX5_search 32 = .ok (.if_icmp .lt 5, 3) := by decide +kernel
theorem dX5_search_35 : decode cX5_search 35 = .ok (.iconst 0, 1) := by decide +kernel
theorem dX5_search_36 : decode cX5_search 36 = .ok (.ireturn, 1) := by decide +kernel
theorem dX5_search_37 : decode cX5_search 37 = .ok (.iload_n 1, 1) := by decide +kernel
theorem dX5_search_38 : decode cX5_search 38 = .ok (.istore_n 3, 1) := by decide +kernel
theorem dX5_search_39 : decode cX5_search 39 = .ok (.iconst 0, 1) := by decide +kernel
theorem dX5_search_40 : decode cX5_search 40 = .ok (.istore 4, 2) := by decide +kernel
theorem dX5_search_42 : decode cX5_search 42 = .ok (.iload 4, 2) := by decide +kernel
theorem dX5_search_44 : decode cX5_search 44 = .ok (.bipush 10, 2) := by decide +kernel
theorem dX5_search_46 : decode cX5_search 46 = .ok (.if_icmp .ge 56, 3) := by decide +kernel
theorem dX5_search_49 : decode cX5_search 49 = .ok (.iload_n 3, 1) := by decide +kernel
theorem dX5_search_50 : decode cX5_search 50 = .ok (.iload_n 2, 1) := by decide +kernel
theorem dX5_search_51 : decode cX5_search 51 = .ok (.if_icmp .eq 51, 3) := by decide +kernel
theorem dX5_search_54 : decode cX5_search 54 = .ok (.aload_n 0, 1) := by decide +kernel
theorem dX5_search_55 : decode cX5_search 55 = .ok (.iload_n 3, 1) := by decide +kernel
theorem dX5_search_56 : decode cX5_search 56 = .ok (.invokevirtual 53, 3) := by decide +kernel
theorem dX5_search_59 : decode cX5_search 59 = .ok (.istore 5, 2) := by decide +kernel
theorem dX5_search_61 : decode cX5_search 61 = .ok (.iload 5, 2) := by decide +kernel
theorem dX5_search_63 : decode cX5_search 63 = .ok (.iconst (-1), 1) := by decide +kernel
theorem dX5_search_64 : decode cX5_search 64 = .ok (.if_icmp .ne 5, 3) := by decide +kernel
theorem dX5_search_67 : decode cX5_search 67 = .ok (.iconst 0, 1) := by decide +kernel
theorem dX5_search_68 : decode cX5_search 68 = .ok (.ireturn, 1) := by decide +kernel
theorem dX5_search_69 : decode cX5_search 69 = .ok (.aload_n 0, 1) := by decide +kernel
theorem dX5_search_70 : decode cX5_search 70 = .ok (.getfield 35, 3) := by decide +kernel
theorem dX5_search_73 : decode cX5_search 73 = .ok (.iload 4, 2) := by decide +kernel
theorem dX5_search_75 : decode cX5_search 75 = .ok (.iload 5, 2) := by decide +kernel
theorem dX5_search_77 : decode cX5_search 77 = .ok (.iastore, 1) := by decide +kernel
theorem dX5_search_78 : decode cX5_search 78 = .ok (.aload_n 0, 1) := by decide +kernel
theorem dX5_search_79 : decode cX5_search 79 = .ok (.dup, 1) := by decide +kernel
theorem dX5_search_80 : decode cX5_search 80 = .ok (.getfield 38, 3) := by decide +kernel
theorem dX5_search_83 : decode cX5_search 83 = .ok (.iconst 1, 1) := by decide +kernel
theorem dX5_search_84 : decode cX5_search 84 = .ok (.iadd, 1) := by decide +kernel
theorem dX5_search_85 : decode cX5_search 85 = .ok (.putfield 38, 3) := by decide +kernel
theorem dX5_search_88 : decode cX5_search 88 = .ok (.aload_n 0, 1) := by decide +kernel
theorem dX5_search_89 : decode cX5_search 89 = .ok (.iload 5, 2) := by decide +kernel
theorem dX5_search_91 : decode cX5_search 91 = .ok (.iload_n 3, 1) := by decide +kernel
theorem dX5_search_92 : decode cX5_search 92 = .ok (.invokevirtual 57, 3) := by decide +kernel
theorem dX5_search_95 : decode cX5_search 95 = .ok (.istore_n 3, 1) := by decide +kernel
theorem dX5_search_96 : decode cX5_search 96 = .ok (.iinc 4 1, 3) := by decide +kernel
theorem dX5_search_99 : decode cX5_search 99 = .ok (.goto (-57), 3) := by decide +kernel
theorem dX5_search_102 : decode cX5_search 102 = .ok (.iconst 1, 1) := by decide +kernel
theorem dX5_search_103 : decode cX5_search 103 = .ok (.ireturn, 1) := by decide +kernel
theorem dX5_spreadCosts_0 : decode cX5_spreadCosts 0 = .ok (.aload_n 0, 1) := by decide +kernel
theorem dX5_spreadCosts_1 : decode cX5_spreadCosts 1 = .ok (.getfield 32, 3) := by decide +kernel
theorem dX5_spreadCosts_4 : decode cX5_spreadCosts 4 = .ok (.ldc 52, 2) := by decide +kernel
theorem dX5_spreadCosts_6 : decode cX5_spreadCosts 6 = .ok (.invokestatic 61, 3) := by decide +kernel
theorem dX5_spreadCosts_9 : decode cX5_spreadCosts 9 = .ok (.aload_n 0, 1) := by decide +kernel
theorem dX5_spreadCosts_10 : decode cX5_spreadCosts 10 = .ok (.getfield 32, 3) := by decide +kernel
theorem dX5_spreadCosts_13 : decode cX5_spreadCosts 13 = .ok (.iload_n 1, 1) := by decide +kernel
theorem dX5_spreadCosts_14 : decode cX5_spreadCosts 14 = .ok (.iconst 0, 1) := by decide +kernel
theorem dX5_spreadCosts_15 : decode cX5_spreadCosts 15 = .ok (.iastore, 1) := by decide +kernel
theorem dX5_spreadCosts_16 : decode cX5_spreadCosts 16 = .ok (.iconst 1, 1) := by decide +kernel
theorem dX5_spreadCosts_17 : decode cX5_spreadCosts 17 = .ok (.istore_n 2, 1) := by decide +kernel
theorem dX5_spreadCosts_18 : decode cX5_spreadCosts 18 = .ok (.iload_n 2, 1) := by decide +kernel
theorem dX5_spreadCosts_19 : decode cX5_spreadCosts 19 = .ok (.bipush 10, 2) := by decide +kernel
theorem dX5_spreadCosts_21 : decode cX5_spreadCosts 21 = .ok (.if_icmp .ge 110, 3) := by decide +kernel
theorem dX5_spreadCosts_24 : decode cX5_spreadCosts 24 = .ok (.iconst 0, 1) := by decide +kernel
theorem dX5_spreadCosts_25 : decode cX5_spreadCosts 25 = .ok (.istore_n 3, 1) := by decide +kernel
theorem dX5_spreadCosts_26 : decode cX5_spreadCosts 26 = .ok (.iload_n 3, 1) := by decide +kernel
theorem dX5_spreadCosts_27 : decode cX5_spreadCosts 27 = .ok (.aload_n 0, 1) := by decide +kernel
theorem dX5_spreadCosts_28 : decode cX5_spreadCosts 28 = .ok (.getfield 28, 3) := by decide +kernel
theorem dX5_spreadCosts_31 : decode cX5_spreadCosts 31 = .ok (.if_icmp .ge 94, 3) := by decide +kernel
theorem dX5_spreadCosts_34 : decode cX5_spreadCosts 34 = .ok (.aload_n 0, 1) := by decide +kernel
theorem dX5_spreadCosts_35 : decode cX5_spreadCosts 35 = .ok (.getfield 24, 3) := by decide +kernel
theorem dX5_spreadCosts_38 : decode cX5_spreadCosts 38 = .ok (.iload_n 3, 1) := by decide +kernel
theorem dX5_spreadCosts_39 : decode cX5_spreadCosts 39 = .ok (.baload, 1) := by decide +kernel
theorem dX5_spreadCosts_40 : decode cX5_spreadCosts 40 = .ok (.ifCond .ne 79, 3) := by decide +kernel
theorem dX5_spreadCosts_43 : decode cX5_spreadCosts 43 = .ok (.aload_n 0, 1) := by decide +kernel
theorem dX5_spreadCosts_44 : decode cX5_spreadCosts 44 = .ok (.getfield 9, 3) := by decide +kernel
theorem dX5_spreadCosts_47 : decode cX5_spreadCosts 47 = .ok (.iload_n 3, 1) := by decide +kernel
theorem dX5_spreadCosts_48 : decode cX5_spreadCosts 48 = .ok (.iaload, 1) := by decide +kernel
theorem dX5_spreadCosts_49 : decode cX5_spreadCosts 49 = .ok (.istore 4, 2) := by decide +kernel
theorem dX5_spreadCosts_51 : decode cX5_spreadCosts 51 = .ok (.aload_n 0, 1) := by decide +kernel
theorem dX5_spreadCosts_52 : decode cX5_spreadCosts 52 = .ok (.getfield 15, 3) := by decide +kernel
theorem dX5_spreadCosts_55 : decode cX5_spreadCosts 55 = .ok (.iload_n 3, 1) := by decide +kernel
theorem dX5_spreadCosts_56 : decode cX5_spreadCosts 56 = .ok (.iaload, 1) := by decide +kernel
theorem dX5_spreadCosts_57 : decode cX5_spreadCosts 57 = .ok (.istore 5, 2) := by decide +kernel
theorem dX5_spreadCosts_59 : decode cX5_spreadCosts 59 = .ok (.aload_n 0, 1) := by decide +kernel
theorem dX5_spreadCosts_60 : decode cX5_spreadCosts 60 = .ok (.getfield 32, 3) := by decide +kernel
theorem dX5_spreadCosts_63 : decode cX5_spreadCosts 63 = .ok (.iload 4, 2) := by decide +kernel
theorem dX5_spreadCosts_65 : decode cX5_spreadCosts 65 = .ok (.aload_n 0, 1) := by decide +kernel
theorem dX5_spreadCosts_66 : decode cX5_spreadCosts 66 = .ok (.getfield 32, 3) := by decide +kernel
theorem dX5_spreadCosts_69 : decode cX5_spreadCosts 69 = .ok (.iload 4, 2) := by decide +kernel
theorem dX5_spreadCosts_71 : decode cX5_spreadCosts 71 = .ok (.iaload, 1) := by decide +kernel
theorem dX5_spreadCosts_72 : decode cX5_spreadCosts 72 = .ok (.aload_n 0, 1) := by decide +kernel
theorem dX5_spreadCosts_73 : decode cX5_spreadCosts 73 = .ok (.getfield 32, 3) := by decide +kernel
theorem dX5_spreadCosts_76 : decode cX5_spreadCosts 76 = .ok (.iload 5, 2) := by decide +kernel
theorem dX5_spreadCosts_78 : decode cX5_spreadCosts 78 = .ok (.iaload, 1) := by decide +kernel
theorem dX5_spreadCosts_79 : decode cX5_spreadCosts 79 = .ok (.aload_n 0, 1) := by decide +kernel
theorem dX5_spreadCosts_80 : decode cX5_spreadCosts 80 = .ok (.iload_n 3, 1) := by decide +kernel
theorem dX5_spreadCosts_81 : decode cX5_spreadCosts 81 = .ok (.invokevirtual 67, 3) := by decide +kernel
theorem dX5_spreadCosts_84 : decode cX5_spreadCosts 84 = .ok (.iadd, 1) := by decide +kernel
theorem dX5_spreadCosts_85 : decode cX5_spreadCosts 85 = .ok (.invokestatic 70, 3) := by decide +kernel
theorem dX5_spreadCosts_88 : decode cX5_spreadCosts 88 = .ok (.iastore, 1) := by decide +kernel
theorem dX5_spreadCosts_89 : decode cX5_spreadCosts 89 = .ok (.aload_n 0, 1) := by decide +kernel
theorem dX5_spreadCosts_90 : decode cX5_spreadCosts 90 = .ok (.getfield 32, 3) := by decide +kernel
theorem dX5_spreadCosts_93 : decode cX5_spreadCosts 93 = .ok (.iload 5, 2) := by decide +kernel
theorem dX5_spreadCosts_95 : decode cX5_spreadCosts 95 = .ok (.aload_n 0, 1) := by decide +kernel
theorem dX5_spreadCosts_96 : decode cX5_spreadCosts 96 = .ok (.getfield 32, 3) := by decide +kernel
theorem dX5_spreadCosts_99 : decode cX5_spreadCosts 99 = .ok (.iload 5, 2) := by decide +kernel
theorem dX5_spreadCosts_101 : decode cX5_spreadCosts 101 = .ok (.iaload, 1) := by decide +kernel
theorem dX5_spreadCosts_102 : decode cX5_spreadCosts 102 = .ok (.aload_n 0, 1) := by decide +kernel
theorem dX5_spreadCosts_103 : decode cX5_spreadCosts 103 = .ok (.getfield 32, 3) := by decide +kernel
theorem dX5_spreadCosts_106 : decode cX5_spreadCosts 106 = .ok (.iload 4, 2) := by decide +kernel
theorem dX5_spreadCosts_108 : decode cX5_spreadCosts 108 = .ok (.iaload, 1) := by decide +kernel
theorem dX5_spreadCosts_109 : decode cX5_spreadCosts 109 = .ok (.aload_n 0, 1) := by decide +kernel
theorem dX5_spreadCosts_110 : decode cX5_spreadCosts 110 = .ok (.iload_n 3, 1) := by decide +kernel
theorem dX5_spreadCosts_111 : decode cX5_spreadCosts 111 = .ok (.invokevirtual 67, 3) := by decide +kernel
theorem dX5_spreadCosts_114 : decode cX5_spreadCosts 114 = .ok (.iadd, 1) := by decide +kernel
theorem dX5_spreadCosts_115 : decode cX5_spreadCosts 115 = .ok (.invokestatic 70, 3) := by decide +kernel
theorem dX5_spreadCosts_118 : decode cX5_spreadCosts 118 = .ok (.iastore, 1) := by decide +kernel
theorem dX5_spreadCosts_119 : decode cX5_spreadCosts 119 = .ok (.iinc 3 1, 3) := by decide +kernel
theorem dX5_spreadCosts_122 : decode cX5_spreadCosts 122 = .ok (.goto (-96), 3) := by decide +kernel
theorem dX5_spreadCosts_125 : decode cX5_spreadCosts 125 = .ok (.iinc 2 1, 3) := by decide +kernel
theorem dX5_spreadCosts_128 : decode cX5_spreadCosts 128 = .ok (.goto (-110), 3) := by decide +kernel
theorem dX5_spreadCosts_131 : decode cX5_spreadCosts 131 = .ok (.return_, 1) := by decide +kernel
theorem dX5_firstRoadOn_0 : decode cX5_firstRoadOn 0 = .ok (.iconst 0, 1) := by decide +kernel
theorem dX5_firstRoadOn_1 : decode cX5_firstRoadOn 1 = .ok (.istore_n 2, 1) := by decide +kernel
theorem dX5_firstRoadOn_2 : decode cX5_firstRoadOn 2 = .ok (.iload_n 2, 1) := by decide +kernel
theorem dX5_firstRoadOn_3 : decode cX5_firstRoadOn 3 = .ok (.aload_n 0, 1) := by decide +kernel
theorem dX5_firstRoadOn_4 : decode cX5_firstRoadOn 4 = .ok (.getfield 28, 3) := by decide +kernel
theorem dX5_firstRoadOn_7 : decode cX5_firstRoadOn 7 = .ok (.if_icmp .ge 76, 3) := by decide +kernel
theorem dX5_firstRoadOn_10 : decode cX5_firstRoadOn 10 = .ok (.aload_n 0, 1) := by decide +kernel
theorem dX5_firstRoadOn_11 : decode cX5_firstRoadOn 11 = .ok (.getfield 9, 3) := by decide +kernel
theorem dX5_firstRoadOn_14 : decode cX5_firstRoadOn 14 = .ok (.iload_n 2, 1) := by decide +kernel
theorem dX5_firstRoadOn_15 : decode cX5_firstRoadOn 15 = .ok (.iaload, 1) := by decide +kernel
theorem dX5_firstRoadOn_16 : decode cX5_firstRoadOn 16 = .ok (.iload_n 1, 1) := by decide +kernel
theorem dX5_firstRoadOn_17 : decode cX5_firstRoadOn 17 = .ok (.if_icmp .eq 13, 3) := by decide +kernel
theorem dX5_firstRoadOn_20 : decode cX5_firstRoadOn 20 = .ok (.aload_n 0, 1) := by decide +kernel
theorem dX5_firstRoadOn_21 : decode cX5_firstRoadOn 21 = .ok (.getfield 15, 3) := by decide +kernel
theorem dX5_firstRoadOn_24 : decode cX5_firstRoadOn 24 = .ok (.iload_n 2, 1) := by decide +kernel
theorem dX5_firstRoadOn_25 : decode cX5_firstRoadOn 25 = .ok (.iaload, 1) := by decide +kernel
theorem dX5_firstRoadOn_26 : decode cX5_firstRoadOn 26 = .ok (.iload_n 1, 1) := by decide +kernel
theorem dX5_firstRoadOn_27 : decode cX5_firstRoadOn 27 = .ok (.if_icmp .ne 7, 3) := by decide +kernel
theorem dX5_firstRoadOn_30 : decode cX5_firstRoadOn 30 = .ok (.iconst 1, 1) := by decide +kernel
theorem dX5_firstRoadOn_31 : decode cX5_firstRoadOn 31 = .ok (.goto 4, 3) := by decide +kernel
theorem dX5_firstRoadOn_34 : decode cX5_firstRoadOn 34 = .ok (.iconst 0, 1) := by decide +kernel
theorem dX5_firstRoadOn_35 : decode cX5_firstRoadOn 35 = .ok (.istore_n 3, 1) := by decide +kernel
theorem dX5_firstRoadOn_36 : decode cX5_firstRoadOn 36 = .ok (.iload_n 3, 1) := by decide +kernel
theorem dX5_firstRoadOn_37 : decode cX5_firstRoadOn 37 = .ok (.ifCond .eq 40, 3) := by decide +kernel
theorem dX5_firstRoadOn_40 : decode cX5_firstRoadOn 40 = .ok (.aload_n 0, 1) := by decide +kernel
theorem dX5_firstRoadOn_41 : decode cX5_firstRoadOn 41 = .ok (.getfield 24, 3) := by decide +kernel
theorem dX5_firstRoadOn_44 : decode cX5_firstRoadOn 44 = .ok (.iload_n 2, 1) := by decide +kernel
theorem dX5_firstRoadOn_45 : decode cX5_firstRoadOn 45 = .ok (.baload, 1) := by decide +kernel
theorem dX5_firstRoadOn_46 : decode cX5_firstRoadOn 46 = .ok (.ifCond .ne 31, 3) := by decide +kernel
theorem dX5_firstRoadOn_49 : decode cX5_firstRoadOn 49 = .ok (.aload_n 0, 1) := by decide +kernel
theorem dX5_firstRoadOn_50 : decode cX5_firstRoadOn 50 = .ok (.getfield 32, 3) := by decide +kernel
theorem dX5_firstRoadOn_53 : decode cX5_firstRoadOn 53 = .ok (.aload_n 0, 1) := by decide +kernel
theorem dX5_firstRoadOn_54 : decode cX5_firstRoadOn 54 = .ok (.iload_n 2, 1) := by decide +kernel
theorem dX5_firstRoadOn_55 : decode cX5_firstRoadOn 55 = .ok (.iload_n 1, 1) := by decide +kernel
theorem dX5_firstRoadOn_56 : decode cX5_firstRoadOn 56 = .ok (.invokevirtual 57, 3) := by decide +kernel
theorem dX5_firstRoadOn_59 : decode cX5_firstRoadOn 59 = .ok (.iaload, 1) := by decide +kernel
theorem dX5_firstRoadOn_60 : decode cX5_firstRoadOn 60 = .ok (.aload_n 0, 1) := by decide +kernel
theorem dX5_firstRoadOn_61 : decode cX5_firstRoadOn 61 = .ok (.iload_n 2, 1) := by decide +kernel
theorem dX5_firstRoadOn_62 : decode cX5_firstRoadOn 62 = .ok (.invokevirtual 67, 3) := by decide +kernel
theorem dX5_firstRoadOn_65 : decode cX5_firstRoadOn 65 = .ok (.iadd, 1) := by decide +kernel
theorem dX5_firstRoadOn_66 : decode cX5_firstRoadOn 66 = .ok (.aload_n 0, 1) := by decide +kernel
theorem dX5_firstRoadOn_67 : decode cX5_firstRoadOn 67 = .ok (.getfield 32, 3) := by decide +kernel
theorem dX5_firstRoadOn_70 : decode cX5_firstRoadOn 70 = .ok (.iload_n 1, 1) := by decide +kernel
theorem dX5_firstRoadOn_71 : decode cX5_firstRoadOn 71 = .ok (.iaload, 1) := by decide +kernel
theorem dX5_firstRoadOn_72 : decode cX5_firstRoadOn 72 = .ok (.if_icmp .ne 5, 3) := by decide +kernel
theorem dX5_firstRoadOn_75 : decode cX5_firstRoadOn 75 = .ok (.iload_n 2, 1) := by decide +kernel
theorem dX5_firstRoadOn_76 : decode cX5_firstRoadOn 76 = .ok (.ireturn, 1) := by decide +kernel
theorem dX5_firstRoadOn_77 : decode cX5_firstRoadOn 77 = .ok (.iinc 2 1, 3) := by decide +kernel
theorem dX5_firstRoadOn_80 : decode cX5_firstRoadOn 80 = .ok (.goto (-78), 3) := by decide +kernel
theorem dX5_firstRoadOn_83 : decode cX5_firstRoadOn 83 = .ok (.iconst (-1), 1) := by decide +kernel
theorem dX5_firstRoadOn_84 : decode cX5_firstRoadOn 84 = .ok (.ireturn, 1) := by decide +kernel
theorem dX5_costOf_0 : decode cX5_costOf 0 = .ok (.aload_n 0, 1) := by decide +kernel
theorem dX5_costOf_1 : decode cX5_costOf 1 = .ok (.getfield 18, 3) := by decide +kernel
theorem dX5_costOf_4 : decode cX5_costOf 4 = .ok (.iload_n 1, 1) := by decide +kernel
theorem dX5_costOf_5 : decode cX5_costOf 5 = .ok (.iaload, 1) := by decide +kernel
theorem dX5_costOf_6 : decode cX5_costOf 6 = .ok (.sipush 1000, 3) := by decide +kernel
theorem dX5_costOf_9 : decode cX5_costOf 9 = .ok (.imul, 1) := by decide +kernel
theorem dX5_costOf_10 : decode cX5_costOf 10 = .ok (.iconst 1, 1) := by decide +kernel
theorem dX5_costOf_11 : decode cX5_costOf 11 = .ok (.iadd, 1) := by decide +kernel
theorem dX5_costOf_12 : decode cX5_costOf 12 = .ok (.ireturn, 1) := by decide +kernel
theorem dX5_otherEnd_0 : decode cX5_otherEnd 0 = .ok (.aload_n 0, 1) := by decide +kernel
theorem dX5_otherEnd_1 : decode cX5_otherEnd 1 = .ok (.getfield 9, 3) := by decide +kernel
theorem dX5_otherEnd_4 : decode cX5_otherEnd 4 = .ok (.iload_n 1, 1) := by decide +kernel
theorem dX5_otherEnd_5 : decode cX5_otherEnd 5 = .ok (.iaload, 1) := by decide +kernel
theorem dX5_otherEnd_6 : decode cX5_otherEnd 6 = .ok (.iload_n 2, 1) := by decide +kernel
theorem dX5_otherEnd_7 : decode cX5_otherEnd 7 = .ok (.if_icmp .ne 12, 3) := by decide +kernel
theorem dX5_otherEnd_10 : decode cX5_otherEnd 10 = .ok (.aload_n 0, 1) := by decide +kernel
theorem dX5_otherEnd_11 : decode cX5_otherEnd 11 = .ok (.getfield 15, 3) := by decide +kernel
theorem dX5_otherEnd_14 : decode cX5_otherEnd 14 = .ok (.iload_n 1, 1) := by decide +kernel
theorem dX5_otherEnd_15 : decode cX5_otherEnd 15 = .ok (.iaload, 1) := by decide +kernel
theorem dX5_otherEnd_16 : decode cX5_otherEnd 16 = .ok (.goto 9, 3) := by decide +kernel
theorem dX5_otherEnd_19 : decode cX5_otherEnd 19 = .ok (.aload_n 0, 1) := by decide +kernel
theorem dX5_otherEnd_20 : decode cX5_otherEnd 20 = .ok (.getfield 9, 3) := by decide +kernel
theorem dX5_otherEnd_23 : decode cX5_otherEnd 23 = .ok (.iload_n 1, 1) := by decide +kernel
theorem dX5_otherEnd_24 : decode cX5_otherEnd 24 = .ok (.iaload, 1) := by decide +kernel
theorem dX5_otherEnd_25 : decode cX5_otherEnd 25 = .ok (.ireturn, 1) := by decide +kernel
theorem dX6_init_0 : decode cX6_init 0 = .ok (.aload_n 0, 1) := by decide +kernel
theorem dX6_init_1 : decode cX6_init 1 = .ok (.invokespecial 3, 3) := by decide +kernel
theorem dX6_init_4 : decode cX6_init 4 = .ok (.aload_n 0, 1) := by decide +kernel
theorem dX6_init_5 : decode cX6_init 5 = .ok (.iconst 5, 1) := by decide +kernel
theorem dX6_init_6 : decode cX6_init 6 = .ok (.bipush 66, 2) := by decide +kernel
theorem dX6_init_8 : decode cX6_init 8 = .ok (.multianewarray 9 2, 4) := by decide +kernel
theorem dX6_init_12 : decode cX6_init 12 = .ok (.putfield 11, 3) := by decide +kernel
theorem dX6_init_15 : decode cX6_init 15 = .ok (.aload_n 0, 1) := by decide +kernel
theorem dX6_init_16 : decode cX6_init 16 = .ok (.iconst 0, 1) := by decide +kernel
theorem dX6_init_17 : decode cX6_init 17 = .ok (.putfield 16, 3) := by decide +kernel
theorem dX6_init_20 : decode cX6_init 20 = .ok (.aload_n 0, 1) := by decide +kernel
theorem dX6_init_21 : decode cX6_init 21 = .ok (.iconst 0, 1) := by decide +kernel
theorem dX6_init_22 : decode cX6_init 22 = .ok (.putfield 20, 3) := by decide +kernel
theorem dX6_init_25 : decode cX6_init 25 = .ok (.return_, 1) := by decide +kernel
theorem dX6_solve_0 : decode cX6_solve 0 = .ok (.aload_n 0, 1) := by decide +kernel
theorem dX6_solve_1 : decode cX6_solve 1 = .ok (.aload_n 2, 1) := by decide +kernel
theorem dX6_solve_2 : decode cX6_solve 2 = .ok (.arraylength, 1) := by decide +kernel
theorem dX6_solve_3 : decode cX6_solve 3 = .ok (.iconst 5, 1) := by decide +kernel
theorem dX6_solve_4 : decode cX6_solve 4 = .ok (.invokestatic 23, 3) := by decide +kernel
theorem dX6_solve_7 : decode cX6_solve 7 = .ok (.putfield 16, 3) := by decide +kernel
theorem dX6_solve_10 : decode cX6_solve 10 = .ok (.aload_n 0, 1) := by decide +kernel
theorem dX6_solve_11 : decode cX6_solve 11 = .ok (.aload_n 0, 1) := by decide +kernel
theorem dX6_solve_12 : decode cX6_solve 12 = .ok (.getfield 16, 3) := by decide +kernel
theorem dX6_solve_15 : decode cX6_solve 15 = .ok (.iload_n 1, 1) := by decide +kernel
theorem dX6_solve_16 : decode cX6_solve 16 = .ok (.bipush 60, 2) := by decide +kernel
theorem dX6_solve_18 : decode cX6_solve 18 = .ok (.invokestatic 23, 3) := by decide +kernel
theorem dX6_solve_21 : decode cX6_solve 21 = .ok (.iadd, 1) := by decide +kernel
theorem dX6_solve_22 : decode cX6_solve 22 = .ok (.iconst 1, 1) := by decide +kernel
theorem dX6_solve_23 : decode cX6_solve 23 = .ok (.iadd, 1) := by decide +kernel
theorem dX6_solve_24 : decode cX6_solve 24 = .ok (.putfield 20, 3) := by decide +kernel
theorem dX6_solve_27 : decode cX6_solve 27 = .ok (.aload_n 0, 1) := by decide +kernel
theorem dX6_solve_28 : decode cX6_solve 28 = .ok (.getfield 11, 3) := by decide +kernel
theorem dX6_solve_31 : decode cX6_solve 31 = .ok (.iconst 0, 1) := by decide +kernel
theorem dX6_solve_32 : decode cX6_solve 32 = .ok (.aaload, 1) := by decide +kernel
theorem dX6_solve_33 : decode cX6_solve 33 = .ok (.iconst 0, 1) := by decide +kernel
theorem dX6_solve_34 : decode cX6_solve 34 = .ok (.aload_n 0, 1) := by decide +kernel
theorem dX6_solve_35 : decode cX6_solve 35 = .ok (.getfield 20, 3) := by decide +kernel
theorem dX6_solve_38 : decode cX6_solve 38 = .ok (.lconst 1, 1) := by decide +kernel
theorem dX6_solve_39 : decode cX6_solve 39 = .ok (.invokestatic 29, 3) := by decide +kernel
theorem dX6_solve_42 : decode cX6_solve 42 = .ok (.aload_n 0, 1) := by decide +kernel
theorem dX6_solve_43 : decode cX6_solve 43 = .ok (.iconst 1, 1) := by decide +kernel
theorem dX6_solve_44 : decode cX6_solve 44 = .ok (.iload_n 1, 1) := by decide +kernel
theorem dX6_solve_45 : decode cX6_solve 45 = .ok (.aload_n 2, 1) := by decide +kernel
theorem dX6_solve_46 : decode cX6_solve 46 = .ok (.invokevirtual 35, 3) := by decide +kernel
theorem dX6_solve_49 : decode cX6_solve 49 = .ok (.iconst 0, 1) := by decide +kernel
theorem dX6_solve_50 : decode cX6_solve 50 = .ok (.istore 4, 2) := by decide +kernel
theorem dX6_solve_52 : decode cX6_solve 52 = .ok (.iload 4, 2) := by decide +kernel
theorem dX6_solve_54 : decode cX6_solve 54 = .ok (.aload_n 3, 1) := by decide +kernel
theorem dX6_solve_55 : decode cX6_solve 55 = .ok (.arraylength, 1) := by decide +kernel
theorem dX6_solve_56 : decode cX6_solve 56 = .ok (.if_icmp .ge 33, 3) := by decide +kernel
theorem dX6_solve_59 : decode cX6_solve 59 = .ok (.iload 4, 2) := by decide +kernel
theorem dX6_solve_61 : decode cX6_solve 61 = .ok (.iconst 2, 1) := by decide +kernel
theorem dX6_solve_62 : decode cX6_solve 62 = .ok (.iadd, 1) := by decide +kernel
theorem dX6_solve_63 : decode cX6_solve 63 = .ok (.aload_n 0, 1) := by decide +kernel
theorem dX6_solve_64 : decode cX6_solve 64 = .ok (.getfield 16, 3) := by decide +kernel
theorem dX6_solve_67 : decode cX6_solve 67 = .ok (.if_icmp .ge 22, 3) := by decide +kernel
theorem dX6_solve_70 : decode cX6_solve 70 = .ok (.aload_n 0, 1) := by decide +kernel
theorem dX6_solve_71 : decode cX6_solve 71 = .ok (.iload 4, 2) := by decide +kernel
theorem dX6_solve_73 : decode cX6_solve 73 = .ok (.iconst 2, 1) := by decide +kernel
theorem dX6_solve_74 : decode cX6_solve 74 = .ok (.iadd, 1) := by decide +kernel
theorem dX6_solve_75 : decode cX6_solve 75 = .ok (.aload_n 3, 1) := by decide +kernel
theorem dX6_solve_76 : decode cX6_solve 76 = .ok (.iload 4, 2) := by decide +kernel
theorem dX6_solve_78 : decode cX6_solve 78 = .ok (.iaload, 1) := by decide +kernel
theorem dX6_solve_79 : decode cX6_solve 79 = .ok (.aload_n 2, 1) := by decide +kernel
theorem dX6_solve_80 : decode cX6_solve 80 = .ok (.invokevirtual 35, 3) := by decide +kernel
theorem dX6_solve_83 : decode cX6_solve 83 = .ok (.iinc 4 1, 3) := by decide +kernel
theorem dX6_solve_86 : decode cX6_solve 86 = .ok (.goto (-34), 3) := by decide +kernel
theorem dX6_solve_89 : decode cX6_solve 89 = .ok (.aload_n 0, 1) := by decide +kernel
theorem dX6_solve_90 : decode cX6_solve 90 = .ok (.invokevirtual 39, 3) := by decide +kernel
theorem dX6_solve_93 : decode cX6_solve 93 = .ok (.ireturn, 1) := by decide +kernel
theorem dX6_writeCondition_0 : decode cX6_writeCondition 0 = .ok (.iconst 0, 1) := by decide +kernel
theorem dX6_writeCondition_1 : decode cX6_writeCondition 1 = .ok (.istore 4, 2) := by decide +kernel
theorem dX6_writeCondition_3 : decode cX6_writeCondition 3 = .ok (.iload 4, 2) := by decide +kernel
theorem dX6_writeCondition_5 : decode cX6_writeCondition 5 = .ok (.aload_n 0, 1) := by decide +kernel
theorem dX6_writeCondition_6 : decode cX6_writeCondition 6 = .ok (.getfield 16, 3) := by decide +kernel
theorem dX6_writeCondition_9 : decode cX6_writeCondition 9 = .ok (.if_icmp .ge 29, 3) := by decide +kernel
theorem dX6_writeCondition_12 : decode cX6_writeCondition 12 = .ok (.aload_n 0, 1) := by decide +kernel
theorem dX6_writeCondition_13 : decode cX6_writeCondition 13 = .ok (.getfield 11, 3) := by decide +kernel
theorem dX6_writeCondition_16 : decode cX6_writeCondition 16 = .ok (.iload_n 1, 1) := by decide +kernel
theorem dX6_writeCondition_17 : decode cX6_writeCondition 17 = .ok (.aaload, 1) := by decide +kernel
theorem dX6_writeCondition_18 : decode cX6_writeCondition 18 = .ok (.iload 4, 2) := by decide +kernel
theorem dX6_writeCondition_20 : decode cX6_writeCondition 20 = .ok (.iconst 0, 1) := by decide +kernel
theorem dX6_writeCondition_21 : decode cX6_writeCondition 21 = .ok (.iload_n 2, 1) := by decide +kernel
theorem dX6_writeCondition_22 : decode cX6_writeCondition 22 = .ok (.aload_n 3, 1) := by decide +kernel
theorem dX6_writeCondition_23 : decode cX6_writeCondition 23 = .ok (.iload 4, 2) := by decide +kernel
theorem dX6_writeCondition_25 : decode cX6_writeCondition 25 = .ok (.iaload, 1) := by decide +kernel
theorem dX6_writeCondition_26 : decode cX6_writeCondition 26 = .ok (.isub, 1) := by decide +kernel
theorem dX6_writeCondition_27 : decode cX6_writeCondition 27 = .ok (.invokestatic 43, 3) := by decide +kernel
theorem dX6_writeCondition_30 : decode cX6_writeCondition 30 = .ok (.i2l, 1) := by decide +kernel
theorem dX6_writeCondition_31 : decode cX6_writeCondition 31 = .ok (.lastore, 1) := by decide +kernel
theorem dX6_writeCondition_32 : decode cX6_writeCondition 32 = .ok (.iinc 4 1, 3) := by decide +kernel
theorem dX6_writeCondition_35 : decode cX6_writeCondition 35 = .ok (.goto (-32), 3) := by decide +kernel
theorem dX6_writeCondition_38 : decode cX6_writeCondition 38 = .ok (.aload_n 0, 1) := by decide +kernel
theorem dX6_writeCondition_39 : decode cX6_writeCondition 39 = .ok (.getfield 16, 3) := by decide +kernel
theorem dX6_writeCondition_42 : decode cX6_writeCondition 42 = .ok (.istore 4, 2) := by decide +kernel
theorem dX6_writeCondition_44 : decode cX6_writeCondition 44 = .ok (.iload 4, 2) := by decide +kernel
theorem dX6_writeCondition_46 : decode cX6_writeCondition 46 = .ok (.aload_n 0, 1) := by decide +kernel
theorem dX6_writeCondition_47 : decode cX6_writeCondition 47 = .ok (.getfield 20, 3) := by decide +kernel
theorem dX6_writeCondition_50 : decode cX6_writeCondition 50 = .ok (.if_icmp .ge 32, 3) := by decide +kernel
theorem dX6_writeCondition_53 : decode cX6_writeCondition 53 = .ok (.aload_n 0, 1) := by decide +kernel
theorem dX6_writeCondition_54 : decode cX6_writeCondition 54 = .ok (.getfield 11, 3) := by decide +kernel
theorem dX6_writeCondition_57 : decode cX6_writeCondition 57 = .ok (.iload_n 1, 1) := by decide +kernel
theorem dX6_writeCondition_58 : decode cX6_writeCondition 58 = .ok (.aaload, 1) := by decide +kernel
theorem dX6_writeCondition_59 : decode cX6_writeCondition 59 = .ok (.iload 4, 2) := by decide +kernel
theorem dX6_writeCondition_61 : decode cX6_writeCondition 61 = .ok (.iconst 0, 1) := by decide +kernel
theorem dX6_writeCondition_62 : decode cX6_writeCondition 62 = .ok (.iload_n 2, 1) := by decide +kernel
theorem dX6_writeCondition_63 : decode cX6_writeCondition 63 = .ok (.iload 4, 2) := by decide +kernel
theorem dX6_writeCondition_65 : decode cX6_writeCondition 65 = .ok (.aload_n 0, 1) := by decide +kernel
theorem dX6_writeCondition_66 : decode cX6_writeCondition 66 = .ok (.getfield 16, 3) := by decide +kernel
theorem dX6_writeCondition_69 : decode cX6_writeCondition 69 = .ok (.isub, 1) := by decide +kernel
theorem dX6_writeCondition_70 : decode cX6_writeCondition 70 = .ok (.isub, 1) := by decide +kernel
theorem dX6_writeCondition_71 : decode cX6_writeCondition 71 = .ok (.invokestatic 43, 3) := by decide +kernel
theorem dX6_writeCondition_74 : decode cX6_writeCondition 74 = .ok (.i2l, 1) := by decide +kernel
theorem dX6_writeCondition_75 : decode cX6_writeCondition 75 = .ok (.lastore, 1) := by decide +kernel
theorem dX6_writeCondition_76 : decode cX6_writeCondition 76 = .ok (.iinc 4 1, 3) := by decide +kernel
theorem dX6_writeCondition_79 : decode cX6_writeCondition 79 = .ok (.goto (-35), 3) := by decide +kernel
theorem dX6_writeCondition_82 : decode cX6_writeCondition 82 = .ok (.return_, 1) := by decide +kernel
theorem dX6_eliminate_0 : decode cX6_eliminate 0 = .ok (.lconst 1, 1) := by decide +kernel
theorem dX6_eliminate_1 : decode cX6_eliminate 1 = .ok (.lstore_n 1, 1) := by decide +kernel
theorem dX6_eliminate_2 : decode cX6_eliminate 2 = .ok (.iconst 0, 1) := by decide +kernel
theorem dX6_eliminate_3 : decode cX6_eliminate 3 = .ok (.istore_n 3, 1) := by decide +kernel
theorem dX6_eliminate_4 : decode cX6_eliminate 4 = .ok (.iload_n 3, 1) := by decide +kernel
theorem dX6_eliminate_5 : decode cX6_eliminate 5 = .ok (.aload_n 0, 1) := by decide +kernel
theorem dX6_eliminate_6 : decode cX6_eliminate 6 = .ok (.getfield 16, 3) := by decide +kernel
theorem dX6_eliminate_9 : decode cX6_eliminate 9 = .ok (.if_icmp .ge 60, 3) := by decide +kernel
theorem dX6_eliminate_12 : decode cX6_eliminate 12 = .ok (.aload_n 0, 1) := by decide +kernel
theorem dX6_eliminate_13 : decode cX6_eliminate 13 = .ok (.iload_n 3, 1) := by decide +kernel
theorem dX6_eliminate_14 : decode cX6_eliminate 14 = .ok (.invokevirtual 46, 3) := by decide +kernel
theorem dX6_eliminate_17 : decode cX6_eliminate 17 = .ok (.ifCond .ne 5, 3) := by decide +kernel
theorem dX6_eliminate_20 : decode cX6_eliminate 20 = .ok (.iconst 0, 1) := by decide +kernel
theorem dX6_eliminate_21 : decode cX6_eliminate 21 = .ok (.ireturn, 1) := by decide +kernel
theorem dX6_eliminate_22 : decode cX6_eliminate 22 = .ok (.iconst 0, 1) := by decide +kernel
theorem dX6_eliminate_23 : decode cX6_eliminate 23 = .ok (.istore 4, 2) := by decide +kernel
theorem dX6_eliminate_25 : decode cX6_eliminate 25 = .ok (.iload 4, 2) := by decide +kernel
theorem dX6_eliminate_27 : decode cX6_eliminate 27 = .ok (.aload_n 0, 1) := by decide +kernel
theorem dX6_eliminate_28 : decode cX6_eliminate 28 = .ok (.getfield 16, 3) := by decide +kernel
theorem dX6_eliminate_31 : decode cX6_eliminate 31 = .ok (.if_icmp .ge 23, 3) := by decide +kernel
theorem dX6_eliminate_34 : decode cX6_eliminate 34 = .ok (.iload 4, 2) := by decide +kernel
theorem dX6_eliminate_36 : decode cX6_eliminate 36 = .ok (.iload_n 3, 1) := by decide +kernel
theorem dX6_eliminate_37 : decode cX6_eliminate 37 = .ok (.if_icmp .eq 11, 3) := by decide +kernel
theorem dX6_eliminate_40 : decode cX6_eliminate 40 = .ok (.aload_n 0, 1) := by decide +kernel
theorem dX6_eliminate_41 : decode cX6_eliminate 41 = .ok (.iload 4, 2) := by decide +kernel
theorem dX6_eliminate_43 : decode cX6_eliminate 43 = .ok (.iload_n 3, 1) := by decide +kernel
theorem dX6_eliminate_44 : decode cX6_eliminate 44 = .ok (.lload_n 1, 1) := by decide +kernel
theorem dX6_eliminate_45 : decode cX6_eliminate 45 = .ok (.invokevirtual 50, 3) := by decide +kernel
theorem dX6_eliminate_48 : decode cX6_eliminate 48 = .ok (.iinc 4 1, 3) := by decide +kernel
theorem dX6_eliminate_51 : decode cX6_eliminate 51 = .ok (.goto (-26), 3) := by decide +kernel
theorem dX6_eliminate_54 : decode cX6_eliminate 54 = .ok (.aload_n 0, 1) := by decide +kernel
theorem dX6_eliminate_55 : decode cX6_eliminate 55 = .ok (.getfield 11, 3) := by decide +kernel
theorem dX6_eliminate_58 : decode cX6_eliminate 58 = .ok (.iload_n 3, 1) := by decide +kernel
theorem dX6_eliminate_59 : decode cX6_eliminate 59 = .ok (.aaload, 1) := by decide +kernel
theorem dX6_eliminate_60 : decode cX6_eliminate 60 = .ok (.iload_n 3, 1) := by decide +kernel
theorem dX6_eliminate_61 : decode cX6_eliminate 61 = .ok (.laload, 1) := by decide +kernel
theorem dX6_eliminate_62 : decode cX6_eliminate 62 = .ok (.lstore_n 1, 1) := by decide +kernel
theorem dX6_eliminate_63 : decode cX6_eliminate 63 = .ok (.iinc 3 1, 3) := by decide +kernel
theorem dX6_eliminate_66 : decode cX6_eliminate 66 = .ok (.goto (-62), 3) := by decide +kernel
theorem dX6_eliminate_69 : decode cX6_eliminate 69 = .ok (.iconst 1, 1) := by decide +kernel
theorem dX6_eliminate_70 : decode cX6_eliminate 70 = .ok (.ireturn, 1) := by decide +kernel
theorem dX6_bringPivot_0 : decode cX6_bringPivot 0 = .ok (.iload_n 1, 1) := by decide +kernel
theorem dX6_bringPivot_1 : decode cX6_bringPivot 1 = .ok (.istore_n 2, 1) := by decide +kernel
theorem dX6_bringPivot_2 : decode cX6_bringPivot 2 = .ok (.iload_n 2, 1) := by decide +kernel
theorem dX6_bringPivot_3 : decode cX6_bringPivot 3 = .ok (.aload_n 0, 1) := by decide +kernel
theorem dX6_bringPivot_4 : decode cX6_bringPivot 4 = .ok (.getfield 16, 3) := by decide +kernel
theorem dX6_bringPivot_7 : decode cX6_bringPivot 7 = .ok (.if_icmp .ge 50, 3) := by decide +kernel
theorem dX6_bringPivot_10 : decode cX6_bringPivot 10 = .ok (.aload_n 0, 1) := by decide +kernel
theorem dX6_bringPivot_11 : decode cX6_bringPivot 11 = .ok (.getfield 11, 3) := by decide +kernel
theorem dX6_bringPivot_14 : decode cX6_bringPivot 14 = .ok (.iload_n 2, 1) := by decide +kernel
theorem dX6_bringPivot_15 : decode cX6_bringPivot 15 = .ok (.aaload, 1) := by decide +kernel
theorem dX6_bringPivot_16 : decode cX6_bringPivot 16 = .ok (.iload_n 1, 1) := by decide +kernel
theorem dX6_bringPivot_17 : decode cX6_bringPivot 17 = .ok (.laload, 1) := by decide +kernel
theorem dX6_bringPivot_18 : decode cX6_bringPivot 18 = .ok (.lconst 0, 1) := by decide +kernel
theorem dX6_bringPivot_19 : decode cX6_bringPivot 19 = .ok (.lcmp, 1) := by decide +kernel
theorem dX6_bringPivot_20 : decode cX6_bringPivot 20 = .ok (.ifCond .eq 31, 3) := by decide +kernel
theorem dX6_bringPivot_23 : decode cX6_bringPivot 23 = .ok (.aload_n 0, 1) := by decide +kernel
theorem dX6_bringPivot_24 : decode cX6_bringPivot 24 = .ok (.getfield 11, 3) := by decide +kernel
theorem dX6_bringPivot_27 : decode cX6_bringPivot 27 = .ok (.iload_n 2, 1) := by decide +kernel
theorem dX6_bringPivot_28 : decode cX6_bringPivot 28 = .ok (.aaload, 1) := by decide +kernel
theorem dX6_bringPivot_29 : decode cX6_bringPivot 29 = .ok (.astore_n 3, 1) := by decide +kernel
theorem dX6_bringPivot_30 : decode cX6_bringPivot 30 = .ok (.aload_n 0, 1) := by decide +kernel
theorem dX6_bringPivot_31 : decode cX6_bringPivot 31 = .ok (.getfield 11, 3) := by decide +kernel
theorem dX6_bringPivot_34 : decode cX6_bringPivot 34 = .ok (.iload_n 2, 1) := by decide +kernel
theorem dX6_bringPivot_35 : decode cX6_bringPivot 35 = .ok (.aload_n 0, 1) := by decide +kernel
theorem dX6_bringPivot_36 : decode cX6_bringPivot 36 = .ok (.getfield 11, 3) := by decide +kernel
theorem dX6_bringPivot_39 : decode cX6_bringPivot 39 = .ok (.iload_n 1, 1) := by decide +kernel
theorem dX6_bringPivot_40 : decode cX6_bringPivot 40 = .ok (.aaload, 1) := by decide +kernel
theorem dX6_bringPivot_41 : decode cX6_bringPivot 41 = .ok (.aastore, 1) := by decide +kernel
theorem dX6_bringPivot_42 : decode cX6_bringPivot 42 = .ok (.aload_n 0, 1) := by decide +kernel
theorem dX6_bringPivot_43 : decode cX6_bringPivot 43 = .ok (.getfield 11, 3) := by decide +kernel
theorem dX6_bringPivot_46 : decode cX6_bringPivot 46 = .ok (.iload_n 1, 1) := by decide +kernel
theorem dX6_bringPivot_47 : decode cX6_bringPivot 47 = .ok (.aload_n 3, 1) := by decide +kernel
theorem dX6_bringPivot_48 : decode cX6_bringPivot 48 = .ok (.aastore, 1) := by decide +kernel
theorem dX6_bringPivot_49 : decode cX6_bringPivot 49 = .ok (.iconst 1, 1) := by decide +kernel
theorem dX6_bringPivot_50 : decode cX6_bringPivot 50 = .ok (.ireturn, 1) := by decide +kernel
theorem dX6_bringPivot_51 : decode cX6_bringPivot 51 = .ok (.iinc 2 1, 3) := by decide +kernel
theorem dX6_bringPivot_54 : decode cX6_bringPivot 54 = .ok (.goto (-52), 3) := by decide +kernel
theorem dX6_bringPivot_57 : decode cX6_bringPivot 57 = .ok (.iconst 0, 1) := by decide +kernel
theorem dX6_bringPivot_58 : decode cX6_bringPivot 58 = .ok (.ireturn, 1) := by decide +kernel
theorem dX6_clear_0 : decode cX6_clear 0 = .ok (.lload_n 3, 1) := by decide +kernel
theorem dX6_clear_1 : decode cX6_clear 1 = .ok (.lconst 0, 1) := by decide +kernel
theorem dX6_clear_2 : decode cX6_clear 2 = .ok (.lcmp, 1) := by decide +kernel
theorem dX6_clear_3 : decode cX6_clear 3 = .ok (.ifCond .ne 4, 3) := by decide +kernel
theorem dX6_clear_6 : decode cX6_clear 6 = .ok (.return_, 1) := by decide +kernel
theorem dX6_clear_7 : decode cX6_clear 7 = .ok (.aload_n 0, 1) := by decide +kernel
theorem dX6_clear_8 : decode cX6_clear 8 = .ok (.getfield 11, 3) := by decide +kernel
theorem dX6_clear_11 : decode cX6_clear 11 = .ok (.iload_n 2, 1) := by decide +kernel
theorem dX6_clear_12 : decode cX6_clear 12 = .ok (.aaload, 1) := by decide +kernel
theorem dX6_clear_13 : decode cX6_clear 13 = .ok (.iload_n 2, 1) := by decide +kernel
theorem dX6_clear_14 : decode cX6_clear 14 = .ok (.laload, 1) := by decide +kernel
theorem dX6_clear_15 : decode cX6_clear 15 = .ok (.lstore 5, 2) := by decide +kernel
theorem dX6_clear_17 : decode cX6_clear 17 = .ok (.aload_n 0, 1) := by decide +kernel
theorem dX6_clear_18 : decode cX6_clear 18 = .ok (.getfield 11, 3) := by decide +kernel
theorem dX6_clear_21 : decode cX6_clear 21 = .ok (.iload_n 1, 1) := by decide +kernel
theorem dX6_clear_22 : decode cX6_clear 22 = .ok (.aaload, 1) := by decide +kernel
theorem dX6_clear_23 : decode cX6_clear 23 = .ok (.iload_n 2, 1) := by decide +kernel
theorem dX6_clear_24 : decode cX6_clear 24 = .ok (.laload, 1) := by decide +kernel
theorem dX6_clear_25 : decode cX6_clear 25 = .ok (.lstore 7, 2) := by decide +kernel
theorem dX6_clear_27 : decode cX6_clear 27 = .ok (.iconst 0, 1) := by decide +kernel
theorem dX6_clear_28 : decode cX6_clear 28 = .ok (.istore 9, 2) := by decide +kernel
theorem dX6_clear_30 : decode cX6_clear 30 = .ok (.iload 9, 2) := by decide +kernel
theorem dX6_clear_32 : decode cX6_clear 32 = .ok (.aload_n 0, 1) := by decide +kernel
theorem dX6_clear_33 : decode cX6_clear 33 = .ok (.getfield 20, 3) := by decide +kernel
theorem dX6_clear_36 : decode cX6_clear 36 = .ok (.if_icmp .ge 45, 3) := by decide +kernel
theorem dX6_clear_39 : decode cX6_clear 39 = .ok (.aload_n 0, 1) := by decide +kernel
theorem dX6_clear_40 : decode cX6_clear 40 = .ok (.getfield 11, 3) := by decide +kernel
theorem dX6_clear_43 : decode cX6_clear 43 = .ok (.iload_n 1, 1) := by decide +kernel
theorem dX6_clear_44 : decode cX6_clear 44 = .ok (.aaload, 1) := by decide +kernel
theorem dX6_clear_45 : decode cX6_clear 45 = .ok (.iload 9, 2) := by decide +kernel
theorem dX6_clear_47 : decode cX6_clear 47 = .ok (.lload 5, 2) := by decide +kernel
theorem dX6_clear_49 : decode cX6_clear 49 = .ok (.aload_n 0, 1) := by decide +kernel
theorem dX6_clear_50 : decode cX6_clear 50 = .ok (.getfield 11, 3) := by decide +kernel
theorem dX6_clear_53 : decode cX6_clear 53 = .ok (.iload_n 1, 1) := by decide +kernel
theorem dX6_clear_54 : decode cX6_clear 54 = .ok (.aaload, 1) := by decide +kernel
theorem dX6_clear_55 : decode cX6_clear 55 = .ok (.iload 9, 2) := by decide +kernel
theorem dX6_clear_57 : decode cX6_clear 57 = .ok (.laload, 1) := by decide +kernel
theorem dX6_clear_58 : decode cX6_clear 58 = .ok (.lmul, 1) := by decide +kernel
theorem dX6_clear_59 : decode cX6_clear 59 = .ok (.lload 7, 2) := by decide +kernel
theorem dX6_clear_61 : decode cX6_clear 61 = .ok (.aload_n 0, 1) := by decide +kernel
theorem dX6_clear_62 : decode cX6_clear 62 = .ok (.getfield 11, 3) := by decide +kernel
theorem dX6_clear_65 : decode cX6_clear 65 = .ok (.iload_n 2, 1) := by decide +kernel
theorem dX6_clear_66 : decode cX6_clear 66 = .ok (.aaload, 1) := by decide +kernel
theorem dX6_clear_67 : decode cX6_clear 67 = .ok (.iload 9, 2) := by decide +kernel
theorem dX6_clear_69 : decode cX6_clear 69 = .ok (.laload, 1) := by decide +kernel
theorem dX6_clear_70 : decode cX6_clear 70 = .ok (.lmul, 1) := by decide +kernel
theorem dX6_clear_71 : decode cX6_clear 71 = .ok (.lsub, 1) := by decide +kernel
theorem dX6_clear_72 : decode cX6_clear 72 = .ok (.lload_n 3, 1) := by decide +kernel
theorem dX6_clear_73 : decode cX6_clear 73 = .ok (.ldiv, 1) := by decide +kernel
theorem dX6_clear_74 : decode cX6_clear 74 = .ok (.lastore, 1) := by decide +kernel
theorem dX6_clear_75 : decode cX6_clear 75 = .ok (.iinc 9 1, 3) := by decide +kernel
theorem dX6_clear_78 : decode cX6_clear 78 = .ok (.goto (-48), 3) := by decide +kernel
theorem dX6_clear_81 : decode cX6_clear 81 = .ok (.return_, 1) := by decide +kernel
theorem dX6_lower_0 : decode cX6_lower 0 = .ok (.aload_n 0, 1) := by decide +kernel
theorem dX6_lower_1 : decode cX6_lower 1 = .ok (.getfield 11, 3) := by decide +kernel
theorem dX6_lower_4 : decode cX6_lower 4 = .ok (.iconst 0, 1) := by decide +kernel
theorem dX6_lower_5 : decode cX6_lower 5 = .ok (.aaload, 1) := by decide +kernel
theorem dX6_lower_6 : decode cX6_lower 6 = .ok (.iconst 0, 1) := by decide +kernel
theorem dX6_lower_7 : decode cX6_lower 7 = .ok (.laload, 1) := by decide +kernel
theorem dX6_lower_8 : decode cX6_lower 8 = .ok (.invokestatic 54, 3) := by decide +kernel
theorem dX6_lower_11 : decode cX6_lower 11 = .ok (.lreturn, 1) := by decide +kernel
theorem dX6_upper_0 : decode cX6_upper 0 = .ok (.aload_n 0, 1) := by decide +kernel
theorem dX6_upper_1 : decode cX6_upper 1 = .ok (.getfield 11, 3) := by decide +kernel
theorem dX6_upper_4 : decode cX6_upper 4 = .ok (.iconst 0, 1) := by decide +kernel
theorem dX6_upper_5 : decode cX6_upper 5 = .ok (.aaload, 1) := by decide +kernel
theorem dX6_upper_6 : decode cX6_upper 6 = .ok (.iconst 0, 1) := by decide +kernel
theorem dX6_upper_7 : decode cX6_upper 7 = .ok (.laload, 1) := by decide +kernel
theorem dX6_upper_8 : decode cX6_upper 8 = .ok (.lconst 0, 1) := by decide +kernel
theorem dX6_upper_9 : decode cX6_upper 9 = .ok (.lcmp, 1) := by decide +kernel
theorem dX6_upper_10 : decode cX6_upper 10 = .ok (.ifCond .ge 20, 3) := by decide +kernel
theorem dX6_upper_13 : decode cX6_upper 13 = .ok (.aload_n 0, 1) := by decide +kernel
theorem dX6_upper_14 : decode cX6_upper 14 = .ok (.getfield 11, 3) := by decide +kernel
theorem dX6_upper_17 : decode cX6_upper 17 = .ok (.iload_n 1, 1) := by decide +kernel
theorem dX6_upper_18 : decode cX6_upper 18 = .ok (.aaload, 1) := by decide +kernel
theorem dX6_upper_19 : decode cX6_upper 19 = .ok (.aload_n 0, 1) := by decide +kernel
theorem dX6_upper_20 : decode cX6_upper 20 = .ok (.getfield 16, 3) := by decide +kernel
theorem dX6_upper_23 : decode cX6_upper 23 = .ok (.iload_n 2, 1) := by decide +kernel
theorem dX6_upper_24 : decode cX6_upper 24 = .ok (.iadd, 1) := by decide +kernel
theorem dX6_upper_25 : decode cX6_upper 25 = .ok (.laload, 1) := by decide +kernel
theorem dX6_upper_26 : decode cX6_upper 26 = .ok (.lneg, 1) := by decide +kernel
theorem dX6_upper_27 : decode cX6_upper 27 = .ok (.goto 16, 3) := by decide +kernel
theorem dX6_upper_30 : decode cX6_upper 30 = .ok (.aload_n 0, 1) := by decide +kernel
theorem dX6_upper_31 : decode cX6_upper 31 = .ok (.getfield 11, 3) := by decide +kernel
theorem dX6_upper_34 : decode cX6_upper 34 = .ok (.iload_n 1, 1) := by decide +kernel
theorem dX6_upper_35 : decode cX6_upper 35 = .ok (.aaload, 1) := by decide +kernel
theorem dX6_upper_36 : decode cX6_upper 36 = .ok (.aload_n 0, 1) := by decide +kernel
theorem dX6_upper_37 : decode cX6_upper 37 = .ok (.getfield 16, 3) := by decide +kernel
theorem dX6_upper_40 : decode cX6_upper 40 = .ok (.iload_n 2, 1) := by decide +kernel
theorem dX6_upper_41 : decode cX6_upper 41 = .ok (.iadd, 1) := by decide +kernel
theorem dX6_upper_42 : decode cX6_upper 42 = .ok (.laload, 1) := by decide +kernel
theorem dX6_upper_43 : decode cX6_upper 43 = .ok (.lreturn, 1) := by decide +kernel
theorem dX7_init_0 : decode cX7_init 0 = .ok (.aload_n 0, 1) := by decide +kernel
theorem dX7_init_1 : decode cX7_init 1 = .ok (.invokespecial 3, 3) := by decide +kernel
theorem dX7_init_4 : decode cX7_init 4 = .ok (.aload_n 0, 1) := by decide +kernel
theorem dX7_init_5 : decode cX7_init 5 = .ok (.sipush 341, 3) := by decide +kernel
theorem dX7_init_8 : decode cX7_init 8 = .ok (.newarray .long, 2) := by decide +kernel
theorem dX7_init_10 : decode cX7_init 10 = .ok (.putfield 9, 3) := by decide +kernel
theorem dX7_init_13 : decode cX7_init 13 = .ok (.aload_n 0, 1) := by decide +kernel
theorem dX7_init_14 : decode cX7_init 14 = .ok (.iconst 0, 1) := by decide +kernel
theorem dX7_init_15 : decode cX7_init 15 = .ok (.putfield 15, 3) := by decide +kernel
theorem dX7_init_18 : decode cX7_init 18 = .ok (.return_, 1) := by decide +kernel
theorem dX7_roll_0 : decode cX7_roll 0 = .ok (.aload_n 2, 1) := by decide +kernel
theorem dX7_roll_1 : decode cX7_roll 1 = .ok (.invokevirtual 19, 3) := by decide +kernel
theorem dX7_roll_4 : decode cX7_roll 4 = .ok (.istore 4, 2) := by decide +kernel
theorem dX7_roll_6 : decode cX7_roll 6 = .ok (.aload_n 0, 1) := by decide +kernel
theorem dX7_roll_7 : decode cX7_roll 7 = .ok (.aload_n 1, 1) := by decide +kernel
theorem dX7_roll_8 : decode cX7_roll 8 = .ok (.getfield 25, 3) := by decide +kernel
theorem dX7_roll_11 : decode cX7_roll 11 = .ok (.iload 4, 2) := by decide +kernel
theorem dX7_roll_13 : decode cX7_roll 13 = .ok (.iadd, 1) := by decide +kernel
theorem dX7_roll_14 : decode cX7_roll 14 = .ok (.iconst 1, 1) := by decide +kernel
theorem dX7_roll_15 : decode cX7_roll 15 = .ok (.iadd, 1) := by decide +kernel
theorem dX7_roll_16 : decode cX7_roll 16 = .ok (.sipush 341, 3) := by decide +kernel
theorem dX7_roll_19 : decode cX7_roll 19 = .ok (.invokestatic 30, 3) := by decide +kernel
theorem dX7_roll_22 : decode cX7_roll 22 = .ok (.putfield 15, 3) := by decide +kernel
theorem dX7_roll_25 : decode cX7_roll 25 = .ok (.aload_n 0, 1) := by decide +kernel
theorem dX7_roll_26 : decode cX7_roll 26 = .ok (.getfield 9, 3) := by decide +kernel
theorem dX7_roll_29 : decode cX7_roll 29 = .ok (.iconst 0, 1) := by decide +kernel
theorem dX7_roll_30 : decode cX7_roll 30 = .ok (.aload_n 0, 1) := by decide +kernel
theorem dX7_roll_31 : decode cX7_roll 31 = .ok (.getfield 15, 3) := by decide +kernel
theorem dX7_roll_34 : decode cX7_roll 34 = .ok (.lconst 0, 1) := by decide +kernel
theorem dX7_roll_35 : decode cX7_roll 35 = .ok (.invokestatic 36, 3) := by decide +kernel
theorem dX7_roll_38 : decode cX7_roll 38 = .ok (.iconst 0, 1) := by decide +kernel
theorem dX7_roll_39 : decode cX7_roll 39 = .ok (.istore 5, 2) := by decide +kernel
theorem dX7_roll_41 : decode cX7_roll 41 = .ok (.iconst 0, 1) := by decide +kernel
theorem dX7_roll_42 : decode cX7_roll 42 = .ok (.istore 6, 2) := by decide +kernel
theorem dX7_roll_44 : decode cX7_roll 44 = .ok (.iload 6, 2) := by decide +kernel
theorem dX7_roll_46 : decode cX7_roll 46 = .ok (.aload_n 2, 1) := by decide +kernel
theorem dX7_roll_47 : decode cX7_roll 47 = .ok (.getfield 42, 3) := by decide +kernel
theorem dX7_roll_50 : decode cX7_roll 50 = .ok (.if_icmp .ge 48, 3) := by decide +kernel
theorem dX7_roll_53 : decode cX7_roll 53 = .ok (.iload 5, 2) := by decide +kernel
theorem dX7_roll_55 : decode cX7_roll 55 = .ok (.aload_n 2, 1) := by decide +kernel
theorem dX7_roll_56 : decode cX7_roll 56 = .ok (.getfield 45, 3) := by decide +kernel
theorem dX7_roll_59 : decode cX7_roll 59 = .ok (.iload 6, 2) := by decide +kernel
theorem dX7_roll_61 : decode cX7_roll 61 = .ok (.iaload, 1) := by decide +kernel
theorem dX7_roll_62 : decode cX7_roll 62 = .ok (.iadd, 1) := by decide +kernel
theorem dX7_roll_63 : decode cX7_roll 63 = .ok (.istore 5, 2) := by decide +kernel
theorem dX7_roll_65 : decode cX7_roll 65 = .ok (.aload_n 0, 1) := by decide +kernel
theorem dX7_roll_66 : decode cX7_roll 66 = .ok (.aload_n 1, 1) := by decide +kernel
theorem dX7_roll_67 : decode cX7_roll 67 = .ok (.aload_n 2, 1) := by decide +kernel
theorem dX7_roll_68 : decode cX7_roll 68 = .ok (.getfield 49, 3) := by decide +kernel
theorem dX7_roll_71 : decode cX7_roll 71 = .ok (.iload 6, 2) := by decide +kernel
theorem dX7_roll_73 : decode cX7_roll 73 = .ok (.iaload, 1) := by decide +kernel
theorem dX7_roll_74 : decode cX7_roll 74 = .ok (.i2l, 1) := by decide +kernel
theorem dX7_roll_75 : decode cX7_roll 75 = .ok (.iload_n 3, 1) := by decide +kernel
theorem dX7_roll_76 : decode cX7_roll 76 = .ok (.ifCond .ne 8, 3) := by decide +kernel
theorem dX7_roll_79 : decode cX7_roll 79 = .ok (.iload 5, 2) := by decide +kernel
theorem dX7_roll_81 : decode cX7_roll 81 = .ok (.goto 8, 3) := by decide +kernel
theorem dX7_roll_84 : decode cX7_roll 84 = .ok (.iload 4, 2) := by decide +kernel
theorem dX7_roll_86 : decode cX7_roll 86 = .ok (.iload 5, 2) := by decide +kernel
theorem dX7_roll_88 : decode cX7_roll 88 = .ok (.isub, 1) := by decide +kernel
theorem dX7_roll_89 : decode cX7_roll 89 = .ok (.invokevirtual 52, 3) := by decide +kernel
theorem dX7_roll_92 : decode cX7_roll 92 = .ok (.iinc 6 1, 3) := by decide +kernel
theorem dX7_roll_95 : decode cX7_roll 95 = .ok (.goto (-51), 3) := by decide +kernel
theorem dX7_roll_98 : decode cX7_roll 98 = .ok (.return_, 1) := by decide +kernel
theorem dX7_addAxle_0 : decode cX7_addAxle 0 = .ok (.iconst 0, 1) := by decide +kernel
theorem dX7_addAxle_1 : decode cX7_addAxle 1 = .ok (.istore 5, 2) := by decide +kernel
theorem dX7_addAxle_3 : decode cX7_addAxle 3 = .ok (.iload 5, 2) := by decide +kernel
theorem dX7_addAxle_5 : decode cX7_addAxle 5 = .ok (.aload_n 1, 1) := by decide +kernel
theorem dX7_addAxle_6 : decode cX7_addAxle 6 = .ok (.getfield 25, 3) := by decide +kernel
theorem dX7_addAxle_9 : decode cX7_addAxle 9 = .ok (.if_icmp .gt 43, 3) := by decide +kernel
theorem dX7_addAxle_12 : decode cX7_addAxle 12 = .ok (.iload 4, 2) := by decide +kernel
theorem dX7_addAxle_14 : decode cX7_addAxle 14 = .ok (.iload 5, 2) := by decide +kernel
theorem dX7_addAxle_16 : decode cX7_addAxle 16 = .ok (.iadd, 1) := by decide +kernel
theorem dX7_addAxle_17 : decode cX7_addAxle 17 = .ok (.aload_n 0, 1) := by decide +kernel
theorem dX7_addAxle_18 : decode cX7_addAxle 18 = .ok (.getfield 15, 3) := by decide +kernel
theorem dX7_addAxle_21 : decode cX7_addAxle 21 = .ok (.if_icmp .ge 31, 3) := by decide +kernel
theorem dX7_addAxle_24 : decode cX7_addAxle 24 = .ok (.aload_n 0, 1) := by decide +kernel
theorem dX7_addAxle_25 : decode cX7_addAxle 25 = .ok (.getfield 9, 3) := by decide +kernel
theorem dX7_addAxle_28 : decode cX7_addAxle 28 = .ok (.iload 4, 2) := by decide +kernel
theorem dX7_addAxle_30 : decode cX7_addAxle 30 = .ok (.iload 5, 2) := by decide +kernel
theorem dX7_addAxle_32 : decode cX7_addAxle 32 = .ok (.iadd, 1) := by decide +kernel
theorem dX7_addAxle_33 : decode cX7_addAxle 33 = .ok (.dup2, 1) := by decide +kernel
theorem dX7_addAxle_34 : decode cX7_addAxle 34 = .ok (.laload, 1) := by decide +kernel
theorem dX7_addAxle_35 : decode cX7_addAxle 35 = .ok (.lload_n 2, 1) := by decide +kernel
theorem dX7_addAxle_36 : decode cX7_addAxle 36 = .ok (.aload_n 1, 1) := by decide +kernel
theorem dX7_addAxle_37 : decode cX7_addAxle 37 = .ok (.getfield 56, 3) := by decide +kernel
theorem dX7_addAxle_40 : decode cX7_addAxle 40 = .ok (.iload 5, 2) := by decide +kernel
theorem dX7_addAxle_42 : decode cX7_addAxle 42 = .ok (.laload, 1) := by decide +kernel
theorem dX7_addAxle_43 : decode cX7_addAxle 43 = .ok (.lmul, 1) := by decide +kernel
theorem dX7_addAxle_44 : decode cX7_addAxle 44 = .ok (.ladd, 1) := by decide +kernel
theorem dX7_addAxle_45 : decode cX7_addAxle 45 = .ok (.lastore, 1) := by decide +kernel
theorem dX7_addAxle_46 : decode cX7_addAxle 46 = .ok (.iinc 5 1, 3) := by decide +kernel
theorem dX7_addAxle_49 : decode cX7_addAxle 49 = .ok (.goto (-46), 3) := by decide +kernel
theorem dX7_addAxle_52 : decode cX7_addAxle 52 = .ok (.return_, 1) := by decide +kernel
theorem dX8_init_0 : decode cX8_init 0 = .ok (.aload_n 0, 1) := by decide +kernel
theorem dX8_init_1 : decode cX8_init 1 = .ok (.invokespecial 3, 3) := by decide +kernel
theorem dX8_init_4 : decode cX8_init 4 = .ok (.aload_n 0, 1) := by decide +kernel
theorem dX8_init_5 : decode cX8_init 5 = .ok (.bipush 8, 2) := by decide +kernel
theorem dX8_init_7 : decode cX8_init 7 = .ok (.newarray .int, 2) := by decide +kernel
theorem dX8_init_9 : decode cX8_init 9 = .ok (.putfield 9, 3) := by decide +kernel
theorem dX8_init_12 : decode cX8_init 12 = .ok (.aload_n 0, 1) := by decide +kernel
theorem dX8_init_13 : decode cX8_init 13 = .ok (.bipush 8, 2) := by decide +kernel
theorem dX8_init_15 : decode cX8_init 15 = .ok (.newarray .int, 2) := by decide +kernel
theorem dX8_init_17 : decode cX8_init 17 = .ok (.putfield 15, 3) := by decide +kernel
theorem dX8_init_20 : decode cX8_init 20 = .ok (.aload_n 0, 1) := by decide +kernel
theorem dX8_init_21 : decode cX8_init 21 = .ok (.iconst 0, 1) := by decide +kernel
theorem dX8_init_22 : decode cX8_init 22 = .ok (.putfield 18, 3) := by decide +kernel
theorem dX8_init_25 : decode cX8_init 25 = .ok (.aload_n 0, 1) := by decide +kernel
theorem dX8_init_26 : decode cX8_init 26 = .ok (.iconst 0, 1) := by decide +kernel
theorem dX8_init_27 : decode cX8_init 27 = .ok (.putfield 22, 3) := by decide +kernel
theorem dX8_init_30 : decode cX8_init 30 = .ok (.return_, 1) := by decide +kernel
theorem dX8_couple_0 : decode cX8_couple 0 = .ok (.aload_n 0, 1) := by decide +kernel
theorem dX8_couple_1 : decode cX8_couple 1 = .ok (.getfield 18, 3) := by decide +kernel
theorem dX8_couple_4 : decode cX8_couple 4 = .ok (.bipush 8, 2) := by decide +kernel
theorem dX8_couple_6 : decode cX8_couple 6 = .ok (.if_icmp .lt 5, 3) := by decide +kernel
theorem dX8_couple_9 : decode cX8_couple 9 = .ok (.iconst 0, 1) := by decide +kernel
theorem dX8_couple_10 : decode cX8_couple 10 = .ok (.ireturn, 1) := by decide +kernel
theorem dX8_couple_11 : decode cX8_couple 11 = .ok (.aload_n 0, 1) := by decide +kernel
theorem dX8_couple_12 : decode cX8_couple 12 = .ok (.getfield 15, 3) := by decide +kernel
theorem dX8_couple_15 : decode cX8_couple 15 = .ok (.aload_n 0, 1) := by decide +kernel
theorem dX8_couple_16 : decode cX8_couple 16 = .ok (.getfield 18, 3) := by decide +kernel
theorem dX8_couple_19 : decode cX8_couple 19 = .ok (.iload_n 1, 1) := by decide +kernel
theorem dX8_couple_20 : decode cX8_couple 20 = .ok (.iastore, 1) := by decide +kernel
theorem dX8_couple_21 : decode cX8_couple 21 = .ok (.aload_n 0, 1) := by decide +kernel
theorem dX8_couple_22 : decode cX8_couple 22 = .ok (.getfield 9, 3) := by decide +kernel
theorem dX8_couple_25 : decode cX8_couple 25 = .ok (.aload_n 0, 1) := by decide +kernel
theorem dX8_couple_26 : decode cX8_couple 26 = .ok (.getfield 18, 3) := by decide +kernel
theorem dX8_couple_29 : decode cX8_couple 29 = .ok (.iload_n 2, 1) := by decide +kernel
theorem dX8_couple_30 : decode cX8_couple 30 = .ok (.iastore, 1) := by decide +kernel
theorem dX8_couple_31 : decode cX8_couple 31 = .ok (.aload_n 0, 1) := by decide +kernel
theorem dX8_couple_32 : decode cX8_couple 32 = .ok (.dup, 1) := by decide +kernel
theorem dX8_couple_33 : decode cX8_couple 33 = .ok (.getfield 18, 3) := by decide +kernel
theorem dX8_couple_36 : decode cX8_couple 36 = .ok (.iconst 1, 1) := by decide +kernel
theorem dX8_couple_37 : decode cX8_couple 37 = .ok (.iadd, 1) := by decide +kernel
theorem dX8_couple_38 : decode cX8_couple 38 = .ok (.putfield 18, 3) := by decide +kernel
theorem dX8_couple_41 : decode cX8_couple 41 = .ok (.iconst 1, 1) := by decide +kernel
theorem dX8_couple_42 : decode cX8_couple 42 = .ok (.ireturn, 1) := by decide +kernel
theorem dX8_allGaps_0 : decode cX8_allGaps 0 = .ok (.iconst 0, 1) := by decide +kernel
theorem dX8_allGaps_1 : decode cX8_allGaps 1 = .ok (.istore_n 1, 1) := by decide +kernel
theorem dX8_allGaps_2 : decode cX8_allGaps 2 = .ok (.iconst 0, 1) := by decide +kernel
theorem dX8_allGaps_3 : decode cX8_allGaps 3 = .ok (.istore_n 2, 1) := by decide +kernel
theorem dX8_allGaps_4 : decode cX8_allGaps 4 = .ok (.iload_n 2, 1) := by decide +kernel
theorem dX8_allGaps_5 : decode cX8_allGaps 5 = .ok (.aload_n 0, 1) := by decide +kernel
theorem dX8_allGaps_6 : decode cX8_allGaps 6 = .ok (.getfield 18, 3) := by decide +kernel
theorem dX8_allGaps_9 : decode cX8_allGaps 9 = .ok (.if_icmp .ge 18, 3) := by decide +kernel
theorem dX8_allGaps_12 : decode cX8_allGaps 12 = .ok (.iload_n 1, 1) := by decide +kernel
theorem dX8_allGaps_13 : decode cX8_allGaps 13 = .ok (.aload_n 0, 1) := by decide +kernel
theorem dX8_allGaps_14 : decode cX8_allGaps 14 = .ok (.getfield 15, 3) := by decide +kernel
theorem dX8_allGaps_17 : decode cX8_allGaps 17 = .ok (.iload_n 2, 1) := by decide +kernel
theorem dX8_allGaps_18 : decode cX8_allGaps 18 = .ok (.iaload, 1) := by decide +kernel
theorem dX8_allGaps_19 : decode cX8_allGaps 19 = .ok (.iadd, 1) := by decide +kernel
theorem dX8_allGaps_20 : decode cX8_allGaps 20 = .ok (.istore_n 1, 1) := by decide +kernel
theorem dX8_allGaps_21 : decode cX8_allGaps 21 = .ok (.iinc 2 1, 3) := by decide +kernel
theorem dX8_allGaps_24 : decode cX8_allGaps 24 = .ok (.goto (-20), 3) := by decide +kernel
theorem dX8_allGaps_27 : decode cX8_allGaps 27 = .ok (.iload_n 1, 1) := by decide +kernel
theorem dX8_allGaps_28 : decode cX8_allGaps 28 = .ok (.ireturn, 1) := by decide +kernel
theorem dX8_copyWeighing_0 : decode cX8_copyWeighing 0 = .ok (.aload_n 0, 1) := by decide +kernel
theorem dX8_copyWeighing_1 : decode cX8_copyWeighing 1 = .ok (.aload_n 1, 1) := by decide +kernel
theorem dX8_copyWeighing_2 : decode cX8_copyWeighing 2 = .ok (.getfield 18, 3) := by decide +kernel
theorem dX8_copyWeighing_5 : decode cX8_copyWeighing 5 = .ok (.putfield 18, 3) := by decide +kernel
theorem dX8_copyWeighing_8 : decode cX8_copyWeighing 8 = .ok (.iconst 0, 1) := by decide +kernel
theorem dX8_copyWeighing_9 : decode cX8_copyWeighing 9 = .ok (.istore_n 3, 1) := by decide +kernel
theorem dX8_copyWeighing_10 : decode cX8_copyWeighing 10 = .ok (.iload_n 3, 1) := by decide +kernel
theorem dX8_copyWeighing_11 : decode cX8_copyWeighing 11 = .ok (.aload_n 0, 1) := by decide +kernel
theorem dX8_copyWeighing_12 : decode cX8_copyWeighing 12 = .ok (.getfield 18, 3) := by decide +kernel
theorem dX8_copyWeighing_15 : decode cX8_copyWeighing 15 = .ok (.if_icmp .ge 38, 3) := by decide +kernel
theorem dX8_copyWeighing_18 : decode cX8_copyWeighing 18 = .ok (.aload_n 0, 1) := by decide +kernel
theorem dX8_copyWeighing_19 : decode cX8_copyWeighing 19 = .ok (.getfield 15, 3) := by decide +kernel
theorem dX8_copyWeighing_22 : decode cX8_copyWeighing 22 = .ok (.iload_n 3, 1) := by decide +kernel
theorem dX8_copyWeighing_23 : decode cX8_copyWeighing 23 = .ok (.aload_n 1, 1) := by decide +kernel
theorem dX8_copyWeighing_24 : decode cX8_copyWeighing 24 = .ok (.getfield 15, 3) := by decide +kernel
theorem dX8_copyWeighing_27 : decode cX8_copyWeighing 27 = .ok (.iload_n 3, 1) := by decide +kernel
theorem dX8_copyWeighing_28 : decode cX8_copyWeighing 28 = .ok (.iaload, 1) := by decide +kernel
theorem dX8_copyWeighing_29 : decode cX8_copyWeighing 29 = .ok (.iastore, 1) := by decide +kernel
theorem dX8_copyWeighing_30 : decode cX8_copyWeighing 30 = .ok (.aload_n 0, 1) := by decide +kernel
theorem dX8_copyWeighing_31 : decode cX8_copyWeighing 31 = .ok (.getfield 9, 3) := by decide +kernel
theorem dX8_copyWeighing_34 : decode cX8_copyWeighing 34 = .ok (.iload_n 3, 1) := by decide +kernel
theorem dX8_copyWeighing_35 : decode cX8_copyWeighing 35 = .ok (.aload_n 1, 1) := by decide +kernel
theorem dX8_copyWeighing_36 : decode cX8_copyWeighing 36 = .ok (.getfield 9, 3) := by decide +kernel
theorem dX8_copyWeighing_39 : decode cX8_copyWeighing 39 = .ok (.iload_n 3, 1) := by decide +kernel
theorem dX8_copyWeighing_40 : decode cX8_copyWeighing 40 = .ok (.iaload, 1) := by decide +kernel
theorem dX8_copyWeighing_41 : decode cX8_copyWeighing 41 = .ok (.iload_n 2, 1) := by decide +kernel
theorem dX8_copyWeighing_42 : decode cX8_copyWeighing 42 = .ok (.imul, 1) := by decide +kernel
theorem dX8_copyWeighing_43 : decode cX8_copyWeighing 43 = .ok (.bipush 100, 2) := by decide +kernel
theorem dX8_copyWeighing_45 : decode cX8_copyWeighing 45 = .ok (.idiv, 1) := by decide +kernel
theorem dX8_copyWeighing_46 : decode cX8_copyWeighing 46 = .ok (.iastore, 1) := by decide +kernel
theorem dX8_copyWeighing_47 : decode cX8_copyWeighing 47 = .ok (.iinc 3 1, 3) := by decide +kernel
theorem dX8_copyWeighing_50 : decode cX8_copyWeighing 50 = .ok (.goto (-40), 3) := by decide +kernel
theorem dX8_copyWeighing_53 : decode cX8_copyWeighing 53 = .ok (.return_, 1) := by decide +kernel
theorem dX8_copySpread_0 : decode cX8_copySpread 0 = .ok (.aload_n 0, 1) := by decide +kernel
theorem dX8_copySpread_1 : decode cX8_copySpread 1 = .ok (.aload_n 1, 1) := by decide +kernel
theorem dX8_copySpread_2 : decode cX8_copySpread 2 = .ok (.getfield 18, 3) := by decide +kernel
theorem dX8_copySpread_5 : decode cX8_copySpread 5 = .ok (.putfield 18, 3) := by decide +kernel
theorem dX8_copySpread_8 : decode cX8_copySpread 8 = .ok (.iconst 0, 1) := by decide +kernel
theorem dX8_copySpread_9 : decode cX8_copySpread 9 = .ok (.istore_n 3, 1) := by decide +kernel
theorem dX8_copySpread_10 : decode cX8_copySpread 10 = .ok (.iload_n 3, 1) := by decide +kernel
theorem dX8_copySpread_11 : decode cX8_copySpread 11 = .ok (.aload_n 0, 1) := by decide +kernel
theorem dX8_copySpread_12 : decode cX8_copySpread 12 = .ok (.getfield 18, 3) := by decide +kernel
theorem dX8_copySpread_15 : decode cX8_copySpread 15 = .ok (.if_icmp .ge 43, 3) := by decide +kernel
theorem dX8_copySpread_18 : decode cX8_copySpread 18 = .ok (.aload_n 0, 1) := by decide +kernel
theorem dX8_copySpread_19 : decode cX8_copySpread 19 = .ok (.getfield 15, 3) := by decide +kernel
theorem dX8_copySpread_22 : decode cX8_copySpread 22 = .ok (.iload_n 3, 1) := by decide +kernel
theorem dX8_copySpread_23 : decode cX8_copySpread 23 = .ok (.iload_n 3, 1) := by decide +kernel
theorem dX8_copySpread_24 : decode cX8_copySpread 24 = .ok (.ifCond .ne 7, 3) := by decide +kernel
theorem dX8_copySpread_27 : decode cX8_copySpread 27 = .ok (.iconst 0, 1) := by decide +kernel
theorem dX8_copySpread_28 : decode cX8_copySpread 28 = .ok (.goto 11, 3) := by decide +kernel
theorem dX8_copySpread_31 : decode cX8_copySpread 31 = .ok (.aload_n 1, 1) := by decide +kernel
theorem dX8_copySpread_32 : decode cX8_copySpread 32 = .ok (.getfield 15, 3) := by decide +kernel
theorem dX8_copySpread_35 : decode cX8_copySpread 35 = .ok (.iload_n 3, 1) := by decide +kernel
theorem dX8_copySpread_36 : decode cX8_copySpread 36 = .ok (.iaload, 1) := by decide +kernel
theorem dX8_copySpread_37 : decode cX8_copySpread 37 = .ok (.iload_n 2, 1) := by decide +kernel
theorem dX8_copySpread_38 : decode cX8_copySpread 38 = .ok (.iadd, 1) := by decide +kernel
theorem dX8_copySpread_39 : decode cX8_copySpread 39 = .ok (.iastore, 1) := by decide +kernel
theorem dX8_copySpread_40 : decode cX8_copySpread 40 = .ok (.aload_n 0, 1) := by decide +kernel
theorem dX8_copySpread_41 : decode cX8_copySpread 41 = .ok (.getfield 9, 3) := by decide +kernel
theorem dX8_copySpread_44 : decode cX8_copySpread 44 = .ok (.iload_n 3, 1) := by decide +kernel
theorem dX8_copySpread_45 : decode cX8_copySpread 45 = .ok (.aload_n 1, 1) := by decide +kernel
theorem dX8_copySpread_46 : decode cX8_copySpread 46 = .ok (.getfield 9, 3) := by decide +kernel
theorem dX8_copySpread_49 : decode cX8_copySpread 49 = .ok (.iload_n 3, 1) := by decide +kernel
theorem dX8_copySpread_50 : decode cX8_copySpread 50 = .ok (.iaload, 1) := by decide +kernel
theorem dX8_copySpread_51 : decode cX8_copySpread 51 = .ok (.iastore, 1) := by decide +kernel
theorem dX8_copySpread_52 : decode cX8_copySpread 52 = .ok (.iinc 3 1, 3) := by decide +kernel
theorem dX8_copySpread_55 : decode cX8_copySpread 55 = .ok (.goto (-45), 3) := by decide +kernel
theorem dX8_copySpread_58 : decode cX8_copySpread 58 = .ok (.return_, 1) := by decide +kernel
theorem dX9_init_0 : decode cX9_init 0 = .ok (.aload_n 0, 1) := by decide +kernel
theorem dX9_init_1 : decode cX9_init 1 = .ok (.invokespecial 3, 3) := by decide +kernel
theorem dX9_init_4 : decode cX9_init 4 = .ok (.aload_n 0, 1) := by decide +kernel
theorem dX9_init_5 : decode cX9_init 5 = .ok (.sipush 343, 3) := by decide +kernel
theorem dX9_init_8 : decode cX9_init 8 = .ok (.newarray .long, 2) := by decide +kernel
theorem dX9_init_10 : decode cX9_init 10 = .ok (.putfield 9, 3) := by decide +kernel
theorem dX9_init_13 : decode cX9_init 13 = .ok (.aload_n 0, 1) := by decide +kernel
theorem dX9_init_14 : decode cX9_init 14 = .ok (.iconst 0, 1) := by decide +kernel
theorem dX9_init_15 : decode cX9_init 15 = .ok (.putfield 15, 3) := by decide +kernel
theorem dX9_init_18 : decode cX9_init 18 = .ok (.aload_n 0, 1) := by decide +kernel
theorem dX9_init_19 : decode cX9_init 19 = .ok (.iconst 0, 1) := by decide +kernel
theorem dX9_init_20 : decode cX9_init 20 = .ok (.putfield 19, 3) := by decide +kernel
theorem dX9_init_23 : decode cX9_init 23 = .ok (.aload_n 0, 1) := by decide +kernel
theorem dX9_init_24 : decode cX9_init 24 = .ok (.iconst 0, 1) := by decide +kernel
theorem dX9_init_25 : decode cX9_init 25 = .ok (.putfield 22, 3) := by decide +kernel
theorem dX9_init_28 : decode cX9_init 28 = .ok (.aload_n 0, 1) := by decide +kernel
theorem dX9_init_29 : decode cX9_init 29 = .ok (.lconst 0, 1) := by decide +kernel
theorem dX9_init_30 : decode cX9_init 30 = .ok (.putfield 25, 3) := by decide +kernel
theorem dX9_init_33 : decode cX9_init 33 = .ok (.return_, 1) := by decide +kernel
theorem dX9_take_0 : decode cX9_take 0 = .ok (.aload_n 0, 1) := by decide +kernel
theorem dX9_take_1 : decode cX9_take 1 = .ok (.iconst 0, 1) := by decide +kernel
theorem dX9_take_2 : decode cX9_take 2 = .ok (.putfield 19, 3) := by decide +kernel
theorem dX9_take_5 : decode cX9_take 5 = .ok (.aload_n 0, 1) := by decide +kernel
theorem dX9_take_6 : decode cX9_take 6 = .ok (.iconst 0, 1) := by decide +kernel
theorem dX9_take_7 : decode cX9_take 7 = .ok (.putfield 22, 3) := by decide +kernel
theorem dX9_take_10 : decode cX9_take 10 = .ok (.aload_n 0, 1) := by decide +kernel
theorem dX9_take_11 : decode cX9_take 11 = .ok (.lconst 0, 1) := by decide +kernel
theorem dX9_take_12 : decode cX9_take 12 = .ok (.putfield 25, 3) := by decide +kernel
theorem dX9_take_15 : decode cX9_take 15 = .ok (.aload_n 0, 1) := by decide +kernel
theorem dX9_take_16 : decode cX9_take 16 = .ok (.iconst 0, 1) := by decide +kernel
theorem dX9_take_17 : decode cX9_take 17 = .ok (.putfield 15, 3) := by decide +kernel
theorem dX9_take_20 : decode cX9_take 20 = .ok (.aload_n 0, 1) := by decide +kernel
theorem dX9_take_21 : decode cX9_take 21 = .ok (.lconst 0, 1) := by decide +kernel
theorem dX9_take_22 : decode cX9_take 22 = .ok (.invokevirtual 29, 3) := by decide +kernel
theorem dX9_take_25 : decode cX9_take 25 = .ok (.iconst 0, 1) := by decide +kernel
theorem dX9_take_26 : decode cX9_take 26 = .ok (.istore_n 3, 1) := by decide +kernel
theorem dX9_take_27 : decode cX9_take 27 = .ok (.iload_n 3, 1) := by decide +kernel
theorem dX9_take_28 : decode cX9_take 28 = .ok (.aload_n 1, 1) := by decide +kernel
theorem dX9_take_29 : decode cX9_take 29 = .ok (.getfield 33, 3) := by decide +kernel
theorem dX9_take_32 : decode cX9_take 32 = .ok (.if_icmp .ge 19, 3) := by decide +kernel
theorem dX9_take_35 : decode cX9_take 35 = .ok (.aload_n 0, 1) := by decide +kernel
theorem dX9_take_36 : decode cX9_take 36 = .ok (.aload_n 1, 1) := by decide +kernel
theorem dX9_take_37 : decode cX9_take 37 = .ok (.getfield 38, 3) := by decide +kernel
theorem dX9_take_40 : decode cX9_take 40 = .ok (.iload_n 3, 1) := by decide +kernel
theorem dX9_take_41 : decode cX9_take 41 = .ok (.laload, 1) := by decide +kernel
theorem dX9_take_42 : decode cX9_take 42 = .ok (.invokevirtual 29, 3) := by decide +kernel
theorem dX9_take_45 : decode cX9_take 45 = .ok (.iinc 3 1, 3) := by decide +kernel
theorem dX9_take_48 : decode cX9_take 48 = .ok (.goto (-21), 3) := by decide +kernel
theorem dX9_take_51 : decode cX9_take 51 = .ok (.aload_n 0, 1) := by decide +kernel
theorem dX9_take_52 : decode cX9_take 52 = .ok (.lconst 0, 1) := by decide +kernel
theorem dX9_take_53 : decode cX9_take 53 = .ok (.invokevirtual 29, 3) := by decide +kernel
theorem dX9_take_56 : decode cX9_take 56 = .ok (.aload_n 0, 1) := by decide +kernel
theorem dX9_take_57 : decode cX9_take 57 = .ok (.aload_n 2, 1) := by decide +kernel
theorem dX9_take_58 : decode cX9_take 58 = .ok (.invokevirtual 41, 3) := by decide +kernel
theorem dX9_take_61 : decode cX9_take 61 = .ok (.aload_n 0, 1) := by decide +kernel
theorem dX9_take_62 : decode cX9_take 62 = .ok (.aload_n 2, 1) := by decide +kernel
theorem dX9_take_63 : decode cX9_take 63 = .ok (.invokevirtual 45, 3) := by decide +kernel
theorem dX9_take_66 : decode cX9_take 66 = .ok (.return_, 1) := by decide +kernel
theorem dX9_push_0 : decode cX9_push 0 = .ok (.aload_n 0, 1) := by decide +kernel
theorem dX9_push_1 : decode cX9_push 1 = .ok (.getfield 15, 3) := by decide +kernel
theorem dX9_push_4 : decode cX9_push 4 = .ok (.iconst 2, 1) := by decide +kernel
theorem dX9_push_5 : decode cX9_push 5 = .ok (.if_icmp .lt 45, 3) := by decide +kernel
theorem dX9_push_8 : decode cX9_push 8 = .ok (.aload_n 0, 1) := by decide +kernel
theorem dX9_push_9 : decode cX9_push 9 = .ok (.getfield 9, 3) := by decide +kernel
theorem dX9_push_12 : decode cX9_push 12 = .ok (.aload_n 0, 1) := by decide +kernel
theorem dX9_push_13 : decode cX9_push 13 = .ok (.getfield 15, 3) := by decide +kernel
theorem dX9_push_16 : decode cX9_push 16 = .ok (.iconst 1, 1) := by decide +kernel
theorem dX9_push_17 : decode cX9_push 17 = .ok (.isub, 1) := by decide +kernel
theorem dX9_push_18 : decode cX9_push 18 = .ok (.laload, 1) := by decide +kernel
theorem dX9_push_19 : decode cX9_push 19 = .ok (.aload_n 0, 1) := by decide +kernel
theorem dX9_push_20 : decode cX9_push 20 = .ok (.getfield 9, 3) := by decide +kernel
theorem dX9_push_23 : decode cX9_push 23 = .ok (.aload_n 0, 1) := by decide +kernel
theorem dX9_push_24 : decode cX9_push 24 = .ok (.getfield 15, 3) := by decide +kernel
theorem dX9_push_27 : decode cX9_push 27 = .ok (.iconst 2, 1) := by decide +kernel
theorem dX9_push_28 : decode cX9_push 28 = .ok (.isub, 1) := by decide +kernel
theorem dX9_push_29 : decode cX9_push 29 = .ok (.laload, 1) := by decide +kernel
theorem dX9_push_30 : decode cX9_push 30 = .ok (.lload_n 1, 1) := by decide +kernel
theorem dX9_push_31 : decode cX9_push 31 = .ok (.invokestatic 48, 3) := by decide +kernel
theorem dX9_push_34 : decode cX9_push 34 = .ok (.ifCond .eq 16, 3) := by decide +kernel
theorem dX9_push_37 : decode cX9_push 37 = .ok (.aload_n 0, 1) := by decide +kernel
theorem dX9_push_38 : decode cX9_push 38 = .ok (.dup, 1) := by decide +kernel
theorem dX9_push_39 : decode cX9_push 39 = .ok (.getfield 15, 3) := by decide +kernel
theorem dX9_push_42 : decode cX9_push 42 = .ok (.iconst 1, 1) := by decide +kernel
theorem dX9_push_43 : decode cX9_push 43 = .ok (.isub, 1) := by decide +kernel
theorem dX9_push_44 : decode cX9_push 44 = .ok (.putfield 15, 3) := by decide +kernel
theorem dX9_push_47 : decode cX9_push 47 = .ok (.goto (-47), 3) := by decide +kernel
theorem dX9_push_50 : decode cX9_push 50 = .ok (.aload_n 0, 1) := by decide +kernel
theorem dX9_push_51 : decode cX9_push 51 = .ok (.getfield 15, 3) := by decide +kernel
theorem dX9_push_54 : decode cX9_push 54 = .ok (.aload_n 0, 1) := by decide +kernel
theorem dX9_push_55 : decode cX9_push 55 = .ok (.getfield 9, 3) := by decide +kernel
theorem dX9_push_58 : decode cX9_push 58 = .ok (.arraylength, 1) := by decide +kernel
theorem dX9_push_59 : decode cX9_push 59 = .ok (.if_icmp .ge 23, 3) := by decide +kernel
theorem dX9_push_62 : decode cX9_push 62 = .ok (.aload_n 0, 1) := by decide +kernel
theorem dX9_push_63 : decode cX9_push 63 = .ok (.getfield 9, 3) := by decide +kernel
theorem dX9_push_66 : decode cX9_push 66 = .ok (.aload_n 0, 1) := by decide +kernel
theorem dX9_push_67 : decode cX9_push 67 = .ok (.getfield 15, 3) := by decide +kernel
theorem dX9_push_70 : decode cX9_push 70 = .ok (.lload_n 1, 1) := by decide +kernel
theorem dX9_push_71 : decode cX9_push 71 = .ok (.lastore, 1) := by decide +kernel
theorem dX9_push_72 : decode cX9_push 72 = .ok (.aload_n 0, 1) := by decide +kernel
theorem dX9_push_73 : decode cX9_push 73 = .ok (.dup, 1) := by decide +kernel
theorem dX9_push_74 : decode cX9_push 74 = .ok (.getfield 15, 3) := by decide +kernel
theorem dX9_push_77 : decode cX9_push 77 = .ok (.iconst 1, 1) := by decide +kernel
theorem dX9_push_78 : decode cX9_push 78 = .ok (.iadd, 1) := by decide +kernel
theorem dX9_push_79 : decode cX9_push 79 = .ok (.putfield 15, 3) := by decide +kernel
theorem dX9_push_82 : decode cX9_push 82 = .ok (.return_, 1) := by decide +kernel
theorem dX9_liesBetween_0 : decode cX9_liesBetween 0 = .ok (.lload_n 0, 1) := by decide +kernel
theorem dX9_liesBetween_1 : decode cX9_liesBetween 1 = .ok (.lload_n 2, 1) := by decide +kernel
theorem dX9_liesBetween_2 : decode cX9_liesBetween 2 = .ok (.lload 4, 2) := by decide +kernel
theorem dX9_liesBetween_4 : decode cX9_liesBetween 4 = .ok (.invokestatic 52, 3) := by decide +kernel
theorem dX9_liesBetween_7 : decode cX9_liesBetween 7 = .ok (.lcmp, 1) := by decide +kernel
theorem dX9_liesBetween_8 : decode cX9_liesBetween 8 = .ok (.ifCond .lt 18, 3) := by decide +kernel
theorem dX9_liesBetween_11 : decode cX9_liesBetween 11 = .ok (.lload_n 0, 1) := by decide +kernel
theorem dX9_liesBetween_12 : decode cX9_liesBetween 12 = .ok (.lload_n 2, 1) := by decide +kernel
theorem dX9_liesBetween_13 : decode cX9_liesBetween 13 = .ok (.lload 4, 2) := by decide +kernel
theorem dX9_liesBetween_15 : decode cX9_liesBetween 15 = .ok (.invokestatic 58, 3) := by decide +kernel
theorem dX9_liesBetween_18 : decode cX9_liesBetween 18 = .ok (.lcmp, 1) := by decide +kernel
theorem dX9_liesBetween_19 : decode cX9_liesBetween 19 = .ok (.ifCond .gt 7, 3) := by decide +kernel
theorem dX9_liesBetween_22 : decode cX9_liesBetween 22 = .ok (.iconst 1, 1) := by decide +kernel
theorem dX9_liesBetween_23 : decode cX9_liesBetween 23 = .ok (.goto 4, 3) := by decide +kernel
theorem dX9_liesBetween_26 : decode cX9_liesBetween 26 = .ok (.iconst 0, 1) := by decide +kernel
theorem dX9_liesBetween_27 : decode cX9_liesBetween 27 = .ok (.ireturn, 1) := by decide +kernel
theorem dX9_takeWholeTurns_0 : decode cX9_takeWholeTurns 0 = .ok (.iconst 0, 1) := by decide +kernel
theorem dX9_takeWholeTurns_1 : decode cX9_takeWholeTurns 1 = .ok (.istore_n 2, 1) := by decide +kernel
theorem dX9_takeWholeTurns_2 : decode cX9_takeWholeTurns 2 = .ok (.iconst 0, 1) := by decide +kernel
theorem dX9_takeWholeTurns_3 : decode cX9_takeWholeTurns 3 = .ok (.istore_n 3, 1) := by decide +kernel
theorem dX9_takeWholeTurns_4 : decode cX9_takeWholeTurns 4 = .ok (.iload_n 3, 1) := by decide +kernel
theorem dX9_takeWholeTurns_5 : decode cX9_takeWholeTurns 5 = .ok (.aload_n 0, 1) := by decide +kernel
theorem dX9_takeWholeTurns_6 : decode cX9_takeWholeTurns 6 = .ok (.getfield 15, 3) := by decide +kernel
theorem dX9_takeWholeTurns_9 : decode cX9_takeWholeTurns 9 = .ok (.if_icmp .ge 98, 3) := by decide +kernel
theorem dX9_takeWholeTurns_12 : decode cX9_takeWholeTurns 12 = .ok (.aload_n 0, 1) := by decide +kernel
theorem dX9_takeWholeTurns_13 : decode cX9_takeWholeTurns 13 = .ok (.getfield 9, 3) := by decide +kernel
theorem dX9_takeWholeTurns_16 : decode cX9_takeWholeTurns 16 = .ok (.iload_n 2, 1) := by decide +kernel
theorem dX9_takeWholeTurns_17 : decode cX9_takeWholeTurns 17 = .ok (.aload_n 0, 1) := by decide +kernel
theorem dX9_takeWholeTurns_18 : decode cX9_takeWholeTurns 18 = .ok (.getfield 9, 3) := by decide +kernel
theorem dX9_takeWholeTurns_21 : decode cX9_takeWholeTurns 21 = .ok (.iload_n 3, 1) := by decide +kernel
theorem dX9_takeWholeTurns_22 : decode cX9_takeWholeTurns 22 = .ok (.laload, 1) := by decide +kernel
theorem dX9_takeWholeTurns_23 : decode cX9_takeWholeTurns 23 = .ok (.lastore, 1) := by decide +kernel
theorem dX9_takeWholeTurns_24 : decode cX9_takeWholeTurns 24 = .ok (.iinc 2 1, 3) := by decide +kernel
theorem dX9_takeWholeTurns_27 : decode cX9_takeWholeTurns 27 = .ok (.iload_n 2, 1) := by decide +kernel
theorem dX9_takeWholeTurns_28 : decode cX9_takeWholeTurns 28 = .ok (.iconst 4, 1) := by decide +kernel
theorem dX9_takeWholeTurns_29 : decode cX9_takeWholeTurns 29 = .ok (.if_icmp .lt 72, 3) := by decide +kernel
theorem dX9_takeWholeTurns_32 : decode cX9_takeWholeTurns 32 = .ok (.aload_n 0, 1) := by decide +kernel
theorem dX9_takeWholeTurns_33 : decode cX9_takeWholeTurns 33 = .ok (.iload_n 2, 1) := by decide +kernel
theorem dX9_takeWholeTurns_34 : decode cX9_takeWholeTurns 34 = .ok (.iconst 4, 1) := by decide +kernel
theorem dX9_takeWholeTurns_35 : decode cX9_takeWholeTurns 35 = .ok (.isub, 1) := by decide +kernel
theorem dX9_takeWholeTurns_36 : decode cX9_takeWholeTurns 36 = .ok (.invokevirtual 61, 3) := by decide +kernel
theorem dX9_takeWholeTurns_39 : decode cX9_takeWholeTurns 39 = .ok (.ifCond .eq 62, 3) := by decide +kernel
theorem dX9_takeWholeTurns_42 : decode cX9_takeWholeTurns 42 = .ok (.aload_n 0, 1) := by decide +kernel
theorem dX9_takeWholeTurns_43 : decode cX9_takeWholeTurns 43 = .ok (.dup, 1) := by decide +kernel
theorem dX9_takeWholeTurns_44 : decode cX9_takeWholeTurns 44 = .ok (.getfield 19, 3) := by decide +kernel
theorem dX9_takeWholeTurns_47 : decode cX9_takeWholeTurns 47 = .ok (.iconst 1, 1) := by decide +kernel
theorem dX9_takeWholeTurns_48 : decode cX9_takeWholeTurns 48 = .ok (.iadd, 1) := by decide +kernel
theorem dX9_takeWholeTurns_49 : decode cX9_takeWholeTurns 49 = .ok (.putfield 19, 3) := by decide +kernel
theorem dX9_takeWholeTurns_52 : decode cX9_takeWholeTurns 52 = .ok (.aload_n 0, 1) := by decide +kernel
theorem dX9_takeWholeTurns_53 : decode cX9_takeWholeTurns 53 = .ok (.dup, 1) := by decide +kernel
theorem dX9_takeWholeTurns_54 : decode cX9_takeWholeTurns 54 = .ok (.getfield 25, 3) := by decide +kernel
theorem dX9_takeWholeTurns_57 : decode cX9_takeWholeTurns 57 = .ok (.ldc2_w 65, 3) := by decide +kernel
theorem dX9_takeWholeTurns_60 : decode cX9_takeWholeTurns 60 = .ok (.aload_n 1, 1) := by decide +kernel
theorem dX9_takeWholeTurns_61 : decode cX9_takeWholeTurns 61 = .ok (.aload_n 0, 1) := by decide +kernel
theorem dX9_takeWholeTurns_62 : decode cX9_takeWholeTurns 62 = .ok (.iload_n 2, 1) := by decide +kernel
theorem dX9_takeWholeTurns_63 : decode cX9_takeWholeTurns 63 = .ok (.iconst 3, 1) := by decide +kernel
theorem dX9_takeWholeTurns_64 : decode cX9_takeWholeTurns 64 = .ok (.isub, 1) := by decide +kernel
theorem dX9_takeWholeTurns_65 : decode cX9_takeWholeTurns 65 = .ok (.invokevirtual 67, 3) := by decide +kernel
theorem dX9_takeWholeTurns_68 : decode cX9_takeWholeTurns 68 = .ok (.invokevirtual 71, 3) := by decide +kernel
theorem dX9_takeWholeTurns_71 : decode cX9_takeWholeTurns 71 = .ok (.invokestatic 77, 3) := by decide +kernel
theorem dX9_takeWholeTurns_74 : decode cX9_takeWholeTurns 74 = .ok (.lmul, 1) := by decide +kernel
theorem dX9_takeWholeTurns_75 : decode cX9_takeWholeTurns 75 = .ok (.ladd, 1) := by decide +kernel
theorem dX9_takeWholeTurns_76 : decode cX9_takeWholeTurns 76 = .ok (.putfield 25, 3) := by decide +kernel
theorem dX9_takeWholeTurns_79 : decode cX9_takeWholeTurns 79 = .ok (.aload_n 0, 1) := by decide +kernel
theorem dX9_takeWholeTurns_80 : decode cX9_takeWholeTurns 80 = .ok (.getfield 9, 3) := by decide +kernel
theorem dX9_takeWholeTurns_83 : decode cX9_takeWholeTurns 83 = .ok (.iload_n 2, 1) := by decide +kernel
theorem dX9_takeWholeTurns_84 : decode cX9_takeWholeTurns 84 = .ok (.iconst 3, 1) := by decide +kernel
theorem dX9_takeWholeTurns_85 : decode cX9_takeWholeTurns 85 = .ok (.isub, 1) := by decide +kernel
theorem dX9_takeWholeTurns_86 : decode cX9_takeWholeTurns 86 = .ok (.aload_n 0, 1) := by decide +kernel
theorem dX9_takeWholeTurns_87 : decode cX9_takeWholeTurns 87 = .ok (.getfield 9, 3) := by decide +kernel
theorem dX9_takeWholeTurns_90 : decode cX9_takeWholeTurns 90 = .ok (.iload_n 2, 1) := by decide +kernel
theorem dX9_takeWholeTurns_91 : decode cX9_takeWholeTurns 91 = .ok (.iconst 1, 1) := by decide +kernel
theorem dX9_takeWholeTurns_92 : decode cX9_takeWholeTurns 92 = .ok (.isub, 1) := by decide +kernel
theorem dX9_takeWholeTurns_93 : decode cX9_takeWholeTurns 93 = .ok (.laload, 1) := by decide +kernel
theorem dX9_takeWholeTurns_94 : decode cX9_takeWholeTurns 94 = .ok (.lastore, 1) := by decide +kernel
theorem dX9_takeWholeTurns_95 : decode cX9_takeWholeTurns 95 = .ok (.iinc 2 (-2), 3) := by decide +kernel
theorem dX9_takeWholeTurns_98 : decode cX9_takeWholeTurns 98 = .ok (.goto (-71), 3) := by decide +kernel
theorem dX9_takeWholeTurns_101 : decode cX9_takeWholeTurns 101 = .ok (.iinc 3 1, 3) := by decide +kernel
theorem dX9_takeWholeTurns_104 : decode cX9_takeWholeTurns 104 = .ok (.goto (-100), 3) := by decide +kernel
theorem dX9_takeWholeTurns_107 : decode cX9_takeWholeTurns 107 = .ok (.aload_n 0, 1) := by decide +kernel
theorem dX9_takeWholeTurns_108 : decode cX9_takeWholeTurns 108 = .ok (.iload_n 2, 1) := by decide +kernel
theorem dX9_takeWholeTurns_109 : decode cX9_takeWholeTurns 109 = .ok (.putfield 15, 3) := by decide +kernel
theorem dX9_takeWholeTurns_112 : decode cX9_takeWholeTurns 112 = .ok (.return_, 1) := by decide +kernel
theorem dX9_innerStepIsLeast_0 : decode cX9_innerStepIsLeast 0 = .ok (.aload_n 0, 1) := by decide +kernel
theorem dX9_innerStepIsLeast_1 : decode cX9_innerStepIsLeast 1 = .ok (.iload_n 1, 1) := by decide +kernel
theorem dX9_innerStepIsLeast_2 : decode cX9_innerStepIsLeast 2 = .ok (.iconst 1, 1) := by decide +kernel
theorem dX9_innerStepIsLeast_3 : decode cX9_innerStepIsLeast 3 = .ok (.iadd, 1) := by decide +kernel
theorem dX9_innerStepIsLeast_4 : decode cX9_innerStepIsLeast 4 = .ok (.invokevirtual 67, 3) := by decide +kernel
theorem dX9_innerStepIsLeast_7 : decode cX9_innerStepIsLeast 7 = .ok (.lstore_n 2, 1) := by decide +kernel
theorem dX9_innerStepIsLeast_8 : decode cX9_innerStepIsLeast 8 = .ok (.lload_n 2, 1) := by decide +kernel
theorem dX9_innerStepIsLeast_9 : decode cX9_innerStepIsLeast 9 = .ok (.aload_n 0, 1) := by decide +kernel
theorem dX9_innerStepIsLeast_10 : decode cX9_innerStepIsLeast 10 = .ok (.iload_n 1, 1) := by decide +kernel
theorem dX9_innerStepIsLeast_11 : decode cX9_innerStepIsLeast 11 = .ok (.invokevirtual 67, 3) := by decide +kernel
theorem dX9_innerStepIsLeast_14 : decode cX9_innerStepIsLeast 14 = .ok (.lcmp, 1) := by decide +kernel
theorem dX9_innerStepIsLeast_15 : decode cX9_innerStepIsLeast 15 = .ok (.ifCond .gt 19, 3) := by decide +kernel
theorem dX9_innerStepIsLeast_18 : decode cX9_innerStepIsLeast 18 = .ok (.lload_n 2, 1) := by decide +kernel
theorem dX9_innerStepIsLeast_19 : decode cX9_innerStepIsLeast 19 = .ok (.aload_n 0, 1) := by decide +kernel
theorem dX9_innerStepIsLeast_20 : decode cX9_innerStepIsLeast 20 = .ok (.iload_n 1, 1) := by decide +kernel
theorem dX9_innerStepIsLeast_21 : decode cX9_innerStepIsLeast 21 = .ok (.iconst 2, 1) := by decide +kernel
theorem dX9_innerStepIsLeast_22 : decode cX9_innerStepIsLeast 22 = .ok (.iadd, 1) := by decide +kernel
theorem dX9_innerStepIsLeast_23 : decode cX9_innerStepIsLeast 23 = .ok (.invokevirtual 67, 3) := by decide +kernel
theorem dX9_innerStepIsLeast_26 : decode cX9_innerStepIsLeast 26 = .ok (.lcmp, 1) := by decide +kernel
theorem dX9_innerStepIsLeast_27 : decode cX9_innerStepIsLeast 27 = .ok (.ifCond .gt 7, 3) := by decide +kernel
theorem dX9_innerStepIsLeast_30 : decode cX9_innerStepIsLeast 30 = .ok (.iconst 1, 1) := by decide +kernel
theorem dX9_innerStepIsLeast_31 : decode cX9_innerStepIsLeast 31 = .ok (.goto 4, 3) := by decide +kernel
theorem dX9_innerStepIsLeast_34 : decode cX9_innerStepIsLeast 34 = .ok (.iconst 0, 1) := by decide +kernel
theorem dX9_innerStepIsLeast_35 : decode cX9_innerStepIsLeast 35 = .ok (.ireturn, 1) := by decide +kernel
theorem dX9_takeHalfTurns_0 : decode cX9_takeHalfTurns 0 = .ok (.iconst 0, 1) := by decide +kernel
theorem dX9_takeHalfTurns_1 : decode cX9_takeHalfTurns 1 = .ok (.istore_n 2, 1) := by decide +kernel
theorem dX9_takeHalfTurns_2 : decode cX9_takeHalfTurns 2 = .ok (.iload_n 2, 1) := by decide +kernel
theorem dX9_takeHalfTurns_3 : decode cX9_takeHalfTurns 3 = .ok (.iconst 1, 1) := by decide +kernel
theorem dX9_takeHalfTurns_4 : decode cX9_takeHalfTurns 4 = .ok (.iadd, 1) := by decide +kernel
theorem dX9_takeHalfTurns_5 : decode cX9_takeHalfTurns 5 = .ok (.aload_n 0, 1) := by decide +kernel
theorem dX9_takeHalfTurns_6 : decode cX9_takeHalfTurns 6 = .ok (.getfield 15, 3) := by decide +kernel
theorem dX9_takeHalfTurns_9 : decode cX9_takeHalfTurns 9 = .ok (.if_icmp .ge 40, 3) := by decide +kernel
theorem dX9_takeHalfTurns_12 : decode cX9_takeHalfTurns 12 = .ok (.aload_n 0, 1) := by decide +kernel
theorem dX9_takeHalfTurns_13 : decode cX9_takeHalfTurns 13 = .ok (.dup, 1) := by decide +kernel
theorem dX9_takeHalfTurns_14 : decode cX9_takeHalfTurns 14 = .ok (.getfield 22, 3) := by decide +kernel
theorem dX9_takeHalfTurns_17 : decode cX9_takeHalfTurns 17 = .ok (.iconst 1, 1) := by decide +kernel
theorem dX9_takeHalfTurns_18 : decode cX9_takeHalfTurns 18 = .ok (.iadd, 1) := by decide +kernel
theorem dX9_takeHalfTurns_19 : decode cX9_takeHalfTurns 19 = .ok (.putfield 22, 3) := by decide +kernel
theorem dX9_takeHalfTurns_22 : decode cX9_takeHalfTurns 22 = .ok (.aload_n 0, 1) := by decide +kernel
theorem dX9_takeHalfTurns_23 : decode cX9_takeHalfTurns 23 = .ok (.dup, 1) := by decide +kernel
theorem dX9_takeHalfTurns_24 : decode cX9_takeHalfTurns 24 = .ok (.getfield 25, 3) := by decide +kernel
theorem dX9_takeHalfTurns_27 : decode cX9_takeHalfTurns 27 = .ok (.aload_n 1, 1) := by decide +kernel
theorem dX9_takeHalfTurns_28 : decode cX9_takeHalfTurns 28 = .ok (.aload_n 0, 1) := by decide +kernel
theorem dX9_takeHalfTurns_29 : decode cX9_takeHalfTurns 29 = .ok (.iload_n 2, 1) := by decide +kernel
theorem dX9_takeHalfTurns_30 : decode cX9_takeHalfTurns 30 = .ok (.invokevirtual 67, 3) := by decide +kernel
theorem dX9_takeHalfTurns_33 : decode cX9_takeHalfTurns 33 = .ok (.invokevirtual 71, 3) := by decide +kernel
theorem dX9_takeHalfTurns_36 : decode cX9_takeHalfTurns 36 = .ok (.invokestatic 77, 3) := by decide +kernel
theorem dX9_takeHalfTurns_39 : decode cX9_takeHalfTurns 39 = .ok (.ladd, 1) := by decide +kernel
theorem dX9_takeHalfTurns_40 : decode cX9_takeHalfTurns 40 = .ok (.putfield 25, 3) := by decide +kernel
theorem dX9_takeHalfTurns_43 : decode cX9_takeHalfTurns 43 = .ok (.iinc 2 1, 3) := by decide +kernel
theorem dX9_takeHalfTurns_46 : decode cX9_takeHalfTurns 46 = .ok (.goto (-44), 3) := by decide +kernel
theorem dX9_takeHalfTurns_49 : decode cX9_takeHalfTurns 49 = .ok (.return_, 1) := by decide +kernel
theorem dX9_step_0 : decode cX9_step 0 = .ok (.aload_n 0, 1) := by decide +kernel
theorem dX9_step_1 : decode cX9_step 1 = .ok (.getfield 9, 3) := by decide +kernel
theorem dX9_step_4 : decode cX9_step 4 = .ok (.iload_n 1, 1) := by decide +kernel
theorem dX9_step_5 : decode cX9_step 5 = .ok (.iconst 1, 1) := by decide +kernel
theorem dX9_step_6 : decode cX9_step 6 = .ok (.iadd, 1) := by decide +kernel
theorem dX9_step_7 : decode cX9_step 7 = .ok (.laload, 1) := by decide +kernel
theorem dX9_step_8 : decode cX9_step 8 = .ok (.aload_n 0, 1) := by decide +kernel
theorem dX9_step_9 : decode cX9_step 9 = .ok (.getfield 9, 3) := by decide +kernel
theorem dX9_step_12 : decode cX9_step 12 = .ok (.iload_n 1, 1) := by decide +kernel
theorem dX9_step_13 : decode cX9_step 13 = .ok (.laload, 1) := by decide +kernel
theorem dX9_step_14 : decode cX9_step 14 = .ok (.lsub, 1) := by decide +kernel
theorem dX9_step_15 : decode cX9_step 15 = .ok (.invokestatic 80, 3) := by decide +kernel
theorem dX9_step_18 : decode cX9_step 18 = .ok (.lreturn, 1) := by decide +kernel
theorem dX9_cube_0 : decode cX9_cube 0 = .ok (.lload_n 0, 1) := by decide +kernel
theorem dX9_cube_1 : decode cX9_cube 1 = .ok (.lload_n 0, 1) := by decide +kernel
theorem dX9_cube_2 : decode cX9_cube 2 = .ok (.lmul, 1) := by decide +kernel
theorem dX9_cube_3 : decode cX9_cube 3 = .ok (.lload_n 0, 1) := by decide +kernel
theorem dX9_cube_4 : decode cX9_cube 4 = .ok (.lmul, 1) := by decide +kernel
theorem dX9_cube_5 : decode cX9_cube 5 = .ok (.lreturn, 1) := by decide +kernel
theorem dX10_init_0 : decode cX10_init 0 = .ok (.aload_n 0, 1) := by decide +kernel
theorem dX10_init_1 : decode cX10_init 1 = .ok (.invokespecial 3, 3) := by decide +kernel
theorem dX10_init_4 : decode cX10_init 4 = .ok (.aload_n 0, 1) := by decide +kernel
theorem dX10_init_5 : decode cX10_init 5 = .ok (.bipush 6, 2) := by decide +kernel
theorem dX10_init_7 : decode cX10_init 7 = .ok (.anewarray 9, 3) := by decide +kernel
theorem dX10_init_10 : decode cX10_init 10 = .ok (.putfield 11, 3) := by decide +kernel
theorem dX10_init_13 : decode cX10_init 13 = .ok (.aload_n 0, 1) := by decide +kernel
theorem dX10_init_14 : decode cX10_init 14 = .ok (.iconst 0, 1) := by decide +kernel
theorem dX10_init_15 : decode cX10_init 15 = .ok (.putfield 15, 3) := by decide +kernel
theorem dX10_init_18 : decode cX10_init 18 = .ok (.aload_n 0, 1) := by decide +kernel
theorem dX10_init_19 : decode cX10_init 19 = .ok (.bipush 8, 2) := by decide +kernel
theorem dX10_init_21 : decode cX10_init 21 = .ok (.anewarray 19, 3) := by decide +kernel
theorem dX10_init_24 : decode cX10_init 24 = .ok (.putfield 21, 3) := by decide +kernel
theorem dX10_init_27 : decode cX10_init 27 = .ok (.aload_n 0, 1) := by decide +kernel
theorem dX10_init_28 : decode cX10_init 28 = .ok (.iconst 0, 1) := by decide +kernel
theorem dX10_init_29 : decode cX10_init 29 = .ok (.putfield 25, 3) := by decide +kernel
theorem dX10_init_32 : decode cX10_init 32 = .ok (.aload_n 0, 1) := by decide +kernel
theorem dX10_init_33 : decode cX10_init 33 = .ok (.iconst (-1), 1) := by decide +kernel
theorem dX10_init_34 : decode cX10_init 34 = .ok (.putfield 28, 3) := by decide +kernel
theorem dX10_init_37 : decode cX10_init 37 = .ok (.aload_n 0, 1) := by decide +kernel
theorem dX10_init_38 : decode cX10_init 38 = .ok (.new 31, 3) := by decide +kernel
theorem dX10_init_41 : decode cX10_init 41 = .ok (.dup, 1) := by decide +kernel
theorem dX10_init_42 : decode cX10_init 42 = .ok (.invokespecial 33, 3) := by decide +kernel
theorem dX10_init_45 : decode cX10_init 45 = .ok (.putfield 34, 3) := by decide +kernel
theorem dX10_init_48 : decode cX10_init 48 = .ok (.aload_n 0, 1) := by decide +kernel
theorem dX10_init_49 : decode cX10_init 49 = .ok (.new 38, 3) := by decide +kernel
theorem dX10_init_52 : decode cX10_init 52 = .ok (.dup, 1) := by decide +kernel
theorem dX10_init_53 : decode cX10_init 53 = .ok (.invokespecial 40, 3) := by decide +kernel
theorem dX10_init_56 : decode cX10_init 56 = .ok (.putfield 41, 3) := by decide +kernel
theorem dX10_init_59 : decode cX10_init 59 = .ok (.aload_n 0, 1) := by decide +kernel
theorem dX10_init_60 : decode cX10_init 60 = .ok (.new 45, 3) := by decide +kernel
theorem dX10_init_63 : decode cX10_init 63 = .ok (.dup, 1) := by decide +kernel
theorem dX10_init_64 : decode cX10_init 64 = .ok (.invokespecial 47, 3) := by decide +kernel
theorem dX10_init_67 : decode cX10_init 67 = .ok (.putfield 48, 3) := by decide +kernel
theorem dX10_init_70 : decode cX10_init 70 = .ok (.aload_n 0, 1) := by decide +kernel
theorem dX10_init_71 : decode cX10_init 71 = .ok (.new 52, 3) := by decide +kernel
theorem dX10_init_74 : decode cX10_init 74 = .ok (.dup, 1) := by decide +kernel
theorem dX10_init_75 : decode cX10_init 75 = .ok (.invokespecial 54, 3) := by decide +kernel
theorem dX10_init_78 : decode cX10_init 78 = .ok (.putfield 55, 3) := by decide +kernel
theorem dX10_init_81 : decode cX10_init 81 = .ok (.aload_n 0, 1) := by decide +kernel
theorem dX10_init_82 : decode cX10_init 82 = .ok (.new 59, 3) := by decide +kernel
theorem dX10_init_85 : decode cX10_init 85 = .ok (.dup, 1) := by decide +kernel
theorem dX10_init_86 : decode cX10_init 86 = .ok (.invokespecial 61, 3) := by decide +kernel
theorem dX10_init_89 : decode cX10_init 89 = .ok (.putfield 62, 3) := by decide +kernel
theorem dX10_init_92 : decode cX10_init 92 = .ok (.aload_n 0, 1) := by decide +kernel
theorem dX10_init_93 : decode cX10_init 93 = .ok (.new 66, 3) := by decide +kernel
theorem dX10_init_96 : decode cX10_init 96 = .ok (.dup, 1) := by decide +kernel
theorem dX10_init_97 : decode cX10_init 97 = .ok (.invokespecial 68, 3) := by decide +kernel
theorem dX10_init_100 : decode cX10_init 100 = .ok (.putfield 69, 3) := by decide +kernel
theorem dX10_init_103 : decode cX10_init 103 = .ok (.aload_n 0, 1) := by decide +kernel
theorem dX10_init_104 : decode cX10_init 104 = .ok (.new 73, 3) := by decide +kernel
theorem dX10_init_107 : decode cX10_init 107 = .ok (.dup, 1) := by decide +kernel
theorem dX10_init_108 : decode cX10_init 108 = .ok (.invokespecial 75, 3) := by decide +kernel
theorem dX10_init_111 : decode cX10_init 111 = .ok (.putfield 76, 3) := by decide +kernel
theorem dX10_init_114 : decode cX10_init 114 = .ok (.aload_n 0, 1) := by decide +kernel
theorem dX10_init_115 : decode cX10_init 115 = .ok (.new 19, 3) := by decide +kernel
theorem dX10_init_118 : decode cX10_init 118 = .ok (.dup, 1) := by decide +kernel
theorem dX10_init_119 : decode cX10_init 119 = .ok (.invokespecial 80, 3) := by decide +kernel
theorem dX10_init_122 : decode cX10_init 122 = .ok (.putfield 81, 3) := by decide +kernel
theorem dX10_init_125 : decode cX10_init 125 = .ok (.aload_n 0, 1) := by decide +kernel
theorem dX10_init_126 : decode cX10_init 126 = .ok (.bipush 6, 2) := by decide +kernel
theorem dX10_init_128 : decode cX10_init 128 = .ok (.newarray .int, 2) := by decide +kernel
theorem dX10_init_130 : decode cX10_init 130 = .ok (.putfield 85, 3) := by decide +kernel
theorem dX10_init_133 : decode cX10_init 133 = .ok (.return_, 1) := by decide +kernel
theorem dX10_bridge_0 : decode cX10_bridge 0 = .ok (.iload_n 1, 1) := by decide +kernel
theorem dX10_bridge_1 : decode cX10_bridge 1 = .ok (.lload_n 2, 1) := by decide +kernel
theorem dX10_bridge_2 : decode cX10_bridge 2 = .ok (.lload 4, 2) := by decide +kernel
theorem dX10_bridge_4 : decode cX10_bridge 4 = .ok (.invokestatic 89, 3) := by decide +kernel
theorem dX10_bridge_7 : decode cX10_bridge 7 = .ok (.ifCond .ne 7, 3) := by decide +kernel
theorem dX10_bridge_10 : decode cX10_bridge 10 = .ok (.sipush (-1002), 3) := by decide +kernel
theorem dX10_bridge_13 : decode cX10_bridge 13 = .ok (.ireturn, 1) := by decide +kernel
theorem dX10_bridge_14 : decode cX10_bridge 14 = .ok (.lload_n 2, 1) := by decide +kernel
theorem dX10_bridge_15 : decode cX10_bridge 15 = .ok (.invokestatic 93, 3) := by decide +kernel
theorem dX10_bridge_18 : decode cX10_bridge 18 = .ok (.astore 6, 2) := by decide +kernel
theorem dX10_bridge_20 : decode cX10_bridge 20 = .ok (.lload 4, 2) := by decide +kernel
theorem dX10_bridge_22 : decode cX10_bridge 22 = .ok (.invokestatic 93, 3) := by decide +kernel
theorem dX10_bridge_25 : decode cX10_bridge 25 = .ok (.astore 7, 2) := by decide +kernel
theorem dX10_bridge_27 : decode cX10_bridge 27 = .ok (.aload_n 0, 1) := by decide +kernel
theorem dX10_bridge_28 : decode cX10_bridge 28 = .ok (.getfield 41, 3) := by decide +kernel
theorem dX10_bridge_31 : decode cX10_bridge 31 = .ok (.iload_n 1, 1) := by decide +kernel
theorem dX10_bridge_32 : decode cX10_bridge 32 = .ok (.aload 6, 2) := by decide +kernel
theorem dX10_bridge_34 : decode cX10_bridge 34 = .ok (.aload 7, 2) := by decide +kernel
theorem dX10_bridge_36 : decode cX10_bridge 36 = .ok (.invokevirtual 97, 3) := by decide +kernel
theorem dX10_bridge_39 : decode cX10_bridge 39 = .ok (.ifCond .ne 7, 3) := by decide +kernel
theorem dX10_bridge_42 : decode cX10_bridge 42 = .ok (.sipush (-1003), 3) := by decide +kernel
theorem dX10_bridge_45 : decode cX10_bridge 45 = .ok (.ireturn, 1) := by decide +kernel
theorem dX10_bridge_46 : decode cX10_bridge 46 = .ok (.aload_n 0, 1) := by decide +kernel
theorem dX10_bridge_47 : decode cX10_bridge 47 = .ok (.getfield 15, 3) := by decide +kernel
theorem dX10_bridge_50 : decode cX10_bridge 50 = .ok (.bipush 6, 2) := by decide +kernel
theorem dX10_bridge_52 : decode cX10_bridge 52 = .ok (.if_icmp .lt 7, 3) := by decide +kernel
theorem dX10_bridge_55 : decode cX10_bridge 55 = .ok (.sipush (-1004), 3) := by decide +kernel
theorem dX10_bridge_58 : decode cX10_bridge 58 = .ok (.ireturn, 1) := by decide +kernel
theorem dX10_bridge_59 : decode cX10_bridge 59 = .ok (.aload_n 0, 1) := by decide +kernel
theorem dX10_bridge_60 : decode cX10_bridge 60 = .ok (.getfield 11, 3) := by decide +kernel
theorem dX10_bridge_63 : decode cX10_bridge 63 = .ok (.aload_n 0, 1) := by decide +kernel
theorem dX10_bridge_64 : decode cX10_bridge 64 = .ok (.getfield 15, 3) := by decide +kernel
theorem dX10_bridge_67 : decode cX10_bridge 67 = .ok (.new 9, 3) := by decide +kernel
theorem dX10_bridge_70 : decode cX10_bridge 70 = .ok (.dup, 1) := by decide +kernel
theorem dX10_bridge_71 : decode cX10_bridge 71 = .ok (.iload_n 1, 1) := by decide +kernel
theorem dX10_bridge_72 : decode cX10_bridge 72 = .ok (.aload 6, 2) := by decide +kernel
theorem dX10_bridge_74 : decode cX10_bridge 74 = .ok (.aload 7, 2) := by decide +kernel
theorem dX10_bridge_76 : decode cX10_bridge 76 = .ok (.arraylength, 1) := by decide +kernel
theorem dX10_bridge_77 : decode cX10_bridge 77 = .ok (.aload_n 0, 1) := by decide +kernel
theorem dX10_bridge_78 : decode cX10_bridge 78 = .ok (.getfield 41, 3) := by decide +kernel
theorem dX10_bridge_81 : decode cX10_bridge 81 = .ok (.invokespecial 101, 3) := by decide +kernel
theorem dX10_bridge_84 : decode cX10_bridge 84 = .ok (.aastore, 1) := by decide +kernel
theorem dX10_bridge_85 : decode cX10_bridge 85 = .ok (.aload_n 0, 1) := by decide +kernel
theorem dX10_bridge_86 : decode cX10_bridge 86 = .ok (.dup, 1) := by decide +kernel
theorem dX10_bridge_87 : decode cX10_bridge 87 = .ok (.getfield 15, 3) := by decide +kernel
theorem dX10_bridge_90 : decode cX10_bridge 90 = .ok (.iconst 1, 1) := by decide +kernel
theorem dX10_bridge_91 : decode cX10_bridge 91 = .ok (.iadd, 1) := by decide +kernel
theorem dX10_bridge_92 : decode cX10_bridge 92 = .ok (.putfield 15, 3) := by decide +kernel
theorem dX10_bridge_95 : decode cX10_bridge 95 = .ok (.aload_n 0, 1) := by decide +kernel
theorem dX10_bridge_96 : decode cX10_bridge 96 = .ok (.getfield 15, 3) := by decide +kernel
theorem dX10_bridge_99 : decode cX10_bridge 99 = .ok (.iconst 1, 1) := by decide +kernel
theorem dX10_bridge_100 : decode cX10_bridge 100 = .ok (.isub, 1) := by decide +kernel
theorem dX10_bridge_101 : decode cX10_bridge 101 = .ok (.ireturn, 1) := by decide +kernel
theorem dX10_told_0 : decode cX10_told 0 = .ok (.aload_n 0, 1) := by decide +kernel
theorem dX10_told_1 : decode cX10_told 1 = .ok (.iload_n 1, 1) := by decide +kernel
theorem dX10_told_2 : decode cX10_told 2 = .ok (.invokevirtual 104, 3) := by decide +kernel
theorem dX10_told_5 : decode cX10_told 5 = .ok (.astore_n 3, 1) := by decide +kernel
theorem dX10_told_6 : decode cX10_told 6 = .ok (.aload_n 3, 1) := by decide +kernel
theorem dX10_told_7 : decode cX10_told 7 = .ok (.ifnonnull 7, 3) := by decide +kernel
theorem dX10_told_10 : decode cX10_told 10 = .ok (.sipush (-1001), 3) := by decide +kernel
theorem dX10_told_13 : decode cX10_told 13 = .ok (.ireturn, 1) := by decide +kernel
theorem dX10_told_14 : decode cX10_told 14 = .ok (.iload_n 2, 1) := by decide +kernel
theorem dX10_told_15 : decode cX10_told 15 = .ok (.tableswitch 83 0 6 #[41, 46, 52, 57, 62, 69, 76], 41) := by decide +kernel
theorem dX10_told_56 : decode cX10_told 56 = .ok (.aload_n 3, 1) := by decide +kernel
theorem dX10_told_57 : decode cX10_told 57 = .ok (.getfield 108, 3) := by decide +kernel
theorem dX10_told_60 : decode cX10_told 60 = .ok (.ireturn, 1) := by decide +kernel
theorem dX10_told_61 : decode cX10_told 61 = .ok (.aload_n 3, 1) := by decide +kernel
theorem dX10_told_62 : decode cX10_told 62 = .ok (.getfield 111, 3) := by decide +kernel
theorem dX10_told_65 : decode cX10_told 65 = .ok (.arraylength, 1) := by decide +kernel
theorem dX10_told_66 : decode cX10_told 66 = .ok (.ireturn, 1) := by decide +kernel
theorem dX10_told_67 : decode cX10_told 67 = .ok (.aload_n 3, 1) := by decide +kernel
theorem dX10_told_68 : decode cX10_told 68 = .ok (.getfield 114, 3) := by decide +kernel
theorem dX10_told_71 : decode cX10_told 71 = .ok (.ireturn, 1) := by decide +kernel
theorem dX10_told_72 : decode cX10_told 72 = .ok (.aload_n 3, 1) := by decide +kernel
theorem dX10_told_73 : decode cX10_told 73 = .ok (.getfield 117, 3) := by decide +kernel
theorem dX10_told_76 : decode cX10_told 76 = .ok (.ireturn, 1) := by decide +kernel
theorem dX10_told_77 : decode cX10_told 77 = .ok (.aload_n 3, 1) := by decide +kernel
theorem dX10_told_78 : decode cX10_told 78 = .ok (.getfield 120, 3) := by decide +kernel
theorem dX10_told_81 : decode cX10_told 81 = .ok (.iconst 0, 1) := by decide +kernel
theorem dX10_told_82 : decode cX10_told 82 = .ok (.iaload, 1) := by decide +kernel
theorem dX10_told_83 : decode cX10_told 83 = .ok (.ireturn, 1) := by decide +kernel
theorem dX10_told_84 : decode cX10_told 84 = .ok (.aload_n 3, 1) := by decide +kernel
theorem dX10_told_85 : decode cX10_told 85 = .ok (.getfield 120, 3) := by decide +kernel
theorem dX10_told_88 : decode cX10_told 88 = .ok (.iconst 1, 1) := by decide +kernel
theorem dX10_told_89 : decode cX10_told 89 = .ok (.iaload, 1) := by decide +kernel
theorem dX10_told_90 : decode cX10_told 90 = .ok (.ireturn, 1) := by decide +kernel
theorem dX10_told_91 : decode cX10_told 91 = .ok (.aload_n 3, 1) := by decide +kernel
theorem dX10_told_92 : decode cX10_told 92 = .ok (.getfield 120, 3) := by decide +kernel
theorem dX10_told_95 : decode cX10_told 95 = .ok (.iconst 2, 1) := by decide +kernel
theorem dX10_told_96 : decode cX10_told 96 = .ok (.iaload, 1) := by decide +kernel
theorem dX10_told_97 : decode cX10_told 97 = .ok (.ireturn, 1) := by decide +kernel
theorem dX10_told_98 : decode cX10_told 98 = .ok (.sipush (-1002), 3) := by decide +kernel
theorem dX10_told_101 : decode cX10_told 101 = .ok (.ireturn, 1) := by decide +kernel
theorem dX10_influence_0 : decode cX10_influence 0 = .ok (.aload_n 0, 1) := by decide +kernel
theorem dX10_influence_1 : decode cX10_influence 1 = .ok (.iload_n 1, 1) := by decide +kernel
theorem dX10_influence_2 : decode cX10_influence 2 = .ok (.invokevirtual 104, 3) := by decide +kernel
theorem dX10_influence_5 : decode cX10_influence 5 = .ok (.astore 6, 2) := by decide +kernel
theorem dX10_influence_7 : decode cX10_influence 7 = .ok (.aload 6, 2) := by decide +kernel
theorem dX10_influence_9 : decode cX10_influence 9 = .ok (.ifnull 13, 3) := by decide +kernel
theorem dX10_influence_12 : decode cX10_influence 12 = .ok (.aload 6, 2) := by decide +kernel
theorem dX10_influence_14 : decode cX10_influence 14 = .ok (.iload_n 2, 1) := by decide +kernel
theorem dX10_influence_15 : decode cX10_influence 15 = .ok (.iload_n 3, 1) := by decide +kernel
theorem dX10_influence_16 : decode cX10_influence 16 = .ok (.invokevirtual 123, 3) := by decide +kernel
theorem dX10_influence_19 : decode cX10_influence 19 = .ok (.ifCond .eq 7, 3) := by decide +kernel
theorem dX10_influence_22 : decode cX10_influence 22 = .ok (.ldc2_w 127, 3) := by decide +kernel
theorem dX10_influence_25 : decode cX10_influence 25 = .ok (.lreturn, 1) := by decide +kernel
theorem dX10_influence_26 : decode cX10_influence 26 = .ok (.aload 6, 2) := by decide +kernel
theorem dX10_influence_28 : decode cX10_influence 28 = .ok (.iload_n 2, 1) := by decide +kernel
theorem dX10_influence_29 : decode cX10_influence 29 = .ok (.iload_n 3, 1) := by decide +kernel
theorem dX10_influence_30 : decode cX10_influence 30 = .ok (.invokevirtual 129, 3) := by decide +kernel
theorem dX10_influence_33 : decode cX10_influence 33 = .ok (.ifCond .eq 27, 3) := by decide +kernel
theorem dX10_influence_36 : decode cX10_influence 36 = .ok (.iload 4, 2) := by decide +kernel
theorem dX10_influence_38 : decode cX10_influence 38 = .ok (.iconst 0, 1) := by decide +kernel
theorem dX10_influence_39 : decode cX10_influence 39 = .ok (.aload 6, 2) := by decide +kernel
theorem dX10_influence_41 : decode cX10_influence 41 = .ok (.getfield 108, 3) := by decide +kernel
theorem dX10_influence_44 : decode cX10_influence 44 = .ok (.invokestatic 132, 3) := by decide +kernel
theorem dX10_influence_47 : decode cX10_influence 47 = .ok (.ifCond .eq 13, 3) := by decide +kernel
theorem dX10_influence_50 : decode cX10_influence 50 = .ok (.iload 5, 2) := by decide +kernel
theorem dX10_influence_52 : decode cX10_influence 52 = .ok (.iconst 0, 1) := by decide +kernel
theorem dX10_influence_53 : decode cX10_influence 53 = .ok (.iconst 1, 1) := by decide +kernel
theorem dX10_influence_54 : decode cX10_influence 54 = .ok (.invokestatic 132, 3) := by decide +kernel
theorem dX10_influence_57 : decode cX10_influence 57 = .ok (.ifCond .ne 7, 3) := by decide +kernel
theorem dX10_influence_60 : decode cX10_influence 60 = .ok (.ldc2_w 136, 3) := by decide +kernel
theorem dX10_influence_63 : decode cX10_influence 63 = .ok (.lreturn, 1) := by decide +kernel
theorem dX10_influence_64 : decode cX10_influence 64 = .ok (.aload_n 0, 1) := by decide +kernel
theorem dX10_influence_65 : decode cX10_influence 65 = .ok (.getfield 48, 3) := by decide +kernel
theorem dX10_influence_68 : decode cX10_influence 68 = .ok (.aload 6, 2) := by decide +kernel
theorem dX10_influence_70 : decode cX10_influence 70 = .ok (.iload_n 2, 1) := by decide +kernel
theorem dX10_influence_71 : decode cX10_influence 71 = .ok (.iload_n 3, 1) := by decide +kernel
theorem dX10_influence_72 : decode cX10_influence 72 = .ok (.invokevirtual 138, 3) := by decide +kernel
theorem dX10_influence_75 : decode cX10_influence 75 = .ok (.aload_n 0, 1) := by decide +kernel
theorem dX10_influence_76 : decode cX10_influence 76 = .ok (.getfield 48, 3) := by decide +kernel
theorem dX10_influence_79 : decode cX10_influence 79 = .ok (.getfield 142, 3) := by decide +kernel
theorem dX10_influence_82 : decode cX10_influence 82 = .ok (.iload 4, 2) := by decide +kernel
theorem dX10_influence_84 : decode cX10_influence 84 = .ok (.laload, 1) := by decide +kernel
theorem dX10_influence_85 : decode cX10_influence 85 = .ok (.aload_n 0, 1) := by decide +kernel
theorem dX10_influence_86 : decode cX10_influence 86 = .ok (.getfield 48, 3) := by decide +kernel
theorem dX10_influence_89 : decode cX10_influence 89 = .ok (.getfield 146, 3) := by decide +kernel
theorem dX10_influence_92 : decode cX10_influence 92 = .ok (.iload 5, 2) := by decide +kernel
theorem dX10_influence_94 : decode cX10_influence 94 = .ok (.invokestatic 150, 3) := by decide +kernel
theorem dX10_influence_97 : decode cX10_influence 97 = .ok (.lreturn, 1) := by decide +kernel
theorem dX10_rule_0 : decode cX10_rule 0 = .ok (.aload_n 0, 1) := by decide +kernel
theorem dX10_rule_1 : decode cX10_rule 1 = .ok (.iload_n 1, 1) := by decide +kernel
theorem dX10_rule_2 : decode cX10_rule 2 = .ok (.invokevirtual 104, 3) := by decide +kernel
theorem dX10_rule_5 : decode cX10_rule 5 = .ok (.astore 4, 2) := by decide +kernel
theorem dX10_rule_7 : decode cX10_rule 7 = .ok (.aload 4, 2) := by decide +kernel
theorem dX10_rule_9 : decode cX10_rule 9 = .ok (.ifnonnull 7, 3) := by decide +kernel
theorem dX10_rule_12 : decode cX10_rule 12 = .ok (.sipush (-1001), 3) := by decide +kernel
theorem dX10_rule_15 : decode cX10_rule 15 = .ok (.ireturn, 1) := by decide +kernel
theorem dX10_rule_16 : decode cX10_rule 16 = .ok (.iload_n 2, 1) := by decide +kernel
theorem dX10_rule_17 : decode cX10_rule 17 = .ok (.iconst 0, 1) := by decide +kernel
theorem dX10_rule_18 : decode cX10_rule 18 = .ok (.iconst 2, 1) := by decide +kernel
theorem dX10_rule_19 : decode cX10_rule 19 = .ok (.invokestatic 132, 3) := by decide +kernel
theorem dX10_rule_22 : decode cX10_rule 22 = .ok (.ifCond .eq 20, 3) := by decide +kernel
theorem dX10_rule_25 : decode cX10_rule 25 = .ok (.iload_n 3, 1) := by decide +kernel
theorem dX10_rule_26 : decode cX10_rule 26 = .ok (.getstatic 154, 3) := by decide +kernel
theorem dX10_rule_29 : decode cX10_rule 29 = .ok (.iload_n 2, 1) := by decide +kernel
theorem dX10_rule_30 : decode cX10_rule 30 = .ok (.iaload, 1) := by decide +kernel
theorem dX10_rule_31 : decode cX10_rule 31 = .ok (.getstatic 157, 3) := by decide +kernel
theorem dX10_rule_34 : decode cX10_rule 34 = .ok (.iload_n 2, 1) := by decide +kernel
theorem dX10_rule_35 : decode cX10_rule 35 = .ok (.iaload, 1) := by decide +kernel
theorem dX10_rule_36 : decode cX10_rule 36 = .ok (.invokestatic 132, 3) := by decide +kernel
theorem dX10_rule_39 : decode cX10_rule 39 = .ok (.ifCond .ne 7, 3) := by decide +kernel
theorem dX10_rule_42 : decode cX10_rule 42 = .ok (.sipush (-1002), 3) := by decide +kernel
theorem dX10_rule_45 : decode cX10_rule 45 = .ok (.ireturn, 1) := by decide +kernel
theorem dX10_rule_46 : decode cX10_rule 46 = .ok (.aload 4, 2) := by decide +kernel
theorem dX10_rule_48 : decode cX10_rule 48 = .ok (.getfield 120, 3) := by decide +kernel
theorem dX10_rule_51 : decode cX10_rule 51 = .ok (.iload_n 2, 1) := by decide +kernel
theorem dX10_rule_52 : decode cX10_rule 52 = .ok (.iaload, 1) := by decide +kernel
theorem dX10_rule_53 : decode cX10_rule 53 = .ok (.istore 5, 2) := by decide +kernel
theorem dX10_rule_55 : decode cX10_rule 55 = .ok (.aload 4, 2) := by decide +kernel
theorem dX10_rule_57 : decode cX10_rule 57 = .ok (.getfield 120, 3) := by decide +kernel
theorem dX10_rule_60 : decode cX10_rule 60 = .ok (.iload_n 2, 1) := by decide +kernel
theorem dX10_rule_61 : decode cX10_rule 61 = .ok (.iload_n 3, 1) := by decide +kernel
theorem dX10_rule_62 : decode cX10_rule 62 = .ok (.iastore, 1) := by decide +kernel
theorem dX10_rule_63 : decode cX10_rule 63 = .ok (.iload 5, 2) := by decide +kernel
theorem dX10_rule_65 : decode cX10_rule 65 = .ok (.ireturn, 1) := by decide +kernel
theorem dX10_train_0 : decode cX10_train 0 = .ok (.iload_n 1, 1) := by decide +kernel
theorem dX10_train_1 : decode cX10_train 1 = .ok (.iconst 1, 1) := by decide +kernel
theorem dX10_train_2 : decode cX10_train 2 = .ok (.sipush 200, 3) := by decide +kernel
theorem dX10_train_5 : decode cX10_train 5 = .ok (.invokestatic 132, 3) := by decide +kernel
theorem dX10_train_8 : decode cX10_train 8 = .ok (.ifCond .ne 7, 3) := by decide +kernel
theorem dX10_train_11 : decode cX10_train 11 = .ok (.sipush (-1002), 3) := by decide +kernel
theorem dX10_train_14 : decode cX10_train 14 = .ok (.ireturn, 1) := by decide +kernel
theorem dX10_train_15 : decode cX10_train 15 = .ok (.aload_n 0, 1) := by decide +kernel
theorem dX10_train_16 : decode cX10_train 16 = .ok (.getfield 25, 3) := by decide +kernel
theorem dX10_train_19 : decode cX10_train 19 = .ok (.bipush 8, 2) := by decide +kernel
theorem dX10_train_21 : decode cX10_train 21 = .ok (.if_icmp .lt 7, 3) := by decide +kernel
theorem dX10_train_24 : decode cX10_train 24 = .ok (.sipush (-1004), 3) := by decide +kernel
theorem dX10_train_27 : decode cX10_train 27 = .ok (.ireturn, 1) := by decide +kernel
theorem dX10_train_28 : decode cX10_train 28 = .ok (.new 19, 3) := by decide +kernel
theorem dX10_train_31 : decode cX10_train 31 = .ok (.dup, 1) := by decide +kernel
theorem dX10_train_32 : decode cX10_train 32 = .ok (.invokespecial 80, 3) := by decide +kernel
theorem dX10_train_35 : decode cX10_train 35 = .ok (.astore_n 2, 1) := by decide +kernel
theorem dX10_train_36 : decode cX10_train 36 = .ok (.aload_n 2, 1) := by decide +kernel
theorem dX10_train_37 : decode cX10_train 37 = .ok (.iconst 0, 1) := by decide +kernel
theorem dX10_train_38 : decode cX10_train 38 = .ok (.iload_n 1, 1) := by decide +kernel
theorem dX10_train_39 : decode cX10_train 39 = .ok (.invokevirtual 160, 3) := by decide +kernel
theorem dX10_train_42 : decode cX10_train 42 = .ok (.pop, 1) := by decide +kernel
theorem dX10_train_43 : decode cX10_train 43 = .ok (.aload_n 0, 1) := by decide +kernel
theorem dX10_train_44 : decode cX10_train 44 = .ok (.getfield 21, 3) := by decide +kernel
theorem dX10_train_47 : decode cX10_train 47 = .ok (.aload_n 0, 1) := by decide +kernel
theorem dX10_train_48 : decode cX10_train 48 = .ok (.getfield 25, 3) := by decide +kernel
theorem dX10_train_51 : decode cX10_train 51 = .ok (.aload_n 2, 1) := by decide +kernel
theorem dX10_train_52 : decode cX10_train 52 = .ok (.aastore, 1) := by decide +kernel
theorem dX10_train_53 : decode cX10_train 53 = .ok (.aload_n 0, 1) := by decide +kernel
theorem dX10_train_54 : decode cX10_train 54 = .ok (.dup, 1) := by decide +kernel
theorem dX10_train_55 : decode cX10_train 55 = .ok (.getfield 25, 3) := by decide +kernel
theorem dX10_train_58 : decode cX10_train 58 = .ok (.iconst 1, 1) := by decide +kernel
theorem dX10_train_59 : decode cX10_train 59 = .ok (.iadd, 1) := by decide +kernel
theorem dX10_train_60 : decode cX10_train 60 = .ok (.putfield 25, 3) := by decide +kernel
theorem dX10_train_63 : decode cX10_train 63 = .ok (.aload_n 0, 1) := by decide +kernel
theorem dX10_train_64 : decode cX10_train 64 = .ok (.getfield 25, 3) := by decide +kernel
theorem dX10_train_67 : decode cX10_train 67 = .ok (.iconst 1, 1) := by decide +kernel
theorem dX10_train_68 : decode cX10_train 68 = .ok (.isub, 1) := by decide +kernel
theorem dX10_train_69 : decode cX10_train 69 = .ok (.ireturn, 1) := by decide +kernel
theorem dX10_axle_0 : decode cX10_axle 0 = .ok (.aload_n 0, 1) := by decide +kernel
theorem dX10_axle_1 : decode cX10_axle 1 = .ok (.iload_n 1, 1) := by decide +kernel
theorem dX10_axle_2 : decode cX10_axle 2 = .ok (.invokevirtual 163, 3) := by decide +kernel
theorem dX10_axle_5 : decode cX10_axle 5 = .ok (.astore 4, 2) := by decide +kernel
theorem dX10_axle_7 : decode cX10_axle 7 = .ok (.aload 4, 2) := by decide +kernel
theorem dX10_axle_9 : decode cX10_axle 9 = .ok (.ifnonnull 7, 3) := by decide +kernel
theorem dX10_axle_12 : decode cX10_axle 12 = .ok (.sipush (-1001), 3) := by decide +kernel
theorem dX10_axle_15 : decode cX10_axle 15 = .ok (.ireturn, 1) := by decide +kernel
theorem dX10_axle_16 : decode cX10_axle 16 = .ok (.iload_n 2, 1) := by decide +kernel
theorem dX10_axle_17 : decode cX10_axle 17 = .ok (.iconst 1, 1) := by decide +kernel
theorem dX10_axle_18 : decode cX10_axle 18 = .ok (.bipush 20, 2) := by decide +kernel
theorem dX10_axle_20 : decode cX10_axle 20 = .ok (.invokestatic 132, 3) := by decide +kernel
theorem dX10_axle_23 : decode cX10_axle 23 = .ok (.ifCond .eq 14, 3) := by decide +kernel
theorem dX10_axle_26 : decode cX10_axle 26 = .ok (.iload_n 3, 1) := by decide +kernel
theorem dX10_axle_27 : decode cX10_axle 27 = .ok (.iconst 1, 1) := by decide +kernel
theorem dX10_axle_28 : decode cX10_axle 28 = .ok (.sipush 200, 3) := by decide +kernel
theorem dX10_axle_31 : decode cX10_axle 31 = .ok (.invokestatic 132, 3) := by decide +kernel
theorem dX10_axle_34 : decode cX10_axle 34 = .ok (.ifCond .ne 7, 3) := by decide +kernel
theorem dX10_axle_37 : decode cX10_axle 37 = .ok (.sipush (-1002), 3) := by decide +kernel
theorem dX10_axle_40 : decode cX10_axle 40 = .ok (.ireturn, 1) := by decide +kernel
theorem dX10_axle_41 : decode cX10_axle 41 = .ok (.aload 4, 2) := by decide +kernel
theorem dX10_axle_43 : decode cX10_axle 43 = .ok (.iload_n 2, 1) := by decide +kernel
theorem dX10_axle_44 : decode cX10_axle 44 = .ok (.iload_n 3, 1) := by decide +kernel
theorem dX10_axle_45 : decode cX10_axle 45 = .ok (.invokevirtual 160, 3) := by decide +kernel
theorem dX10_axle_48 : decode cX10_axle 48 = .ok (.ifCond .ne 7, 3) := by decide +kernel
theorem dX10_axle_51 : decode cX10_axle 51 = .ok (.sipush (-1004), 3) := by decide +kernel
theorem dX10_axle_54 : decode cX10_axle 54 = .ok (.ireturn, 1) := by decide +kernel
theorem dX10_axle_55 : decode cX10_axle 55 = .ok (.aload 4, 2) := by decide +kernel
theorem dX10_axle_57 : decode cX10_axle 57 = .ok (.getfield 167, 3) := by decide +kernel
theorem dX10_axle_60 : decode cX10_axle 60 = .ok (.ireturn, 1) := by decide +kernel
theorem dX10_axles_0 : decode cX10_axles 0 = .ok (.aload_n 0, 1) := by decide +kernel
theorem dX10_axles_1 : decode cX10_axles 1 = .ok (.iload_n 1, 1) := by decide +kernel
theorem dX10_axles_2 : decode cX10_axles 2 = .ok (.invokevirtual 163, 3) := by decide +kernel
theorem dX10_axles_5 : decode cX10_axles 5 = .ok (.astore 4, 2) := by decide +kernel
theorem dX10_axles_7 : decode cX10_axles 7 = .ok (.aload 4, 2) := by decide +kernel
theorem dX10_axles_9 : decode cX10_axles 9 = .ok (.ifnonnull 7, 3) := by decide +kernel
theorem dX10_axles_12 : decode cX10_axles 12 = .ok (.sipush (-1001), 3) := by decide +kernel
theorem dX10_axles_15 : decode cX10_axles 15 = .ok (.ireturn, 1) := by decide +kernel
theorem dX10_axles_16 : decode cX10_axles 16 = .ok (.iload_n 3, 1) := by decide +kernel
theorem dX10_axles_17 : decode cX10_axles 17 = .ok (.iconst 0, 1) := by decide +kernel
theorem dX10_axles_18 : decode cX10_axles 18 = .ok (.iconst 1, 1) := by decide +kernel
theorem dX10_axles_19 : decode cX10_axles 19 = .ok (.invokestatic 132, 3) := by decide +kernel
theorem dX10_axles_22 : decode cX10_axles 22 = .ok (.ifCond .ne 7, 3) := by decide +kernel
theorem dX10_axles_25 : decode cX10_axles 25 = .ok (.sipush (-1002), 3) := by decide +kernel
theorem dX10_axles_28 : decode cX10_axles 28 = .ok (.ireturn, 1) := by decide +kernel
theorem dX10_axles_29 : decode cX10_axles 29 = .ok (.iload_n 2, 1) := by decide +kernel
theorem dX10_axles_30 : decode cX10_axles 30 = .ok (.iconst (-1), 1) := by decide +kernel
theorem dX10_axles_31 : decode cX10_axles 31 = .ok (.if_icmp .ne 21, 3) := by decide +kernel
theorem dX10_axles_34 : decode cX10_axles 34 = .ok (.iload_n 3, 1) := by decide +kernel
theorem dX10_axles_35 : decode cX10_axles 35 = .ok (.ifCond .ne 11, 3) := by decide +kernel
theorem dX10_axles_38 : decode cX10_axles 38 = .ok (.aload 4, 2) := by decide +kernel
theorem dX10_axles_40 : decode cX10_axles 40 = .ok (.getfield 167, 3) := by decide +kernel
theorem dX10_axles_43 : decode cX10_axles 43 = .ok (.goto 8, 3) := by decide +kernel
theorem dX10_axles_46 : decode cX10_axles 46 = .ok (.aload 4, 2) := by decide +kernel
theorem dX10_axles_48 : decode cX10_axles 48 = .ok (.invokevirtual 170, 3) := by decide +kernel
theorem dX10_axles_51 : decode cX10_axles 51 = .ok (.ireturn, 1) := by decide +kernel
theorem dX10_axles_52 : decode cX10_axles 52 = .ok (.iload_n 2, 1) := by decide +kernel
theorem dX10_axles_53 : decode cX10_axles 53 = .ok (.iconst 0, 1) := by decide +kernel
theorem dX10_axles_54 : decode cX10_axles 54 = .ok (.aload 4, 2) := by decide +kernel
theorem dX10_axles_56 : decode cX10_axles 56 = .ok (.getfield 167, 3) := by decide +kernel
theorem dX10_axles_59 : decode cX10_axles 59 = .ok (.iconst 1, 1) := by decide +kernel
theorem dX10_axles_60 : decode cX10_axles 60 = .ok (.isub, 1) := by decide +kernel
theorem dX10_axles_61 : decode cX10_axles 61 = .ok (.invokestatic 132, 3) := by decide +kernel
theorem dX10_axles_64 : decode cX10_axles 64 = .ok (.ifCond .ne 5, 3) := by decide +kernel
theorem dX10_axles_67 : decode cX10_axles 67 = .ok (.iconst (-1), 1) := by decide +kernel
theorem dX10_axles_68 : decode cX10_axles 68 = .ok (.ireturn, 1) := by decide +kernel
theorem dX10_axles_69 : decode cX10_axles 69 = .ok (.iload_n 3, 1) := by decide +kernel
theorem dX10_axles_70 : decode cX10_axles 70 = .ok (.ifCond .ne 13, 3) := by decide +kernel
theorem dX10_axles_73 : decode cX10_axles 73 = .ok (.aload 4, 2) := by decide +kernel
theorem dX10_axles_75 : decode cX10_axles 75 = .ok (.getfield 174, 3) := by decide +kernel
theorem dX10_axles_78 : decode cX10_axles 78 = .ok (.iload_n 2, 1) := by decide +kernel
theorem dX10_axles_79 : decode cX10_axles 79 = .ok (.iaload, 1) := by decide +kernel
theorem dX10_axles_80 : decode cX10_axles 80 = .ok (.goto 10, 3) := by decide +kernel
theorem dX10_axles_83 : decode cX10_axles 83 = .ok (.aload 4, 2) := by decide +kernel
theorem dX10_axles_85 : decode cX10_axles 85 = .ok (.getfield 177, 3) := by decide +kernel
theorem dX10_axles_88 : decode cX10_axles 88 = .ok (.iload_n 2, 1) := by decide +kernel
theorem dX10_axles_89 : decode cX10_axles 89 = .ok (.iaload, 1) := by decide +kernel
theorem dX10_axles_90 : decode cX10_axles 90 = .ok (.ireturn, 1) := by decide +kernel
theorem dX10_effect_0 : decode cX10_effect 0 = .ok (.aload_n 0, 1) := by decide +kernel
theorem dX10_effect_1 : decode cX10_effect 1 = .ok (.iload_n 1, 1) := by decide +kernel
theorem dX10_effect_2 : decode cX10_effect 2 = .ok (.invokevirtual 104, 3) := by decide +kernel
theorem dX10_effect_5 : decode cX10_effect 5 = .ok (.astore 8, 2) := by decide +kernel
theorem dX10_effect_7 : decode cX10_effect 7 = .ok (.aload_n 0, 1) := by decide +kernel
theorem dX10_effect_8 : decode cX10_effect 8 = .ok (.iload 4, 2) := by decide +kernel
theorem dX10_effect_10 : decode cX10_effect 10 = .ok (.invokevirtual 163, 3) := by decide +kernel
theorem dX10_effect_13 : decode cX10_effect 13 = .ok (.astore 9, 2) := by decide +kernel
theorem dX10_effect_15 : decode cX10_effect 15 = .ok (.aload 8, 2) := by decide +kernel
theorem dX10_effect_17 : decode cX10_effect 17 = .ok (.ifnull 18, 3) := by decide +kernel
theorem dX10_effect_20 : decode cX10_effect 20 = .ok (.aload 8, 2) := by decide +kernel
theorem dX10_effect_22 : decode cX10_effect 22 = .ok (.iload_n 2, 1) := by decide +kernel
theorem dX10_effect_23 : decode cX10_effect 23 = .ok (.iload_n 3, 1) := by decide +kernel
theorem dX10_effect_24 : decode cX10_effect 24 = .ok (.invokevirtual 123, 3) := by decide +kernel
theorem dX10_effect_27 : decode cX10_effect 27 = .ok (.ifCond .ne 8, 3) := by decide +kernel
theorem dX10_effect_30 : decode cX10_effect 30 = .ok (.aload 9, 2) := by decide +kernel
theorem dX10_effect_32 : decode cX10_effect 32 = .ok (.ifnonnull 7, 3) := by decide +kernel
theorem dX10_effect_35 : decode cX10_effect 35 = .ok (.ldc2_w 127, 3) := by decide +kernel
theorem dX10_effect_38 : decode cX10_effect 38 = .ok (.lreturn, 1) := by decide +kernel
theorem dX10_effect_39 : decode cX10_effect 39 = .ok (.aload 8, 2) := by decide +kernel
theorem dX10_effect_41 : decode cX10_effect 41 = .ok (.iload_n 2, 1) := by decide +kernel
theorem dX10_effect_42 : decode cX10_effect 42 = .ok (.iload_n 3, 1) := by decide +kernel
theorem dX10_effect_43 : decode cX10_effect 43 = .ok (.invokevirtual 129, 3) := by decide +kernel
theorem dX10_effect_46 : decode cX10_effect 46 = .ok (.ifCond .eq 43, 3) := by decide +kernel
theorem dX10_effect_49 : decode cX10_effect 49 = .ok (.iload 5, 2) := by decide +kernel
theorem dX10_effect_51 : decode cX10_effect 51 = .ok (.iconst 0, 1) := by decide +kernel
theorem dX10_effect_52 : decode cX10_effect 52 = .ok (.iconst 1, 1) := by decide +kernel
theorem dX10_effect_53 : decode cX10_effect 53 = .ok (.invokestatic 132, 3) := by decide +kernel
theorem dX10_effect_56 : decode cX10_effect 56 = .ok (.ifCond .eq 33, 3) := by decide +kernel
theorem dX10_effect_59 : decode cX10_effect 59 = .ok (.iload 6, 2) := by decide +kernel
theorem dX10_effect_61 : decode cX10_effect 61 = .ok (.iconst 0, 1) := by decide +kernel
theorem dX10_effect_62 : decode cX10_effect 62 = .ok (.aload 8, 2) := by decide +kernel
theorem dX10_effect_64 : decode cX10_effect 64 = .ok (.getfield 108, 3) := by decide +kernel
theorem dX10_effect_67 : decode cX10_effect 67 = .ok (.aload 9, 2) := by decide +kernel
theorem dX10_effect_69 : decode cX10_effect 69 = .ok (.invokevirtual 170, 3) := by decide +kernel
theorem dX10_effect_72 : decode cX10_effect 72 = .ok (.iadd, 1) := by decide +kernel
theorem dX10_effect_73 : decode cX10_effect 73 = .ok (.invokestatic 132, 3) := by decide +kernel
theorem dX10_effect_76 : decode cX10_effect 76 = .ok (.ifCond .eq 13, 3) := by decide +kernel
theorem dX10_effect_79 : decode cX10_effect 79 = .ok (.iload 7, 2) := by decide +kernel
theorem dX10_effect_81 : decode cX10_effect 81 = .ok (.iconst 0, 1) := by decide +kernel
theorem dX10_effect_82 : decode cX10_effect 82 = .ok (.iconst 1, 1) := by decide +kernel
theorem dX10_effect_83 : decode cX10_effect 83 = .ok (.invokestatic 132, 3) := by decide +kernel
theorem dX10_effect_86 : decode cX10_effect 86 = .ok (.ifCond .ne 7, 3) := by decide +kernel
theorem dX10_effect_89 : decode cX10_effect 89 = .ok (.ldc2_w 136, 3) := by decide +kernel
theorem dX10_effect_92 : decode cX10_effect 92 = .ok (.lreturn, 1) := by decide +kernel
theorem dX10_effect_93 : decode cX10_effect 93 = .ok (.aload_n 0, 1) := by decide +kernel
theorem dX10_effect_94 : decode cX10_effect 94 = .ok (.getfield 48, 3) := by decide +kernel
theorem dX10_effect_97 : decode cX10_effect 97 = .ok (.aload 8, 2) := by decide +kernel
theorem dX10_effect_99 : decode cX10_effect 99 = .ok (.iload_n 2, 1) := by decide +kernel
theorem dX10_effect_100 : decode cX10_effect 100 = .ok (.iload_n 3, 1) := by decide +kernel
theorem dX10_effect_101 : decode cX10_effect 101 = .ok (.invokevirtual 138, 3) := by decide +kernel
theorem dX10_effect_104 : decode cX10_effect 104 = .ok (.aload_n 0, 1) := by decide +kernel
theorem dX10_effect_105 : decode cX10_effect 105 = .ok (.getfield 48, 3) := by decide +kernel
theorem dX10_effect_108 : decode cX10_effect 108 = .ok (.aload 9, 2) := by decide +kernel
theorem dX10_effect_110 : decode cX10_effect 110 = .ok (.iload 5, 2) := by decide +kernel
theorem dX10_effect_112 : decode cX10_effect 112 = .ok (.iload 6, 2) := by decide +kernel
theorem dX10_effect_114 : decode cX10_effect 114 = .ok (.invokevirtual 180, 3) := by decide +kernel
theorem dX10_effect_117 : decode cX10_effect 117 = .ok (.aload_n 0, 1) := by decide +kernel
theorem dX10_effect_118 : decode cX10_effect 118 = .ok (.getfield 48, 3) := by decide +kernel
theorem dX10_effect_121 : decode cX10_effect 121 = .ok (.getfield 146, 3) := by decide +kernel
theorem dX10_effect_124 : decode cX10_effect 124 = .ok (.iload 7, 2) := by decide +kernel
theorem dX10_effect_126 : decode cX10_effect 126 = .ok (.invokestatic 150, 3) := by decide +kernel
theorem dX10_effect_129 : decode cX10_effect 129 = .ok (.lreturn, 1) := by decide +kernel
theorem dX10_worst_0 : decode cX10_worst 0 = .ok (.aload_n 0, 1) := by decide +kernel
theorem dX10_worst_1 : decode cX10_worst 1 = .ok (.iload_n 1, 1) := by decide +kernel
theorem dX10_worst_2 : decode cX10_worst 2 = .ok (.invokevirtual 104, 3) := by decide +kernel
theorem dX10_worst_5 : decode cX10_worst 5 = .ok (.astore 7, 2) := by decide +kernel
theorem dX10_worst_7 : decode cX10_worst 7 = .ok (.aload_n 0, 1) := by decide +kernel
theorem dX10_worst_8 : decode cX10_worst 8 = .ok (.iload 4, 2) := by decide +kernel
theorem dX10_worst_10 : decode cX10_worst 10 = .ok (.invokevirtual 163, 3) := by decide +kernel
theorem dX10_worst_13 : decode cX10_worst 13 = .ok (.astore 8, 2) := by decide +kernel
theorem dX10_worst_15 : decode cX10_worst 15 = .ok (.aload 7, 2) := by decide +kernel
theorem dX10_worst_17 : decode cX10_worst 17 = .ok (.ifnull 18, 3) := by decide +kernel
theorem dX10_worst_20 : decode cX10_worst 20 = .ok (.aload 7, 2) := by decide +kernel
theorem dX10_worst_22 : decode cX10_worst 22 = .ok (.iload_n 2, 1) := by decide +kernel
theorem dX10_worst_23 : decode cX10_worst 23 = .ok (.iload_n 3, 1) := by decide +kernel
theorem dX10_worst_24 : decode cX10_worst 24 = .ok (.invokevirtual 123, 3) := by decide +kernel
theorem dX10_worst_27 : decode cX10_worst 27 = .ok (.ifCond .ne 8, 3) := by decide +kernel
theorem dX10_worst_30 : decode cX10_worst 30 = .ok (.aload 8, 2) := by decide +kernel
theorem dX10_worst_32 : decode cX10_worst 32 = .ok (.ifnonnull 7, 3) := by decide +kernel
theorem dX10_worst_35 : decode cX10_worst 35 = .ok (.ldc2_w 127, 3) := by decide +kernel
theorem dX10_worst_38 : decode cX10_worst 38 = .ok (.lreturn, 1) := by decide +kernel
theorem dX10_worst_39 : decode cX10_worst 39 = .ok (.aload 7, 2) := by decide +kernel
theorem dX10_worst_41 : decode cX10_worst 41 = .ok (.iload_n 2, 1) := by decide +kernel
theorem dX10_worst_42 : decode cX10_worst 42 = .ok (.iload_n 3, 1) := by decide +kernel
theorem dX10_worst_43 : decode cX10_worst 43 = .ok (.invokevirtual 129, 3) := by decide +kernel
theorem dX10_worst_46 : decode cX10_worst 46 = .ok (.ifCond .eq 23, 3) := by decide +kernel
theorem dX10_worst_49 : decode cX10_worst 49 = .ok (.iload 5, 2) := by decide +kernel
theorem dX10_worst_51 : decode cX10_worst 51 = .ok (.iconst 0, 1) := by decide +kernel
theorem dX10_worst_52 : decode cX10_worst 52 = .ok (.iconst 1, 1) := by decide +kernel
theorem dX10_worst_53 : decode cX10_worst 53 = .ok (.invokestatic 132, 3) := by decide +kernel
theorem dX10_worst_56 : decode cX10_worst 56 = .ok (.ifCond .eq 13, 3) := by decide +kernel
theorem dX10_worst_59 : decode cX10_worst 59 = .ok (.iload 6, 2) := by decide +kernel
theorem dX10_worst_61 : decode cX10_worst 61 = .ok (.iconst 0, 1) := by decide +kernel
theorem dX10_worst_62 : decode cX10_worst 62 = .ok (.iconst 3, 1) := by decide +kernel
theorem dX10_worst_63 : decode cX10_worst 63 = .ok (.invokestatic 132, 3) := by decide +kernel
theorem dX10_worst_66 : decode cX10_worst 66 = .ok (.ifCond .ne 7, 3) := by decide +kernel
theorem dX10_worst_69 : decode cX10_worst 69 = .ok (.ldc2_w 136, 3) := by decide +kernel
theorem dX10_worst_72 : decode cX10_worst 72 = .ok (.lreturn, 1) := by decide +kernel
theorem dX10_worst_73 : decode cX10_worst 73 = .ok (.aload_n 0, 1) := by decide +kernel
theorem dX10_worst_74 : decode cX10_worst 74 = .ok (.getfield 48, 3) := by decide +kernel
theorem dX10_worst_77 : decode cX10_worst 77 = .ok (.aload 7, 2) := by decide +kernel
theorem dX10_worst_79 : decode cX10_worst 79 = .ok (.iload_n 2, 1) := by decide +kernel
theorem dX10_worst_80 : decode cX10_worst 80 = .ok (.iload_n 3, 1) := by decide +kernel
theorem dX10_worst_81 : decode cX10_worst 81 = .ok (.invokevirtual 138, 3) := by decide +kernel
theorem dX10_worst_84 : decode cX10_worst 84 = .ok (.aload_n 0, 1) := by decide +kernel
theorem dX10_worst_85 : decode cX10_worst 85 = .ok (.getfield 62, 3) := by decide +kernel
theorem dX10_worst_88 : decode cX10_worst 88 = .ok (.aload_n 0, 1) := by decide +kernel
theorem dX10_worst_89 : decode cX10_worst 89 = .ok (.getfield 48, 3) := by decide +kernel
theorem dX10_worst_92 : decode cX10_worst 92 = .ok (.aload 8, 2) := by decide +kernel
theorem dX10_worst_94 : decode cX10_worst 94 = .ok (.aload_n 0, 1) := by decide +kernel
theorem dX10_worst_95 : decode cX10_worst 95 = .ok (.getfield 55, 3) := by decide +kernel
theorem dX10_worst_98 : decode cX10_worst 98 = .ok (.invokevirtual 184, 3) := by decide +kernel
theorem dX10_worst_101 : decode cX10_worst 101 = .ok (.iload 6, 2) := by decide +kernel
theorem dX10_worst_103 : decode cX10_worst 103 = .ok (.iconst 2, 1) := by decide +kernel
theorem dX10_worst_104 : decode cX10_worst 104 = .ok (.if_icmp .ne 15, 3) := by decide +kernel
theorem dX10_worst_107 : decode cX10_worst 107 = .ok (.aload_n 0, 1) := by decide +kernel
theorem dX10_worst_108 : decode cX10_worst 108 = .ok (.getfield 62, 3) := by decide +kernel
theorem dX10_worst_111 : decode cX10_worst 111 = .ok (.getfield 188, 3) := by decide +kernel
theorem dX10_worst_114 : decode cX10_worst 114 = .ok (.iload 5, 2) := by decide +kernel
theorem dX10_worst_116 : decode cX10_worst 116 = .ok (.iaload, 1) := by decide +kernel
theorem dX10_worst_117 : decode cX10_worst 117 = .ok (.i2l, 1) := by decide +kernel
theorem dX10_worst_118 : decode cX10_worst 118 = .ok (.lreturn, 1) := by decide +kernel
theorem dX10_worst_119 : decode cX10_worst 119 = .ok (.iload 6, 2) := by decide +kernel
theorem dX10_worst_121 : decode cX10_worst 121 = .ok (.iconst 3, 1) := by decide +kernel
theorem dX10_worst_122 : decode cX10_worst 122 = .ok (.if_icmp .ne 15, 3) := by decide +kernel
theorem dX10_worst_125 : decode cX10_worst 125 = .ok (.aload_n 0, 1) := by decide +kernel
theorem dX10_worst_126 : decode cX10_worst 126 = .ok (.getfield 62, 3) := by decide +kernel
theorem dX10_worst_129 : decode cX10_worst 129 = .ok (.getfield 191, 3) := by decide +kernel
theorem dX10_worst_132 : decode cX10_worst 132 = .ok (.iload 5, 2) := by decide +kernel
theorem dX10_worst_134 : decode cX10_worst 134 = .ok (.iaload, 1) := by decide +kernel
theorem dX10_worst_135 : decode cX10_worst 135 = .ok (.i2l, 1) := by decide +kernel
theorem dX10_worst_136 : decode cX10_worst 136 = .ok (.lreturn, 1) := by decide +kernel
theorem dX10_worst_137 : decode cX10_worst 137 = .ok (.aload_n 0, 1) := by decide +kernel
theorem dX10_worst_138 : decode cX10_worst 138 = .ok (.getfield 62, 3) := by decide +kernel
theorem dX10_worst_141 : decode cX10_worst 141 = .ok (.getfield 194, 3) := by decide +kernel
theorem dX10_worst_144 : decode cX10_worst 144 = .ok (.iload 5, 2) := by decide +kernel
theorem dX10_worst_146 : decode cX10_worst 146 = .ok (.laload, 1) := by decide +kernel
theorem dX10_worst_147 : decode cX10_worst 147 = .ok (.aload_n 0, 1) := by decide +kernel
theorem dX10_worst_148 : decode cX10_worst 148 = .ok (.getfield 48, 3) := by decide +kernel
theorem dX10_worst_151 : decode cX10_worst 151 = .ok (.getfield 146, 3) := by decide +kernel
theorem dX10_worst_154 : decode cX10_worst 154 = .ok (.iload 6, 2) := by decide +kernel
theorem dX10_worst_156 : decode cX10_worst 156 = .ok (.invokestatic 150, 3) := by decide +kernel
theorem dX10_worst_159 : decode cX10_worst 159 = .ok (.lreturn, 1) := by decide +kernel
theorem dX10_check_0 : decode cX10_check 0 = .ok (.aload_n 0, 1) := by decide +kernel
theorem dX10_check_1 : decode cX10_check 1 = .ok (.iload_n 1, 1) := by decide +kernel
theorem dX10_check_2 : decode cX10_check 2 = .ok (.invokevirtual 104, 3) := by decide +kernel
theorem dX10_check_5 : decode cX10_check 5 = .ok (.astore 6, 2) := by decide +kernel
theorem dX10_check_7 : decode cX10_check 7 = .ok (.aload 6, 2) := by decide +kernel
theorem dX10_check_9 : decode cX10_check 9 = .ok (.ifnull 13, 3) := by decide +kernel
theorem dX10_check_12 : decode cX10_check 12 = .ok (.aload 6, 2) := by decide +kernel
theorem dX10_check_14 : decode cX10_check 14 = .ok (.iload_n 2, 1) := by decide +kernel
theorem dX10_check_15 : decode cX10_check 15 = .ok (.iload_n 3, 1) := by decide +kernel
theorem dX10_check_16 : decode cX10_check 16 = .ok (.invokevirtual 123, 3) := by decide +kernel
theorem dX10_check_19 : decode cX10_check 19 = .ok (.ifCond .eq 7, 3) := by decide +kernel
theorem dX10_check_22 : decode cX10_check 22 = .ok (.sipush (-1001), 3) := by decide +kernel
theorem dX10_check_25 : decode cX10_check 25 = .ok (.ireturn, 1) := by decide +kernel
theorem dX10_check_26 : decode cX10_check 26 = .ok (.aload 6, 2) := by decide +kernel
theorem dX10_check_28 : decode cX10_check 28 = .ok (.iload_n 2, 1) := by decide +kernel
theorem dX10_check_29 : decode cX10_check 29 = .ok (.iload_n 3, 1) := by decide +kernel
theorem dX10_check_30 : decode cX10_check 30 = .ok (.invokevirtual 129, 3) := by decide +kernel
theorem dX10_check_33 : decode cX10_check 33 = .ok (.ifCond .eq 13, 3) := by decide +kernel
theorem dX10_check_36 : decode cX10_check 36 = .ok (.iload 4, 2) := by decide +kernel
theorem dX10_check_38 : decode cX10_check 38 = .ok (.iload 5, 2) := by decide +kernel
theorem dX10_check_40 : decode cX10_check 40 = .ok (.invokestatic 195, 3) := by decide +kernel
theorem dX10_check_43 : decode cX10_check 43 = .ok (.ifCond .ne 7, 3) := by decide +kernel
theorem dX10_check_46 : decode cX10_check 46 = .ok (.sipush (-1002), 3) := by decide +kernel
theorem dX10_check_49 : decode cX10_check 49 = .ok (.ireturn, 1) := by decide +kernel
theorem dX10_check_50 : decode cX10_check 50 = .ok (.aload 6, 2) := by decide +kernel
theorem dX10_check_52 : decode cX10_check 52 = .ok (.getfield 117, 3) := by decide +kernel
theorem dX10_check_55 : decode cX10_check 55 = .ok (.iconst 5, 1) := by decide +kernel
theorem dX10_check_56 : decode cX10_check 56 = .ok (.if_icmp .lt 7, 3) := by decide +kernel
theorem dX10_check_59 : decode cX10_check 59 = .ok (.sipush (-1004), 3) := by decide +kernel
theorem dX10_check_62 : decode cX10_check 62 = .ok (.ireturn, 1) := by decide +kernel
theorem dX10_check_63 : decode cX10_check 63 = .ok (.new 198, 3) := by decide +kernel
theorem dX10_check_66 : decode cX10_check 66 = .ok (.dup, 1) := by decide +kernel
theorem dX10_check_67 : decode cX10_check 67 = .ok (.iload 4, 2) := by decide +kernel
theorem dX10_check_69 : decode cX10_check 69 = .ok (.iload 5, 2) := by decide +kernel
theorem dX10_check_71 : decode cX10_check 71 = .ok (.invokespecial 200, 3) := by decide +kernel
theorem dX10_check_74 : decode cX10_check 74 = .ok (.astore 7, 2) := by decide +kernel
theorem dX10_check_76 : decode cX10_check 76 = .ok (.aload 7, 2) := by decide +kernel
theorem dX10_check_78 : decode cX10_check 78 = .ok (.getfield 203, 3) := by decide +kernel
theorem dX10_check_81 : decode cX10_check 81 = .ok (.aload 6, 2) := by decide +kernel
theorem dX10_check_83 : decode cX10_check 83 = .ok (.iload_n 2, 1) := by decide +kernel
theorem dX10_check_84 : decode cX10_check 84 = .ok (.iload_n 3, 1) := by decide +kernel
theorem dX10_check_85 : decode cX10_check 85 = .ok (.invokevirtual 138, 3) := by decide +kernel
theorem dX10_check_88 : decode cX10_check 88 = .ok (.aload 6, 2) := by decide +kernel
theorem dX10_check_90 : decode cX10_check 90 = .ok (.getfield 204, 3) := by decide +kernel
theorem dX10_check_93 : decode cX10_check 93 = .ok (.aload 6, 2) := by decide +kernel
theorem dX10_check_95 : decode cX10_check 95 = .ok (.getfield 117, 3) := by decide +kernel
theorem dX10_check_98 : decode cX10_check 98 = .ok (.aload 7, 2) := by decide +kernel
theorem dX10_check_100 : decode cX10_check 100 = .ok (.aastore, 1) := by decide +kernel
theorem dX10_check_101 : decode cX10_check 101 = .ok (.aload 6, 2) := by decide +kernel
theorem dX10_check_103 : decode cX10_check 103 = .ok (.dup, 1) := by decide +kernel
theorem dX10_check_104 : decode cX10_check 104 = .ok (.getfield 117, 3) := by decide +kernel
theorem dX10_check_107 : decode cX10_check 107 = .ok (.iconst 1, 1) := by decide +kernel
theorem dX10_check_108 : decode cX10_check 108 = .ok (.iadd, 1) := by decide +kernel
theorem dX10_check_109 : decode cX10_check 109 = .ok (.putfield 117, 3) := by decide +kernel
theorem dX10_check_112 : decode cX10_check 112 = .ok (.aload 6, 2) := by decide +kernel
theorem dX10_check_114 : decode cX10_check 114 = .ok (.getfield 117, 3) := by decide +kernel
theorem dX10_check_117 : decode cX10_check 117 = .ok (.iconst 1, 1) := by decide +kernel
theorem dX10_check_118 : decode cX10_check 118 = .ok (.isub, 1) := by decide +kernel
theorem dX10_check_119 : decode cX10_check 119 = .ok (.ireturn, 1) := by decide +kernel
theorem dX10_limit_0 : decode cX10_limit 0 = .ok (.aload_n 0, 1) := by decide +kernel
theorem dX10_limit_1 : decode cX10_limit 1 = .ok (.iload_n 1, 1) := by decide +kernel
theorem dX10_limit_2 : decode cX10_limit 2 = .ok (.invokevirtual 104, 3) := by decide +kernel
theorem dX10_limit_5 : decode cX10_limit 5 = .ok (.astore 5, 2) := by decide +kernel
theorem dX10_limit_7 : decode cX10_limit 7 = .ok (.aload 5, 2) := by decide +kernel
theorem dX10_limit_9 : decode cX10_limit 9 = .ok (.ifnonnull 7, 3) := by decide +kernel
theorem dX10_limit_12 : decode cX10_limit 12 = .ok (.aconst_null, 1) := by decide +kernel
theorem dX10_limit_13 : decode cX10_limit 13 = .ok (.goto 9, 3) := by decide +kernel
theorem dX10_limit_16 : decode cX10_limit 16 = .ok (.aload 5, 2) := by decide +kernel
theorem dX10_limit_18 : decode cX10_limit 18 = .ok (.iload_n 2, 1) := by decide +kernel
theorem dX10_limit_19 : decode cX10_limit 19 = .ok (.invokevirtual 208, 3) := by decide +kernel
theorem dX10_limit_22 : decode cX10_limit 22 = .ok (.astore 6, 2) := by decide +kernel
theorem dX10_limit_24 : decode cX10_limit 24 = .ok (.aload 6, 2) := by decide +kernel
theorem dX10_limit_26 : decode cX10_limit 26 = .ok (.ifnonnull 7, 3) := by decide +kernel
theorem dX10_limit_29 : decode cX10_limit 29 = .ok (.sipush (-1001), 3) := by decide +kernel
theorem dX10_limit_32 : decode cX10_limit 32 = .ok (.ireturn, 1) := by decide +kernel
theorem dX10_limit_33 : decode cX10_limit 33 = .ok (.iload_n 3, 1) := by decide +kernel
theorem dX10_limit_34 : decode cX10_limit 34 = .ok (.iload 4, 2) := by decide +kernel
theorem dX10_limit_36 : decode cX10_limit 36 = .ok (.invokestatic 195, 3) := by decide +kernel
theorem dX10_limit_39 : decode cX10_limit 39 = .ok (.ifCond .ne 7, 3) := by decide +kernel
theorem dX10_limit_42 : decode cX10_limit 42 = .ok (.sipush (-1002), 3) := by decide +kernel
theorem dX10_limit_45 : decode cX10_limit 45 = .ok (.ireturn, 1) := by decide +kernel
theorem dX10_limit_46 : decode cX10_limit 46 = .ok (.aload 6, 2) := by decide +kernel
theorem dX10_limit_48 : decode cX10_limit 48 = .ok (.iload_n 3, 1) := by decide +kernel
theorem dX10_limit_49 : decode cX10_limit 49 = .ok (.putfield 212, 3) := by decide +kernel
theorem dX10_limit_52 : decode cX10_limit 52 = .ok (.aload 6, 2) := by decide +kernel
theorem dX10_limit_54 : decode cX10_limit 54 = .ok (.iload 4, 2) := by decide +kernel
theorem dX10_limit_56 : decode cX10_limit 56 = .ok (.putfield 215, 3) := by decide +kernel
theorem dX10_limit_59 : decode cX10_limit 59 = .ok (.iconst 1, 1) := by decide +kernel
theorem dX10_limit_60 : decode cX10_limit 60 = .ok (.ireturn, 1) := by decide +kernel
theorem dX10_usual_0 : decode cX10_usual 0 = .ok (.iload_n 1, 1) := by decide +kernel
theorem dX10_usual_1 : decode cX10_usual 1 = .ok (.iconst (-1), 1) := by decide +kernel
theorem dX10_usual_2 : decode cX10_usual 2 = .ok (.if_icmp .eq 15, 3) := by decide +kernel
theorem dX10_usual_5 : decode cX10_usual 5 = .ok (.aload_n 0, 1) := by decide +kernel
theorem dX10_usual_6 : decode cX10_usual 6 = .ok (.iload_n 1, 1) := by decide +kernel
theorem dX10_usual_7 : decode cX10_usual 7 = .ok (.invokevirtual 163, 3) := by decide +kernel
theorem dX10_usual_10 : decode cX10_usual 10 = .ok (.ifnonnull 7, 3) := by decide +kernel
theorem dX10_usual_13 : decode cX10_usual 13 = .ok (.sipush (-1001), 3) := by decide +kernel
theorem dX10_usual_16 : decode cX10_usual 16 = .ok (.ireturn, 1) := by decide +kernel
theorem dX10_usual_17 : decode cX10_usual 17 = .ok (.aload_n 0, 1) := by decide +kernel
theorem dX10_usual_18 : decode cX10_usual 18 = .ok (.getfield 28, 3) := by decide +kernel
theorem dX10_usual_21 : decode cX10_usual 21 = .ok (.istore_n 2, 1) := by decide +kernel
theorem dX10_usual_22 : decode cX10_usual 22 = .ok (.aload_n 0, 1) := by decide +kernel
theorem dX10_usual_23 : decode cX10_usual 23 = .ok (.iload_n 1, 1) := by decide +kernel
theorem dX10_usual_24 : decode cX10_usual 24 = .ok (.putfield 28, 3) := by decide +kernel
theorem dX10_usual_27 : decode cX10_usual 27 = .ok (.iload_n 2, 1) := by decide +kernel
theorem dX10_usual_28 : decode cX10_usual 28 = .ok (.ireturn, 1) := by decide +kernel
theorem dX10_total_0 : decode cX10_total 0 = .ok (.aload_n 0, 1) := by decide +kernel
theorem dX10_total_1 : decode cX10_total 1 = .ok (.iload_n 1, 1) := by decide +kernel
theorem dX10_total_2 : decode cX10_total 2 = .ok (.invokevirtual 104, 3) := by decide +kernel
theorem dX10_total_5 : decode cX10_total 5 = .ok (.astore 7, 2) := by decide +kernel
theorem dX10_total_7 : decode cX10_total 7 = .ok (.aload 7, 2) := by decide +kernel
theorem dX10_total_9 : decode cX10_total 9 = .ok (.ifnonnull 7, 3) := by decide +kernel
theorem dX10_total_12 : decode cX10_total 12 = .ok (.aconst_null, 1) := by decide +kernel
theorem dX10_total_13 : decode cX10_total 13 = .ok (.goto 9, 3) := by decide +kernel
theorem dX10_total_16 : decode cX10_total 16 = .ok (.aload 7, 2) := by decide +kernel
theorem dX10_total_18 : decode cX10_total 18 = .ok (.iload_n 2, 1) := by decide +kernel
theorem dX10_total_19 : decode cX10_total 19 = .ok (.invokevirtual 208, 3) := by decide +kernel
theorem dX10_total_22 : decode cX10_total 22 = .ok (.astore 8, 2) := by decide +kernel
theorem dX10_total_24 : decode cX10_total 24 = .ok (.aload_n 0, 1) := by decide +kernel
theorem dX10_total_25 : decode cX10_total 25 = .ok (.iload_n 3, 1) := by decide +kernel
theorem dX10_total_26 : decode cX10_total 26 = .ok (.invokevirtual 163, 3) := by decide +kernel
theorem dX10_total_29 : decode cX10_total 29 = .ok (.astore 9, 2) := by decide +kernel
theorem dX10_total_31 : decode cX10_total 31 = .ok (.aload 7, 2) := by decide +kernel
theorem dX10_total_33 : decode cX10_total 33 = .ok (.ifnull 13, 3) := by decide +kernel
theorem dX10_total_36 : decode cX10_total 36 = .ok (.aload 8, 2) := by decide +kernel
theorem dX10_total_38 : decode cX10_total 38 = .ok (.ifnull 8, 3) := by decide +kernel
theorem dX10_total_41 : decode cX10_total 41 = .ok (.aload 9, 2) := by decide +kernel
theorem dX10_total_43 : decode cX10_total 43 = .ok (.ifnonnull 7, 3) := by decide +kernel
theorem dX10_total_46 : decode cX10_total 46 = .ok (.ldc2_w 127, 3) := by decide +kernel
theorem dX10_total_49 : decode cX10_total 49 = .ok (.lreturn, 1) := by decide +kernel
theorem dX10_total_50 : decode cX10_total 50 = .ok (.iload 4, 2) := by decide +kernel
theorem dX10_total_52 : decode cX10_total 52 = .ok (.iconst 0, 1) := by decide +kernel
theorem dX10_total_53 : decode cX10_total 53 = .ok (.iconst 2, 1) := by decide +kernel
theorem dX10_total_54 : decode cX10_total 54 = .ok (.invokestatic 132, 3) := by decide +kernel
theorem dX10_total_57 : decode cX10_total 57 = .ok (.ifCond .eq 23, 3) := by decide +kernel
theorem dX10_total_60 : decode cX10_total 60 = .ok (.iload 5, 2) := by decide +kernel
theorem dX10_total_62 : decode cX10_total 62 = .ok (.iconst 0, 1) := by decide +kernel
theorem dX10_total_63 : decode cX10_total 63 = .ok (.iconst 1, 1) := by decide +kernel
theorem dX10_total_64 : decode cX10_total 64 = .ok (.invokestatic 132, 3) := by decide +kernel
theorem dX10_total_67 : decode cX10_total 67 = .ok (.ifCond .eq 13, 3) := by decide +kernel
theorem dX10_total_70 : decode cX10_total 70 = .ok (.iload 6, 2) := by decide +kernel
theorem dX10_total_72 : decode cX10_total 72 = .ok (.iconst 0, 1) := by decide +kernel
theorem dX10_total_73 : decode cX10_total 73 = .ok (.iconst 1, 1) := by decide +kernel
theorem dX10_total_74 : decode cX10_total 74 = .ok (.invokestatic 132, 3) := by decide +kernel
theorem dX10_total_77 : decode cX10_total 77 = .ok (.ifCond .ne 7, 3) := by decide +kernel
theorem dX10_total_80 : decode cX10_total 80 = .ok (.ldc2_w 136, 3) := by decide +kernel
theorem dX10_total_83 : decode cX10_total 83 = .ok (.lreturn, 1) := by decide +kernel
theorem dX10_total_84 : decode cX10_total 84 = .ok (.aload_n 0, 1) := by decide +kernel
theorem dX10_total_85 : decode cX10_total 85 = .ok (.getfield 69, 3) := by decide +kernel
theorem dX10_total_88 : decode cX10_total 88 = .ok (.aload 7, 2) := by decide +kernel
theorem dX10_total_90 : decode cX10_total 90 = .ok (.aload_n 0, 1) := by decide +kernel
theorem dX10_total_91 : decode cX10_total 91 = .ok (.aload_n 0, 1) := by decide +kernel
theorem dX10_total_92 : decode cX10_total 92 = .ok (.getfield 28, 3) := by decide +kernel
theorem dX10_total_95 : decode cX10_total 95 = .ok (.invokevirtual 163, 3) := by decide +kernel
theorem dX10_total_98 : decode cX10_total 98 = .ok (.iload 4, 2) := by decide +kernel
theorem dX10_total_100 : decode cX10_total 100 = .ok (.invokevirtual 218, 3) := by decide +kernel
theorem dX10_total_103 : decode cX10_total 103 = .ok (.aload_n 0, 1) := by decide +kernel
theorem dX10_total_104 : decode cX10_total 104 = .ok (.getfield 62, 3) := by decide +kernel
theorem dX10_total_107 : decode cX10_total 107 = .ok (.aload 8, 2) := by decide +kernel
theorem dX10_total_109 : decode cX10_total 109 = .ok (.getfield 203, 3) := by decide +kernel
theorem dX10_total_112 : decode cX10_total 112 = .ok (.aload 9, 2) := by decide +kernel
theorem dX10_total_114 : decode cX10_total 114 = .ok (.aload_n 0, 1) := by decide +kernel
theorem dX10_total_115 : decode cX10_total 115 = .ok (.getfield 55, 3) := by decide +kernel
theorem dX10_total_118 : decode cX10_total 118 = .ok (.invokevirtual 184, 3) := by decide +kernel
theorem dX10_total_121 : decode cX10_total 121 = .ok (.aload_n 0, 1) := by decide +kernel
theorem dX10_total_122 : decode cX10_total 122 = .ok (.getfield 69, 3) := by decide +kernel
theorem dX10_total_125 : decode cX10_total 125 = .ok (.iload_n 2, 1) := by decide +kernel
theorem dX10_total_126 : decode cX10_total 126 = .ok (.iload 5, 2) := by decide +kernel
theorem dX10_total_128 : decode cX10_total 128 = .ok (.aload_n 0, 1) := by decide +kernel
theorem dX10_total_129 : decode cX10_total 129 = .ok (.getfield 62, 3) := by decide +kernel
theorem dX10_total_132 : decode cX10_total 132 = .ok (.getfield 194, 3) := by decide +kernel
theorem dX10_total_135 : decode cX10_total 135 = .ok (.iload 5, 2) := by decide +kernel
theorem dX10_total_137 : decode cX10_total 137 = .ok (.laload, 1) := by decide +kernel
theorem dX10_total_138 : decode cX10_total 138 = .ok (.invokevirtual 222, 3) := by decide +kernel
theorem dX10_total_141 : decode cX10_total 141 = .ok (.aload 8, 2) := by decide +kernel
theorem dX10_total_143 : decode cX10_total 143 = .ok (.invokevirtual 226, 3) := by decide +kernel
theorem dX10_total_146 : decode cX10_total 146 = .ok (.iload 6, 2) := by decide +kernel
theorem dX10_total_148 : decode cX10_total 148 = .ok (.invokestatic 150, 3) := by decide +kernel
theorem dX10_total_151 : decode cX10_total 151 = .ok (.lreturn, 1) := by decide +kernel
theorem dX10_fails_0 : decode cX10_fails 0 = .ok (.aload_n 0, 1) := by decide +kernel
theorem dX10_fails_1 : decode cX10_fails 1 = .ok (.iload_n 1, 1) := by decide +kernel
theorem dX10_fails_2 : decode cX10_fails 2 = .ok (.invokevirtual 104, 3) := by decide +kernel
theorem dX10_fails_5 : decode cX10_fails 5 = .ok (.astore 4, 2) := by decide +kernel
theorem dX10_fails_7 : decode cX10_fails 7 = .ok (.aload_n 0, 1) := by decide +kernel
theorem dX10_fails_8 : decode cX10_fails 8 = .ok (.iload_n 2, 1) := by decide +kernel
theorem dX10_fails_9 : decode cX10_fails 9 = .ok (.invokevirtual 163, 3) := by decide +kernel
theorem dX10_fails_12 : decode cX10_fails 12 = .ok (.astore 5, 2) := by decide +kernel
theorem dX10_fails_14 : decode cX10_fails 14 = .ok (.aload 4, 2) := by decide +kernel
theorem dX10_fails_16 : decode cX10_fails 16 = .ok (.ifnull 8, 3) := by decide +kernel
theorem dX10_fails_19 : decode cX10_fails 19 = .ok (.aload 5, 2) := by decide +kernel
theorem dX10_fails_21 : decode cX10_fails 21 = .ok (.ifnonnull 7, 3) := by decide +kernel
theorem dX10_fails_24 : decode cX10_fails 24 = .ok (.sipush (-1001), 3) := by decide +kernel
theorem dX10_fails_27 : decode cX10_fails 27 = .ok (.ireturn, 1) := by decide +kernel
theorem dX10_fails_28 : decode cX10_fails 28 = .ok (.iload_n 3, 1) := by decide +kernel
theorem dX10_fails_29 : decode cX10_fails 29 = .ok (.iconst 0, 1) := by decide +kernel
theorem dX10_fails_30 : decode cX10_fails 30 = .ok (.iconst 2, 1) := by decide +kernel
theorem dX10_fails_31 : decode cX10_fails 31 = .ok (.invokestatic 132, 3) := by decide +kernel
theorem dX10_fails_34 : decode cX10_fails 34 = .ok (.ifCond .ne 7, 3) := by decide +kernel
theorem dX10_fails_37 : decode cX10_fails 37 = .ok (.sipush (-1002), 3) := by decide +kernel
theorem dX10_fails_40 : decode cX10_fails 40 = .ok (.ireturn, 1) := by decide +kernel
theorem dX10_fails_41 : decode cX10_fails 41 = .ok (.aload_n 0, 1) := by decide +kernel
theorem dX10_fails_42 : decode cX10_fails 42 = .ok (.getfield 69, 3) := by decide +kernel
theorem dX10_fails_45 : decode cX10_fails 45 = .ok (.aload 4, 2) := by decide +kernel
theorem dX10_fails_47 : decode cX10_fails 47 = .ok (.aload_n 0, 1) := by decide +kernel
theorem dX10_fails_48 : decode cX10_fails 48 = .ok (.aload_n 0, 1) := by decide +kernel
theorem dX10_fails_49 : decode cX10_fails 49 = .ok (.getfield 28, 3) := by decide +kernel
theorem dX10_fails_52 : decode cX10_fails 52 = .ok (.invokevirtual 163, 3) := by decide +kernel
theorem dX10_fails_55 : decode cX10_fails 55 = .ok (.iload_n 3, 1) := by decide +kernel
theorem dX10_fails_56 : decode cX10_fails 56 = .ok (.invokevirtual 218, 3) := by decide +kernel
theorem dX10_fails_59 : decode cX10_fails 59 = .ok (.aload_n 0, 1) := by decide +kernel
theorem dX10_fails_60 : decode cX10_fails 60 = .ok (.getfield 69, 3) := by decide +kernel
theorem dX10_fails_63 : decode cX10_fails 63 = .ok (.aload 4, 2) := by decide +kernel
theorem dX10_fails_65 : decode cX10_fails 65 = .ok (.aload 5, 2) := by decide +kernel
theorem dX10_fails_67 : decode cX10_fails 67 = .ok (.invokevirtual 230, 3) := by decide +kernel
theorem dX10_fails_70 : decode cX10_fails 70 = .ok (.ireturn, 1) := by decide +kernel
theorem dX10_posted_0 : decode cX10_posted 0 = .ok (.aload_n 0, 1) := by decide +kernel
theorem dX10_posted_1 : decode cX10_posted 1 = .ok (.iload_n 1, 1) := by decide +kernel
theorem dX10_posted_2 : decode cX10_posted 2 = .ok (.invokevirtual 104, 3) := by decide +kernel
theorem dX10_posted_5 : decode cX10_posted 5 = .ok (.astore_n 3, 1) := by decide +kernel
theorem dX10_posted_6 : decode cX10_posted 6 = .ok (.aload_n 0, 1) := by decide +kernel
theorem dX10_posted_7 : decode cX10_posted 7 = .ok (.iload_n 2, 1) := by decide +kernel
theorem dX10_posted_8 : decode cX10_posted 8 = .ok (.invokevirtual 163, 3) := by decide +kernel
theorem dX10_posted_11 : decode cX10_posted 11 = .ok (.astore 4, 2) := by decide +kernel
theorem dX10_posted_13 : decode cX10_posted 13 = .ok (.aload_n 3, 1) := by decide +kernel
theorem dX10_posted_14 : decode cX10_posted 14 = .ok (.ifnull 8, 3) := by decide +kernel
theorem dX10_posted_17 : decode cX10_posted 17 = .ok (.aload 4, 2) := by decide +kernel
theorem dX10_posted_19 : decode cX10_posted 19 = .ok (.ifnonnull 7, 3) := by decide +kernel
theorem dX10_posted_22 : decode cX10_posted 22 = .ok (.sipush (-1001), 3) := by decide +kernel
theorem dX10_posted_25 : decode cX10_posted 25 = .ok (.ireturn, 1) := by decide +kernel
theorem dX10_posted_26 : decode cX10_posted 26 = .ok (.aload_n 0, 1) := by decide +kernel
theorem dX10_posted_27 : decode cX10_posted 27 = .ok (.getfield 69, 3) := by decide +kernel
theorem dX10_posted_30 : decode cX10_posted 30 = .ok (.aload_n 3, 1) := by decide +kernel
theorem dX10_posted_31 : decode cX10_posted 31 = .ok (.aload_n 0, 1) := by decide +kernel
theorem dX10_posted_32 : decode cX10_posted 32 = .ok (.aload_n 0, 1) := by decide +kernel
theorem dX10_posted_33 : decode cX10_posted 33 = .ok (.getfield 28, 3) := by decide +kernel
theorem dX10_posted_36 : decode cX10_posted 36 = .ok (.invokevirtual 163, 3) := by decide +kernel
theorem dX10_posted_39 : decode cX10_posted 39 = .ok (.iconst 0, 1) := by decide +kernel
theorem dX10_posted_40 : decode cX10_posted 40 = .ok (.invokevirtual 218, 3) := by decide +kernel
theorem dX10_posted_43 : decode cX10_posted 43 = .ok (.aload_n 0, 1) := by decide +kernel
theorem dX10_posted_44 : decode cX10_posted 44 = .ok (.getfield 81, 3) := by decide +kernel
theorem dX10_posted_47 : decode cX10_posted 47 = .ok (.aload 4, 2) := by decide +kernel
theorem dX10_posted_49 : decode cX10_posted 49 = .ok (.iconst 0, 1) := by decide +kernel
theorem dX10_posted_50 : decode cX10_posted 50 = .ok (.invokevirtual 234, 3) := by decide +kernel
theorem dX10_posted_53 : decode cX10_posted 53 = .ok (.aload_n 0, 1) := by decide +kernel
theorem dX10_posted_54 : decode cX10_posted 54 = .ok (.getfield 69, 3) := by decide +kernel
theorem dX10_posted_57 : decode cX10_posted 57 = .ok (.aload_n 3, 1) := by decide +kernel
theorem dX10_posted_58 : decode cX10_posted 58 = .ok (.aload_n 0, 1) := by decide +kernel
theorem dX10_posted_59 : decode cX10_posted 59 = .ok (.getfield 81, 3) := by decide +kernel
theorem dX10_posted_62 : decode cX10_posted 62 = .ok (.invokevirtual 238, 3) := by decide +kernel
theorem dX10_posted_65 : decode cX10_posted 65 = .ok (.ifCond .ne 5, 3) := by decide +kernel
theorem dX10_posted_68 : decode cX10_posted 68 = .ok (.iconst (-1), 1) := by decide +kernel
theorem dX10_posted_69 : decode cX10_posted 69 = .ok (.ireturn, 1) := by decide +kernel
theorem dX10_posted_70 : decode cX10_posted 70 = .ok (.sipush 300, 3) := by decide +kernel
theorem dX10_posted_73 : decode cX10_posted 73 = .ok (.istore 5, 2) := by decide +kernel
theorem dX10_posted_75 : decode cX10_posted 75 = .ok (.iload 5, 2) := by decide +kernel
theorem dX10_posted_77 : decode cX10_posted 77 = .ok (.ifCond .le 38, 3) := by decide +kernel
theorem dX10_posted_80 : decode cX10_posted 80 = .ok (.aload_n 0, 1) := by decide +kernel
theorem dX10_posted_81 : decode cX10_posted 81 = .ok (.getfield 81, 3) := by decide +kernel
theorem dX10_posted_84 : decode cX10_posted 84 = .ok (.aload 4, 2) := by decide +kernel
theorem dX10_posted_86 : decode cX10_posted 86 = .ok (.iload 5, 2) := by decide +kernel
theorem dX10_posted_88 : decode cX10_posted 88 = .ok (.invokevirtual 234, 3) := by decide +kernel
theorem dX10_posted_91 : decode cX10_posted 91 = .ok (.aload_n 0, 1) := by decide +kernel
theorem dX10_posted_92 : decode cX10_posted 92 = .ok (.getfield 69, 3) := by decide +kernel
theorem dX10_posted_95 : decode cX10_posted 95 = .ok (.aload_n 3, 1) := by decide +kernel
theorem dX10_posted_96 : decode cX10_posted 96 = .ok (.aload_n 0, 1) := by decide +kernel
theorem dX10_posted_97 : decode cX10_posted 97 = .ok (.getfield 81, 3) := by decide +kernel
theorem dX10_posted_100 : decode cX10_posted 100 = .ok (.invokevirtual 238, 3) := by decide +kernel
theorem dX10_posted_103 : decode cX10_posted 103 = .ok (.ifCond .eq 6, 3) := by decide +kernel
theorem dX10_posted_106 : decode cX10_posted 106 = .ok (.iload 5, 2) := by decide +kernel
theorem dX10_posted_108 : decode cX10_posted 108 = .ok (.ireturn, 1) := by decide +kernel
theorem dX10_posted_109 : decode cX10_posted 109 = .ok (.iinc 5 (-1), 3) := by decide +kernel
theorem dX10_posted_112 : decode cX10_posted 112 = .ok (.goto (-37), 3) := by decide +kernel
theorem dX10_posted_115 : decode cX10_posted 115 = .ok (.iconst 0, 1) := by decide +kernel
theorem dX10_posted_116 : decode cX10_posted 116 = .ok (.ireturn, 1) := by decide +kernel
theorem dX10_spread_0 : decode cX10_spread 0 = .ok (.aload_n 0, 1) := by decide +kernel
theorem dX10_spread_1 : decode cX10_spread 1 = .ok (.iload_n 1, 1) := by decide +kernel
theorem dX10_spread_2 : decode cX10_spread 2 = .ok (.invokevirtual 104, 3) := by decide +kernel
theorem dX10_spread_5 : decode cX10_spread 5 = .ok (.astore 4, 2) := by decide +kernel
theorem dX10_spread_7 : decode cX10_spread 7 = .ok (.aload_n 0, 1) := by decide +kernel
theorem dX10_spread_8 : decode cX10_spread 8 = .ok (.iload_n 2, 1) := by decide +kernel
theorem dX10_spread_9 : decode cX10_spread 9 = .ok (.invokevirtual 163, 3) := by decide +kernel
theorem dX10_spread_12 : decode cX10_spread 12 = .ok (.astore 5, 2) := by decide +kernel
theorem dX10_spread_14 : decode cX10_spread 14 = .ok (.aload 4, 2) := by decide +kernel
theorem dX10_spread_16 : decode cX10_spread 16 = .ok (.ifnull 8, 3) := by decide +kernel
theorem dX10_spread_19 : decode cX10_spread 19 = .ok (.aload 5, 2) := by decide +kernel
theorem dX10_spread_21 : decode cX10_spread 21 = .ok (.ifnonnull 7, 3) := by decide +kernel
theorem dX10_spread_24 : decode cX10_spread 24 = .ok (.sipush (-1001), 3) := by decide +kernel
theorem dX10_spread_27 : decode cX10_spread 27 = .ok (.ireturn, 1) := by decide +kernel
theorem dX10_spread_28 : decode cX10_spread 28 = .ok (.iload_n 3, 1) := by decide +kernel
theorem dX10_spread_29 : decode cX10_spread 29 = .ok (.iconst 0, 1) := by decide +kernel
theorem dX10_spread_30 : decode cX10_spread 30 = .ok (.iconst 2, 1) := by decide +kernel
theorem dX10_spread_31 : decode cX10_spread 31 = .ok (.invokestatic 132, 3) := by decide +kernel
theorem dX10_spread_34 : decode cX10_spread 34 = .ok (.ifCond .ne 7, 3) := by decide +kernel
theorem dX10_spread_37 : decode cX10_spread 37 = .ok (.sipush (-1002), 3) := by decide +kernel
theorem dX10_spread_40 : decode cX10_spread 40 = .ok (.ireturn, 1) := by decide +kernel
theorem dX10_spread_41 : decode cX10_spread 41 = .ok (.aload_n 0, 1) := by decide +kernel
theorem dX10_spread_42 : decode cX10_spread 42 = .ok (.getfield 69, 3) := by decide +kernel
theorem dX10_spread_45 : decode cX10_spread 45 = .ok (.aload 4, 2) := by decide +kernel
theorem dX10_spread_47 : decode cX10_spread 47 = .ok (.aload_n 0, 1) := by decide +kernel
theorem dX10_spread_48 : decode cX10_spread 48 = .ok (.aload_n 0, 1) := by decide +kernel
theorem dX10_spread_49 : decode cX10_spread 49 = .ok (.getfield 28, 3) := by decide +kernel
theorem dX10_spread_52 : decode cX10_spread 52 = .ok (.invokevirtual 163, 3) := by decide +kernel
theorem dX10_spread_55 : decode cX10_spread 55 = .ok (.iload_n 3, 1) := by decide +kernel
theorem dX10_spread_56 : decode cX10_spread 56 = .ok (.invokevirtual 218, 3) := by decide +kernel
theorem dX10_spread_59 : decode cX10_spread 59 = .ok (.iconst 0, 1) := by decide +kernel
theorem dX10_spread_60 : decode cX10_spread 60 = .ok (.istore 6, 2) := by decide +kernel
theorem dX10_spread_62 : decode cX10_spread 62 = .ok (.iload 6, 2) := by decide +kernel
theorem dX10_spread_64 : decode cX10_spread 64 = .ok (.bipush 20, 2) := by decide +kernel
theorem dX10_spread_66 : decode cX10_spread 66 = .ok (.if_icmp .gt 39, 3) := by decide +kernel
theorem dX10_spread_69 : decode cX10_spread 69 = .ok (.aload_n 0, 1) := by decide +kernel
theorem dX10_spread_70 : decode cX10_spread 70 = .ok (.getfield 81, 3) := by decide +kernel
theorem dX10_spread_73 : decode cX10_spread 73 = .ok (.aload 5, 2) := by decide +kernel
theorem dX10_spread_75 : decode cX10_spread 75 = .ok (.iload 6, 2) := by decide +kernel
theorem dX10_spread_77 : decode cX10_spread 77 = .ok (.invokevirtual 242, 3) := by decide +kernel
theorem dX10_spread_80 : decode cX10_spread 80 = .ok (.aload_n 0, 1) := by decide +kernel
theorem dX10_spread_81 : decode cX10_spread 81 = .ok (.getfield 69, 3) := by decide +kernel
theorem dX10_spread_84 : decode cX10_spread 84 = .ok (.aload 4, 2) := by decide +kernel
theorem dX10_spread_86 : decode cX10_spread 86 = .ok (.aload_n 0, 1) := by decide +kernel
theorem dX10_spread_87 : decode cX10_spread 87 = .ok (.getfield 81, 3) := by decide +kernel
theorem dX10_spread_90 : decode cX10_spread 90 = .ok (.invokevirtual 238, 3) := by decide +kernel
theorem dX10_spread_93 : decode cX10_spread 93 = .ok (.ifCond .eq 6, 3) := by decide +kernel
theorem dX10_spread_96 : decode cX10_spread 96 = .ok (.iload 6, 2) := by decide +kernel
theorem dX10_spread_98 : decode cX10_spread 98 = .ok (.ireturn, 1) := by decide +kernel
theorem dX10_spread_99 : decode cX10_spread 99 = .ok (.iinc 6 1, 3) := by decide +kernel
theorem dX10_spread_102 : decode cX10_spread 102 = .ok (.goto (-40), 3) := by decide +kernel
theorem dX10_spread_105 : decode cX10_spread 105 = .ok (.iconst (-1), 1) := by decide +kernel
theorem dX10_spread_106 : decode cX10_spread 106 = .ok (.ireturn, 1) := by decide +kernel
theorem dX10_road_0 : decode cX10_road 0 = .ok (.iload_n 1, 1) := by decide +kernel
theorem dX10_road_1 : decode cX10_road 1 = .ok (.invokestatic 245, 3) := by decide +kernel
theorem dX10_road_4 : decode cX10_road 4 = .ok (.ifCond .eq 25, 3) := by decide +kernel
theorem dX10_road_7 : decode cX10_road 7 = .ok (.iload_n 2, 1) := by decide +kernel
theorem dX10_road_8 : decode cX10_road 8 = .ok (.invokestatic 245, 3) := by decide +kernel
theorem dX10_road_11 : decode cX10_road 11 = .ok (.ifCond .eq 18, 3) := by decide +kernel
theorem dX10_road_14 : decode cX10_road 14 = .ok (.iload 4, 2) := by decide +kernel
theorem dX10_road_16 : decode cX10_road 16 = .ok (.iconst (-1), 1) := by decide +kernel
theorem dX10_road_17 : decode cX10_road 17 = .ok (.if_icmp .eq 16, 3) := by decide +kernel
theorem dX10_road_20 : decode cX10_road 20 = .ok (.aload_n 0, 1) := by decide +kernel
theorem dX10_road_21 : decode cX10_road 21 = .ok (.iload 4, 2) := by decide +kernel
theorem dX10_road_23 : decode cX10_road 23 = .ok (.invokevirtual 104, 3) := by decide +kernel
theorem dX10_road_26 : decode cX10_road 26 = .ok (.ifnonnull 7, 3) := by decide +kernel
theorem dX10_road_29 : decode cX10_road 29 = .ok (.sipush (-1001), 3) := by decide +kernel
theorem dX10_road_32 : decode cX10_road 32 = .ok (.ireturn, 1) := by decide +kernel
theorem dX10_road_33 : decode cX10_road 33 = .ok (.iload_n 3, 1) := by decide +kernel
theorem dX10_road_34 : decode cX10_road 34 = .ok (.iconst 1, 1) := by decide +kernel
theorem dX10_road_35 : decode cX10_road 35 = .ok (.sipush 500, 3) := by decide +kernel
theorem dX10_road_38 : decode cX10_road 38 = .ok (.invokestatic 132, 3) := by decide +kernel
theorem dX10_road_41 : decode cX10_road 41 = .ok (.ifCond .eq 8, 3) := by decide +kernel
theorem dX10_road_44 : decode cX10_road 44 = .ok (.iload_n 1, 1) := by decide +kernel
theorem dX10_road_45 : decode cX10_road 45 = .ok (.iload_n 2, 1) := by decide +kernel
theorem dX10_road_46 : decode cX10_road 46 = .ok (.if_icmp .ne 7, 3) := by decide +kernel
theorem dX10_road_49 : decode cX10_road 49 = .ok (.sipush (-1002), 3) := by decide +kernel
theorem dX10_road_52 : decode cX10_road 52 = .ok (.ireturn, 1) := by decide +kernel
theorem dX10_road_53 : decode cX10_road 53 = .ok (.aload_n 0, 1) := by decide +kernel
theorem dX10_road_54 : decode cX10_road 54 = .ok (.getfield 34, 3) := by decide +kernel
theorem dX10_road_57 : decode cX10_road 57 = .ok (.iload_n 1, 1) := by decide +kernel
theorem dX10_road_58 : decode cX10_road 58 = .ok (.iload_n 2, 1) := by decide +kernel
theorem dX10_road_59 : decode cX10_road 59 = .ok (.iload_n 3, 1) := by decide +kernel
theorem dX10_road_60 : decode cX10_road 60 = .ok (.iload 4, 2) := by decide +kernel
theorem dX10_road_62 : decode cX10_road 62 = .ok (.invokevirtual 249, 3) := by decide +kernel
theorem dX10_road_65 : decode cX10_road 65 = .ok (.ifCond .ne 7, 3) := by decide +kernel
theorem dX10_road_68 : decode cX10_road 68 = .ok (.sipush (-1004), 3) := by decide +kernel
theorem dX10_road_71 : decode cX10_road 71 = .ok (.ireturn, 1) := by decide +kernel
theorem dX10_road_72 : decode cX10_road 72 = .ok (.aload_n 0, 1) := by decide +kernel
theorem dX10_road_73 : decode cX10_road 73 = .ok (.getfield 34, 3) := by decide +kernel
theorem dX10_road_76 : decode cX10_road 76 = .ok (.getfield 253, 3) := by decide +kernel
theorem dX10_road_79 : decode cX10_road 79 = .ok (.iconst 1, 1) := by decide +kernel
theorem dX10_road_80 : decode cX10_road 80 = .ok (.isub, 1) := by decide +kernel
theorem dX10_road_81 : decode cX10_road 81 = .ok (.ireturn, 1) := by decide +kernel
theorem dX10_route_0 : decode cX10_route 0 = .ok (.aload_n 0, 1) := by decide +kernel
theorem dX10_route_1 : decode cX10_route 1 = .ok (.iload_n 1, 1) := by decide +kernel
theorem dX10_route_2 : decode cX10_route 2 = .ok (.invokevirtual 163, 3) := by decide +kernel
theorem dX10_route_5 : decode cX10_route 5 = .ok (.astore 6, 2) := by decide +kernel
theorem dX10_route_7 : decode cX10_route 7 = .ok (.aload 6, 2) := by decide +kernel
theorem dX10_route_9 : decode cX10_route 9 = .ok (.ifnull 18, 3) := by decide +kernel
theorem dX10_route_12 : decode cX10_route 12 = .ok (.iload_n 3, 1) := by decide +kernel
theorem dX10_route_13 : decode cX10_route 13 = .ok (.invokestatic 245, 3) := by decide +kernel
theorem dX10_route_16 : decode cX10_route 16 = .ok (.ifCond .eq 11, 3) := by decide +kernel
theorem dX10_route_19 : decode cX10_route 19 = .ok (.iload 4, 2) := by decide +kernel
theorem dX10_route_21 : decode cX10_route 21 = .ok (.invokestatic 245, 3) := by decide +kernel
theorem dX10_route_24 : decode cX10_route 24 = .ok (.ifCond .ne 7, 3) := by decide +kernel
theorem dX10_route_27 : decode cX10_route 27 = .ok (.sipush (-1001), 3) := by decide +kernel
theorem dX10_route_30 : decode cX10_route 30 = .ok (.ireturn, 1) := by decide +kernel
theorem dX10_route_31 : decode cX10_route 31 = .ok (.iload_n 2, 1) := by decide +kernel
theorem dX10_route_32 : decode cX10_route 32 = .ok (.iconst 0, 1) := by decide +kernel
theorem dX10_route_33 : decode cX10_route 33 = .ok (.iconst 2, 1) := by decide +kernel
theorem dX10_route_34 : decode cX10_route 34 = .ok (.invokestatic 132, 3) := by decide +kernel
theorem dX10_route_37 : decode cX10_route 37 = .ok (.ifCond .eq 20, 3) := by decide +kernel
theorem dX10_route_40 : decode cX10_route 40 = .ok (.iload 5, 2) := by decide +kernel
theorem dX10_route_42 : decode cX10_route 42 = .ok (.iconst 0, 1) := by decide +kernel
theorem dX10_route_43 : decode cX10_route 43 = .ok (.bipush 11, 2) := by decide +kernel
theorem dX10_route_45 : decode cX10_route 45 = .ok (.invokestatic 132, 3) := by decide +kernel
theorem dX10_route_48 : decode cX10_route 48 = .ok (.ifCond .eq 9, 3) := by decide +kernel
theorem dX10_route_51 : decode cX10_route 51 = .ok (.iload_n 3, 1) := by decide +kernel
theorem dX10_route_52 : decode cX10_route 52 = .ok (.iload 4, 2) := by decide +kernel
theorem dX10_route_54 : decode cX10_route 54 = .ok (.if_icmp .ne 7, 3) := by decide +kernel
theorem dX10_route_57 : decode cX10_route 57 = .ok (.sipush (-1002), 3) := by decide +kernel
theorem dX10_route_60 : decode cX10_route 60 = .ok (.ireturn, 1) := by decide +kernel
theorem dX10_route_61 : decode cX10_route 61 = .ok (.aload_n 0, 1) := by decide +kernel
theorem dX10_route_62 : decode cX10_route 62 = .ok (.aload 6, 2) := by decide +kernel
theorem dX10_route_64 : decode cX10_route 64 = .ok (.iload_n 2, 1) := by decide +kernel
theorem dX10_route_65 : decode cX10_route 65 = .ok (.invokevirtual 256, 3) := by decide +kernel
theorem dX10_route_68 : decode cX10_route 68 = .ok (.aload_n 0, 1) := by decide +kernel
theorem dX10_route_69 : decode cX10_route 69 = .ok (.getfield 34, 3) := by decide +kernel
theorem dX10_route_72 : decode cX10_route 72 = .ok (.iload_n 3, 1) := by decide +kernel
theorem dX10_route_73 : decode cX10_route 73 = .ok (.iload 4, 2) := by decide +kernel
theorem dX10_route_75 : decode cX10_route 75 = .ok (.invokevirtual 259, 3) := by decide +kernel
theorem dX10_route_78 : decode cX10_route 78 = .ok (.ifCond .ne 5, 3) := by decide +kernel
theorem dX10_route_81 : decode cX10_route 81 = .ok (.iconst (-1), 1) := by decide +kernel
theorem dX10_route_82 : decode cX10_route 82 = .ok (.ireturn, 1) := by decide +kernel
theorem dX10_route_83 : decode cX10_route 83 = .ok (.iload 5, 2) := by decide +kernel
theorem dX10_route_85 : decode cX10_route 85 = .ok (.ifCond .ne 11, 3) := by decide +kernel
theorem dX10_route_88 : decode cX10_route 88 = .ok (.aload_n 0, 1) := by decide +kernel
theorem dX10_route_89 : decode cX10_route 89 = .ok (.getfield 34, 3) := by decide +kernel
theorem dX10_route_92 : decode cX10_route 92 = .ok (.getfield 262, 3) := by decide +kernel
theorem dX10_route_95 : decode cX10_route 95 = .ok (.ireturn, 1) := by decide +kernel
theorem dX10_route_96 : decode cX10_route 96 = .ok (.iload 5, 2) := by decide +kernel
theorem dX10_route_98 : decode cX10_route 98 = .ok (.iconst 1, 1) := by decide +kernel
theorem dX10_route_99 : decode cX10_route 99 = .ok (.if_icmp .ne 11, 3) := by decide +kernel
theorem dX10_route_102 : decode cX10_route 102 = .ok (.aload_n 0, 1) := by decide +kernel
theorem dX10_route_103 : decode cX10_route 103 = .ok (.getfield 34, 3) := by decide +kernel
theorem dX10_route_106 : decode cX10_route 106 = .ok (.getfield 265, 3) := by decide +kernel
theorem dX10_route_109 : decode cX10_route 109 = .ok (.ireturn, 1) := by decide +kernel
theorem dX10_route_110 : decode cX10_route 110 = .ok (.aload_n 0, 1) := by decide +kernel
theorem dX10_route_111 : decode cX10_route 111 = .ok (.getfield 34, 3) := by decide +kernel
theorem dX10_route_114 : decode cX10_route 114 = .ok (.iload 5, 2) := by decide +kernel
theorem dX10_route_116 : decode cX10_route 116 = .ok (.iconst 2, 1) := by decide +kernel
theorem dX10_route_117 : decode cX10_route 117 = .ok (.isub, 1) := by decide +kernel
theorem dX10_route_118 : decode cX10_route 118 = .ok (.invokevirtual 268, 3) := by decide +kernel
theorem dX10_route_121 : decode cX10_route 121 = .ok (.ireturn, 1) := by decide +kernel
theorem dX10_why_0 : decode cX10_why 0 = .ok (.aload_n 0, 1) := by decide +kernel
theorem dX10_why_1 : decode cX10_why 1 = .ok (.iload_n 1, 1) := by decide +kernel
theorem dX10_why_2 : decode cX10_why 2 = .ok (.invokevirtual 163, 3) := by decide +kernel
theorem dX10_why_5 : decode cX10_why 5 = .ok (.astore 5, 2) := by decide +kernel
theorem dX10_why_7 : decode cX10_why 7 = .ok (.aload 5, 2) := by decide +kernel
theorem dX10_why_9 : decode cX10_why 9 = .ok (.ifnull 18, 3) := by decide +kernel
theorem dX10_why_12 : decode cX10_why 12 = .ok (.iload_n 3, 1) := by decide +kernel
theorem dX10_why_13 : decode cX10_why 13 = .ok (.invokestatic 245, 3) := by decide +kernel
theorem dX10_why_16 : decode cX10_why 16 = .ok (.ifCond .eq 11, 3) := by decide +kernel
theorem dX10_why_19 : decode cX10_why 19 = .ok (.iload 4, 2) := by decide +kernel
theorem dX10_why_21 : decode cX10_why 21 = .ok (.invokestatic 245, 3) := by decide +kernel
theorem dX10_why_24 : decode cX10_why 24 = .ok (.ifCond .ne 7, 3) := by decide +kernel
theorem dX10_why_27 : decode cX10_why 27 = .ok (.sipush (-1001), 3) := by decide +kernel
theorem dX10_why_30 : decode cX10_why 30 = .ok (.ireturn, 1) := by decide +kernel
theorem dX10_why_31 : decode cX10_why 31 = .ok (.iload_n 2, 1) := by decide +kernel
theorem dX10_why_32 : decode cX10_why 32 = .ok (.iconst 0, 1) := by decide +kernel
theorem dX10_why_33 : decode cX10_why 33 = .ok (.iconst 2, 1) := by decide +kernel
theorem dX10_why_34 : decode cX10_why 34 = .ok (.invokestatic 132, 3) := by decide +kernel
theorem dX10_why_37 : decode cX10_why 37 = .ok (.ifCond .eq 9, 3) := by decide +kernel
theorem dX10_why_40 : decode cX10_why 40 = .ok (.iload_n 3, 1) := by decide +kernel
theorem dX10_why_41 : decode cX10_why 41 = .ok (.iload 4, 2) := by decide +kernel
theorem dX10_why_43 : decode cX10_why 43 = .ok (.if_icmp .ne 7, 3) := by decide +kernel
theorem dX10_why_46 : decode cX10_why 46 = .ok (.sipush (-1002), 3) := by decide +kernel
theorem dX10_why_49 : decode cX10_why 49 = .ok (.ireturn, 1) := by decide +kernel
theorem dX10_why_50 : decode cX10_why 50 = .ok (.aload_n 0, 1) := by decide +kernel
theorem dX10_why_51 : decode cX10_why 51 = .ok (.aload 5, 2) := by decide +kernel
theorem dX10_why_53 : decode cX10_why 53 = .ok (.iload_n 2, 1) := by decide +kernel
theorem dX10_why_54 : decode cX10_why 54 = .ok (.invokevirtual 256, 3) := by decide +kernel
theorem dX10_why_57 : decode cX10_why 57 = .ok (.aload_n 0, 1) := by decide +kernel
theorem dX10_why_58 : decode cX10_why 58 = .ok (.getfield 34, 3) := by decide +kernel
theorem dX10_why_61 : decode cX10_why 61 = .ok (.iload_n 3, 1) := by decide +kernel
theorem dX10_why_62 : decode cX10_why 62 = .ok (.iload 4, 2) := by decide +kernel
theorem dX10_why_64 : decode cX10_why 64 = .ok (.invokevirtual 259, 3) := by decide +kernel
theorem dX10_why_67 : decode cX10_why 67 = .ok (.ifCond .eq 5, 3) := by decide +kernel
theorem dX10_why_70 : decode cX10_why 70 = .ok (.iconst (-1), 1) := by decide +kernel
theorem dX10_why_71 : decode cX10_why 71 = .ok (.ireturn, 1) := by decide +kernel
theorem dX10_why_72 : decode cX10_why 72 = .ok (.aload_n 0, 1) := by decide +kernel
theorem dX10_why_73 : decode cX10_why 73 = .ok (.getfield 34, 3) := by decide +kernel
theorem dX10_why_76 : decode cX10_why 76 = .ok (.invokevirtual 272, 3) := by decide +kernel
theorem dX10_why_79 : decode cX10_why 79 = .ok (.aload_n 0, 1) := by decide +kernel
theorem dX10_why_80 : decode cX10_why 80 = .ok (.getfield 34, 3) := by decide +kernel
theorem dX10_why_83 : decode cX10_why 83 = .ok (.iload_n 3, 1) := by decide +kernel
theorem dX10_why_84 : decode cX10_why 84 = .ok (.iload 4, 2) := by decide +kernel
theorem dX10_why_86 : decode cX10_why 86 = .ok (.invokevirtual 259, 3) := by decide +kernel
theorem dX10_why_89 : decode cX10_why 89 = .ok (.ifCond .ne 5, 3) := by decide +kernel
theorem dX10_why_92 : decode cX10_why 92 = .ok (.iconst (-1), 1) := by decide +kernel
theorem dX10_why_93 : decode cX10_why 93 = .ok (.ireturn, 1) := by decide +kernel
theorem dX10_why_94 : decode cX10_why 94 = .ok (.aload_n 0, 1) := by decide +kernel
theorem dX10_why_95 : decode cX10_why 95 = .ok (.invokevirtual 275, 3) := by decide +kernel
theorem dX10_why_98 : decode cX10_why 98 = .ok (.ireturn, 1) := by decide +kernel
theorem dX10_wear_0 : decode cX10_wear 0 = .ok (.aload_n 0, 1) := by decide +kernel
theorem dX10_wear_1 : decode cX10_wear 1 = .ok (.iload_n 1, 1) := by decide +kernel
theorem dX10_wear_2 : decode cX10_wear 2 = .ok (.invokevirtual 104, 3) := by decide +kernel
theorem dX10_wear_5 : decode cX10_wear 5 = .ok (.astore 6, 2) := by decide +kernel
theorem dX10_wear_7 : decode cX10_wear 7 = .ok (.aload_n 0, 1) := by decide +kernel
theorem dX10_wear_8 : decode cX10_wear 8 = .ok (.iload 4, 2) := by decide +kernel
theorem dX10_wear_10 : decode cX10_wear 10 = .ok (.invokevirtual 163, 3) := by decide +kernel
theorem dX10_wear_13 : decode cX10_wear 13 = .ok (.astore 7, 2) := by decide +kernel
theorem dX10_wear_15 : decode cX10_wear 15 = .ok (.aload 6, 2) := by decide +kernel
theorem dX10_wear_17 : decode cX10_wear 17 = .ok (.ifnull 18, 3) := by decide +kernel
theorem dX10_wear_20 : decode cX10_wear 20 = .ok (.aload 6, 2) := by decide +kernel
theorem dX10_wear_22 : decode cX10_wear 22 = .ok (.iload_n 2, 1) := by decide +kernel
theorem dX10_wear_23 : decode cX10_wear 23 = .ok (.iload_n 3, 1) := by decide +kernel
theorem dX10_wear_24 : decode cX10_wear 24 = .ok (.invokevirtual 123, 3) := by decide +kernel
theorem dX10_wear_27 : decode cX10_wear 27 = .ok (.ifCond .ne 8, 3) := by decide +kernel
theorem dX10_wear_30 : decode cX10_wear 30 = .ok (.aload 7, 2) := by decide +kernel
theorem dX10_wear_32 : decode cX10_wear 32 = .ok (.ifnonnull 7, 3) := by decide +kernel
theorem dX10_wear_35 : decode cX10_wear 35 = .ok (.ldc2_w 127, 3) := by decide +kernel
theorem dX10_wear_38 : decode cX10_wear 38 = .ok (.lreturn, 1) := by decide +kernel
theorem dX10_wear_39 : decode cX10_wear 39 = .ok (.aload 6, 2) := by decide +kernel
theorem dX10_wear_41 : decode cX10_wear 41 = .ok (.iload_n 2, 1) := by decide +kernel
theorem dX10_wear_42 : decode cX10_wear 42 = .ok (.iload_n 3, 1) := by decide +kernel
theorem dX10_wear_43 : decode cX10_wear 43 = .ok (.invokevirtual 129, 3) := by decide +kernel
theorem dX10_wear_46 : decode cX10_wear 46 = .ok (.ifCond .eq 13, 3) := by decide +kernel
theorem dX10_wear_49 : decode cX10_wear 49 = .ok (.iload 5, 2) := by decide +kernel
theorem dX10_wear_51 : decode cX10_wear 51 = .ok (.iconst 0, 1) := by decide +kernel
theorem dX10_wear_52 : decode cX10_wear 52 = .ok (.iconst 2, 1) := by decide +kernel
theorem dX10_wear_53 : decode cX10_wear 53 = .ok (.invokestatic 132, 3) := by decide +kernel
theorem dX10_wear_56 : decode cX10_wear 56 = .ok (.ifCond .ne 7, 3) := by decide +kernel
theorem dX10_wear_59 : decode cX10_wear 59 = .ok (.ldc2_w 136, 3) := by decide +kernel
theorem dX10_wear_62 : decode cX10_wear 62 = .ok (.lreturn, 1) := by decide +kernel
theorem dX10_wear_63 : decode cX10_wear 63 = .ok (.aload_n 0, 1) := by decide +kernel
theorem dX10_wear_64 : decode cX10_wear 64 = .ok (.getfield 48, 3) := by decide +kernel
theorem dX10_wear_67 : decode cX10_wear 67 = .ok (.aload 6, 2) := by decide +kernel
theorem dX10_wear_69 : decode cX10_wear 69 = .ok (.iload_n 2, 1) := by decide +kernel
theorem dX10_wear_70 : decode cX10_wear 70 = .ok (.iload_n 3, 1) := by decide +kernel
theorem dX10_wear_71 : decode cX10_wear 71 = .ok (.invokevirtual 138, 3) := by decide +kernel
theorem dX10_wear_74 : decode cX10_wear 74 = .ok (.aload_n 0, 1) := by decide +kernel
theorem dX10_wear_75 : decode cX10_wear 75 = .ok (.getfield 55, 3) := by decide +kernel
theorem dX10_wear_78 : decode cX10_wear 78 = .ok (.aload_n 0, 1) := by decide +kernel
theorem dX10_wear_79 : decode cX10_wear 79 = .ok (.getfield 48, 3) := by decide +kernel
theorem dX10_wear_82 : decode cX10_wear 82 = .ok (.aload 7, 2) := by decide +kernel
theorem dX10_wear_84 : decode cX10_wear 84 = .ok (.iconst 0, 1) := by decide +kernel
theorem dX10_wear_85 : decode cX10_wear 85 = .ok (.invokevirtual 278, 3) := by decide +kernel
theorem dX10_wear_88 : decode cX10_wear 88 = .ok (.aload_n 0, 1) := by decide +kernel
theorem dX10_wear_89 : decode cX10_wear 89 = .ok (.getfield 76, 3) := by decide +kernel
theorem dX10_wear_92 : decode cX10_wear 92 = .ok (.aload_n 0, 1) := by decide +kernel
theorem dX10_wear_93 : decode cX10_wear 93 = .ok (.getfield 55, 3) := by decide +kernel
theorem dX10_wear_96 : decode cX10_wear 96 = .ok (.aload_n 0, 1) := by decide +kernel
theorem dX10_wear_97 : decode cX10_wear 97 = .ok (.getfield 48, 3) := by decide +kernel
theorem dX10_wear_100 : decode cX10_wear 100 = .ok (.invokevirtual 282, 3) := by decide +kernel
theorem dX10_wear_103 : decode cX10_wear 103 = .ok (.iload 5, 2) := by decide +kernel
theorem dX10_wear_105 : decode cX10_wear 105 = .ok (.ifCond .ne 11, 3) := by decide +kernel
theorem dX10_wear_108 : decode cX10_wear 108 = .ok (.aload_n 0, 1) := by decide +kernel
theorem dX10_wear_109 : decode cX10_wear 109 = .ok (.getfield 76, 3) := by decide +kernel
theorem dX10_wear_112 : decode cX10_wear 112 = .ok (.getfield 286, 3) := by decide +kernel
theorem dX10_wear_115 : decode cX10_wear 115 = .ok (.lreturn, 1) := by decide +kernel
theorem dX10_wear_116 : decode cX10_wear 116 = .ok (.iload 5, 2) := by decide +kernel
theorem dX10_wear_118 : decode cX10_wear 118 = .ok (.iconst 1, 1) := by decide +kernel
theorem dX10_wear_119 : decode cX10_wear 119 = .ok (.if_icmp .ne 14, 3) := by decide +kernel
theorem dX10_wear_122 : decode cX10_wear 122 = .ok (.aload_n 0, 1) := by decide +kernel
theorem dX10_wear_123 : decode cX10_wear 123 = .ok (.getfield 76, 3) := by decide +kernel
theorem dX10_wear_126 : decode cX10_wear 126 = .ok (.getfield 289, 3) := by decide +kernel
theorem dX10_wear_129 : decode cX10_wear 129 = .ok (.i2l, 1) := by decide +kernel
theorem dX10_wear_130 : decode cX10_wear 130 = .ok (.goto 11, 3) := by decide +kernel
theorem dX10_wear_133 : decode cX10_wear 133 = .ok (.aload_n 0, 1) := by decide +kernel
theorem dX10_wear_134 : decode cX10_wear 134 = .ok (.getfield 76, 3) := by decide +kernel
theorem dX10_wear_137 : decode cX10_wear 137 = .ok (.getfield 292, 3) := by decide +kernel
theorem dX10_wear_140 : decode cX10_wear 140 = .ok (.i2l, 1) := by decide +kernel
theorem dX10_wear_141 : decode cX10_wear 141 = .ok (.lreturn, 1) := by decide +kernel
theorem dX10_traffic_0 : decode cX10_traffic 0 = .ok (.aload_n 0, 1) := by decide +kernel
theorem dX10_traffic_1 : decode cX10_traffic 1 = .ok (.iload_n 1, 1) := by decide +kernel
theorem dX10_traffic_2 : decode cX10_traffic 2 = .ok (.invokevirtual 163, 3) := by decide +kernel
theorem dX10_traffic_5 : decode cX10_traffic 5 = .ok (.astore_n 3, 1) := by decide +kernel
theorem dX10_traffic_6 : decode cX10_traffic 6 = .ok (.aload_n 3, 1) := by decide +kernel
theorem dX10_traffic_7 : decode cX10_traffic 7 = .ok (.ifnonnull 7, 3) := by decide +kernel
theorem dX10_traffic_10 : decode cX10_traffic 10 = .ok (.sipush (-1001), 3) := by decide +kernel
theorem dX10_traffic_13 : decode cX10_traffic 13 = .ok (.ireturn, 1) := by decide +kernel
theorem dX10_traffic_14 : decode cX10_traffic 14 = .ok (.iload_n 2, 1) := by decide +kernel
theorem dX10_traffic_15 : decode cX10_traffic 15 = .ok (.iconst 0, 1) := by decide +kernel
theorem dX10_traffic_16 : decode cX10_traffic 16 = .ok (.sipush 1000, 3) := by decide +kernel
theorem dX10_traffic_19 : decode cX10_traffic 19 = .ok (.invokestatic 132, 3) := by decide +kernel
theorem dX10_traffic_22 : decode cX10_traffic 22 = .ok (.ifCond .ne 7, 3) := by decide +kernel
theorem dX10_traffic_25 : decode cX10_traffic 25 = .ok (.sipush (-1002), 3) := by decide +kernel
theorem dX10_traffic_28 : decode cX10_traffic 28 = .ok (.ireturn, 1) := by decide +kernel
theorem dX10_traffic_29 : decode cX10_traffic 29 = .ok (.aload_n 3, 1) := by decide +kernel
theorem dX10_traffic_30 : decode cX10_traffic 30 = .ok (.getfield 295, 3) := by decide +kernel
theorem dX10_traffic_33 : decode cX10_traffic 33 = .ok (.istore 4, 2) := by decide +kernel
theorem dX10_traffic_35 : decode cX10_traffic 35 = .ok (.aload_n 3, 1) := by decide +kernel
theorem dX10_traffic_36 : decode cX10_traffic 36 = .ok (.iload_n 2, 1) := by decide +kernel
theorem dX10_traffic_37 : decode cX10_traffic 37 = .ok (.putfield 295, 3) := by decide +kernel
theorem dX10_traffic_40 : decode cX10_traffic 40 = .ok (.iload 4, 2) := by decide +kernel
theorem dX10_traffic_42 : decode cX10_traffic 42 = .ok (.ireturn, 1) := by decide +kernel
theorem dX10_worn_0 : decode cX10_worn 0 = .ok (.aload_n 0, 1) := by decide +kernel
theorem dX10_worn_1 : decode cX10_worn 1 = .ok (.iload_n 1, 1) := by decide +kernel
theorem dX10_worn_2 : decode cX10_worn 2 = .ok (.invokevirtual 104, 3) := by decide +kernel
theorem dX10_worn_5 : decode cX10_worn 5 = .ok (.astore 4, 2) := by decide +kernel
theorem dX10_worn_7 : decode cX10_worn 7 = .ok (.aload 4, 2) := by decide +kernel
theorem dX10_worn_9 : decode cX10_worn 9 = .ok (.ifnull 13, 3) := by decide +kernel
theorem dX10_worn_12 : decode cX10_worn 12 = .ok (.aload 4, 2) := by decide +kernel
theorem dX10_worn_14 : decode cX10_worn 14 = .ok (.iload_n 2, 1) := by decide +kernel
theorem dX10_worn_15 : decode cX10_worn 15 = .ok (.iload_n 3, 1) := by decide +kernel
theorem dX10_worn_16 : decode cX10_worn 16 = .ok (.invokevirtual 123, 3) := by decide +kernel
theorem dX10_worn_19 : decode cX10_worn 19 = .ok (.ifCond .eq 7, 3) := by decide +kernel
theorem dX10_worn_22 : decode cX10_worn 22 = .ok (.ldc2_w 127, 3) := by decide +kernel
theorem dX10_worn_25 : decode cX10_worn 25 = .ok (.lreturn, 1) := by decide +kernel
theorem dX10_worn_26 : decode cX10_worn 26 = .ok (.aload 4, 2) := by decide +kernel
theorem dX10_worn_28 : decode cX10_worn 28 = .ok (.iload_n 2, 1) := by decide +kernel
theorem dX10_worn_29 : decode cX10_worn 29 = .ok (.iload_n 3, 1) := by decide +kernel
theorem dX10_worn_30 : decode cX10_worn 30 = .ok (.invokevirtual 129, 3) := by decide +kernel
theorem dX10_worn_33 : decode cX10_worn 33 = .ok (.ifCond .ne 7, 3) := by decide +kernel
theorem dX10_worn_36 : decode cX10_worn 36 = .ok (.ldc2_w 136, 3) := by decide +kernel
theorem dX10_worn_39 : decode cX10_worn 39 = .ok (.lreturn, 1) := by decide +kernel
theorem dX10_worn_40 : decode cX10_worn 40 = .ok (.aload_n 0, 1) := by decide +kernel
theorem dX10_worn_41 : decode cX10_worn 41 = .ok (.getfield 48, 3) := by decide +kernel
theorem dX10_worn_44 : decode cX10_worn 44 = .ok (.aload 4, 2) := by decide +kernel
theorem dX10_worn_46 : decode cX10_worn 46 = .ok (.iload_n 2, 1) := by decide +kernel
theorem dX10_worn_47 : decode cX10_worn 47 = .ok (.iload_n 3, 1) := by decide +kernel
theorem dX10_worn_48 : decode cX10_worn 48 = .ok (.invokevirtual 138, 3) := by decide +kernel
theorem dX10_worn_51 : decode cX10_worn 51 = .ok (.lconst 0, 1) := by decide +kernel
theorem dX10_worn_52 : decode cX10_worn 52 = .ok (.lstore 5, 2) := by decide +kernel
theorem dX10_worn_54 : decode cX10_worn 54 = .ok (.iconst 0, 1) := by decide +kernel
theorem dX10_worn_55 : decode cX10_worn 55 = .ok (.istore 7, 2) := by decide +kernel
theorem dX10_worn_57 : decode cX10_worn 57 = .ok (.iload 7, 2) := by decide +kernel
theorem dX10_worn_59 : decode cX10_worn 59 = .ok (.aload_n 0, 1) := by decide +kernel
theorem dX10_worn_60 : decode cX10_worn 60 = .ok (.getfield 25, 3) := by decide +kernel
theorem dX10_worn_63 : decode cX10_worn 63 = .ok (.if_icmp .ge 78, 3) := by decide +kernel
theorem dX10_worn_66 : decode cX10_worn 66 = .ok (.aload_n 0, 1) := by decide +kernel
theorem dX10_worn_67 : decode cX10_worn 67 = .ok (.iload 7, 2) := by decide +kernel
theorem dX10_worn_69 : decode cX10_worn 69 = .ok (.invokevirtual 163, 3) := by decide +kernel
theorem dX10_worn_72 : decode cX10_worn 72 = .ok (.astore 8, 2) := by decide +kernel
theorem dX10_worn_74 : decode cX10_worn 74 = .ok (.aload 8, 2) := by decide +kernel
theorem dX10_worn_76 : decode cX10_worn 76 = .ok (.ifnull 59, 3) := by decide +kernel
theorem dX10_worn_79 : decode cX10_worn 79 = .ok (.aload 8, 2) := by decide +kernel
theorem dX10_worn_81 : decode cX10_worn 81 = .ok (.getfield 295, 3) := by decide +kernel
theorem dX10_worn_84 : decode cX10_worn 84 = .ok (.ifCond .le 51, 3) := by decide +kernel
theorem dX10_worn_87 : decode cX10_worn 87 = .ok (.aload_n 0, 1) := by decide +kernel
theorem dX10_worn_88 : decode cX10_worn 88 = .ok (.getfield 55, 3) := by decide +kernel
theorem dX10_worn_91 : decode cX10_worn 91 = .ok (.aload_n 0, 1) := by decide +kernel
theorem dX10_worn_92 : decode cX10_worn 92 = .ok (.getfield 48, 3) := by decide +kernel
theorem dX10_worn_95 : decode cX10_worn 95 = .ok (.aload 8, 2) := by decide +kernel
theorem dX10_worn_97 : decode cX10_worn 97 = .ok (.iconst 0, 1) := by decide +kernel
theorem dX10_worn_98 : decode cX10_worn 98 = .ok (.invokevirtual 278, 3) := by decide +kernel
theorem dX10_worn_101 : decode cX10_worn 101 = .ok (.aload_n 0, 1) := by decide +kernel
theorem dX10_worn_102 : decode cX10_worn 102 = .ok (.getfield 76, 3) := by decide +kernel
theorem dX10_worn_105 : decode cX10_worn 105 = .ok (.aload_n 0, 1) := by decide +kernel
theorem dX10_worn_106 : decode cX10_worn 106 = .ok (.getfield 55, 3) := by decide +kernel
theorem dX10_worn_109 : decode cX10_worn 109 = .ok (.aload_n 0, 1) := by decide +kernel
theorem dX10_worn_110 : decode cX10_worn 110 = .ok (.getfield 48, 3) := by decide +kernel
theorem dX10_worn_113 : decode cX10_worn 113 = .ok (.invokevirtual 282, 3) := by decide +kernel
theorem dX10_worn_116 : decode cX10_worn 116 = .ok (.lload 5, 2) := by decide +kernel
theorem dX10_worn_118 : decode cX10_worn 118 = .ok (.aload 8, 2) := by decide +kernel
theorem dX10_worn_120 : decode cX10_worn 120 = .ok (.getfield 295, 3) := by decide +kernel
theorem dX10_worn_123 : decode cX10_worn 123 = .ok (.i2l, 1) := by decide +kernel
theorem dX10_worn_124 : decode cX10_worn 124 = .ok (.aload_n 0, 1) := by decide +kernel
theorem dX10_worn_125 : decode cX10_worn 125 = .ok (.getfield 76, 3) := by decide +kernel
theorem dX10_worn_128 : decode cX10_worn 128 = .ok (.getfield 286, 3) := by decide +kernel
theorem dX10_worn_131 : decode cX10_worn 131 = .ok (.lmul, 1) := by decide +kernel
theorem dX10_worn_132 : decode cX10_worn 132 = .ok (.ladd, 1) := by decide +kernel
theorem dX10_worn_133 : decode cX10_worn 133 = .ok (.lstore 5, 2) := by decide +kernel
theorem dX10_worn_135 : decode cX10_worn 135 = .ok (.iinc 7 1, 3) := by decide +kernel
theorem dX10_worn_138 : decode cX10_worn 138 = .ok (.goto (-81), 3) := by decide +kernel
theorem dX10_worn_141 : decode cX10_worn 141 = .ok (.lload 5, 2) := by decide +kernel
theorem dX10_worn_143 : decode cX10_worn 143 = .ok (.lreturn, 1) := by decide +kernel
theorem dX10_count_0 : decode cX10_count 0 = .ok (.iload_n 1, 1) := by decide +kernel
theorem dX10_count_1 : decode cX10_count 1 = .ok (.tableswitch 72 0 5 #[39, 44, 49, 57, 62, 67], 39) := by decide +kernel
theorem dX10_count_40 : decode cX10_count 40 = .ok (.aload_n 0, 1) := by decide +kernel
theorem dX10_count_41 : decode cX10_count 41 = .ok (.getfield 15, 3) := by decide +kernel
theorem dX10_count_44 : decode cX10_count 44 = .ok (.ireturn, 1) := by decide +kernel
theorem dX10_count_45 : decode cX10_count 45 = .ok (.aload_n 0, 1) := by decide +kernel
theorem dX10_count_46 : decode cX10_count 46 = .ok (.getfield 25, 3) := by decide +kernel
theorem dX10_count_49 : decode cX10_count 49 = .ok (.ireturn, 1) := by decide +kernel
theorem dX10_count_50 : decode cX10_count 50 = .ok (.aload_n 0, 1) := by decide +kernel
theorem dX10_count_51 : decode cX10_count 51 = .ok (.getfield 34, 3) := by decide +kernel
theorem dX10_count_54 : decode cX10_count 54 = .ok (.getfield 253, 3) := by decide +kernel
theorem dX10_count_57 : decode cX10_count 57 = .ok (.ireturn, 1) := by decide +kernel
theorem dX10_count_58 : decode cX10_count 58 = .ok (.aload_n 0, 1) := by decide +kernel
theorem dX10_count_59 : decode cX10_count 59 = .ok (.invokevirtual 298, 3) := by decide +kernel
theorem dX10_count_62 : decode cX10_count 62 = .ok (.ireturn, 1) := by decide +kernel
theorem dX10_count_63 : decode cX10_count 63 = .ok (.aload_n 0, 1) := by decide +kernel
theorem dX10_count_64 : decode cX10_count 64 = .ok (.getfield 28, 3) := by decide +kernel
theorem dX10_count_67 : decode cX10_count 67 = .ok (.ireturn, 1) := by decide +kernel
theorem dX10_count_68 : decode cX10_count 68 = .ok (.aload_n 0, 1) := by decide +kernel
theorem dX10_count_69 : decode cX10_count 69 = .ok (.invokevirtual 301, 3) := by decide +kernel
theorem dX10_count_72 : decode cX10_count 72 = .ok (.ireturn, 1) := by decide +kernel
theorem dX10_count_73 : decode cX10_count 73 = .ok (.sipush (-1002), 3) := by decide +kernel
theorem dX10_count_76 : decode cX10_count 76 = .ok (.ireturn, 1) := by decide +kernel
theorem dX10_within_0 : decode cX10_within 0 = .ok (.iload_n 0, 1) := by decide +kernel
theorem dX10_within_1 : decode cX10_within 1 = .ok (.iload_n 1, 1) := by decide +kernel
theorem dX10_within_2 : decode cX10_within 2 = .ok (.if_icmp .lt 12, 3) := by decide +kernel
theorem dX10_within_5 : decode cX10_within 5 = .ok (.iload_n 0, 1) := by decide +kernel
theorem dX10_within_6 : decode cX10_within 6 = .ok (.iload_n 2, 1) := by decide +kernel
theorem dX10_within_7 : decode cX10_within 7 = .ok (.if_icmp .gt 7, 3) := by decide +kernel
theorem dX10_within_10 : decode cX10_within 10 = .ok (.iconst 1, 1) := by decide +kernel
theorem dX10_within_11 : decode cX10_within 11 = .ok (.goto 4, 3) := by decide +kernel
theorem dX10_within_14 : decode cX10_within 14 = .ok (.iconst 0, 1) := by decide +kernel
theorem dX10_within_15 : decode cX10_within 15 = .ok (.ireturn, 1) := by decide +kernel
theorem dX10_isTown_0 : decode cX10_isTown 0 = .ok (.iload_n 0, 1) := by decide +kernel
theorem dX10_isTown_1 : decode cX10_isTown 1 = .ok (.iconst 0, 1) := by decide +kernel
theorem dX10_isTown_2 : decode cX10_isTown 2 = .ok (.bipush 9, 2) := by decide +kernel
theorem dX10_isTown_4 : decode cX10_isTown 4 = .ok (.invokestatic 132, 3) := by decide +kernel
theorem dX10_isTown_7 : decode cX10_isTown 7 = .ok (.ireturn, 1) := by decide +kernel
theorem dX10_limitsHold_0 : decode cX10_limitsHold 0 = .ok (.iload_n 0, 1) := by decide +kernel
theorem dX10_limitsHold_1 : decode cX10_limitsHold 1 = .ok (.iconst 0, 1) := by decide +kernel
theorem dX10_limitsHold_2 : decode cX10_limitsHold 2 = .ok (.ldc_w 304, 3) := by decide +kernel
theorem dX10_limitsHold_5 : decode cX10_limitsHold 5 = .ok (.invokestatic 132, 3) := by decide +kernel
theorem dX10_limitsHold_8 : decode cX10_limitsHold 8 = .ok (.ifCond .eq 18, 3) := by decide +kernel
theorem dX10_limitsHold_11 : decode cX10_limitsHold 11 = .ok (.iload_n 1, 1) := by decide +kernel
theorem dX10_limitsHold_12 : decode cX10_limitsHold 12 = .ok (.ldc_w 305, 3) := by decide +kernel
theorem dX10_limitsHold_15 : decode cX10_limitsHold 15 = .ok (.iconst 0, 1) := by decide +kernel
theorem dX10_limitsHold_16 : decode cX10_limitsHold 16 = .ok (.invokestatic 132, 3) := by decide +kernel
theorem dX10_limitsHold_19 : decode cX10_limitsHold 19 = .ok (.ifCond .eq 7, 3) := by decide +kernel
theorem dX10_limitsHold_22 : decode cX10_limitsHold 22 = .ok (.iconst 1, 1) := by decide +kernel
theorem dX10_limitsHold_23 : decode cX10_limitsHold 23 = .ok (.goto 4, 3) := by decide +kernel
theorem dX10_limitsHold_26 : decode cX10_limitsHold 26 = .ok (.iconst 0, 1) := by decide +kernel
theorem dX10_limitsHold_27 : decode cX10_limitsHold 27 = .ok (.ireturn, 1) := by decide +kernel
theorem dX10_wellFormed_0 : decode cX10_wellFormed 0 = .ok (.iload_n 0, 1) := by decide +kernel
theorem dX10_wellFormed_1 : decode cX10_wellFormed 1 = .ok (.iconst 2, 1) := by decide +kernel
theorem dX10_wellFormed_2 : decode cX10_wellFormed 2 = .ok (.bipush 60, 2) := by decide +kernel
theorem dX10_wellFormed_4 : decode cX10_wellFormed 4 = .ok (.invokestatic 132, 3) := by decide +kernel
theorem dX10_wellFormed_7 : decode cX10_wellFormed 7 = .ok (.ifCond .ne 5, 3) := by decide +kernel
theorem dX10_wellFormed_10 : decode cX10_wellFormed 10 = .ok (.iconst 0, 1) := by decide +kernel
theorem dX10_wellFormed_11 : decode cX10_wellFormed 11 = .ok (.ireturn, 1) := by decide +kernel
theorem dX10_wellFormed_12 : decode cX10_wellFormed 12 = .ok (.ldc2_w 306, 3) := by decide +kernel
theorem dX10_wellFormed_15 : decode cX10_wellFormed 15 = .ok (.iload_n 0, 1) := by decide +kernel
theorem dX10_wellFormed_16 : decode cX10_wellFormed 16 = .ok (.lshl, 1) := by decide +kernel
theorem dX10_wellFormed_17 : decode cX10_wellFormed 17 = .ok (.lconst 1, 1) := by decide +kernel
theorem dX10_wellFormed_18 : decode cX10_wellFormed 18 = .ok (.lsub, 1) := by decide +kernel
theorem dX10_wellFormed_19 : decode cX10_wellFormed 19 = .ok (.lstore 5, 2) := by decide +kernel
theorem dX10_wellFormed_21 : decode cX10_wellFormed 21 = .ok (.lconst 1, 1) := by decide +kernel
theorem dX10_wellFormed_22 : decode cX10_wellFormed 22 = .ok (.iload_n 0, 1) := by decide +kernel
theorem dX10_wellFormed_23 : decode cX10_wellFormed 23 = .ok (.lshl, 1) := by decide +kernel
theorem dX10_wellFormed_24 : decode cX10_wellFormed 24 = .ok (.ldc2_w 306, 3) := by decide +kernel
theorem dX10_wellFormed_27 : decode cX10_wellFormed 27 = .ok (.lsub, 1) := by decide +kernel
theorem dX10_wellFormed_28 : decode cX10_wellFormed 28 = .ok (.lstore 7, 2) := by decide +kernel
theorem dX10_wellFormed_30 : decode cX10_wellFormed 30 = .ok (.lload_n 1, 1) := by decide +kernel
theorem dX10_wellFormed_31 : decode cX10_wellFormed 31 = .ok (.invokestatic 308, 3) := by decide +kernel
theorem dX10_wellFormed_34 : decode cX10_wellFormed 34 = .ok (.istore 9, 2) := by decide +kernel
theorem dX10_wellFormed_36 : decode cX10_wellFormed 36 = .ok (.lload_n 1, 1) := by decide +kernel
theorem dX10_wellFormed_37 : decode cX10_wellFormed 37 = .ok (.lload 5, 2) := by decide +kernel
theorem dX10_wellFormed_39 : decode cX10_wellFormed 39 = .ok (.ldc2_w 314, 3) := by decide +kernel
theorem dX10_wellFormed_42 : decode cX10_wellFormed 42 = .ok (.lxor, 1) := by decide +kernel
theorem dX10_wellFormed_43 : decode cX10_wellFormed 43 = .ok (.land, 1) := by decide +kernel
theorem dX10_wellFormed_44 : decode cX10_wellFormed 44 = .ok (.lconst 0, 1) := by decide +kernel
theorem dX10_wellFormed_45 : decode cX10_wellFormed 45 = .ok (.lcmp, 1) := by decide +kernel
theorem dX10_wellFormed_46 : decode cX10_wellFormed 46 = .ok (.ifCond .ne 49, 3) := by decide +kernel
theorem dX10_wellFormed_49 : decode cX10_wellFormed 49 = .ok (.iload 9, 2) := by decide +kernel
theorem dX10_wellFormed_51 : decode cX10_wellFormed 51 = .ok (.iconst 2, 1) := by decide +kernel
theorem dX10_wellFormed_52 : decode cX10_wellFormed 52 = .ok (.iconst 5, 1) := by decide +kernel
theorem dX10_wellFormed_53 : decode cX10_wellFormed 53 = .ok (.invokestatic 132, 3) := by decide +kernel
theorem dX10_wellFormed_56 : decode cX10_wellFormed 56 = .ok (.ifCond .eq 39, 3) := by decide +kernel
theorem dX10_wellFormed_59 : decode cX10_wellFormed 59 = .ok (.lload_n 3, 1) := by decide +kernel
theorem dX10_wellFormed_60 : decode cX10_wellFormed 60 = .ok (.lload 7, 2) := by decide +kernel
theorem dX10_wellFormed_62 : decode cX10_wellFormed 62 = .ok (.ldc2_w 314, 3) := by decide +kernel
theorem dX10_wellFormed_65 : decode cX10_wellFormed 65 = .ok (.lxor, 1) := by decide +kernel
theorem dX10_wellFormed_66 : decode cX10_wellFormed 66 = .ok (.land, 1) := by decide +kernel
theorem dX10_wellFormed_67 : decode cX10_wellFormed 67 = .ok (.lconst 0, 1) := by decide +kernel
theorem dX10_wellFormed_68 : decode cX10_wellFormed 68 = .ok (.lcmp, 1) := by decide +kernel
theorem dX10_wellFormed_69 : decode cX10_wellFormed 69 = .ok (.ifCond .ne 26, 3) := by decide +kernel
theorem dX10_wellFormed_72 : decode cX10_wellFormed 72 = .ok (.lload_n 3, 1) := by decide +kernel
theorem dX10_wellFormed_73 : decode cX10_wellFormed 73 = .ok (.lload_n 1, 1) := by decide +kernel
theorem dX10_wellFormed_74 : decode cX10_wellFormed 74 = .ok (.land, 1) := by decide +kernel
theorem dX10_wellFormed_75 : decode cX10_wellFormed 75 = .ok (.lconst 0, 1) := by decide +kernel
theorem dX10_wellFormed_76 : decode cX10_wellFormed 76 = .ok (.lcmp, 1) := by decide +kernel
theorem dX10_wellFormed_77 : decode cX10_wellFormed 77 = .ok (.ifCond .ne 18, 3) := by decide +kernel
theorem dX10_wellFormed_80 : decode cX10_wellFormed 80 = .ok (.lload_n 3, 1) := by decide +kernel
theorem dX10_wellFormed_81 : decode cX10_wellFormed 81 = .ok (.invokestatic 308, 3) := by decide +kernel
theorem dX10_wellFormed_84 : decode cX10_wellFormed 84 = .ok (.iload 9, 2) := by decide +kernel
theorem dX10_wellFormed_86 : decode cX10_wellFormed 86 = .ok (.iconst 2, 1) := by decide +kernel
theorem dX10_wellFormed_87 : decode cX10_wellFormed 87 = .ok (.isub, 1) := by decide +kernel
theorem dX10_wellFormed_88 : decode cX10_wellFormed 88 = .ok (.if_icmp .ne 7, 3) := by decide +kernel
theorem dX10_wellFormed_91 : decode cX10_wellFormed 91 = .ok (.iconst 1, 1) := by decide +kernel
theorem dX10_wellFormed_92 : decode cX10_wellFormed 92 = .ok (.goto 4, 3) := by decide +kernel
theorem dX10_wellFormed_95 : decode cX10_wellFormed 95 = .ok (.iconst 0, 1) := by decide +kernel
theorem dX10_wellFormed_96 : decode cX10_wellFormed 96 = .ok (.ireturn, 1) := by decide +kernel
theorem dX10_placesOf_0 : decode cX10_placesOf 0 = .ok (.lload_n 0, 1) := by decide +kernel
theorem dX10_placesOf_1 : decode cX10_placesOf 1 = .ok (.invokestatic 308, 3) := by decide +kernel
theorem dX10_placesOf_4 : decode cX10_placesOf 4 = .ok (.newarray .int, 2) := by decide +kernel
theorem dX10_placesOf_6 : decode cX10_placesOf 6 = .ok (.astore_n 2, 1) := by decide +kernel
theorem dX10_placesOf_7 : decode cX10_placesOf 7 = .ok (.iconst 0, 1) := by decide +kernel
theorem dX10_placesOf_8 : decode cX10_placesOf 8 = .ok (.istore_n 3, 1) := by decide +kernel
theorem dX10_placesOf_9 : decode cX10_placesOf 9 = .ok (.iconst 0, 1) := by decide +kernel
theorem dX10_placesOf_10 : decode cX10_placesOf 10 = .ok (.istore 4, 2) := by decide +kernel
theorem dX10_placesOf_12 : decode cX10_placesOf 12 = .ok (.iload 4, 2) := by decide +kernel
theorem dX10_placesOf_14 : decode cX10_placesOf 14 = .ok (.bipush 60, 2) := by decide +kernel
theorem dX10_placesOf_16 : decode cX10_placesOf 16 = .ok (.if_icmp .gt 34, 3) := by decide +kernel
theorem dX10_placesOf_19 : decode cX10_placesOf 19 = .ok (.iload_n 3, 1) := by decide +kernel
theorem dX10_placesOf_20 : decode cX10_placesOf 20 = .ok (.aload_n 2, 1) := by decide +kernel
theorem dX10_placesOf_21 : decode cX10_placesOf 21 = .ok (.arraylength, 1) := by decide +kernel
theorem dX10_placesOf_22 : decode cX10_placesOf 22 = .ok (.if_icmp .ge 28, 3) := by decide +kernel
theorem dX10_placesOf_25 : decode cX10_placesOf 25 = .ok (.lload_n 0, 1) := by decide +kernel
theorem dX10_placesOf_26 : decode cX10_placesOf 26 = .ok (.iload 4, 2) := by decide +kernel
theorem dX10_placesOf_28 : decode cX10_placesOf 28 = .ok (.lushr, 1) := by decide +kernel
theorem dX10_placesOf_29 : decode cX10_placesOf 29 = .ok (.lconst 1, 1) := by decide +kernel
theorem dX10_placesOf_30 : decode cX10_placesOf 30 = .ok (.land, 1) := by decide +kernel
theorem dX10_placesOf_31 : decode cX10_placesOf 31 = .ok (.lconst 0, 1) := by decide +kernel
theorem dX10_placesOf_32 : decode cX10_placesOf 32 = .ok (.lcmp, 1) := by decide +kernel
theorem dX10_placesOf_33 : decode cX10_placesOf 33 = .ok (.ifCond .eq 11, 3) := by decide +kernel
theorem dX10_placesOf_36 : decode cX10_placesOf 36 = .ok (.aload_n 2, 1) := by decide +kernel
theorem dX10_placesOf_37 : decode cX10_placesOf 37 = .ok (.iload_n 3, 1) := by decide +kernel
theorem dX10_placesOf_38 : decode cX10_placesOf 38 = .ok (.iload 4, 2) := by decide +kernel
theorem dX10_placesOf_40 : decode cX10_placesOf 40 = .ok (.iastore, 1) := by decide +kernel
theorem dX10_placesOf_41 : decode cX10_placesOf 41 = .ok (.iinc 3 1, 3) := by decide +kernel
theorem dX10_placesOf_44 : decode cX10_placesOf 44 = .ok (.iinc 4 1, 3) := by decide +kernel
theorem dX10_placesOf_47 : decode cX10_placesOf 47 = .ok (.goto (-35), 3) := by decide +kernel
theorem dX10_placesOf_50 : decode cX10_placesOf 50 = .ok (.aload_n 2, 1) := by decide +kernel
theorem dX10_placesOf_51 : decode cX10_placesOf 51 = .ok (.areturn, 1) := by decide +kernel
theorem dX10_bridgeAt_0 : decode cX10_bridgeAt 0 = .ok (.iload_n 1, 1) := by decide +kernel
theorem dX10_bridgeAt_1 : decode cX10_bridgeAt 1 = .ok (.iconst 0, 1) := by decide +kernel
theorem dX10_bridgeAt_2 : decode cX10_bridgeAt 2 = .ok (.aload_n 0, 1) := by decide +kernel
theorem dX10_bridgeAt_3 : decode cX10_bridgeAt 3 = .ok (.getfield 15, 3) := by decide +kernel
theorem dX10_bridgeAt_6 : decode cX10_bridgeAt 6 = .ok (.iconst 1, 1) := by decide +kernel
theorem dX10_bridgeAt_7 : decode cX10_bridgeAt 7 = .ok (.isub, 1) := by decide +kernel
theorem dX10_bridgeAt_8 : decode cX10_bridgeAt 8 = .ok (.invokestatic 132, 3) := by decide +kernel
theorem dX10_bridgeAt_11 : decode cX10_bridgeAt 11 = .ok (.ifCond .eq 12, 3) := by decide +kernel
theorem dX10_bridgeAt_14 : decode cX10_bridgeAt 14 = .ok (.aload_n 0, 1) := by decide +kernel
theorem dX10_bridgeAt_15 : decode cX10_bridgeAt 15 = .ok (.getfield 11, 3) := by decide +kernel
theorem dX10_bridgeAt_18 : decode cX10_bridgeAt 18 = .ok (.iload_n 1, 1) := by decide +kernel
theorem dX10_bridgeAt_19 : decode cX10_bridgeAt 19 = .ok (.aaload, 1) := by decide +kernel
theorem dX10_bridgeAt_20 : decode cX10_bridgeAt 20 = .ok (.goto 4, 3) := by decide +kernel
theorem dX10_bridgeAt_23 : decode cX10_bridgeAt 23 = .ok (.aconst_null, 1) := by decide +kernel
theorem dX10_bridgeAt_24 : decode cX10_bridgeAt 24 = .ok (.areturn, 1) := by decide +kernel
theorem dX10_trainAt_0 : decode cX10_trainAt 0 = .ok (.iload_n 1, 1) := by decide +kernel
theorem dX10_trainAt_1 : decode cX10_trainAt 1 = .ok (.iconst 0, 1) := by decide +kernel
theorem dX10_trainAt_2 : decode cX10_trainAt 2 = .ok (.aload_n 0, 1) := by decide +kernel
theorem dX10_trainAt_3 : decode cX10_trainAt 3 = .ok (.getfield 25, 3) := by decide +kernel
theorem dX10_trainAt_6 : decode cX10_trainAt 6 = .ok (.iconst 1, 1) := by decide +kernel
theorem dX10_trainAt_7 : decode cX10_trainAt 7 = .ok (.isub, 1) := by decide +kernel
theorem dX10_trainAt_8 : decode cX10_trainAt 8 = .ok (.invokestatic 132, 3) := by decide +kernel
theorem dX10_trainAt_11 : decode cX10_trainAt 11 = .ok (.ifCond .eq 12, 3) := by decide +kernel
theorem dX10_trainAt_14 : decode cX10_trainAt 14 = .ok (.aload_n 0, 1) := by decide +kernel
theorem dX10_trainAt_15 : decode cX10_trainAt 15 = .ok (.getfield 21, 3) := by decide +kernel
theorem dX10_trainAt_18 : decode cX10_trainAt 18 = .ok (.iload_n 1, 1) := by decide +kernel
theorem dX10_trainAt_19 : decode cX10_trainAt 19 = .ok (.aaload, 1) := by decide +kernel
theorem dX10_trainAt_20 : decode cX10_trainAt 20 = .ok (.goto 4, 3) := by decide +kernel
theorem dX10_trainAt_23 : decode cX10_trainAt 23 = .ok (.aconst_null, 1) := by decide +kernel
theorem dX10_trainAt_24 : decode cX10_trainAt 24 = .ok (.areturn, 1) := by decide +kernel
theorem dX10_partOf_0 : decode cX10_partOf 0 = .ok (.lload_n 0, 1) := by decide +kernel
theorem dX10_partOf_1 : decode cX10_partOf 1 = .ok (.invokestatic 316, 3) := by decide +kernel
theorem dX10_partOf_4 : decode cX10_partOf 4 = .ok (.lload_n 2, 1) := by decide +kernel
theorem dX10_partOf_5 : decode cX10_partOf 5 = .ok (.invokestatic 322, 3) := by decide +kernel
theorem dX10_partOf_8 : decode cX10_partOf 8 = .ok (.lstore 5, 2) := by decide +kernel
theorem dX10_partOf_10 : decode cX10_partOf 10 = .ok (.lload 5, 2) := by decide +kernel
theorem dX10_partOf_12 : decode cX10_partOf 12 = .ok (.lconst 0, 1) := by decide +kernel
theorem dX10_partOf_13 : decode cX10_partOf 13 = .ok (.lcmp, 1) := by decide +kernel
theorem dX10_partOf_14 : decode cX10_partOf 14 = .ok (.ifCond .ne 5, 3) := by decide +kernel
theorem dX10_partOf_17 : decode cX10_partOf 17 = .ok (.lconst 0, 1) := by decide +kernel
theorem dX10_partOf_18 : decode cX10_partOf 18 = .ok (.lreturn, 1) := by decide +kernel
theorem dX10_partOf_19 : decode cX10_partOf 19 = .ok (.iload 4, 2) := by decide +kernel
theorem dX10_partOf_21 : decode cX10_partOf 21 = .ok (.ifCond .ne 7, 3) := by decide +kernel
theorem dX10_partOf_24 : decode cX10_partOf 24 = .ok (.lload_n 0, 1) := by decide +kernel
theorem dX10_partOf_25 : decode cX10_partOf 25 = .ok (.goto 4, 3) := by decide +kernel
theorem dX10_partOf_28 : decode cX10_partOf 28 = .ok (.lload_n 2, 1) := by decide +kernel
theorem dX10_partOf_29 : decode cX10_partOf 29 = .ok (.lload 5, 2) := by decide +kernel
theorem dX10_partOf_31 : decode cX10_partOf 31 = .ok (.ldiv, 1) := by decide +kernel
theorem dX10_partOf_32 : decode cX10_partOf 32 = .ok (.lreturn, 1) := by decide +kernel
theorem dX10_commonDivisor_0 : decode cX10_commonDivisor 0 = .ok (.lload_n 0, 1) := by decide +kernel
theorem dX10_commonDivisor_1 : decode cX10_commonDivisor 1 = .ok (.lstore 4, 2) := by decide +kernel
theorem dX10_commonDivisor_3 : decode cX10_commonDivisor 3 = .ok (.lload_n 2, 1) := by decide +kernel
theorem dX10_commonDivisor_4 : decode cX10_commonDivisor 4 = .ok (.lstore 6, 2) := by decide +kernel
theorem dX10_commonDivisor_6 : decode cX10_commonDivisor 6 = .ok (.iconst 0, 1) := by decide +kernel
theorem dX10_commonDivisor_7 : decode cX10_commonDivisor 7 = .ok (.istore 8, 2) := by decide +kernel
theorem dX10_commonDivisor_9 : decode cX10_commonDivisor 9 = .ok (.iload 8, 2) := by decide +kernel
theorem dX10_commonDivisor_11 : decode cX10_commonDivisor 11 = .ok (.sipush 200, 3) := by decide +kernel
theorem dX10_commonDivisor_14 : decode cX10_commonDivisor 14 = .ok (.if_icmp .ge 31, 3) := by decide +kernel
theorem dX10_commonDivisor_17 : decode cX10_commonDivisor 17 = .ok (.lload 6, 2) := by decide +kernel
theorem dX10_commonDivisor_19 : decode cX10_commonDivisor 19 = .ok (.lconst 0, 1) := by decide +kernel
theorem dX10_commonDivisor_20 : decode cX10_commonDivisor 20 = .ok (.lcmp, 1) := by decide +kernel
theorem dX10_commonDivisor_21 : decode cX10_commonDivisor 21 = .ok (.ifCond .eq 24, 3) := by decide +kernel
theorem dX10_commonDivisor_24 : decode cX10_commonDivisor 24 = .ok (.lload 4, 2) := by decide +kernel
theorem dX10_commonDivisor_26 : decode cX10_commonDivisor 26 = .ok (.lload 6, 2) := by decide +kernel
theorem dX10_commonDivisor_28 : decode cX10_commonDivisor 28 = .ok (.lrem, 1) := by decide +kernel
theorem dX10_commonDivisor_29 : decode cX10_commonDivisor 29 = .ok (.lstore 9, 2) := by decide +kernel
theorem dX10_commonDivisor_31 : decode cX10_commonDivisor 31 = .ok (.lload 6, 2) := by decide +kernel
theorem dX10_commonDivisor_33 : decode cX10_commonDivisor 33 = .ok (.lstore 4, 2) := by decide +kernel
theorem dX10_commonDivisor_35 : decode cX10_commonDivisor 35 = .ok (.lload 9, 2) := by decide +kernel
theorem dX10_commonDivisor_37 : decode cX10_commonDivisor 37 = .ok (.lstore 6, 2) := by decide +kernel
theorem dX10_commonDivisor_39 : decode cX10_commonDivisor 39 = .ok (.iinc 8 1, 3) := by decide +kernel
theorem dX10_commonDivisor_42 : decode cX10_commonDivisor 42 = .ok (.goto (-33), 3) := by decide +kernel
theorem dX10_commonDivisor_45 : decode cX10_commonDivisor 45 = .ok (.lload 4, 2) := by decide +kernel
theorem dX10_commonDivisor_47 : decode cX10_commonDivisor 47 = .ok (.lreturn, 1) := by decide +kernel
theorem dX10_closeRoadsUnmet_0 : decode cX10_closeRoadsUnmet 0 = .ok (.aload_n 0, 1) := by decide +kernel
theorem dX10_closeRoadsUnmet_1 : decode cX10_closeRoadsUnmet 1 = .ok (.getfield 34, 3) := by decide +kernel
theorem dX10_closeRoadsUnmet_4 : decode cX10_closeRoadsUnmet 4 = .ok (.invokevirtual 272, 3) := by decide +kernel
theorem dX10_closeRoadsUnmet_7 : decode cX10_closeRoadsUnmet 7 = .ok (.iconst 0, 1) := by decide +kernel
theorem dX10_closeRoadsUnmet_8 : decode cX10_closeRoadsUnmet 8 = .ok (.istore_n 3, 1) := by decide +kernel
theorem dX10_closeRoadsUnmet_9 : decode cX10_closeRoadsUnmet 9 = .ok (.iload_n 3, 1) := by decide +kernel
theorem dX10_closeRoadsUnmet_10 : decode cX10_closeRoadsUnmet 10 = .ok (.aload_n 0, 1) := by decide +kernel
theorem dX10_closeRoadsUnmet_11 : decode cX10_closeRoadsUnmet 11 = .ok (.getfield 15, 3) := by decide +kernel
theorem dX10_closeRoadsUnmet_14 : decode cX10_closeRoadsUnmet 14 = .ok (.if_icmp .ge 80, 3) := by decide +kernel
theorem dX10_closeRoadsUnmet_17 : decode cX10_closeRoadsUnmet 17 = .ok (.aload_n 0, 1) := by decide +kernel
theorem dX10_closeRoadsUnmet_18 : decode cX10_closeRoadsUnmet 18 = .ok (.getfield 85, 3) := by decide +kernel
theorem dX10_closeRoadsUnmet_21 : decode cX10_closeRoadsUnmet 21 = .ok (.iload_n 3, 1) := by decide +kernel
theorem dX10_closeRoadsUnmet_22 : decode cX10_closeRoadsUnmet 22 = .ok (.iconst (-1), 1) := by decide +kernel
theorem dX10_closeRoadsUnmet_23 : decode cX10_closeRoadsUnmet 23 = .ok (.iastore, 1) := by decide +kernel
theorem dX10_closeRoadsUnmet_24 : decode cX10_closeRoadsUnmet 24 = .ok (.aload_n 0, 1) := by decide +kernel
theorem dX10_closeRoadsUnmet_25 : decode cX10_closeRoadsUnmet 25 = .ok (.iload_n 3, 1) := by decide +kernel
theorem dX10_closeRoadsUnmet_26 : decode cX10_closeRoadsUnmet 26 = .ok (.invokevirtual 104, 3) := by decide +kernel
theorem dX10_closeRoadsUnmet_29 : decode cX10_closeRoadsUnmet 29 = .ok (.astore 4, 2) := by decide +kernel
theorem dX10_closeRoadsUnmet_31 : decode cX10_closeRoadsUnmet 31 = .ok (.aload 4, 2) := by decide +kernel
theorem dX10_closeRoadsUnmet_33 : decode cX10_closeRoadsUnmet 33 = .ok (.ifnull 37, 3) := by decide +kernel
theorem dX10_closeRoadsUnmet_36 : decode cX10_closeRoadsUnmet 36 = .ok (.aload_n 0, 1) := by decide +kernel
theorem dX10_closeRoadsUnmet_37 : decode cX10_closeRoadsUnmet 37 = .ok (.getfield 69, 3) := by decide +kernel
theorem dX10_closeRoadsUnmet_40 : decode cX10_closeRoadsUnmet 40 = .ok (.aload 4, 2) := by decide +kernel
theorem dX10_closeRoadsUnmet_42 : decode cX10_closeRoadsUnmet 42 = .ok (.aload_n 0, 1) := by decide +kernel
theorem dX10_closeRoadsUnmet_43 : decode cX10_closeRoadsUnmet 43 = .ok (.aload_n 0, 1) := by decide +kernel
theorem dX10_closeRoadsUnmet_44 : decode cX10_closeRoadsUnmet 44 = .ok (.getfield 28, 3) := by decide +kernel
theorem dX10_closeRoadsUnmet_47 : decode cX10_closeRoadsUnmet 47 = .ok (.invokevirtual 163, 3) := by decide +kernel
theorem dX10_closeRoadsUnmet_50 : decode cX10_closeRoadsUnmet 50 = .ok (.iload_n 2, 1) := by decide +kernel
theorem dX10_closeRoadsUnmet_51 : decode cX10_closeRoadsUnmet 51 = .ok (.invokevirtual 218, 3) := by decide +kernel
theorem dX10_closeRoadsUnmet_54 : decode cX10_closeRoadsUnmet 54 = .ok (.aload_n 0, 1) := by decide +kernel
theorem dX10_closeRoadsUnmet_55 : decode cX10_closeRoadsUnmet 55 = .ok (.getfield 85, 3) := by decide +kernel
theorem dX10_closeRoadsUnmet_58 : decode cX10_closeRoadsUnmet 58 = .ok (.iload_n 3, 1) := by decide +kernel
theorem dX10_closeRoadsUnmet_59 : decode cX10_closeRoadsUnmet 59 = .ok (.aload_n 0, 1) := by decide +kernel
theorem dX10_closeRoadsUnmet_60 : decode cX10_closeRoadsUnmet 60 = .ok (.getfield 69, 3) := by decide +kernel
theorem dX10_closeRoadsUnmet_63 : decode cX10_closeRoadsUnmet 63 = .ok (.aload 4, 2) := by decide +kernel
theorem dX10_closeRoadsUnmet_65 : decode cX10_closeRoadsUnmet 65 = .ok (.aload_n 1, 1) := by decide +kernel
theorem dX10_closeRoadsUnmet_66 : decode cX10_closeRoadsUnmet 66 = .ok (.invokevirtual 230, 3) := by decide +kernel
theorem dX10_closeRoadsUnmet_69 : decode cX10_closeRoadsUnmet 69 = .ok (.iastore, 1) := by decide +kernel
theorem dX10_closeRoadsUnmet_70 : decode cX10_closeRoadsUnmet 70 = .ok (.aload_n 0, 1) := by decide +kernel
theorem dX10_closeRoadsUnmet_71 : decode cX10_closeRoadsUnmet 71 = .ok (.getfield 85, 3) := by decide +kernel
theorem dX10_closeRoadsUnmet_74 : decode cX10_closeRoadsUnmet 74 = .ok (.iload_n 3, 1) := by decide +kernel
theorem dX10_closeRoadsUnmet_75 : decode cX10_closeRoadsUnmet 75 = .ok (.iaload, 1) := by decide +kernel
theorem dX10_closeRoadsUnmet_76 : decode cX10_closeRoadsUnmet 76 = .ok (.iconst (-1), 1) := by decide +kernel
theorem dX10_closeRoadsUnmet_77 : decode cX10_closeRoadsUnmet 77 = .ok (.if_icmp .eq 11, 3) := by decide +kernel
theorem dX10_closeRoadsUnmet_80 : decode cX10_closeRoadsUnmet 80 = .ok (.aload_n 0, 1) := by decide +kernel
theorem dX10_closeRoadsUnmet_81 : decode cX10_closeRoadsUnmet 81 = .ok (.getfield 34, 3) := by decide +kernel
theorem dX10_closeRoadsUnmet_84 : decode cX10_closeRoadsUnmet 84 = .ok (.iload_n 3, 1) := by decide +kernel
theorem dX10_closeRoadsUnmet_85 : decode cX10_closeRoadsUnmet 85 = .ok (.invokevirtual 326, 3) := by decide +kernel
theorem dX10_closeRoadsUnmet_88 : decode cX10_closeRoadsUnmet 88 = .ok (.iinc 3 1, 3) := by decide +kernel
theorem dX10_closeRoadsUnmet_91 : decode cX10_closeRoadsUnmet 91 = .ok (.goto (-82), 3) := by decide +kernel
theorem dX10_closeRoadsUnmet_94 : decode cX10_closeRoadsUnmet 94 = .ok (.return_, 1) := by decide +kernel
theorem dX10_firstUnmetOnWay_0 : decode cX10_firstUnmetOnWay 0 = .ok (.iconst 0, 1) := by decide +kernel
theorem dX10_firstUnmetOnWay_1 : decode cX10_firstUnmetOnWay 1 = .ok (.istore_n 1, 1) := by decide +kernel
theorem dX10_firstUnmetOnWay_2 : decode cX10_firstUnmetOnWay 2 = .ok (.iload_n 1, 1) := by decide +kernel
theorem dX10_firstUnmetOnWay_3 : decode cX10_firstUnmetOnWay 3 = .ok (.aload_n 0, 1) := by decide +kernel
theorem dX10_firstUnmetOnWay_4 : decode cX10_firstUnmetOnWay 4 = .ok (.getfield 34, 3) := by decide +kernel
theorem dX10_firstUnmetOnWay_7 : decode cX10_firstUnmetOnWay 7 = .ok (.getfield 265, 3) := by decide +kernel
theorem dX10_firstUnmetOnWay_10 : decode cX10_firstUnmetOnWay 10 = .ok (.if_icmp .ge 61, 3) := by decide +kernel
theorem dX10_firstUnmetOnWay_13 : decode cX10_firstUnmetOnWay 13 = .ok (.aload_n 0, 1) := by decide +kernel
theorem dX10_firstUnmetOnWay_14 : decode cX10_firstUnmetOnWay 14 = .ok (.getfield 34, 3) := by decide +kernel
theorem dX10_firstUnmetOnWay_17 : decode cX10_firstUnmetOnWay 17 = .ok (.aload_n 0, 1) := by decide +kernel
theorem dX10_firstUnmetOnWay_18 : decode cX10_firstUnmetOnWay 18 = .ok (.getfield 34, 3) := by decide +kernel
theorem dX10_firstUnmetOnWay_21 : decode cX10_firstUnmetOnWay 21 = .ok (.iload_n 1, 1) := by decide +kernel
theorem dX10_firstUnmetOnWay_22 : decode cX10_firstUnmetOnWay 22 = .ok (.invokevirtual 268, 3) := by decide +kernel
theorem dX10_firstUnmetOnWay_25 : decode cX10_firstUnmetOnWay 25 = .ok (.invokevirtual 330, 3) := by decide +kernel
theorem dX10_firstUnmetOnWay_28 : decode cX10_firstUnmetOnWay 28 = .ok (.istore_n 2, 1) := by decide +kernel
theorem dX10_firstUnmetOnWay_29 : decode cX10_firstUnmetOnWay 29 = .ok (.iload_n 2, 1) := by decide +kernel
theorem dX10_firstUnmetOnWay_30 : decode cX10_firstUnmetOnWay 30 = .ok (.iconst 0, 1) := by decide +kernel
theorem dX10_firstUnmetOnWay_31 : decode cX10_firstUnmetOnWay 31 = .ok (.aload_n 0, 1) := by decide +kernel
theorem dX10_firstUnmetOnWay_32 : decode cX10_firstUnmetOnWay 32 = .ok (.getfield 15, 3) := by decide +kernel
theorem dX10_firstUnmetOnWay_35 : decode cX10_firstUnmetOnWay 35 = .ok (.iconst 1, 1) := by decide +kernel
theorem dX10_firstUnmetOnWay_36 : decode cX10_firstUnmetOnWay 36 = .ok (.isub, 1) := by decide +kernel
theorem dX10_firstUnmetOnWay_37 : decode cX10_firstUnmetOnWay 37 = .ok (.invokestatic 132, 3) := by decide +kernel
theorem dX10_firstUnmetOnWay_40 : decode cX10_firstUnmetOnWay 40 = .ok (.ifCond .eq 25, 3) := by decide +kernel
theorem dX10_firstUnmetOnWay_43 : decode cX10_firstUnmetOnWay 43 = .ok (.aload_n 0, 1) := by decide +kernel
theorem dX10_firstUnmetOnWay_44 : decode cX10_firstUnmetOnWay 44 = .ok (.getfield 85, 3) := by decide +kernel
theorem dX10_firstUnmetOnWay_47 : decode cX10_firstUnmetOnWay 47 = .ok (.iload_n 2, 1) := by decide +kernel
theorem dX10_firstUnmetOnWay_48 : decode cX10_firstUnmetOnWay 48 = .ok (.iaload, 1) := by decide +kernel
theorem dX10_firstUnmetOnWay_49 : decode cX10_firstUnmetOnWay 49 = .ok (.iconst (-1), 1) := by decide +kernel
theorem dX10_firstUnmetOnWay_50 : decode cX10_firstUnmetOnWay 50 = .ok (.if_icmp .eq 15, 3) := by decide +kernel
theorem dX10_firstUnmetOnWay_53 : decode cX10_firstUnmetOnWay 53 = .ok (.bipush 10, 2) := by decide +kernel
theorem dX10_firstUnmetOnWay_55 : decode cX10_firstUnmetOnWay 55 = .ok (.iload_n 2, 1) := by decide +kernel
theorem dX10_firstUnmetOnWay_56 : decode cX10_firstUnmetOnWay 56 = .ok (.imul, 1) := by decide +kernel
theorem dX10_firstUnmetOnWay_57 : decode cX10_firstUnmetOnWay 57 = .ok (.aload_n 0, 1) := by decide +kernel
theorem dX10_firstUnmetOnWay_58 : decode cX10_firstUnmetOnWay 58 = .ok (.getfield 85, 3) := by decide +kernel
theorem dX10_firstUnmetOnWay_61 : decode cX10_firstUnmetOnWay 61 = .ok (.iload_n 2, 1) := by decide +kernel
theorem dX10_firstUnmetOnWay_62 : decode cX10_firstUnmetOnWay 62 = .ok (.iaload, 1) := by decide +kernel
theorem dX10_firstUnmetOnWay_63 : decode cX10_firstUnmetOnWay 63 = .ok (.iadd, 1) := by decide +kernel
theorem dX10_firstUnmetOnWay_64 : decode cX10_firstUnmetOnWay 64 = .ok (.ireturn, 1) := by decide +kernel
theorem dX10_firstUnmetOnWay_65 : decode cX10_firstUnmetOnWay 65 = .ok (.iinc 1 1, 3) := by decide +kernel
theorem dX10_firstUnmetOnWay_68 : decode cX10_firstUnmetOnWay 68 = .ok (.goto (-66), 3) := by decide +kernel
theorem dX10_firstUnmetOnWay_71 : decode cX10_firstUnmetOnWay 71 = .ok (.iconst (-1), 1) := by decide +kernel
theorem dX10_firstUnmetOnWay_72 : decode cX10_firstUnmetOnWay 72 = .ok (.ireturn, 1) := by decide +kernel
theorem dX10_allChecks_0 : decode cX10_allChecks 0 = .ok (.iconst 0, 1) := by decide +kernel
theorem dX10_allChecks_1 : decode cX10_allChecks 1 = .ok (.istore_n 1, 1) := by decide +kernel
theorem dX10_allChecks_2 : decode cX10_allChecks 2 = .ok (.iconst 0, 1) := by decide +kernel
theorem dX10_allChecks_3 : decode cX10_allChecks 3 = .ok (.istore_n 2, 1) := by decide +kernel
theorem dX10_allChecks_4 : decode cX10_allChecks 4 = .ok (.iload_n 2, 1) := by decide +kernel
theorem dX10_allChecks_5 : decode cX10_allChecks 5 = .ok (.aload_n 0, 1) := by decide +kernel
theorem dX10_allChecks_6 : decode cX10_allChecks 6 = .ok (.getfield 15, 3) := by decide +kernel
theorem dX10_allChecks_9 : decode cX10_allChecks 9 = .ok (.if_icmp .ge 30, 3) := by decide +kernel
theorem dX10_allChecks_12 : decode cX10_allChecks 12 = .ok (.aload_n 0, 1) := by decide +kernel
theorem dX10_allChecks_13 : decode cX10_allChecks 13 = .ok (.iload_n 2, 1) := by decide +kernel
theorem dX10_allChecks_14 : decode cX10_allChecks 14 = .ok (.invokevirtual 104, 3) := by decide +kernel
theorem dX10_allChecks_17 : decode cX10_allChecks 17 = .ok (.astore_n 3, 1) := by decide +kernel
theorem dX10_allChecks_18 : decode cX10_allChecks 18 = .ok (.iload_n 1, 1) := by decide +kernel
theorem dX10_allChecks_19 : decode cX10_allChecks 19 = .ok (.aload_n 3, 1) := by decide +kernel
theorem dX10_allChecks_20 : decode cX10_allChecks 20 = .ok (.ifnonnull 7, 3) := by decide +kernel
theorem dX10_allChecks_23 : decode cX10_allChecks 23 = .ok (.iconst 0, 1) := by decide +kernel
theorem dX10_allChecks_24 : decode cX10_allChecks 24 = .ok (.goto 7, 3) := by decide +kernel
theorem dX10_allChecks_27 : decode cX10_allChecks 27 = .ok (.aload_n 3, 1) := by decide +kernel
theorem dX10_allChecks_28 : decode cX10_allChecks 28 = .ok (.getfield 117, 3) := by decide +kernel
theorem dX10_allChecks_31 : decode cX10_allChecks 31 = .ok (.iadd, 1) := by decide +kernel
theorem dX10_allChecks_32 : decode cX10_allChecks 32 = .ok (.istore_n 1, 1) := by decide +kernel
theorem dX10_allChecks_33 : decode cX10_allChecks 33 = .ok (.iinc 2 1, 3) := by decide +kernel
theorem dX10_allChecks_36 : decode cX10_allChecks 36 = .ok (.goto (-32), 3) := by decide +kernel
theorem dX10_allChecks_39 : decode cX10_allChecks 39 = .ok (.iload_n 1, 1) := by decide +kernel
theorem dX10_allChecks_40 : decode cX10_allChecks 40 = .ok (.ireturn, 1) := by decide +kernel
theorem dX10_allTraffic_0 : decode cX10_allTraffic 0 = .ok (.iconst 0, 1) := by decide +kernel
theorem dX10_allTraffic_1 : decode cX10_allTraffic 1 = .ok (.istore_n 1, 1) := by decide +kernel
theorem dX10_allTraffic_2 : decode cX10_allTraffic 2 = .ok (.iconst 0, 1) := by decide +kernel
theorem dX10_allTraffic_3 : decode cX10_allTraffic 3 = .ok (.istore_n 2, 1) := by decide +kernel
theorem dX10_allTraffic_4 : decode cX10_allTraffic 4 = .ok (.iload_n 2, 1) := by decide +kernel
theorem dX10_allTraffic_5 : decode cX10_allTraffic 5 = .ok (.aload_n 0, 1) := by decide +kernel
theorem dX10_allTraffic_6 : decode cX10_allTraffic 6 = .ok (.getfield 25, 3) := by decide +kernel
theorem dX10_allTraffic_9 : decode cX10_allTraffic 9 = .ok (.if_icmp .ge 30, 3) := by decide +kernel
theorem dX10_allTraffic_12 : decode cX10_allTraffic 12 = .ok (.aload_n 0, 1) := by decide +kernel
theorem dX10_allTraffic_13 : decode cX10_allTraffic 13 = .ok (.iload_n 2, 1) := by decide +kernel
theorem dX10_allTraffic_14 : decode cX10_allTraffic 14 = .ok (.invokevirtual 163, 3) := by decide +kernel
theorem dX10_allTraffic_17 : decode cX10_allTraffic 17 = .ok (.astore_n 3, 1) := by decide +kernel
theorem dX10_allTraffic_18 : decode cX10_allTraffic 18 = .ok (.iload_n 1, 1) := by decide +kernel
theorem dX10_allTraffic_19 : decode cX10_allTraffic 19 = .ok (.aload_n 3, 1) := by decide +kernel
theorem dX10_allTraffic_20 : decode cX10_allTraffic 20 = .ok (.ifnonnull 7, 3) := by decide +kernel
theorem dX10_allTraffic_23 : decode cX10_allTraffic 23 = .ok (.iconst 0, 1) := by decide +kernel
theorem dX10_allTraffic_24 : decode cX10_allTraffic 24 = .ok (.goto 7, 3) := by decide +kernel
theorem dX10_allTraffic_27 : decode cX10_allTraffic 27 = .ok (.aload_n 3, 1) := by decide +kernel
theorem dX10_allTraffic_28 : decode cX10_allTraffic 28 = .ok (.getfield 295, 3) := by decide +kernel
theorem dX10_allTraffic_31 : decode cX10_allTraffic 31 = .ok (.iadd, 1) := by decide +kernel
theorem dX10_allTraffic_32 : decode cX10_allTraffic 32 = .ok (.istore_n 1, 1) := by decide +kernel
theorem dX10_allTraffic_33 : decode cX10_allTraffic 33 = .ok (.iinc 2 1, 3) := by decide +kernel
theorem dX10_allTraffic_36 : decode cX10_allTraffic 36 = .ok (.goto (-32), 3) := by decide +kernel
theorem dX10_allTraffic_39 : decode cX10_allTraffic 39 = .ok (.iload_n 1, 1) := by decide +kernel
theorem dX10_allTraffic_40 : decode cX10_allTraffic 40 = .ok (.ireturn, 1) := by decide +kernel
theorem dJ13_bitCount_95d88_0 : decode cJ13_bitCount_95d88 0 = .ok (.lload_n 0, 1) := by decide +kernel
theorem dJ13_bitCount_95d88_1 : decode cJ13_bitCount_95d88 1 = .ok (.lload_n 0, 1) := by decide +kernel
theorem dJ13_bitCount_95d88_2 : decode cJ13_bitCount_95d88 2 = .ok (.iconst 1, 1) := by decide +kernel
theorem dJ13_bitCount_95d88_3 : decode cJ13_bitCount_95d88 3 = .ok (.lushr, 1) := by decide +kernel
theorem dJ13_bitCount_95d88_4 : decode cJ13_bitCount_95d88 4 = .ok (.ldc2_w 314, 3) := by decide +kernel
theorem dJ13_bitCount_95d88_7 : decode cJ13_bitCount_95d88 7 = .ok (.land, 1) := by decide +kernel
theorem dJ13_bitCount_95d88_8 : decode cJ13_bitCount_95d88 8 = .ok (.lsub, 1) := by decide +kernel
theorem dJ13_bitCount_95d88_9 : decode cJ13_bitCount_95d88 9 = .ok (.lstore_n 0, 1) := by decide +kernel
theorem dJ13_bitCount_95d88_10 : decode cJ13_bitCount_95d88 10 = .ok (.lload_n 0, 1) := by decide +kernel
theorem dJ13_bitCount_95d88_11 : decode cJ13_bitCount_95d88 11 = .ok (.ldc2_w 316, 3) := by decide +kernel
theorem dJ13_bitCount_95d88_14 : decode cJ13_bitCount_95d88 14 = .ok (.land, 1) := by decide +kernel
theorem dJ13_bitCount_95d88_15 : decode cJ13_bitCount_95d88 15 = .ok (.lload_n 0, 1) := by decide +kernel
theorem dJ13_bitCount_95d88_16 : decode cJ13_bitCount_95d88 16 = .ok (.iconst 2, 1) := by decide +kernel
theorem dJ13_bitCount_95d88_17 : decode cJ13_bitCount_95d88 17 = .ok (.lushr, 1) := by decide +kernel
theorem dJ13_bitCount_95d88_18 : decode cJ13_bitCount_95d88 18 = .ok (.ldc2_w 316, 3) := by decide +kernel
theorem dJ13_bitCount_95d88_21 : decode cJ13_bitCount_95d88 21 = .ok (.land, 1) := by decide +kernel
theorem dJ13_bitCount_95d88_22 : decode cJ13_bitCount_95d88 22 = .ok (.ladd, 1) := by decide +kernel
theorem dJ13_bitCount_95d88_23 : decode cJ13_bitCount_95d88 23 = .ok (.lstore_n 0, 1) := by decide +kernel
theorem dJ13_bitCount_95d88_24 : decode cJ13_bitCount_95d88 24 = .ok (.lload_n 0, 1) := by decide +kernel
theorem dJ13_bitCount_95d88_25 : decode cJ13_bitCount_95d88 25 = .ok (.lload_n 0, 1) := by decide +kernel
theorem dJ13_bitCount_95d88_26 : decode cJ13_bitCount_95d88 26 = .ok (.iconst 4, 1) := by decide +kernel
theorem dJ13_bitCount_95d88_27 : decode cJ13_bitCount_95d88 27 = .ok (.lushr, 1) := by decide +kernel
theorem dJ13_bitCount_95d88_28 : decode cJ13_bitCount_95d88 28 = .ok (.ladd, 1) := by decide +kernel
theorem dJ13_bitCount_95d88_29 : decode cJ13_bitCount_95d88 29 = .ok (.ldc2_w 318, 3) := by decide +kernel
theorem dJ13_bitCount_95d88_32 : decode cJ13_bitCount_95d88 32 = .ok (.land, 1) := by decide +kernel
theorem dJ13_bitCount_95d88_33 : decode cJ13_bitCount_95d88 33 = .ok (.lstore_n 0, 1) := by decide +kernel
theorem dJ13_bitCount_95d88_34 : decode cJ13_bitCount_95d88 34 = .ok (.lload_n 0, 1) := by decide +kernel
theorem dJ13_bitCount_95d88_35 : decode cJ13_bitCount_95d88 35 = .ok (.lload_n 0, 1) := by decide +kernel
theorem dJ13_bitCount_95d88_36 : decode cJ13_bitCount_95d88 36 = .ok (.bipush 8, 2) := by decide +kernel
theorem dJ13_bitCount_95d88_38 : decode cJ13_bitCount_95d88 38 = .ok (.lushr, 1) := by decide +kernel
theorem dJ13_bitCount_95d88_39 : decode cJ13_bitCount_95d88 39 = .ok (.ladd, 1) := by decide +kernel
theorem dJ13_bitCount_95d88_40 : decode cJ13_bitCount_95d88 40 = .ok (.lstore_n 0, 1) := by decide +kernel
theorem dJ13_bitCount_95d88_41 : decode cJ13_bitCount_95d88 41 = .ok (.lload_n 0, 1) := by decide +kernel
theorem dJ13_bitCount_95d88_42 : decode cJ13_bitCount_95d88 42 = .ok (.lload_n 0, 1) := by decide +kernel
theorem dJ13_bitCount_95d88_43 : decode cJ13_bitCount_95d88 43 = .ok (.bipush 16, 2) := by decide +kernel
theorem dJ13_bitCount_95d88_45 : decode cJ13_bitCount_95d88 45 = .ok (.lushr, 1) := by decide +kernel
theorem dJ13_bitCount_95d88_46 : decode cJ13_bitCount_95d88 46 = .ok (.ladd, 1) := by decide +kernel
theorem dJ13_bitCount_95d88_47 : decode cJ13_bitCount_95d88 47 = .ok (.lstore_n 0, 1) := by decide +kernel
theorem dJ13_bitCount_95d88_48 : decode cJ13_bitCount_95d88 48 = .ok (.lload_n 0, 1) := by decide +kernel
theorem dJ13_bitCount_95d88_49 : decode cJ13_bitCount_95d88 49 = .ok (.lload_n 0, 1) := by decide +kernel
theorem dJ13_bitCount_95d88_50 : decode cJ13_bitCount_95d88 50 = .ok (.bipush 32, 2) := by decide +kernel
theorem dJ13_bitCount_95d88_52 : decode cJ13_bitCount_95d88 52 = .ok (.lushr, 1) := by decide +kernel
theorem dJ13_bitCount_95d88_53 : decode cJ13_bitCount_95d88 53 = .ok (.ladd, 1) := by decide +kernel
theorem dJ13_bitCount_95d88_54 : decode cJ13_bitCount_95d88 54 = .ok (.lstore_n 0, 1) := by decide +kernel
theorem dJ13_bitCount_95d88_55 : decode cJ13_bitCount_95d88 55 = .ok (.lload_n 0, 1) := by decide +kernel
theorem dJ13_bitCount_95d88_56 : decode cJ13_bitCount_95d88 56 = .ok (.l2i, 1) := by decide +kernel
theorem dJ13_bitCount_95d88_57 : decode cJ13_bitCount_95d88 57 = .ok (.bipush 127, 2) := by decide +kernel
theorem dJ13_bitCount_95d88_59 : decode cJ13_bitCount_95d88 59 = .ok (.iand, 1) := by decide +kernel
theorem dJ13_bitCount_95d88_60 : decode cJ13_bitCount_95d88 60 = .ok (.ireturn, 1) := by decide +kernel
theorem dJ9_abs_067f4_0 : decode cJ9_abs_067f4 0 = .ok (.lload_n 0, 1) := by decide +kernel
theorem dJ9_abs_067f4_1 : decode cJ9_abs_067f4 1 = .ok (.lconst 0, 1) := by decide +kernel
theorem dJ9_abs_067f4_2 : decode cJ9_abs_067f4 2 = .ok (.lcmp, 1) := by decide +kernel
theorem dJ9_abs_067f4_3 : decode cJ9_abs_067f4 3 = .ok (.ifCond .ge 8, 3) := by decide +kernel
theorem dJ9_abs_067f4_6 : decode cJ9_abs_067f4 6 = .ok (.lload_n 0, 1) := by decide +kernel
theorem dJ9_abs_067f4_7 : decode cJ9_abs_067f4 7 = .ok (.lneg, 1) := by decide +kernel
theorem dJ9_abs_067f4_8 : decode cJ9_abs_067f4 8 = .ok (.goto 4, 3) := by decide +kernel
theorem dJ9_abs_067f4_11 : decode cJ9_abs_067f4 11 = .ok (.lload_n 0, 1) := by decide +kernel
theorem dJ9_abs_067f4_12 : decode cJ9_abs_067f4 12 = .ok (.lreturn, 1) := by decide +kernel
theorem dJ9_max_7cf53_0 : decode cJ9_max_7cf53 0 = .ok (.iload_n 0, 1) := by decide +kernel
theorem dJ9_max_7cf53_1 : decode cJ9_max_7cf53 1 = .ok (.iload_n 1, 1) := by decide +kernel
theorem dJ9_max_7cf53_2 : decode cJ9_max_7cf53 2 = .ok (.if_icmp .lt 7, 3) := by decide +kernel
theorem dJ9_max_7cf53_5 : decode cJ9_max_7cf53 5 = .ok (.iload_n 0, 1) := by decide +kernel
theorem dJ9_max_7cf53_6 : decode cJ9_max_7cf53 6 = .ok (.goto 4, 3) := by decide +kernel
theorem dJ9_max_7cf53_9 : decode cJ9_max_7cf53 9 = .ok (.iload_n 1, 1) := by decide +kernel
theorem dJ9_max_7cf53_10 : decode cJ9_max_7cf53 10 = .ok (.ireturn, 1) := by decide +kernel
theorem dJ9_max_f86c9_0 : decode cJ9_max_f86c9 0 = .ok (.lload_n 0, 1) := by decide +kernel
theorem dJ9_max_f86c9_1 : decode cJ9_max_f86c9 1 = .ok (.lload_n 2, 1) := by decide +kernel
theorem dJ9_max_f86c9_2 : decode cJ9_max_f86c9 2 = .ok (.lcmp, 1) := by decide +kernel
theorem dJ9_max_f86c9_3 : decode cJ9_max_f86c9 3 = .ok (.ifCond .lt 7, 3) := by decide +kernel
theorem dJ9_max_f86c9_6 : decode cJ9_max_f86c9 6 = .ok (.lload_n 0, 1) := by decide +kernel
theorem dJ9_max_f86c9_7 : decode cJ9_max_f86c9 7 = .ok (.goto 4, 3) := by decide +kernel
theorem dJ9_max_f86c9_10 : decode cJ9_max_f86c9 10 = .ok (.lload_n 2, 1) := by decide +kernel
theorem dJ9_max_f86c9_11 : decode cJ9_max_f86c9 11 = .ok (.lreturn, 1) := by decide +kernel
theorem dJ9_min_7cf53_0 : decode cJ9_min_7cf53 0 = .ok (.iload_n 0, 1) := by decide +kernel
theorem dJ9_min_7cf53_1 : decode cJ9_min_7cf53 1 = .ok (.iload_n 1, 1) := by decide +kernel
theorem dJ9_min_7cf53_2 : decode cJ9_min_7cf53 2 = .ok (.if_icmp .gt 7, 3) := by decide +kernel
theorem dJ9_min_7cf53_5 : decode cJ9_min_7cf53 5 = .ok (.iload_n 0, 1) := by decide +kernel
theorem dJ9_min_7cf53_6 : decode cJ9_min_7cf53 6 = .ok (.goto 4, 3) := by decide +kernel
theorem dJ9_min_7cf53_9 : decode cJ9_min_7cf53 9 = .ok (.iload_n 1, 1) := by decide +kernel
theorem dJ9_min_7cf53_10 : decode cJ9_min_7cf53 10 = .ok (.ireturn, 1) := by decide +kernel
theorem dJ9_min_f86c9_0 : decode cJ9_min_f86c9 0 = .ok (.lload_n 0, 1) := by decide +kernel
theorem dJ9_min_f86c9_1 : decode cJ9_min_f86c9 1 = .ok (.lload_n 2, 1) := by decide +kernel
theorem dJ9_min_f86c9_2 : decode cJ9_min_f86c9 2 = .ok (.lcmp, 1) := by decide +kernel
theorem dJ9_min_f86c9_3 : decode cJ9_min_f86c9 3 = .ok (.ifCond .gt 7, 3) := by decide +kernel
theorem dJ9_min_f86c9_6 : decode cJ9_min_f86c9 6 = .ok (.lload_n 0, 1) := by decide +kernel
theorem dJ9_min_f86c9_7 : decode cJ9_min_f86c9 7 = .ok (.goto 4, 3) := by decide +kernel
theorem dJ9_min_f86c9_10 : decode cJ9_min_f86c9 10 = .ok (.lload_n 2, 1) := by decide +kernel
theorem dJ9_min_f86c9_11 : decode cJ9_min_f86c9 11 = .ok (.lreturn, 1) := by decide +kernel
theorem dJ7_rangeCheck_23922_0 : decode cJ7_rangeCheck_23922 0 = .ok (.iload_n 1, 1) := by decide +kernel
theorem dJ7_rangeCheck_23922_1 : decode cJ7_rangeCheck_23922 1 = .ok (.iload_n 2, 1) := by decide +kernel
theorem dJ7_rangeCheck_23922_2 : decode cJ7_rangeCheck_23922 2 = .ok (.if_icmp .le 44, 3) := by decide +kernel
theorem dJ7_rangeCheck_23922_5 : decode cJ7_rangeCheck_23922 5 = .ok (.new 43, 3) := by decide +kernel
theorem dJ7_rangeCheck_23922_8 : decode cJ7_rangeCheck_23922 8 = .ok (.dup, 1) := by decide +kernel
theorem dJ7_rangeCheck_23922_9 : decode cJ7_rangeCheck_23922 9 = .ok (.new 45, 3) := by decide +kernel
theorem dJ7_rangeCheck_23922_12 : decode cJ7_rangeCheck_23922 12 = .ok (.dup, 1) := by decide +kernel
theorem dJ7_rangeCheck_23922_13 : decode cJ7_rangeCheck_23922 13 = .ok (.invokespecial 47, 3) := by decide +kernel
theorem dJ7_rangeCheck_23922_16 : decode cJ7_rangeCheck_23922 16 = .ok (.ldc 48, 2) := by decide +kernel
theorem dJ7_rangeCheck_23922_18 : decode cJ7_rangeCheck_23922 18 = .ok (.invokevirtual 50, 3) := by decide +kernel
theorem dJ7_rangeCheck_23922_21 : decode cJ7_rangeCheck_23922 21 = .ok (.iload_n 1, 1) := by decide +kernel
theorem dJ7_rangeCheck_23922_22 : decode cJ7_rangeCheck_23922 22 = .ok (.invokevirtual 54, 3) := by decide +kernel
theorem dJ7_rangeCheck_23922_25 : decode cJ7_rangeCheck_23922 25 = .ok (.ldc 57, 2) := by decide +kernel
theorem dJ7_rangeCheck_23922_27 : decode cJ7_rangeCheck_23922 27 = .ok (.invokevirtual 50, 3) := by decide +kernel
theorem dJ7_rangeCheck_23922_30 : decode cJ7_rangeCheck_23922 30 = .ok (.iload_n 2, 1) := by decide +kernel
theorem dJ7_rangeCheck_23922_31 : decode cJ7_rangeCheck_23922 31 = .ok (.invokevirtual 54, 3) := by decide +kernel
theorem dJ7_rangeCheck_23922_34 : decode cJ7_rangeCheck_23922 34 = .ok (.ldc 59, 2) := by decide +kernel
theorem dJ7_rangeCheck_23922_36 : decode cJ7_rangeCheck_23922 36 = .ok (.invokevirtual 50, 3) := by decide +kernel
theorem dJ7_rangeCheck_23922_39 : decode cJ7_rangeCheck_23922 39 = .ok (.invokevirtual 61, 3) := by decide +kernel
theorem dJ7_rangeCheck_23922_42 : decode cJ7_rangeCheck_23922 42 = .ok (.invokespecial 65, 3) := by decide +kernel
theorem dJ7_rangeCheck_23922_45 : decode cJ7_rangeCheck_23922 45 = .ok (.athrow, 1) := by decide +kernel
theorem dJ7_rangeCheck_23922_46 : decode cJ7_rangeCheck_23922 46 = .ok (.iload_n 1, 1) := by decide +kernel
theorem dJ7_rangeCheck_23922_47 : decode cJ7_rangeCheck_23922 47 = .ok (.ifCond .ge 12, 3) := by decide +kernel
theorem dJ7_rangeCheck_23922_50 : decode cJ7_rangeCheck_23922 50 = .ok (.new 68, 3) := by decide +kernel
theorem dJ7_rangeCheck_23922_53 : decode cJ7_rangeCheck_23922 53 = .ok (.dup, 1) := by decide +kernel
theorem dJ7_rangeCheck_23922_54 : decode cJ7_rangeCheck_23922 54 = .ok (.iload_n 1, 1) := by decide +kernel
theorem dJ7_rangeCheck_23922_55 : decode cJ7_rangeCheck_23922 55 = .ok (.invokespecial 70, 3) := by decide +kernel
theorem dJ7_rangeCheck_23922_58 : decode cJ7_rangeCheck_23922 58 = .ok (.athrow, 1) := by decide +kernel
theorem dJ7_rangeCheck_23922_59 : decode cJ7_rangeCheck_23922 59 = .ok (.iload_n 2, 1) := by decide +kernel
theorem dJ7_rangeCheck_23922_60 : decode cJ7_rangeCheck_23922 60 = .ok (.iload_n 0, 1) := by decide +kernel
theorem dJ7_rangeCheck_23922_61 : decode cJ7_rangeCheck_23922 61 = .ok (.if_icmp .le 12, 3) := by decide +kernel
theorem dJ7_rangeCheck_23922_64 : decode cJ7_rangeCheck_23922 64 = .ok (.new 68, 3) := by decide +kernel
theorem dJ7_rangeCheck_23922_67 : decode cJ7_rangeCheck_23922 67 = .ok (.dup, 1) := by decide +kernel
theorem dJ7_rangeCheck_23922_68 : decode cJ7_rangeCheck_23922 68 = .ok (.iload_n 2, 1) := by decide +kernel
theorem dJ7_rangeCheck_23922_69 : decode cJ7_rangeCheck_23922 69 = .ok (.invokespecial 70, 3) := by decide +kernel
theorem dJ7_rangeCheck_23922_72 : decode cJ7_rangeCheck_23922 72 = .ok (.athrow, 1) := by decide +kernel
theorem dJ7_rangeCheck_23922_73 : decode cJ7_rangeCheck_23922 73 = .ok (.return_, 1) := by decide +kernel
theorem dJ7_fill_bad5a_0 : decode cJ7_fill_bad5a 0 = .ok (.aload_n 0, 1) := by decide +kernel
theorem dJ7_fill_bad5a_1 : decode cJ7_fill_bad5a 1 = .ok (.arraylength, 1) := by decide +kernel
theorem dJ7_fill_bad5a_2 : decode cJ7_fill_bad5a 2 = .ok (.iload_n 1, 1) := by decide +kernel
theorem dJ7_fill_bad5a_3 : decode cJ7_fill_bad5a 3 = .ok (.iload_n 2, 1) := by decide +kernel
theorem dJ7_fill_bad5a_4 : decode cJ7_fill_bad5a 4 = .ok (.invokestatic 13, 3) := by decide +kernel
theorem dJ7_fill_bad5a_7 : decode cJ7_fill_bad5a 7 = .ok (.iload_n 1, 1) := by decide +kernel
theorem dJ7_fill_bad5a_8 : decode cJ7_fill_bad5a 8 = .ok (.istore 5, 2) := by decide +kernel
theorem dJ7_fill_bad5a_10 : decode cJ7_fill_bad5a 10 = .ok (.iload 5, 2) := by decide +kernel
theorem dJ7_fill_bad5a_12 : decode cJ7_fill_bad5a 12 = .ok (.iload_n 2, 1) := by decide +kernel
theorem dJ7_fill_bad5a_13 : decode cJ7_fill_bad5a 13 = .ok (.if_icmp .ge 14, 3) := by decide +kernel
theorem dJ7_fill_bad5a_16 : decode cJ7_fill_bad5a 16 = .ok (.aload_n 0, 1) := by decide +kernel
theorem dJ7_fill_bad5a_17 : decode cJ7_fill_bad5a 17 = .ok (.iload 5, 2) := by decide +kernel
theorem dJ7_fill_bad5a_19 : decode cJ7_fill_bad5a 19 = .ok (.lload_n 3, 1) := by decide +kernel
theorem dJ7_fill_bad5a_20 : decode cJ7_fill_bad5a 20 = .ok (.lastore, 1) := by decide +kernel
theorem dJ7_fill_bad5a_21 : decode cJ7_fill_bad5a 21 = .ok (.iinc 5 1, 3) := by decide +kernel
theorem dJ7_fill_bad5a_24 : decode cJ7_fill_bad5a 24 = .ok (.goto (-14), 3) := by decide +kernel
theorem dJ7_fill_bad5a_27 : decode cJ7_fill_bad5a 27 = .ok (.return_, 1) := by decide +kernel
theorem dJ7_fill_53178_0 : decode cJ7_fill_53178 0 = .ok (.iconst 0, 1) := by decide +kernel
theorem dJ7_fill_53178_1 : decode cJ7_fill_53178 1 = .ok (.istore_n 2, 1) := by decide +kernel
theorem dJ7_fill_53178_2 : decode cJ7_fill_53178 2 = .ok (.aload_n 0, 1) := by decide +kernel
theorem dJ7_fill_53178_3 : decode cJ7_fill_53178 3 = .ok (.arraylength, 1) := by decide +kernel
theorem dJ7_fill_53178_4 : decode cJ7_fill_53178 4 = .ok (.istore_n 3, 1) := by decide +kernel
theorem dJ7_fill_53178_5 : decode cJ7_fill_53178 5 = .ok (.iload_n 2, 1) := by decide +kernel
theorem dJ7_fill_53178_6 : decode cJ7_fill_53178 6 = .ok (.iload_n 3, 1) := by decide +kernel
theorem dJ7_fill_53178_7 : decode cJ7_fill_53178 7 = .ok (.if_icmp .ge 13, 3) := by decide +kernel
theorem dJ7_fill_53178_10 : decode cJ7_fill_53178 10 = .ok (.aload_n 0, 1) := by decide +kernel
theorem dJ7_fill_53178_11 : decode cJ7_fill_53178 11 = .ok (.iload_n 2, 1) := by decide +kernel
theorem dJ7_fill_53178_12 : decode cJ7_fill_53178 12 = .ok (.iload_n 1, 1) := by decide +kernel
theorem dJ7_fill_53178_13 : decode cJ7_fill_53178 13 = .ok (.iastore, 1) := by decide +kernel
theorem dJ7_fill_53178_14 : decode cJ7_fill_53178 14 = .ok (.iinc 2 1, 3) := by decide +kernel
theorem dJ7_fill_53178_17 : decode cJ7_fill_53178 17 = .ok (.goto (-12), 3) := by decide +kernel
theorem dJ7_fill_53178_20 : decode cJ7_fill_53178 20 = .ok (.return_, 1) := by decide +kernel
end
section
theorem dX11_init_0 : decode cX11_init 0 = .ok (.aload_n 0, 1) := by decide +kernel
theorem dX11_init_1 : decode cX11_init 1 = .ok (.invokespecial 1, 3) := by decide +kernel
theorem dX11_init_4 : decode cX11_init 4 = .ok (.aload_n 0, 1) := by decide +kernel
theorem dX11_init_5 : decode cX11_init 5 = .ok (.bipush 6, 2) := by decide +kernel
theorem dX11_init_7 : decode cX11_init 7 = .ok (.newarray .int, 2) := by decide +kernel
theorem dX11_init_9 : decode cX11_init 9 = .ok (.putfield 7, 3) := by decide +kernel
theorem dX11_init_12 : decode cX11_init 12 = .ok (.aload_n 0, 1) := by decide +kernel
theorem dX11_init_13 : decode cX11_init 13 = .ok (.bipush 6, 2) := by decide +kernel
theorem dX11_init_15 : decode cX11_init 15 = .ok (.newarray .int, 2) := by decide +kernel
theorem dX11_init_17 : decode cX11_init 17 = .ok (.putfield 13, 3) := by decide +kernel
theorem dX11_init_20 : decode cX11_init 20 = .ok (.aload_n 0, 1) := by decide +kernel
theorem dX11_init_21 : decode cX11_init 21 = .ok (.bipush 6, 2) := by decide +kernel
theorem dX11_init_23 : decode cX11_init 23 = .ok (.newarray .int, 2) := by decide +kernel
theorem dX11_init_25 : decode cX11_init 25 = .ok (.putfield 16, 3) := by decide +kernel
theorem dX11_init_28 : decode cX11_init 28 = .ok (.aload_n 0, 1) := by decide +kernel
theorem dX11_init_29 : decode cX11_init 29 = .ok (.bipush 30, 2) := by decide +kernel
theorem dX11_init_31 : decode cX11_init 31 = .ok (.newarray .int, 2) := by decide +kernel
theorem dX11_init_33 : decode cX11_init 33 = .ok (.putfield 19, 3) := by decide +kernel
theorem dX11_init_36 : decode cX11_init 36 = .ok (.aload_n 0, 1) := by decide +kernel
theorem dX11_init_37 : decode cX11_init 37 = .ok (.bipush 6, 2) := by decide +kernel
theorem dX11_init_39 : decode cX11_init 39 = .ok (.newarray .int, 2) := by decide +kernel
theorem dX11_init_41 : decode cX11_init 41 = .ok (.putfield 22, 3) := by decide +kernel
theorem dX11_init_44 : decode cX11_init 44 = .ok (.aload_n 0, 1) := by decide +kernel
theorem dX11_init_45 : decode cX11_init 45 = .ok (.bipush 6, 2) := by decide +kernel
theorem dX11_init_47 : decode cX11_init 47 = .ok (.newarray .int, 2) := by decide +kernel
theorem dX11_init_49 : decode cX11_init 49 = .ok (.putfield 25, 3) := by decide +kernel
theorem dX11_init_52 : decode cX11_init 52 = .ok (.aload_n 0, 1) := by decide +kernel
theorem dX11_init_53 : decode cX11_init 53 = .ok (.bipush 6, 2) := by decide +kernel
theorem dX11_init_55 : decode cX11_init 55 = .ok (.newarray .int, 2) := by decide +kernel
theorem dX11_init_57 : decode cX11_init 57 = .ok (.putfield 28, 3) := by decide +kernel
theorem dX11_init_60 : decode cX11_init 60 = .ok (.aload_n 0, 1) := by decide +kernel
theorem dX11_init_61 : decode cX11_init 61 = .ok (.sipush 1830, 3) := by decide +kernel
theorem dX11_init_64 : decode cX11_init 64 = .ok (.newarray .long, 2) := by decide +kernel
theorem dX11_init_66 : decode cX11_init 66 = .ok (.putfield 31, 3) := by decide +kernel
theorem dX11_init_69 : decode cX11_init 69 = .ok (.aload_n 0, 1) := by decide +kernel
theorem dX11_init_70 : decode cX11_init 70 = .ok (.bipush 6, 2) := by decide +kernel
theorem dX11_init_72 : decode cX11_init 72 = .ok (.newarray .long, 2) := by decide +kernel
theorem dX11_init_74 : decode cX11_init 74 = .ok (.putfield 35, 3) := by decide +kernel
theorem dX11_init_77 : decode cX11_init 77 = .ok (.aload_n 0, 1) := by decide +kernel
theorem dX11_init_78 : decode cX11_init 78 = .ok (.bipush 30, 2) := by decide +kernel
theorem dX11_init_80 : decode cX11_init 80 = .ok (.newarray .long, 2) := by decide +kernel
theorem dX11_init_82 : decode cX11_init 82 = .ok (.putfield 38, 3) := by decide +kernel
theorem dX11_init_85 : decode cX11_init 85 = .ok (.aload_n 0, 1) := by decide +kernel
theorem dX11_init_86 : decode cX11_init 86 = .ok (.bipush 7, 2) := by decide +kernel
theorem dX11_init_88 : decode cX11_init 88 = .ok (.newarray .int, 2) := by decide +kernel
theorem dX11_init_90 : decode cX11_init 90 = .ok (.putfield 41, 3) := by decide +kernel
theorem dX11_init_93 : decode cX11_init 93 = .ok (.aload_n 0, 1) := by decide +kernel
theorem dX11_init_94 : decode cX11_init 94 = .ok (.bipush 8, 2) := by decide +kernel
theorem dX11_init_96 : decode cX11_init 96 = .ok (.newarray .int, 2) := by decide +kernel
theorem dX11_init_98 : decode cX11_init 98 = .ok (.putfield 44, 3) := by decide +kernel
theorem dX11_init_101 : decode cX11_init 101 = .ok (.aload_n 0, 1) := by decide +kernel
theorem dX11_init_102 : decode cX11_init 102 = .ok (.bipush 64, 2) := by decide +kernel
theorem dX11_init_104 : decode cX11_init 104 = .ok (.newarray .int, 2) := by decide +kernel
theorem dX11_init_106 : decode cX11_init 106 = .ok (.putfield 47, 3) := by decide +kernel
theorem dX11_init_109 : decode cX11_init 109 = .ok (.aload_n 0, 1) := by decide +kernel
theorem dX11_init_110 : decode cX11_init 110 = .ok (.bipush 64, 2) := by decide +kernel
theorem dX11_init_112 : decode cX11_init 112 = .ok (.newarray .int, 2) := by decide +kernel
theorem dX11_init_114 : decode cX11_init 114 = .ok (.putfield 50, 3) := by decide +kernel
theorem dX11_init_117 : decode cX11_init 117 = .ok (.aload_n 0, 1) := by decide +kernel
theorem dX11_init_118 : decode cX11_init 118 = .ok (.bipush 8, 2) := by decide +kernel
theorem dX11_init_120 : decode cX11_init 120 = .ok (.newarray .int, 2) := by decide +kernel
theorem dX11_init_122 : decode cX11_init 122 = .ok (.putfield 53, 3) := by decide +kernel
theorem dX11_init_125 : decode cX11_init 125 = .ok (.aload_n 0, 1) := by decide +kernel
theorem dX11_init_126 : decode cX11_init 126 = .ok (.iconst (-1), 1) := by decide +kernel
theorem dX11_init_127 : decode cX11_init 127 = .ok (.putfield 56, 3) := by decide +kernel
theorem dX11_init_130 : decode cX11_init 130 = .ok (.aload_n 0, 1) := by decide +kernel
theorem dX11_init_131 : decode cX11_init 131 = .ok (.bipush 100, 2) := by decide +kernel
theorem dX11_init_133 : decode cX11_init 133 = .ok (.putfield 60, 3) := by decide +kernel
theorem dX11_init_136 : decode cX11_init 136 = .ok (.aload_n 0, 1) := by decide +kernel
theorem dX11_init_137 : decode cX11_init 137 = .ok (.iconst (-1), 1) := by decide +kernel
theorem dX11_init_138 : decode cX11_init 138 = .ok (.putfield 63, 3) := by decide +kernel
theorem dX11_init_141 : decode cX11_init 141 = .ok (.aload_n 0, 1) := by decide +kernel
theorem dX11_init_142 : decode cX11_init 142 = .ok (.bipush 6, 2) := by decide +kernel
theorem dX11_init_144 : decode cX11_init 144 = .ok (.newarray .int, 2) := by decide +kernel
theorem dX11_init_146 : decode cX11_init 146 = .ok (.putfield 66, 3) := by decide +kernel
theorem dX11_init_149 : decode cX11_init 149 = .ok (.aload_n 0, 1) := by decide +kernel
theorem dX11_init_150 : decode cX11_init 150 = .ok (.bipush 30, 2) := by decide +kernel
theorem dX11_init_152 : decode cX11_init 152 = .ok (.newarray .int, 2) := by decide +kernel
theorem dX11_init_154 : decode cX11_init 154 = .ok (.putfield 69, 3) := by decide +kernel
theorem dX11_init_157 : decode cX11_init 157 = .ok (.aload_n 0, 1) := by decide +kernel
theorem dX11_init_158 : decode cX11_init 158 = .ok (.bipush 30, 2) := by decide +kernel
theorem dX11_init_160 : decode cX11_init 160 = .ok (.newarray .int, 2) := by decide +kernel
theorem dX11_init_162 : decode cX11_init 162 = .ok (.putfield 72, 3) := by decide +kernel
theorem dX11_init_165 : decode cX11_init 165 = .ok (.aload_n 0, 1) := by decide +kernel
theorem dX11_init_166 : decode cX11_init 166 = .ok (.bipush 30, 2) := by decide +kernel
theorem dX11_init_168 : decode cX11_init 168 = .ok (.newarray .int, 2) := by decide +kernel
theorem dX11_init_170 : decode cX11_init 170 = .ok (.putfield 75, 3) := by decide +kernel
theorem dX11_init_173 : decode cX11_init 173 = .ok (.aload_n 0, 1) := by decide +kernel
theorem dX11_init_174 : decode cX11_init 174 = .ok (.bipush 30, 2) := by decide +kernel
theorem dX11_init_176 : decode cX11_init 176 = .ok (.newarray .int, 2) := by decide +kernel
theorem dX11_init_178 : decode cX11_init 178 = .ok (.putfield 78, 3) := by decide +kernel
theorem dX11_init_181 : decode cX11_init 181 = .ok (.aload_n 0, 1) := by decide +kernel
theorem dX11_init_182 : decode cX11_init 182 = .ok (.bipush 24, 2) := by decide +kernel
theorem dX11_init_184 : decode cX11_init 184 = .ok (.newarray .int, 2) := by decide +kernel
theorem dX11_init_186 : decode cX11_init 186 = .ok (.putfield 81, 3) := by decide +kernel
theorem dX11_init_189 : decode cX11_init 189 = .ok (.aload_n 0, 1) := by decide +kernel
theorem dX11_init_190 : decode cX11_init 190 = .ok (.bipush 24, 2) := by decide +kernel
theorem dX11_init_192 : decode cX11_init 192 = .ok (.newarray .int, 2) := by decide +kernel
theorem dX11_init_194 : decode cX11_init 194 = .ok (.putfield 84, 3) := by decide +kernel
theorem dX11_init_197 : decode cX11_init 197 = .ok (.aload_n 0, 1) := by decide +kernel
theorem dX11_init_198 : decode cX11_init 198 = .ok (.bipush 24, 2) := by decide +kernel
theorem dX11_init_200 : decode cX11_init 200 = .ok (.newarray .int, 2) := by decide +kernel
theorem dX11_init_202 : decode cX11_init 202 = .ok (.putfield 87, 3) := by decide +kernel
theorem dX11_init_205 : decode cX11_init 205 = .ok (.aload_n 0, 1) := by decide +kernel
theorem dX11_init_206 : decode cX11_init 206 = .ok (.bipush 24, 2) := by decide +kernel
theorem dX11_init_208 : decode cX11_init 208 = .ok (.newarray .int, 2) := by decide +kernel
theorem dX11_init_210 : decode cX11_init 210 = .ok (.putfield 90, 3) := by decide +kernel
theorem dX11_init_213 : decode cX11_init 213 = .ok (.aload_n 0, 1) := by decide +kernel
theorem dX11_init_214 : decode cX11_init 214 = .ok (.bipush 24, 2) := by decide +kernel
theorem dX11_init_216 : decode cX11_init 216 = .ok (.newarray .boolean, 2) := by decide +kernel
theorem dX11_init_218 : decode cX11_init 218 = .ok (.putfield 93, 3) := by decide +kernel
theorem dX11_init_221 : decode cX11_init 221 = .ok (.aload_n 0, 1) := by decide +kernel
theorem dX11_init_222 : decode cX11_init 222 = .ok (.bipush 10, 2) := by decide +kernel
theorem dX11_init_224 : decode cX11_init 224 = .ok (.newarray .int, 2) := by decide +kernel
theorem dX11_init_226 : decode cX11_init 226 = .ok (.putfield 97, 3) := by decide +kernel
theorem dX11_init_229 : decode cX11_init 229 = .ok (.aload_n 0, 1) := by decide +kernel
theorem dX11_init_230 : decode cX11_init 230 = .ok (.bipush 10, 2) := by decide +kernel
theorem dX11_init_232 : decode cX11_init 232 = .ok (.newarray .int, 2) := by decide +kernel
theorem dX11_init_234 : decode cX11_init 234 = .ok (.putfield 100, 3) := by decide +kernel
theorem dX11_init_237 : decode cX11_init 237 = .ok (.aload_n 0, 1) := by decide +kernel
theorem dX11_init_238 : decode cX11_init 238 = .ok (.bipush 12, 2) := by decide +kernel
theorem dX11_init_240 : decode cX11_init 240 = .ok (.newarray .int, 2) := by decide +kernel
theorem dX11_init_242 : decode cX11_init 242 = .ok (.putfield 103, 3) := by decide +kernel
theorem dX11_init_245 : decode cX11_init 245 = .ok (.aload_n 0, 1) := by decide +kernel
theorem dX11_init_246 : decode cX11_init 246 = .ok (.sipush 210, 3) := by decide +kernel
theorem dX11_init_249 : decode cX11_init 249 = .ok (.newarray .long, 2) := by decide +kernel
theorem dX11_init_251 : decode cX11_init 251 = .ok (.putfield 106, 3) := by decide +kernel
theorem dX11_init_254 : decode cX11_init 254 = .ok (.iconst 0, 1) := by decide +kernel
theorem dX11_init_255 : decode cX11_init 255 = .ok (.istore_n 1, 1) := by decide +kernel
theorem dX11_init_256 : decode cX11_init 256 = .ok (.iload_n 1, 1) := by decide +kernel
theorem dX11_init_257 : decode cX11_init 257 = .ok (.bipush 6, 2) := by decide +kernel
theorem dX11_init_259 : decode cX11_init 259 = .ok (.if_icmp .ge 32, 3) := by decide +kernel
theorem dX11_init_262 : decode cX11_init 262 = .ok (.aload_n 0, 1) := by decide +kernel
theorem dX11_init_263 : decode cX11_init 263 = .ok (.getfield 22, 3) := by decide +kernel
theorem dX11_init_266 : decode cX11_init 266 = .ok (.iload_n 1, 1) := by decide +kernel
theorem dX11_init_267 : decode cX11_init 267 = .ok (.bipush 30, 2) := by decide +kernel
theorem dX11_init_269 : decode cX11_init 269 = .ok (.iastore, 1) := by decide +kernel
theorem dX11_init_270 : decode cX11_init 270 = .ok (.aload_n 0, 1) := by decide +kernel
theorem dX11_init_271 : decode cX11_init 271 = .ok (.getfield 25, 3) := by decide +kernel
theorem dX11_init_274 : decode cX11_init 274 = .ok (.iload_n 1, 1) := by decide +kernel
theorem dX11_init_275 : decode cX11_init 275 = .ok (.iconst 1, 1) := by decide +kernel
theorem dX11_init_276 : decode cX11_init 276 = .ok (.iastore, 1) := by decide +kernel
theorem dX11_init_277 : decode cX11_init 277 = .ok (.aload_n 0, 1) := by decide +kernel
theorem dX11_init_278 : decode cX11_init 278 = .ok (.getfield 28, 3) := by decide +kernel
theorem dX11_init_281 : decode cX11_init 281 = .ok (.iload_n 1, 1) := by decide +kernel
theorem dX11_init_282 : decode cX11_init 282 = .ok (.bipush 50, 2) := by decide +kernel
theorem dX11_init_284 : decode cX11_init 284 = .ok (.iastore, 1) := by decide +kernel
theorem dX11_init_285 : decode cX11_init 285 = .ok (.iinc 1 1, 3) := by decide +kernel
theorem dX11_init_288 : decode cX11_init 288 = .ok (.goto (-32), 3) := by decide +kernel
theorem dX11_init_291 : decode cX11_init 291 = .ok (.return_, 1) := by decide +kernel
theorem dX11_in_0 : decode cX11_in 0 = .ok (.lload_n 0, 1) := by decide +kernel
theorem dX11_in_1 : decode cX11_in 1 = .ok (.lload_n 2, 1) := by decide +kernel
theorem dX11_in_2 : decode cX11_in 2 = .ok (.lcmp, 1) := by decide +kernel
theorem dX11_in_3 : decode cX11_in 3 = .ok (.ifCond .lt 14, 3) := by decide +kernel
theorem dX11_in_6 : decode cX11_in 6 = .ok (.lload_n 0, 1) := by decide +kernel
theorem dX11_in_7 : decode cX11_in 7 = .ok (.lload 4, 2) := by decide +kernel
theorem dX11_in_9 : decode cX11_in 9 = .ok (.lcmp, 1) := by decide +kernel
theorem dX11_in_10 : decode cX11_in 10 = .ok (.ifCond .gt 7, 3) := by decide +kernel
theorem dX11_in_13 : decode cX11_in 13 = .ok (.iconst 1, 1) := by decide +kernel
theorem dX11_in_14 : decode cX11_in 14 = .ok (.goto 4, 3) := by decide +kernel
theorem dX11_in_17 : decode cX11_in 17 = .ok (.iconst 0, 1) := by decide +kernel
theorem dX11_in_18 : decode cX11_in 18 = .ok (.ireturn, 1) := by decide +kernel
theorem dX11_size_0 : decode cX11_size 0 = .ok (.lload_n 0, 1) := by decide +kernel
theorem dX11_size_1 : decode cX11_size 1 = .ok (.lconst 0, 1) := by decide +kernel
theorem dX11_size_2 : decode cX11_size 2 = .ok (.lcmp, 1) := by decide +kernel
theorem dX11_size_3 : decode cX11_size 3 = .ok (.ifCond .ge 8, 3) := by decide +kernel
theorem dX11_size_6 : decode cX11_size 6 = .ok (.lload_n 0, 1) := by decide +kernel
theorem dX11_size_7 : decode cX11_size 7 = .ok (.lneg, 1) := by decide +kernel
theorem dX11_size_8 : decode cX11_size 8 = .ok (.goto 4, 3) := by decide +kernel
theorem dX11_size_11 : decode cX11_size 11 = .ok (.lload_n 0, 1) := by decide +kernel
theorem dX11_size_12 : decode cX11_size 12 = .ok (.lreturn, 1) := by decide +kernel
theorem dX11_gcd_0 : decode cX11_gcd 0 = .ok (.lload_n 0, 1) := by decide +kernel
theorem dX11_gcd_1 : decode cX11_gcd 1 = .ok (.invokestatic 109, 3) := by decide +kernel
theorem dX11_gcd_4 : decode cX11_gcd 4 = .ok (.lstore 4, 2) := by decide +kernel
theorem dX11_gcd_6 : decode cX11_gcd 6 = .ok (.lload_n 2, 1) := by decide +kernel
theorem dX11_gcd_7 : decode cX11_gcd 7 = .ok (.invokestatic 109, 3) := by decide +kernel
theorem dX11_gcd_10 : decode cX11_gcd 10 = .ok (.lstore 6, 2) := by decide +kernel
theorem dX11_gcd_12 : decode cX11_gcd 12 = .ok (.lload 6, 2) := by decide +kernel
theorem dX11_gcd_14 : decode cX11_gcd 14 = .ok (.lconst 0, 1) := by decide +kernel
theorem dX11_gcd_15 : decode cX11_gcd 15 = .ok (.lcmp, 1) := by decide +kernel
theorem dX11_gcd_16 : decode cX11_gcd 16 = .ok (.ifCond .eq 21, 3) := by decide +kernel
theorem dX11_gcd_19 : decode cX11_gcd 19 = .ok (.lload 4, 2) := by decide +kernel
theorem dX11_gcd_21 : decode cX11_gcd 21 = .ok (.lload 6, 2) := by decide +kernel
theorem dX11_gcd_23 : decode cX11_gcd 23 = .ok (.lrem, 1) := by decide +kernel
theorem dX11_gcd_24 : decode cX11_gcd 24 = .ok (.lstore 8, 2) := by decide +kernel
theorem dX11_gcd_26 : decode cX11_gcd 26 = .ok (.lload 6, 2) := by decide +kernel
theorem dX11_gcd_28 : decode cX11_gcd 28 = .ok (.lstore 4, 2) := by decide +kernel
theorem dX11_gcd_30 : decode cX11_gcd 30 = .ok (.lload 8, 2) := by decide +kernel
theorem dX11_gcd_32 : decode cX11_gcd 32 = .ok (.lstore 6, 2) := by decide +kernel
theorem dX11_gcd_34 : decode cX11_gcd 34 = .ok (.goto (-22), 3) := by decide +kernel
theorem dX11_gcd_37 : decode cX11_gcd 37 = .ok (.lload 4, 2) := by decide +kernel
theorem dX11_gcd_39 : decode cX11_gcd 39 = .ok (.lreturn, 1) := by decide +kernel
theorem dX11_part_0 : decode cX11_part 0 = .ok (.lload_n 0, 1) := by decide +kernel
theorem dX11_part_1 : decode cX11_part 1 = .ok (.lload_n 2, 1) := by decide +kernel
theorem dX11_part_2 : decode cX11_part 2 = .ok (.invokestatic 113, 3) := by decide +kernel
theorem dX11_part_5 : decode cX11_part 5 = .ok (.lstore 5, 2) := by decide +kernel
theorem dX11_part_7 : decode cX11_part 7 = .ok (.iload 4, 2) := by decide +kernel
theorem dX11_part_9 : decode cX11_part 9 = .ok (.ifCond .ne 10, 3) := by decide +kernel
theorem dX11_part_12 : decode cX11_part 12 = .ok (.lload_n 0, 1) := by decide +kernel
theorem dX11_part_13 : decode cX11_part 13 = .ok (.lload 5, 2) := by decide +kernel
theorem dX11_part_15 : decode cX11_part 15 = .ok (.ldiv, 1) := by decide +kernel
theorem dX11_part_16 : decode cX11_part 16 = .ok (.goto 7, 3) := by decide +kernel
theorem dX11_part_19 : decode cX11_part 19 = .ok (.lload_n 2, 1) := by decide +kernel
theorem dX11_part_20 : decode cX11_part 20 = .ok (.lload 5, 2) := by decide +kernel
theorem dX11_part_22 : decode cX11_part 22 = .ok (.ldiv, 1) := by decide +kernel
theorem dX11_part_23 : decode cX11_part 23 = .ok (.lreturn, 1) := by decide +kernel
theorem dX11_countOf_0 : decode cX11_countOf 0 = .ok (.iconst 0, 1) := by decide +kernel
theorem dX11_countOf_1 : decode cX11_countOf 1 = .ok (.istore_n 2, 1) := by decide +kernel
theorem dX11_countOf_2 : decode cX11_countOf 2 = .ok (.iconst 0, 1) := by decide +kernel
theorem dX11_countOf_3 : decode cX11_countOf 3 = .ok (.istore_n 3, 1) := by decide +kernel
theorem dX11_countOf_4 : decode cX11_countOf 4 = .ok (.iload_n 3, 1) := by decide +kernel
theorem dX11_countOf_5 : decode cX11_countOf 5 = .ok (.bipush 64, 2) := by decide +kernel
theorem dX11_countOf_7 : decode cX11_countOf 7 = .ok (.if_icmp .ge 18, 3) := by decide +kernel
theorem dX11_countOf_10 : decode cX11_countOf 10 = .ok (.iload_n 2, 1) := by decide +kernel
theorem dX11_countOf_11 : decode cX11_countOf 11 = .ok (.lload_n 0, 1) := by decide +kernel
theorem dX11_countOf_12 : decode cX11_countOf 12 = .ok (.iload_n 3, 1) := by decide +kernel
theorem dX11_countOf_13 : decode cX11_countOf 13 = .ok (.lshr, 1) := by decide +kernel
theorem dX11_countOf_14 : decode cX11_countOf 14 = .ok (.lconst 1, 1) := by decide +kernel
theorem dX11_countOf_15 : decode cX11_countOf 15 = .ok (.land, 1) := by decide +kernel
theorem dX11_countOf_16 : decode cX11_countOf 16 = .ok (.l2i, 1) := by decide +kernel
theorem dX11_countOf_17 : decode cX11_countOf 17 = .ok (.iadd, 1) := by decide +kernel
theorem dX11_countOf_18 : decode cX11_countOf 18 = .ok (.istore_n 2, 1) := by decide +kernel
theorem dX11_countOf_19 : decode cX11_countOf 19 = .ok (.iinc 3 1, 3) := by decide +kernel
theorem dX11_countOf_22 : decode cX11_countOf 22 = .ok (.goto (-18), 3) := by decide +kernel
theorem dX11_countOf_25 : decode cX11_countOf 25 = .ok (.iload_n 2, 1) := by decide +kernel
theorem dX11_countOf_26 : decode cX11_countOf 26 = .ok (.ireturn, 1) := by decide +kernel
theorem dX11_layTable_0 : decode cX11_layTable 0 = .ok (.aload_n 0, 1) := by decide +kernel
theorem dX11_layTable_1 : decode cX11_layTable 1 = .ok (.getfield 13, 3) := by decide +kernel
theorem dX11_layTable_4 : decode cX11_layTable 4 = .ok (.iload_n 1, 1) := by decide +kernel
theorem dX11_layTable_5 : decode cX11_layTable 5 = .ok (.iaload, 1) := by decide +kernel
theorem dX11_layTable_6 : decode cX11_layTable 6 = .ok (.istore 5, 2) := by decide +kernel
theorem dX11_layTable_8 : decode cX11_layTable 8 = .ok (.iconst 0, 1) := by decide +kernel
theorem dX11_layTable_9 : decode cX11_layTable 9 = .ok (.istore 6, 2) := by decide +kernel
theorem dX11_layTable_11 : decode cX11_layTable 11 = .ok (.iconst 0, 1) := by decide +kernel
theorem dX11_layTable_12 : decode cX11_layTable 12 = .ok (.istore 7, 2) := by decide +kernel
theorem dX11_layTable_14 : decode cX11_layTable 14 = .ok (.iload 7, 2) := by decide +kernel
theorem dX11_layTable_16 : decode cX11_layTable 16 = .ok (.aload_n 0, 1) := by decide +kernel
theorem dX11_layTable_17 : decode cX11_layTable 17 = .ok (.getfield 7, 3) := by decide +kernel
theorem dX11_layTable_20 : decode cX11_layTable 20 = .ok (.iload_n 1, 1) := by decide +kernel
theorem dX11_layTable_21 : decode cX11_layTable 21 = .ok (.iaload, 1) := by decide +kernel
theorem dX11_layTable_22 : decode cX11_layTable 22 = .ok (.if_icmp .gt 162, 3) := by decide +kernel
theorem dX11_layTable_25 : decode cX11_layTable 25 = .ok (.iload 7, 2) := by decide +kernel
theorem dX11_layTable_27 : decode cX11_layTable 27 = .ok (.ifCond .eq 25, 3) := by decide +kernel
theorem dX11_layTable_30 : decode cX11_layTable 30 = .ok (.iload 7, 2) := by decide +kernel
theorem dX11_layTable_32 : decode cX11_layTable 32 = .ok (.aload_n 0, 1) := by decide +kernel
theorem dX11_layTable_33 : decode cX11_layTable 33 = .ok (.getfield 7, 3) := by decide +kernel
theorem dX11_layTable_36 : decode cX11_layTable 36 = .ok (.iload_n 1, 1) := by decide +kernel
theorem dX11_layTable_37 : decode cX11_layTable 37 = .ok (.iaload, 1) := by decide +kernel
theorem dX11_layTable_38 : decode cX11_layTable 38 = .ok (.if_icmp .eq 14, 3) := by decide +kernel
theorem dX11_layTable_41 : decode cX11_layTable 41 = .ok (.lload_n 2, 1) := by decide +kernel
theorem dX11_layTable_42 : decode cX11_layTable 42 = .ok (.iload 7, 2) := by decide +kernel
theorem dX11_layTable_44 : decode cX11_layTable 44 = .ok (.lshr, 1) := by decide +kernel
theorem dX11_layTable_45 : decode cX11_layTable 45 = .ok (.lconst 1, 1) := by decide +kernel
theorem dX11_layTable_46 : decode cX11_layTable 46 = .ok (.land, 1) := by decide +kernel
theorem dX11_layTable_47 : decode cX11_layTable 47 = .ok (.lconst 1, 1) := by decide +kernel
theorem dX11_layTable_48 : decode cX11_layTable 48 = .ok (.lcmp, 1) := by decide +kernel
theorem dX11_layTable_49 : decode cX11_layTable 49 = .ok (.ifCond .ne 7, 3) := by decide +kernel
theorem dX11_layTable_52 : decode cX11_layTable 52 = .ok (.iconst 1, 1) := by decide +kernel
theorem dX11_layTable_53 : decode cX11_layTable 53 = .ok (.goto 4, 3) := by decide +kernel
theorem dX11_layTable_56 : decode cX11_layTable 56 = .ok (.iconst 0, 1) := by decide +kernel
theorem dX11_layTable_57 : decode cX11_layTable 57 = .ok (.istore 8, 2) := by decide +kernel
theorem dX11_layTable_59 : decode cX11_layTable 59 = .ok (.iconst 0, 1) := by decide +kernel
theorem dX11_layTable_60 : decode cX11_layTable 60 = .ok (.istore 9, 2) := by decide +kernel
theorem dX11_layTable_62 : decode cX11_layTable 62 = .ok (.iload 9, 2) := by decide +kernel
theorem dX11_layTable_64 : decode cX11_layTable 64 = .ok (.iload 5, 2) := by decide +kernel
theorem dX11_layTable_66 : decode cX11_layTable 66 = .ok (.if_icmp .ge 66, 3) := by decide +kernel
theorem dX11_layTable_69 : decode cX11_layTable 69 = .ok (.iload 8, 2) := by decide +kernel
theorem dX11_layTable_71 : decode cX11_layTable 71 = .ok (.ifCond .eq 61, 3) := by decide +kernel
theorem dX11_layTable_74 : decode cX11_layTable 74 = .ok (.aload_n 0, 1) := by decide +kernel
theorem dX11_layTable_75 : decode cX11_layTable 75 = .ok (.getfield 19, 3) := by decide +kernel
theorem dX11_layTable_78 : decode cX11_layTable 78 = .ok (.iconst 5, 1) := by decide +kernel
theorem dX11_layTable_79 : decode cX11_layTable 79 = .ok (.iload_n 1, 1) := by decide +kernel
theorem dX11_layTable_80 : decode cX11_layTable 80 = .ok (.imul, 1) := by decide +kernel
theorem dX11_layTable_81 : decode cX11_layTable 81 = .ok (.iload 9, 2) := by decide +kernel
theorem dX11_layTable_83 : decode cX11_layTable 83 = .ok (.iadd, 1) := by decide +kernel
theorem dX11_layTable_84 : decode cX11_layTable 84 = .ok (.iaload, 1) := by decide +kernel
theorem dX11_layTable_85 : decode cX11_layTable 85 = .ok (.istore 10, 2) := by decide +kernel
theorem dX11_layTable_87 : decode cX11_layTable 87 = .ok (.aload_n 0, 1) := by decide +kernel
theorem dX11_layTable_88 : decode cX11_layTable 88 = .ok (.getfield 38, 3) := by decide +kernel
theorem dX11_layTable_91 : decode cX11_layTable 91 = .ok (.bipush 6, 2) := by decide +kernel
theorem dX11_layTable_93 : decode cX11_layTable 93 = .ok (.iload 6, 2) := by decide +kernel
theorem dX11_layTable_95 : decode cX11_layTable 95 = .ok (.imul, 1) := by decide +kernel
theorem dX11_layTable_96 : decode cX11_layTable 96 = .ok (.iload 9, 2) := by decide +kernel
theorem dX11_layTable_98 : decode cX11_layTable 98 = .ok (.iadd, 1) := by decide +kernel
theorem dX11_layTable_99 : decode cX11_layTable 99 = .ok (.iload 7, 2) := by decide +kernel
theorem dX11_layTable_101 : decode cX11_layTable 101 = .ok (.ifCond .ne 7, 3) := by decide +kernel
theorem dX11_layTable_104 : decode cX11_layTable 104 = .ok (.lconst 1, 1) := by decide +kernel
theorem dX11_layTable_105 : decode cX11_layTable 105 = .ok (.goto 20, 3) := by decide +kernel
theorem dX11_layTable_108 : decode cX11_layTable 108 = .ok (.iload 10, 2) := by decide +kernel
theorem dX11_layTable_110 : decode cX11_layTable 110 = .ok (.iload 7, 2) := by decide +kernel
theorem dX11_layTable_112 : decode cX11_layTable 112 = .ok (.if_icmp .ge 12, 3) := by decide +kernel
theorem dX11_layTable_115 : decode cX11_layTable 115 = .ok (.iload 7, 2) := by decide +kernel
theorem dX11_layTable_117 : decode cX11_layTable 117 = .ok (.iload 10, 2) := by decide +kernel
theorem dX11_layTable_119 : decode cX11_layTable 119 = .ok (.isub, 1) := by decide +kernel
theorem dX11_layTable_120 : decode cX11_layTable 120 = .ok (.i2l, 1) := by decide +kernel
theorem dX11_layTable_121 : decode cX11_layTable 121 = .ok (.goto 4, 3) := by decide +kernel
theorem dX11_layTable_124 : decode cX11_layTable 124 = .ok (.lconst 0, 1) := by decide +kernel
theorem dX11_layTable_125 : decode cX11_layTable 125 = .ok (.lastore, 1) := by decide +kernel
theorem dX11_layTable_126 : decode cX11_layTable 126 = .ok (.iinc 9 1, 3) := by decide +kernel
theorem dX11_layTable_129 : decode cX11_layTable 129 = .ok (.goto (-67), 3) := by decide +kernel
theorem dX11_layTable_132 : decode cX11_layTable 132 = .ok (.iload 8, 2) := by decide +kernel
theorem dX11_layTable_134 : decode cX11_layTable 134 = .ok (.ifCond .eq 44, 3) := by decide +kernel
theorem dX11_layTable_137 : decode cX11_layTable 137 = .ok (.aload_n 0, 1) := by decide +kernel
theorem dX11_layTable_138 : decode cX11_layTable 138 = .ok (.getfield 38, 3) := by decide +kernel
theorem dX11_layTable_141 : decode cX11_layTable 141 = .ok (.bipush 6, 2) := by decide +kernel
theorem dX11_layTable_143 : decode cX11_layTable 143 = .ok (.iload 6, 2) := by decide +kernel
theorem dX11_layTable_145 : decode cX11_layTable 145 = .ok (.imul, 1) := by decide +kernel
theorem dX11_layTable_146 : decode cX11_layTable 146 = .ok (.iconst 5, 1) := by decide +kernel
theorem dX11_layTable_147 : decode cX11_layTable 147 = .ok (.iadd, 1) := by decide +kernel
theorem dX11_layTable_148 : decode cX11_layTable 148 = .ok (.iload 7, 2) := by decide +kernel
theorem dX11_layTable_150 : decode cX11_layTable 150 = .ok (.ifCond .ne 7, 3) := by decide +kernel
theorem dX11_layTable_153 : decode cX11_layTable 153 = .ok (.lconst 1, 1) := by decide +kernel
theorem dX11_layTable_154 : decode cX11_layTable 154 = .ok (.goto 20, 3) := by decide +kernel
theorem dX11_layTable_157 : decode cX11_layTable 157 = .ok (.iload 4, 2) := by decide +kernel
theorem dX11_layTable_159 : decode cX11_layTable 159 = .ok (.iload 7, 2) := by decide +kernel
theorem dX11_layTable_161 : decode cX11_layTable 161 = .ok (.if_icmp .ge 12, 3) := by decide +kernel
theorem dX11_layTable_164 : decode cX11_layTable 164 = .ok (.iload 7, 2) := by decide +kernel
theorem dX11_layTable_166 : decode cX11_layTable 166 = .ok (.iload 4, 2) := by decide +kernel
theorem dX11_layTable_168 : decode cX11_layTable 168 = .ok (.isub, 1) := by decide +kernel
theorem dX11_layTable_169 : decode cX11_layTable 169 = .ok (.i2l, 1) := by decide +kernel
theorem dX11_layTable_170 : decode cX11_layTable 170 = .ok (.goto 4, 3) := by decide +kernel
theorem dX11_layTable_173 : decode cX11_layTable 173 = .ok (.lconst 0, 1) := by decide +kernel
theorem dX11_layTable_174 : decode cX11_layTable 174 = .ok (.lastore, 1) := by decide +kernel
theorem dX11_layTable_175 : decode cX11_layTable 175 = .ok (.iinc 6 1, 3) := by decide +kernel
theorem dX11_layTable_178 : decode cX11_layTable 178 = .ok (.iinc 7 1, 3) := by decide +kernel
theorem dX11_layTable_181 : decode cX11_layTable 181 = .ok (.goto (-167), 3) := by decide +kernel
theorem dX11_layTable_184 : decode cX11_layTable 184 = .ok (.return_, 1) := by decide +kernel
theorem dX11_change_0 : decode cX11_change 0 = .ok (.iconst 0, 1) := by decide +kernel
theorem dX11_change_1 : decode cX11_change 1 = .ok (.istore_n 3, 1) := by decide +kernel
theorem dX11_change_2 : decode cX11_change 2 = .ok (.iload_n 3, 1) := by decide +kernel
theorem dX11_change_3 : decode cX11_change 3 = .ok (.bipush 6, 2) := by decide +kernel
theorem dX11_change_5 : decode cX11_change 5 = .ok (.if_icmp .ge 57, 3) := by decide +kernel
theorem dX11_change_8 : decode cX11_change 8 = .ok (.aload_n 0, 1) := by decide +kernel
theorem dX11_change_9 : decode cX11_change 9 = .ok (.getfield 38, 3) := by decide +kernel
theorem dX11_change_12 : decode cX11_change 12 = .ok (.bipush 6, 2) := by decide +kernel
theorem dX11_change_14 : decode cX11_change 14 = .ok (.iload_n 1, 1) := by decide +kernel
theorem dX11_change_15 : decode cX11_change 15 = .ok (.imul, 1) := by decide +kernel
theorem dX11_change_16 : decode cX11_change 16 = .ok (.iload_n 3, 1) := by decide +kernel
theorem dX11_change_17 : decode cX11_change 17 = .ok (.iadd, 1) := by decide +kernel
theorem dX11_change_18 : decode cX11_change 18 = .ok (.laload, 1) := by decide +kernel
theorem dX11_change_19 : decode cX11_change 19 = .ok (.lstore 4, 2) := by decide +kernel
theorem dX11_change_21 : decode cX11_change 21 = .ok (.aload_n 0, 1) := by decide +kernel
theorem dX11_change_22 : decode cX11_change 22 = .ok (.getfield 38, 3) := by decide +kernel
theorem dX11_change_25 : decode cX11_change 25 = .ok (.bipush 6, 2) := by decide +kernel
theorem dX11_change_27 : decode cX11_change 27 = .ok (.iload_n 1, 1) := by decide +kernel
theorem dX11_change_28 : decode cX11_change 28 = .ok (.imul, 1) := by decide +kernel
theorem dX11_change_29 : decode cX11_change 29 = .ok (.iload_n 3, 1) := by decide +kernel
theorem dX11_change_30 : decode cX11_change 30 = .ok (.iadd, 1) := by decide +kernel
theorem dX11_change_31 : decode cX11_change 31 = .ok (.aload_n 0, 1) := by decide +kernel
theorem dX11_change_32 : decode cX11_change 32 = .ok (.getfield 38, 3) := by decide +kernel
theorem dX11_change_35 : decode cX11_change 35 = .ok (.bipush 6, 2) := by decide +kernel
theorem dX11_change_37 : decode cX11_change 37 = .ok (.iload_n 2, 1) := by decide +kernel
theorem dX11_change_38 : decode cX11_change 38 = .ok (.imul, 1) := by decide +kernel
theorem dX11_change_39 : decode cX11_change 39 = .ok (.iload_n 3, 1) := by decide +kernel
theorem dX11_change_40 : decode cX11_change 40 = .ok (.iadd, 1) := by decide +kernel
theorem dX11_change_41 : decode cX11_change 41 = .ok (.laload, 1) := by decide +kernel
theorem dX11_change_42 : decode cX11_change 42 = .ok (.lastore, 1) := by decide +kernel
theorem dX11_change_43 : decode cX11_change 43 = .ok (.aload_n 0, 1) := by decide +kernel
theorem dX11_change_44 : decode cX11_change 44 = .ok (.getfield 38, 3) := by decide +kernel
theorem dX11_change_47 : decode cX11_change 47 = .ok (.bipush 6, 2) := by decide +kernel
theorem dX11_change_49 : decode cX11_change 49 = .ok (.iload_n 2, 1) := by decide +kernel
theorem dX11_change_50 : decode cX11_change 50 = .ok (.imul, 1) := by decide +kernel
theorem dX11_change_51 : decode cX11_change 51 = .ok (.iload_n 3, 1) := by decide +kernel
theorem dX11_change_52 : decode cX11_change 52 = .ok (.iadd, 1) := by decide +kernel
theorem dX11_change_53 : decode cX11_change 53 = .ok (.lload 4, 2) := by decide +kernel
theorem dX11_change_55 : decode cX11_change 55 = .ok (.lastore, 1) := by decide +kernel
theorem dX11_change_56 : decode cX11_change 56 = .ok (.iinc 3 1, 3) := by decide +kernel
theorem dX11_change_59 : decode cX11_change 59 = .ok (.goto (-57), 3) := by decide +kernel
theorem dX11_change_62 : decode cX11_change 62 = .ok (.return_, 1) := by decide +kernel
theorem dX11_solve_0 : decode cX11_solve 0 = .ok (.lconst 1, 1) := by decide +kernel
theorem dX11_solve_1 : decode cX11_solve 1 = .ok (.lstore_n 2, 1) := by decide +kernel
theorem dX11_solve_2 : decode cX11_solve 2 = .ok (.iconst 0, 1) := by decide +kernel
theorem dX11_solve_3 : decode cX11_solve 3 = .ok (.istore 4, 2) := by decide +kernel
theorem dX11_solve_5 : decode cX11_solve 5 = .ok (.iload 4, 2) := by decide +kernel
theorem dX11_solve_7 : decode cX11_solve 7 = .ok (.iload_n 1, 1) := by decide +kernel
theorem dX11_solve_8 : decode cX11_solve 8 = .ok (.if_icmp .ge 229, 3) := by decide +kernel
theorem dX11_solve_11 : decode cX11_solve 11 = .ok (.iload 4, 2) := by decide +kernel
theorem dX11_solve_13 : decode cX11_solve 13 = .ok (.istore 5, 2) := by decide +kernel
theorem dX11_solve_15 : decode cX11_solve 15 = .ok (.iload 5, 2) := by decide +kernel
theorem dX11_solve_17 : decode cX11_solve 17 = .ok (.iload_n 1, 1) := by decide +kernel
theorem dX11_solve_18 : decode cX11_solve 18 = .ok (.if_icmp .ge 27, 3) := by decide +kernel
theorem dX11_solve_21 : decode cX11_solve 21 = .ok (.aload_n 0, 1) := by decide +kernel
theorem dX11_solve_22 : decode cX11_solve 22 = .ok (.getfield 38, 3) := by decide +kernel
theorem dX11_solve_25 : decode cX11_solve 25 = .ok (.bipush 6, 2) := by decide +kernel
theorem dX11_solve_27 : decode cX11_solve 27 = .ok (.iload 5, 2) := by decide +kernel
theorem dX11_solve_29 : decode cX11_solve 29 = .ok (.imul, 1) := by decide +kernel
theorem dX11_solve_30 : decode cX11_solve 30 = .ok (.iload 4, 2) := by decide +kernel
theorem dX11_solve_32 : decode cX11_solve 32 = .ok (.iadd, 1) := by decide +kernel
theorem dX11_solve_33 : decode cX11_solve 33 = .ok (.laload, 1) := by decide +kernel
theorem dX11_solve_34 : decode cX11_solve 34 = .ok (.lconst 0, 1) := by decide +kernel
theorem dX11_solve_35 : decode cX11_solve 35 = .ok (.lcmp, 1) := by decide +kernel
theorem dX11_solve_36 : decode cX11_solve 36 = .ok (.ifCond .ne 9, 3) := by decide +kernel
theorem dX11_solve_39 : decode cX11_solve 39 = .ok (.iinc 5 1, 3) := by decide +kernel
theorem dX11_solve_42 : decode cX11_solve 42 = .ok (.goto (-27), 3) := by decide +kernel
theorem dX11_solve_45 : decode cX11_solve 45 = .ok (.iload 5, 2) := by decide +kernel
theorem dX11_solve_47 : decode cX11_solve 47 = .ok (.iload_n 1, 1) := by decide +kernel
theorem dX11_solve_48 : decode cX11_solve 48 = .ok (.if_icmp .ne 5, 3) := by decide +kernel
theorem dX11_solve_51 : decode cX11_solve 51 = .ok (.lconst 0, 1) := by decide +kernel
theorem dX11_solve_52 : decode cX11_solve 52 = .ok (.lreturn, 1) := by decide +kernel
theorem dX11_solve_53 : decode cX11_solve 53 = .ok (.iload 5, 2) := by decide +kernel
theorem dX11_solve_55 : decode cX11_solve 55 = .ok (.iload 4, 2) := by decide +kernel
theorem dX11_solve_57 : decode cX11_solve 57 = .ok (.if_icmp .eq 55, 3) := by decide +kernel
theorem dX11_solve_60 : decode cX11_solve 60 = .ok (.aload_n 0, 1) := by decide +kernel
theorem dX11_solve_61 : decode cX11_solve 61 = .ok (.iload 5, 2) := by decide +kernel
theorem dX11_solve_63 : decode cX11_solve 63 = .ok (.iload 4, 2) := by decide +kernel
theorem dX11_solve_65 : decode cX11_solve 65 = .ok (.invokevirtual 117, 3) := by decide +kernel
theorem dX11_solve_68 : decode cX11_solve 68 = .ok (.iconst 0, 1) := by decide +kernel
theorem dX11_solve_69 : decode cX11_solve 69 = .ok (.istore 6, 2) := by decide +kernel
theorem dX11_solve_71 : decode cX11_solve 71 = .ok (.iload 6, 2) := by decide +kernel
theorem dX11_solve_73 : decode cX11_solve 73 = .ok (.bipush 6, 2) := by decide +kernel
theorem dX11_solve_75 : decode cX11_solve 75 = .ok (.if_icmp .ge 37, 3) := by decide +kernel
theorem dX11_solve_78 : decode cX11_solve 78 = .ok (.aload_n 0, 1) := by decide +kernel
theorem dX11_solve_79 : decode cX11_solve 79 = .ok (.getfield 38, 3) := by decide +kernel
theorem dX11_solve_82 : decode cX11_solve 82 = .ok (.bipush 6, 2) := by decide +kernel
theorem dX11_solve_84 : decode cX11_solve 84 = .ok (.iload 5, 2) := by decide +kernel
theorem dX11_solve_86 : decode cX11_solve 86 = .ok (.imul, 1) := by decide +kernel
theorem dX11_solve_87 : decode cX11_solve 87 = .ok (.iload 6, 2) := by decide +kernel
theorem dX11_solve_89 : decode cX11_solve 89 = .ok (.iadd, 1) := by decide +kernel
theorem dX11_solve_90 : decode cX11_solve 90 = .ok (.lconst 0, 1) := by decide +kernel
theorem dX11_solve_91 : decode cX11_solve 91 = .ok (.aload_n 0, 1) := by decide +kernel
theorem dX11_solve_92 : decode cX11_solve 92 = .ok (.getfield 38, 3) := by decide +kernel
theorem dX11_solve_95 : decode cX11_solve 95 = .ok (.bipush 6, 2) := by decide +kernel
theorem dX11_solve_97 : decode cX11_solve 97 = .ok (.iload 5, 2) := by decide +kernel
theorem dX11_solve_99 : decode cX11_solve 99 = .ok (.imul, 1) := by decide +kernel
theorem dX11_solve_100 : decode cX11_solve 100 = .ok (.iload 6, 2) := by decide +kernel
theorem dX11_solve_102 : decode cX11_solve 102 = .ok (.iadd, 1) := by decide +kernel
theorem dX11_solve_103 : decode cX11_solve 103 = .ok (.laload, 1) := by decide +kernel
theorem dX11_solve_104 : decode cX11_solve 104 = .ok (.lsub, 1) := by decide +kernel
theorem dX11_solve_105 : decode cX11_solve 105 = .ok (.lastore, 1) := by decide +kernel
theorem dX11_solve_106 : decode cX11_solve 106 = .ok (.iinc 6 1, 3) := by decide +kernel
theorem dX11_solve_109 : decode cX11_solve 109 = .ok (.goto (-38), 3) := by decide +kernel
theorem dX11_solve_112 : decode cX11_solve 112 = .ok (.aload_n 0, 1) := by decide +kernel
theorem dX11_solve_113 : decode cX11_solve 113 = .ok (.getfield 38, 3) := by decide +kernel
theorem dX11_solve_116 : decode cX11_solve 116 = .ok (.bipush 6, 2) := by decide +kernel
theorem dX11_solve_118 : decode cX11_solve 118 = .ok (.iload 4, 2) := by decide +kernel
theorem dX11_solve_120 : decode cX11_solve 120 = .ok (.imul, 1) := by decide +kernel
theorem dX11_solve_121 : decode cX11_solve 121 = .ok (.iload 4, 2) := by decide +kernel
theorem dX11_solve_123 : decode cX11_solve 123 = .ok (.iadd, 1) := by decide +kernel
theorem dX11_solve_124 : decode cX11_solve 124 = .ok (.laload, 1) := by decide +kernel
theorem dX11_solve_125 : decode cX11_solve 125 = .ok (.lstore 6, 2) := by decide +kernel
theorem dX11_solve_127 : decode cX11_solve 127 = .ok (.iconst 0, 1) := by decide +kernel
theorem dX11_solve_128 : decode cX11_solve 128 = .ok (.istore 8, 2) := by decide +kernel
theorem dX11_solve_130 : decode cX11_solve 130 = .ok (.iload 8, 2) := by decide +kernel
theorem dX11_solve_132 : decode cX11_solve 132 = .ok (.iload_n 1, 1) := by decide +kernel
theorem dX11_solve_133 : decode cX11_solve 133 = .ok (.if_icmp .ge 95, 3) := by decide +kernel
theorem dX11_solve_136 : decode cX11_solve 136 = .ok (.aload_n 0, 1) := by decide +kernel
theorem dX11_solve_137 : decode cX11_solve 137 = .ok (.getfield 38, 3) := by decide +kernel
theorem dX11_solve_140 : decode cX11_solve 140 = .ok (.bipush 6, 2) := by decide +kernel
theorem dX11_solve_142 : decode cX11_solve 142 = .ok (.iload 8, 2) := by decide +kernel
theorem dX11_solve_144 : decode cX11_solve 144 = .ok (.imul, 1) := by decide +kernel
theorem dX11_solve_145 : decode cX11_solve 145 = .ok (.iload 4, 2) := by decide +kernel
theorem dX11_solve_147 : decode cX11_solve 147 = .ok (.iadd, 1) := by decide +kernel
theorem dX11_solve_148 : decode cX11_solve 148 = .ok (.laload, 1) := by decide +kernel
theorem dX11_solve_149 : decode cX11_solve 149 = .ok (.lstore 9, 2) := by decide +kernel
theorem dX11_solve_151 : decode cX11_solve 151 = .ok (.iconst 0, 1) := by decide +kernel
theorem dX11_solve_152 : decode cX11_solve 152 = .ok (.istore 11, 2) := by decide +kernel
theorem dX11_solve_154 : decode cX11_solve 154 = .ok (.iload 11, 2) := by decide +kernel
theorem dX11_solve_156 : decode cX11_solve 156 = .ok (.bipush 6, 2) := by decide +kernel
theorem dX11_solve_158 : decode cX11_solve 158 = .ok (.if_icmp .ge 64, 3) := by decide +kernel
theorem dX11_solve_161 : decode cX11_solve 161 = .ok (.iload 8, 2) := by decide +kernel
theorem dX11_solve_163 : decode cX11_solve 163 = .ok (.iload 4, 2) := by decide +kernel
theorem dX11_solve_165 : decode cX11_solve 165 = .ok (.if_icmp .eq 57, 3) := by decide +kernel
theorem dX11_solve_168 : decode cX11_solve 168 = .ok (.aload_n 0, 1) := by decide +kernel
theorem dX11_solve_169 : decode cX11_solve 169 = .ok (.getfield 38, 3) := by decide +kernel
theorem dX11_solve_172 : decode cX11_solve 172 = .ok (.bipush 6, 2) := by decide +kernel
theorem dX11_solve_174 : decode cX11_solve 174 = .ok (.iload 8, 2) := by decide +kernel
theorem dX11_solve_176 : decode cX11_solve 176 = .ok (.imul, 1) := by decide +kernel
theorem dX11_solve_177 : decode cX11_solve 177 = .ok (.iload 11, 2) := by decide +kernel
theorem dX11_solve_179 : decode cX11_solve 179 = .ok (.iadd, 1) := by decide +kernel
theorem dX11_solve_180 : decode cX11_solve 180 = .ok (.aload_n 0, 1) := by decide +kernel
theorem dX11_solve_181 : decode cX11_solve 181 = .ok (.getfield 38, 3) := by decide +kernel
theorem dX11_solve_184 : decode cX11_solve 184 = .ok (.bipush 6, 2) := by decide +kernel
theorem dX11_solve_186 : decode cX11_solve 186 = .ok (.iload 8, 2) := by decide +kernel
theorem dX11_solve_188 : decode cX11_solve 188 = .ok (.imul, 1) := by decide +kernel
theorem dX11_solve_189 : decode cX11_solve 189 = .ok (.iload 11, 2) := by decide +kernel
theorem dX11_solve_191 : decode cX11_solve 191 = .ok (.iadd, 1) := by decide +kernel
theorem dX11_solve_192 : decode cX11_solve 192 = .ok (.laload, 1) := by decide +kernel
theorem dX11_solve_193 : decode cX11_solve 193 = .ok (.lload 6, 2) := by decide +kernel
theorem dX11_solve_195 : decode cX11_solve 195 = .ok (.lmul, 1) := by decide +kernel
theorem dX11_solve_196 : decode cX11_solve 196 = .ok (.lload 9, 2) := by decide +kernel
theorem dX11_solve_198 : decode cX11_solve 198 = .ok (.aload_n 0, 1) := by decide +kernel
theorem dX11_solve_199 : decode cX11_solve 199 = .ok (.getfield 38, 3) := by decide +kernel
theorem dX11_solve_202 : decode cX11_solve 202 = .ok (.bipush 6, 2) := by decide +kernel
theorem dX11_solve_204 : decode cX11_solve 204 = .ok (.iload 4, 2) := by decide +kernel
theorem dX11_solve_206 : decode cX11_solve 206 = .ok (.imul, 1) := by decide +kernel
theorem dX11_solve_207 : decode cX11_solve 207 = .ok (.iload 11, 2) := by decide +kernel
theorem dX11_solve_209 : decode cX11_solve 209 = .ok (.iadd, 1) := by decide +kernel
theorem dX11_solve_210 : decode cX11_solve 210 = .ok (.laload, 1) := by decide +kernel
theorem dX11_solve_211 : decode cX11_solve 211 = .ok (.lmul, 1) := by decide +kernel
theorem dX11_solve_212 : decode cX11_solve 212 = .ok (.lsub, 1) := by decide +kernel
theorem dX11_solve_213 : decode cX11_solve 213 = .ok (.lload_n 2, 1) := by decide +kernel
theorem dX11_solve_214 : decode cX11_solve 214 = .ok (.ldiv, 1) := by decide +kernel
theorem dX11_solve_215 : decode cX11_solve 215 = .ok (.lastore, 1) := by decide +kernel
theorem dX11_solve_216 : decode cX11_solve 216 = .ok (.iinc 11 1, 3) := by decide +kernel
theorem dX11_solve_219 : decode cX11_solve 219 = .ok (.goto (-65), 3) := by decide +kernel
theorem dX11_solve_222 : decode cX11_solve 222 = .ok (.iinc 8 1, 3) := by decide +kernel
theorem dX11_solve_225 : decode cX11_solve 225 = .ok (.goto (-95), 3) := by decide +kernel
theorem dX11_solve_228 : decode cX11_solve 228 = .ok (.lload 6, 2) := by decide +kernel
theorem dX11_solve_230 : decode cX11_solve 230 = .ok (.lstore_n 2, 1) := by decide +kernel
theorem dX11_solve_231 : decode cX11_solve 231 = .ok (.iinc 4 1, 3) := by decide +kernel
theorem dX11_solve_234 : decode cX11_solve 234 = .ok (.goto (-229), 3) := by decide +kernel
theorem dX11_solve_237 : decode cX11_solve 237 = .ok (.lload_n 2, 1) := by decide +kernel
theorem dX11_solve_238 : decode cX11_solve 238 = .ok (.lreturn, 1) := by decide +kernel
theorem dX11_findBridge_0 : decode cX11_findBridge 0 = .ok (.aload_n 0, 1) := by decide +kernel
theorem dX11_findBridge_1 : decode cX11_findBridge 1 = .ok (.getfield 13, 3) := by decide +kernel
theorem dX11_findBridge_4 : decode cX11_findBridge 4 = .ok (.iload_n 1, 1) := by decide +kernel
theorem dX11_findBridge_5 : decode cX11_findBridge 5 = .ok (.iaload, 1) := by decide +kernel
theorem dX11_findBridge_6 : decode cX11_findBridge 6 = .ok (.istore 4, 2) := by decide +kernel
theorem dX11_findBridge_8 : decode cX11_findBridge 8 = .ok (.iconst 0, 1) := by decide +kernel
theorem dX11_findBridge_9 : decode cX11_findBridge 9 = .ok (.istore 5, 2) := by decide +kernel
theorem dX11_findBridge_11 : decode cX11_findBridge 11 = .ok (.iload 5, 2) := by decide +kernel
theorem dX11_findBridge_13 : decode cX11_findBridge 13 = .ok (.aload_n 0, 1) := by decide +kernel
theorem dX11_findBridge_14 : decode cX11_findBridge 14 = .ok (.getfield 7, 3) := by decide +kernel
theorem dX11_findBridge_17 : decode cX11_findBridge 17 = .ok (.iload_n 1, 1) := by decide +kernel
theorem dX11_findBridge_18 : decode cX11_findBridge 18 = .ok (.iaload, 1) := by decide +kernel
theorem dX11_findBridge_19 : decode cX11_findBridge 19 = .ok (.if_icmp .gt 138, 3) := by decide +kernel
theorem dX11_findBridge_22 : decode cX11_findBridge 22 = .ok (.iconst 0, 1) := by decide +kernel
theorem dX11_findBridge_23 : decode cX11_findBridge 23 = .ok (.istore 6, 2) := by decide +kernel
theorem dX11_findBridge_25 : decode cX11_findBridge 25 = .ok (.iload 6, 2) := by decide +kernel
theorem dX11_findBridge_27 : decode cX11_findBridge 27 = .ok (.bipush 30, 2) := by decide +kernel
theorem dX11_findBridge_29 : decode cX11_findBridge 29 = .ok (.if_icmp .ge 17, 3) := by decide +kernel
theorem dX11_findBridge_32 : decode cX11_findBridge 32 = .ok (.aload_n 0, 1) := by decide +kernel
theorem dX11_findBridge_33 : decode cX11_findBridge 33 = .ok (.getfield 38, 3) := by decide +kernel
theorem dX11_findBridge_36 : decode cX11_findBridge 36 = .ok (.iload 6, 2) := by decide +kernel
theorem dX11_findBridge_38 : decode cX11_findBridge 38 = .ok (.lconst 0, 1) := by decide +kernel
theorem dX11_findBridge_39 : decode cX11_findBridge 39 = .ok (.lastore, 1) := by decide +kernel
theorem dX11_findBridge_40 : decode cX11_findBridge 40 = .ok (.iinc 6 1, 3) := by decide +kernel
theorem dX11_findBridge_43 : decode cX11_findBridge 43 = .ok (.goto (-18), 3) := by decide +kernel
theorem dX11_findBridge_46 : decode cX11_findBridge 46 = .ok (.aload_n 0, 1) := by decide +kernel
theorem dX11_findBridge_47 : decode cX11_findBridge 47 = .ok (.iload_n 1, 1) := by decide +kernel
theorem dX11_findBridge_48 : decode cX11_findBridge 48 = .ok (.lload_n 2, 1) := by decide +kernel
theorem dX11_findBridge_49 : decode cX11_findBridge 49 = .ok (.iload 5, 2) := by decide +kernel
theorem dX11_findBridge_51 : decode cX11_findBridge 51 = .ok (.invokevirtual 121, 3) := by decide +kernel
theorem dX11_findBridge_54 : decode cX11_findBridge 54 = .ok (.aload_n 0, 1) := by decide +kernel
theorem dX11_findBridge_55 : decode cX11_findBridge 55 = .ok (.iload 4, 2) := by decide +kernel
theorem dX11_findBridge_57 : decode cX11_findBridge 57 = .ok (.invokevirtual 125, 3) := by decide +kernel
theorem dX11_findBridge_60 : decode cX11_findBridge 60 = .ok (.lstore 6, 2) := by decide +kernel
theorem dX11_findBridge_62 : decode cX11_findBridge 62 = .ok (.lload 6, 2) := by decide +kernel
theorem dX11_findBridge_64 : decode cX11_findBridge 64 = .ok (.lconst 0, 1) := by decide +kernel
theorem dX11_findBridge_65 : decode cX11_findBridge 65 = .ok (.lcmp, 1) := by decide +kernel
theorem dX11_findBridge_66 : decode cX11_findBridge 66 = .ok (.ifCond .ne 5, 3) := by decide +kernel
theorem dX11_findBridge_69 : decode cX11_findBridge 69 = .ok (.iconst 0, 1) := by decide +kernel
theorem dX11_findBridge_70 : decode cX11_findBridge 70 = .ok (.ireturn, 1) := by decide +kernel
theorem dX11_findBridge_71 : decode cX11_findBridge 71 = .ok (.aload_n 0, 1) := by decide +kernel
theorem dX11_findBridge_72 : decode cX11_findBridge 72 = .ok (.getfield 35, 3) := by decide +kernel
theorem dX11_findBridge_75 : decode cX11_findBridge 75 = .ok (.iload_n 1, 1) := by decide +kernel
theorem dX11_findBridge_76 : decode cX11_findBridge 76 = .ok (.lload 6, 2) := by decide +kernel
theorem dX11_findBridge_78 : decode cX11_findBridge 78 = .ok (.invokestatic 109, 3) := by decide +kernel
theorem dX11_findBridge_81 : decode cX11_findBridge 81 = .ok (.lastore, 1) := by decide +kernel
theorem dX11_findBridge_82 : decode cX11_findBridge 82 = .ok (.iconst 0, 1) := by decide +kernel
theorem dX11_findBridge_83 : decode cX11_findBridge 83 = .ok (.istore 8, 2) := by decide +kernel
theorem dX11_findBridge_85 : decode cX11_findBridge 85 = .ok (.iload 8, 2) := by decide +kernel
theorem dX11_findBridge_87 : decode cX11_findBridge 87 = .ok (.iload 4, 2) := by decide +kernel
theorem dX11_findBridge_89 : decode cX11_findBridge 89 = .ok (.if_icmp .ge 62, 3) := by decide +kernel
theorem dX11_findBridge_92 : decode cX11_findBridge 92 = .ok (.aload_n 0, 1) := by decide +kernel
theorem dX11_findBridge_93 : decode cX11_findBridge 93 = .ok (.getfield 31, 3) := by decide +kernel
theorem dX11_findBridge_96 : decode cX11_findBridge 96 = .ok (.iconst 5, 1) := by decide +kernel
theorem dX11_findBridge_97 : decode cX11_findBridge 97 = .ok (.bipush 61, 2) := by decide +kernel
theorem dX11_findBridge_99 : decode cX11_findBridge 99 = .ok (.iload_n 1, 1) := by decide +kernel
theorem dX11_findBridge_100 : decode cX11_findBridge 100 = .ok (.imul, 1) := by decide +kernel
theorem dX11_findBridge_101 : decode cX11_findBridge 101 = .ok (.iload 5, 2) := by decide +kernel
theorem dX11_findBridge_103 : decode cX11_findBridge 103 = .ok (.iadd, 1) := by decide +kernel
theorem dX11_findBridge_104 : decode cX11_findBridge 104 = .ok (.imul, 1) := by decide +kernel
theorem dX11_findBridge_105 : decode cX11_findBridge 105 = .ok (.iload 8, 2) := by decide +kernel
theorem dX11_findBridge_107 : decode cX11_findBridge 107 = .ok (.iadd, 1) := by decide +kernel
theorem dX11_findBridge_108 : decode cX11_findBridge 108 = .ok (.lload 6, 2) := by decide +kernel
theorem dX11_findBridge_110 : decode cX11_findBridge 110 = .ok (.lconst 0, 1) := by decide +kernel
theorem dX11_findBridge_111 : decode cX11_findBridge 111 = .ok (.lcmp, 1) := by decide +kernel
theorem dX11_findBridge_112 : decode cX11_findBridge 112 = .ok (.ifCond .ge 20, 3) := by decide +kernel
theorem dX11_findBridge_115 : decode cX11_findBridge 115 = .ok (.lconst 0, 1) := by decide +kernel
theorem dX11_findBridge_116 : decode cX11_findBridge 116 = .ok (.aload_n 0, 1) := by decide +kernel
theorem dX11_findBridge_117 : decode cX11_findBridge 117 = .ok (.getfield 38, 3) := by decide +kernel
theorem dX11_findBridge_120 : decode cX11_findBridge 120 = .ok (.bipush 6, 2) := by decide +kernel
theorem dX11_findBridge_122 : decode cX11_findBridge 122 = .ok (.iload 8, 2) := by decide +kernel
theorem dX11_findBridge_124 : decode cX11_findBridge 124 = .ok (.imul, 1) := by decide +kernel
theorem dX11_findBridge_125 : decode cX11_findBridge 125 = .ok (.iconst 5, 1) := by decide +kernel
theorem dX11_findBridge_126 : decode cX11_findBridge 126 = .ok (.iadd, 1) := by decide +kernel
theorem dX11_findBridge_127 : decode cX11_findBridge 127 = .ok (.laload, 1) := by decide +kernel
theorem dX11_findBridge_128 : decode cX11_findBridge 128 = .ok (.lsub, 1) := by decide +kernel
theorem dX11_findBridge_129 : decode cX11_findBridge 129 = .ok (.goto 15, 3) := by decide +kernel
theorem dX11_findBridge_132 : decode cX11_findBridge 132 = .ok (.aload_n 0, 1) := by decide +kernel
theorem dX11_findBridge_133 : decode cX11_findBridge 133 = .ok (.getfield 38, 3) := by decide +kernel
theorem dX11_findBridge_136 : decode cX11_findBridge 136 = .ok (.bipush 6, 2) := by decide +kernel
theorem dX11_findBridge_138 : decode cX11_findBridge 138 = .ok (.iload 8, 2) := by decide +kernel
theorem dX11_findBridge_140 : decode cX11_findBridge 140 = .ok (.imul, 1) := by decide +kernel
theorem dX11_findBridge_141 : decode cX11_findBridge 141 = .ok (.iconst 5, 1) := by decide +kernel
theorem dX11_findBridge_142 : decode cX11_findBridge 142 = .ok (.iadd, 1) := by decide +kernel
theorem dX11_findBridge_143 : decode cX11_findBridge 143 = .ok (.laload, 1) := by decide +kernel
theorem dX11_findBridge_144 : decode cX11_findBridge 144 = .ok (.lastore, 1) := by decide +kernel
theorem dX11_findBridge_145 : decode cX11_findBridge 145 = .ok (.iinc 8 1, 3) := by decide +kernel
theorem dX11_findBridge_148 : decode cX11_findBridge 148 = .ok (.goto (-63), 3) := by decide +kernel
theorem dX11_findBridge_151 : decode cX11_findBridge 151 = .ok (.iinc 5 1, 3) := by decide +kernel
theorem dX11_findBridge_154 : decode cX11_findBridge 154 = .ok (.goto (-143), 3) := by decide +kernel
theorem dX11_findBridge_157 : decode cX11_findBridge 157 = .ok (.iconst 1, 1) := by decide +kernel
theorem dX11_findBridge_158 : decode cX11_findBridge 158 = .ok (.ireturn, 1) := by decide +kernel
theorem dX11_bridge_0 : decode cX11_bridge 0 = .ok (.iload_n 1, 1) := by decide +kernel
theorem dX11_bridge_1 : decode cX11_bridge 1 = .ok (.i2l, 1) := by decide +kernel
theorem dX11_bridge_2 : decode cX11_bridge 2 = .ok (.ldc2_w 129, 3) := by decide +kernel
theorem dX11_bridge_5 : decode cX11_bridge 5 = .ok (.ldc2_w 131, 3) := by decide +kernel
theorem dX11_bridge_8 : decode cX11_bridge 8 = .ok (.invokestatic 133, 3) := by decide +kernel
theorem dX11_bridge_11 : decode cX11_bridge 11 = .ok (.ifCond .eq 35, 3) := by decide +kernel
theorem dX11_bridge_14 : decode cX11_bridge 14 = .ok (.lload_n 2, 1) := by decide +kernel
theorem dX11_bridge_15 : decode cX11_bridge 15 = .ok (.lconst 0, 1) := by decide +kernel
theorem dX11_bridge_16 : decode cX11_bridge 16 = .ok (.lcmp, 1) := by decide +kernel
theorem dX11_bridge_17 : decode cX11_bridge 17 = .ok (.ifCond .lt 29, 3) := by decide +kernel
theorem dX11_bridge_20 : decode cX11_bridge 20 = .ok (.lload 4, 2) := by decide +kernel
theorem dX11_bridge_22 : decode cX11_bridge 22 = .ok (.lconst 0, 1) := by decide +kernel
theorem dX11_bridge_23 : decode cX11_bridge 23 = .ok (.lcmp, 1) := by decide +kernel
theorem dX11_bridge_24 : decode cX11_bridge 24 = .ok (.ifCond .lt 22, 3) := by decide +kernel
theorem dX11_bridge_27 : decode cX11_bridge 27 = .ok (.lload_n 2, 1) := by decide +kernel
theorem dX11_bridge_28 : decode cX11_bridge 28 = .ok (.iload_n 1, 1) := by decide +kernel
theorem dX11_bridge_29 : decode cX11_bridge 29 = .ok (.iconst 1, 1) := by decide +kernel
theorem dX11_bridge_30 : decode cX11_bridge 30 = .ok (.iadd, 1) := by decide +kernel
theorem dX11_bridge_31 : decode cX11_bridge 31 = .ok (.lshr, 1) := by decide +kernel
theorem dX11_bridge_32 : decode cX11_bridge 32 = .ok (.lconst 0, 1) := by decide +kernel
theorem dX11_bridge_33 : decode cX11_bridge 33 = .ok (.lcmp, 1) := by decide +kernel
theorem dX11_bridge_34 : decode cX11_bridge 34 = .ok (.ifCond .ne 12, 3) := by decide +kernel
theorem dX11_bridge_37 : decode cX11_bridge 37 = .ok (.lload 4, 2) := by decide +kernel
theorem dX11_bridge_39 : decode cX11_bridge 39 = .ok (.iload_n 1, 1) := by decide +kernel
theorem dX11_bridge_40 : decode cX11_bridge 40 = .ok (.lshr, 1) := by decide +kernel
theorem dX11_bridge_41 : decode cX11_bridge 41 = .ok (.lconst 0, 1) := by decide +kernel
theorem dX11_bridge_42 : decode cX11_bridge 42 = .ok (.lcmp, 1) := by decide +kernel
theorem dX11_bridge_43 : decode cX11_bridge 43 = .ok (.ifCond .eq 7, 3) := by decide +kernel
theorem dX11_bridge_46 : decode cX11_bridge 46 = .ok (.sipush (-1002), 3) := by decide +kernel
theorem dX11_bridge_49 : decode cX11_bridge 49 = .ok (.ireturn, 1) := by decide +kernel
theorem dX11_bridge_50 : decode cX11_bridge 50 = .ok (.lload_n 2, 1) := by decide +kernel
theorem dX11_bridge_51 : decode cX11_bridge 51 = .ok (.invokestatic 137, 3) := by decide +kernel
theorem dX11_bridge_54 : decode cX11_bridge 54 = .ok (.istore 6, 2) := by decide +kernel
theorem dX11_bridge_56 : decode cX11_bridge 56 = .ok (.iload 6, 2) := by decide +kernel
theorem dX11_bridge_58 : decode cX11_bridge 58 = .ok (.i2l, 1) := by decide +kernel
theorem dX11_bridge_59 : decode cX11_bridge 59 = .ok (.ldc2_w 129, 3) := by decide +kernel
theorem dX11_bridge_62 : decode cX11_bridge 62 = .ok (.ldc2_w 141, 3) := by decide +kernel
theorem dX11_bridge_65 : decode cX11_bridge 65 = .ok (.invokestatic 133, 3) := by decide +kernel
theorem dX11_bridge_68 : decode cX11_bridge 68 = .ok (.ifCond .eq 33, 3) := by decide +kernel
theorem dX11_bridge_71 : decode cX11_bridge 71 = .ok (.lload 4, 2) := by decide +kernel
theorem dX11_bridge_73 : decode cX11_bridge 73 = .ok (.invokestatic 137, 3) := by decide +kernel
theorem dX11_bridge_76 : decode cX11_bridge 76 = .ok (.iload 6, 2) := by decide +kernel
theorem dX11_bridge_78 : decode cX11_bridge 78 = .ok (.iconst 2, 1) := by decide +kernel
theorem dX11_bridge_79 : decode cX11_bridge 79 = .ok (.isub, 1) := by decide +kernel
theorem dX11_bridge_80 : decode cX11_bridge 80 = .ok (.if_icmp .ne 21, 3) := by decide +kernel
theorem dX11_bridge_83 : decode cX11_bridge 83 = .ok (.lload_n 2, 1) := by decide +kernel
theorem dX11_bridge_84 : decode cX11_bridge 84 = .ok (.lload 4, 2) := by decide +kernel
theorem dX11_bridge_86 : decode cX11_bridge 86 = .ok (.land, 1) := by decide +kernel
theorem dX11_bridge_87 : decode cX11_bridge 87 = .ok (.lconst 0, 1) := by decide +kernel
theorem dX11_bridge_88 : decode cX11_bridge 88 = .ok (.lcmp, 1) := by decide +kernel
theorem dX11_bridge_89 : decode cX11_bridge 89 = .ok (.ifCond .ne 12, 3) := by decide +kernel
theorem dX11_bridge_92 : decode cX11_bridge 92 = .ok (.lload 4, 2) := by decide +kernel
theorem dX11_bridge_94 : decode cX11_bridge 94 = .ok (.lconst 1, 1) := by decide +kernel
theorem dX11_bridge_95 : decode cX11_bridge 95 = .ok (.land, 1) := by decide +kernel
theorem dX11_bridge_96 : decode cX11_bridge 96 = .ok (.lconst 0, 1) := by decide +kernel
theorem dX11_bridge_97 : decode cX11_bridge 97 = .ok (.lcmp, 1) := by decide +kernel
theorem dX11_bridge_98 : decode cX11_bridge 98 = .ok (.ifCond .eq 7, 3) := by decide +kernel
theorem dX11_bridge_101 : decode cX11_bridge 101 = .ok (.sipush (-1002), 3) := by decide +kernel
theorem dX11_bridge_104 : decode cX11_bridge 104 = .ok (.ireturn, 1) := by decide +kernel
theorem dX11_bridge_105 : decode cX11_bridge 105 = .ok (.aload_n 0, 1) := by decide +kernel
theorem dX11_bridge_106 : decode cX11_bridge 106 = .ok (.getfield 143, 3) := by decide +kernel
theorem dX11_bridge_109 : decode cX11_bridge 109 = .ok (.bipush 6, 2) := by decide +kernel
theorem dX11_bridge_111 : decode cX11_bridge 111 = .ok (.if_icmp .ne 7, 3) := by decide +kernel
theorem dX11_bridge_114 : decode cX11_bridge 114 = .ok (.iconst 1, 1) := by decide +kernel
theorem dX11_bridge_115 : decode cX11_bridge 115 = .ok (.goto 4, 3) := by decide +kernel
theorem dX11_bridge_118 : decode cX11_bridge 118 = .ok (.iconst 0, 1) := by decide +kernel
theorem dX11_bridge_119 : decode cX11_bridge 119 = .ok (.istore 7, 2) := by decide +kernel
theorem dX11_bridge_121 : decode cX11_bridge 121 = .ok (.iload 7, 2) := by decide +kernel
theorem dX11_bridge_123 : decode cX11_bridge 123 = .ok (.ifCond .eq 7, 3) := by decide +kernel
theorem dX11_bridge_126 : decode cX11_bridge 126 = .ok (.iconst 5, 1) := by decide +kernel
theorem dX11_bridge_127 : decode cX11_bridge 127 = .ok (.goto 7, 3) := by decide +kernel
theorem dX11_bridge_130 : decode cX11_bridge 130 = .ok (.aload_n 0, 1) := by decide +kernel
theorem dX11_bridge_131 : decode cX11_bridge 131 = .ok (.getfield 143, 3) := by decide +kernel
theorem dX11_bridge_134 : decode cX11_bridge 134 = .ok (.istore 8, 2) := by decide +kernel
theorem dX11_bridge_136 : decode cX11_bridge 136 = .ok (.iload 7, 2) := by decide +kernel
theorem dX11_bridge_138 : decode cX11_bridge 138 = .ok (.ifCond .eq 26, 3) := by decide +kernel
theorem dX11_bridge_141 : decode cX11_bridge 141 = .ok (.aload_n 0, 1) := by decide +kernel
theorem dX11_bridge_142 : decode cX11_bridge 142 = .ok (.iload_n 1, 1) := by decide +kernel
theorem dX11_bridge_143 : decode cX11_bridge 143 = .ok (.lload_n 2, 1) := by decide +kernel
theorem dX11_bridge_144 : decode cX11_bridge 144 = .ok (.lload 4, 2) := by decide +kernel
theorem dX11_bridge_146 : decode cX11_bridge 146 = .ok (.iload 6, 2) := by decide +kernel
theorem dX11_bridge_148 : decode cX11_bridge 148 = .ok (.invokevirtual 146, 3) := by decide +kernel
theorem dX11_bridge_151 : decode cX11_bridge 151 = .ok (.ifCond .eq 9, 3) := by decide +kernel
theorem dX11_bridge_154 : decode cX11_bridge 154 = .ok (.sipush (-1003), 3) := by decide +kernel
theorem dX11_bridge_157 : decode cX11_bridge 157 = .ok (.goto 6, 3) := by decide +kernel
theorem dX11_bridge_160 : decode cX11_bridge 160 = .ok (.sipush (-1004), 3) := by decide +kernel
theorem dX11_bridge_163 : decode cX11_bridge 163 = .ok (.ireturn, 1) := by decide +kernel
theorem dX11_bridge_164 : decode cX11_bridge 164 = .ok (.aload_n 0, 1) := by decide +kernel
theorem dX11_bridge_165 : decode cX11_bridge 165 = .ok (.getfield 7, 3) := by decide +kernel
theorem dX11_bridge_168 : decode cX11_bridge 168 = .ok (.iload 8, 2) := by decide +kernel
theorem dX11_bridge_170 : decode cX11_bridge 170 = .ok (.iload_n 1, 1) := by decide +kernel
theorem dX11_bridge_171 : decode cX11_bridge 171 = .ok (.iastore, 1) := by decide +kernel
theorem dX11_bridge_172 : decode cX11_bridge 172 = .ok (.aload_n 0, 1) := by decide +kernel
theorem dX11_bridge_173 : decode cX11_bridge 173 = .ok (.getfield 13, 3) := by decide +kernel
theorem dX11_bridge_176 : decode cX11_bridge 176 = .ok (.iload 8, 2) := by decide +kernel
theorem dX11_bridge_178 : decode cX11_bridge 178 = .ok (.iload 6, 2) := by decide +kernel
theorem dX11_bridge_180 : decode cX11_bridge 180 = .ok (.iastore, 1) := by decide +kernel
theorem dX11_bridge_181 : decode cX11_bridge 181 = .ok (.aload_n 0, 1) := by decide +kernel
theorem dX11_bridge_182 : decode cX11_bridge 182 = .ok (.getfield 16, 3) := by decide +kernel
theorem dX11_bridge_185 : decode cX11_bridge 185 = .ok (.iload 8, 2) := by decide +kernel
theorem dX11_bridge_187 : decode cX11_bridge 187 = .ok (.iload 6, 2) := by decide +kernel
theorem dX11_bridge_189 : decode cX11_bridge 189 = .ok (.iconst 2, 1) := by decide +kernel
theorem dX11_bridge_190 : decode cX11_bridge 190 = .ok (.isub, 1) := by decide +kernel
theorem dX11_bridge_191 : decode cX11_bridge 191 = .ok (.iastore, 1) := by decide +kernel
theorem dX11_bridge_192 : decode cX11_bridge 192 = .ok (.aload_n 0, 1) := by decide +kernel
theorem dX11_bridge_193 : decode cX11_bridge 193 = .ok (.iload 8, 2) := by decide +kernel
theorem dX11_bridge_195 : decode cX11_bridge 195 = .ok (.lload_n 2, 1) := by decide +kernel
theorem dX11_bridge_196 : decode cX11_bridge 196 = .ok (.invokevirtual 150, 3) := by decide +kernel
theorem dX11_bridge_199 : decode cX11_bridge 199 = .ok (.aload_n 0, 1) := by decide +kernel
theorem dX11_bridge_200 : decode cX11_bridge 200 = .ok (.iload 8, 2) := by decide +kernel
theorem dX11_bridge_202 : decode cX11_bridge 202 = .ok (.lload 4, 2) := by decide +kernel
theorem dX11_bridge_204 : decode cX11_bridge 204 = .ok (.invokevirtual 154, 3) := by decide +kernel
theorem dX11_bridge_207 : decode cX11_bridge 207 = .ok (.ifCond .ne 7, 3) := by decide +kernel
theorem dX11_bridge_210 : decode cX11_bridge 210 = .ok (.sipush (-1003), 3) := by decide +kernel
theorem dX11_bridge_213 : decode cX11_bridge 213 = .ok (.ireturn, 1) := by decide +kernel
theorem dX11_bridge_214 : decode cX11_bridge 214 = .ok (.aload_n 0, 1) := by decide +kernel
theorem dX11_bridge_215 : decode cX11_bridge 215 = .ok (.getfield 66, 3) := by decide +kernel
theorem dX11_bridge_218 : decode cX11_bridge 218 = .ok (.iload 8, 2) := by decide +kernel
theorem dX11_bridge_220 : decode cX11_bridge 220 = .ok (.iconst 0, 1) := by decide +kernel
theorem dX11_bridge_221 : decode cX11_bridge 221 = .ok (.iastore, 1) := by decide +kernel
theorem dX11_bridge_222 : decode cX11_bridge 222 = .ok (.aload_n 0, 1) := by decide +kernel
theorem dX11_bridge_223 : decode cX11_bridge 223 = .ok (.dup, 1) := by decide +kernel
theorem dX11_bridge_224 : decode cX11_bridge 224 = .ok (.getfield 143, 3) := by decide +kernel
theorem dX11_bridge_227 : decode cX11_bridge 227 = .ok (.iconst 1, 1) := by decide +kernel
theorem dX11_bridge_228 : decode cX11_bridge 228 = .ok (.iadd, 1) := by decide +kernel
theorem dX11_bridge_229 : decode cX11_bridge 229 = .ok (.putfield 143, 3) := by decide +kernel
theorem dX11_bridge_232 : decode cX11_bridge 232 = .ok (.iload 8, 2) := by decide +kernel
theorem dX11_bridge_234 : decode cX11_bridge 234 = .ok (.ireturn, 1) := by decide +kernel
theorem dX11_laySupports_0 : decode cX11_laySupports 0 = .ok (.iconst 0, 1) := by decide +kernel
theorem dX11_laySupports_1 : decode cX11_laySupports 1 = .ok (.istore 4, 2) := by decide +kernel
theorem dX11_laySupports_3 : decode cX11_laySupports 3 = .ok (.iconst 0, 1) := by decide +kernel
theorem dX11_laySupports_4 : decode cX11_laySupports 4 = .ok (.istore 5, 2) := by decide +kernel
theorem dX11_laySupports_6 : decode cX11_laySupports 6 = .ok (.iload 5, 2) := by decide +kernel
theorem dX11_laySupports_8 : decode cX11_laySupports 8 = .ok (.bipush 61, 2) := by decide +kernel
theorem dX11_laySupports_10 : decode cX11_laySupports 10 = .ok (.if_icmp .ge 36, 3) := by decide +kernel
theorem dX11_laySupports_13 : decode cX11_laySupports 13 = .ok (.lload_n 2, 1) := by decide +kernel
theorem dX11_laySupports_14 : decode cX11_laySupports 14 = .ok (.iload 5, 2) := by decide +kernel
theorem dX11_laySupports_16 : decode cX11_laySupports 16 = .ok (.lshr, 1) := by decide +kernel
theorem dX11_laySupports_17 : decode cX11_laySupports 17 = .ok (.lconst 1, 1) := by decide +kernel
theorem dX11_laySupports_18 : decode cX11_laySupports 18 = .ok (.land, 1) := by decide +kernel
theorem dX11_laySupports_19 : decode cX11_laySupports 19 = .ok (.lconst 1, 1) := by decide +kernel
theorem dX11_laySupports_20 : decode cX11_laySupports 20 = .ok (.lcmp, 1) := by decide +kernel
theorem dX11_laySupports_21 : decode cX11_laySupports 21 = .ok (.ifCond .ne 19, 3) := by decide +kernel
theorem dX11_laySupports_24 : decode cX11_laySupports 24 = .ok (.aload_n 0, 1) := by decide +kernel
theorem dX11_laySupports_25 : decode cX11_laySupports 25 = .ok (.getfield 19, 3) := by decide +kernel
theorem dX11_laySupports_28 : decode cX11_laySupports 28 = .ok (.iconst 5, 1) := by decide +kernel
theorem dX11_laySupports_29 : decode cX11_laySupports 29 = .ok (.iload_n 1, 1) := by decide +kernel
theorem dX11_laySupports_30 : decode cX11_laySupports 30 = .ok (.imul, 1) := by decide +kernel
theorem dX11_laySupports_31 : decode cX11_laySupports 31 = .ok (.iload 4, 2) := by decide +kernel
theorem dX11_laySupports_33 : decode cX11_laySupports 33 = .ok (.iadd, 1) := by decide +kernel
theorem dX11_laySupports_34 : decode cX11_laySupports 34 = .ok (.iload 5, 2) := by decide +kernel
theorem dX11_laySupports_36 : decode cX11_laySupports 36 = .ok (.iastore, 1) := by decide +kernel
theorem dX11_laySupports_37 : decode cX11_laySupports 37 = .ok (.iinc 4 1, 3) := by decide +kernel
theorem dX11_laySupports_40 : decode cX11_laySupports 40 = .ok (.iinc 5 1, 3) := by decide +kernel
theorem dX11_laySupports_43 : decode cX11_laySupports 43 = .ok (.goto (-37), 3) := by decide +kernel
theorem dX11_laySupports_46 : decode cX11_laySupports 46 = .ok (.return_, 1) := by decide +kernel
theorem dX11_isLoose_0 : decode cX11_isLoose 0 = .ok (.iconst 5, 1) := by decide +kernel
theorem dX11_isLoose_1 : decode cX11_isLoose 1 = .ok (.istore 7, 2) := by decide +kernel
theorem dX11_isLoose_3 : decode cX11_isLoose 3 = .ok (.aload_n 0, 1) := by decide +kernel
theorem dX11_isLoose_4 : decode cX11_isLoose 4 = .ok (.getfield 41, 3) := by decide +kernel
theorem dX11_isLoose_7 : decode cX11_isLoose 7 = .ok (.iconst 5, 1) := by decide +kernel
theorem dX11_isLoose_8 : decode cX11_isLoose 8 = .ok (.aload_n 0, 1) := by decide +kernel
theorem dX11_isLoose_9 : decode cX11_isLoose 9 = .ok (.getfield 7, 3) := by decide +kernel
theorem dX11_isLoose_12 : decode cX11_isLoose 12 = .ok (.iload 7, 2) := by decide +kernel
theorem dX11_isLoose_14 : decode cX11_isLoose 14 = .ok (.iaload, 1) := by decide +kernel
theorem dX11_isLoose_15 : decode cX11_isLoose 15 = .ok (.iastore, 1) := by decide +kernel
theorem dX11_isLoose_16 : decode cX11_isLoose 16 = .ok (.aload_n 0, 1) := by decide +kernel
theorem dX11_isLoose_17 : decode cX11_isLoose 17 = .ok (.getfield 41, 3) := by decide +kernel
theorem dX11_isLoose_20 : decode cX11_isLoose 20 = .ok (.bipush 6, 2) := by decide +kernel
theorem dX11_isLoose_22 : decode cX11_isLoose 22 = .ok (.aload_n 0, 1) := by decide +kernel
theorem dX11_isLoose_23 : decode cX11_isLoose 23 = .ok (.getfield 13, 3) := by decide +kernel
theorem dX11_isLoose_26 : decode cX11_isLoose 26 = .ok (.iload 7, 2) := by decide +kernel
theorem dX11_isLoose_28 : decode cX11_isLoose 28 = .ok (.iaload, 1) := by decide +kernel
theorem dX11_isLoose_29 : decode cX11_isLoose 29 = .ok (.iastore, 1) := by decide +kernel
theorem dX11_isLoose_30 : decode cX11_isLoose 30 = .ok (.iconst 0, 1) := by decide +kernel
theorem dX11_isLoose_31 : decode cX11_isLoose 31 = .ok (.istore 8, 2) := by decide +kernel
theorem dX11_isLoose_33 : decode cX11_isLoose 33 = .ok (.iload 8, 2) := by decide +kernel
theorem dX11_isLoose_35 : decode cX11_isLoose 35 = .ok (.iconst 5, 1) := by decide +kernel
theorem dX11_isLoose_36 : decode cX11_isLoose 36 = .ok (.if_icmp .ge 28, 3) := by decide +kernel
theorem dX11_isLoose_39 : decode cX11_isLoose 39 = .ok (.aload_n 0, 1) := by decide +kernel
theorem dX11_isLoose_40 : decode cX11_isLoose 40 = .ok (.getfield 41, 3) := by decide +kernel
theorem dX11_isLoose_43 : decode cX11_isLoose 43 = .ok (.iload 8, 2) := by decide +kernel
theorem dX11_isLoose_45 : decode cX11_isLoose 45 = .ok (.aload_n 0, 1) := by decide +kernel
theorem dX11_isLoose_46 : decode cX11_isLoose 46 = .ok (.getfield 19, 3) := by decide +kernel
theorem dX11_isLoose_49 : decode cX11_isLoose 49 = .ok (.iconst 5, 1) := by decide +kernel
theorem dX11_isLoose_50 : decode cX11_isLoose 50 = .ok (.iload 7, 2) := by decide +kernel
theorem dX11_isLoose_52 : decode cX11_isLoose 52 = .ok (.imul, 1) := by decide +kernel
theorem dX11_isLoose_53 : decode cX11_isLoose 53 = .ok (.iload 8, 2) := by decide +kernel
theorem dX11_isLoose_55 : decode cX11_isLoose 55 = .ok (.iadd, 1) := by decide +kernel
theorem dX11_isLoose_56 : decode cX11_isLoose 56 = .ok (.iaload, 1) := by decide +kernel
theorem dX11_isLoose_57 : decode cX11_isLoose 57 = .ok (.iastore, 1) := by decide +kernel
theorem dX11_isLoose_58 : decode cX11_isLoose 58 = .ok (.iinc 8 1, 3) := by decide +kernel
theorem dX11_isLoose_61 : decode cX11_isLoose 61 = .ok (.goto (-28), 3) := by decide +kernel
theorem dX11_isLoose_64 : decode cX11_isLoose 64 = .ok (.aload_n 0, 1) := by decide +kernel
theorem dX11_isLoose_65 : decode cX11_isLoose 65 = .ok (.getfield 7, 3) := by decide +kernel
theorem dX11_isLoose_68 : decode cX11_isLoose 68 = .ok (.iload 7, 2) := by decide +kernel
theorem dX11_isLoose_70 : decode cX11_isLoose 70 = .ok (.iload_n 1, 1) := by decide +kernel
theorem dX11_isLoose_71 : decode cX11_isLoose 71 = .ok (.iastore, 1) := by decide +kernel
theorem dX11_isLoose_72 : decode cX11_isLoose 72 = .ok (.aload_n 0, 1) := by decide +kernel
theorem dX11_isLoose_73 : decode cX11_isLoose 73 = .ok (.getfield 13, 3) := by decide +kernel
theorem dX11_isLoose_76 : decode cX11_isLoose 76 = .ok (.iload 7, 2) := by decide +kernel
theorem dX11_isLoose_78 : decode cX11_isLoose 78 = .ok (.iload 6, 2) := by decide +kernel
theorem dX11_isLoose_80 : decode cX11_isLoose 80 = .ok (.iastore, 1) := by decide +kernel
theorem dX11_isLoose_81 : decode cX11_isLoose 81 = .ok (.aload_n 0, 1) := by decide +kernel
theorem dX11_isLoose_82 : decode cX11_isLoose 82 = .ok (.iload 7, 2) := by decide +kernel
theorem dX11_isLoose_84 : decode cX11_isLoose 84 = .ok (.lload_n 2, 1) := by decide +kernel
theorem dX11_isLoose_85 : decode cX11_isLoose 85 = .ok (.invokevirtual 150, 3) := by decide +kernel
theorem dX11_isLoose_88 : decode cX11_isLoose 88 = .ok (.iconst 0, 1) := by decide +kernel
theorem dX11_isLoose_89 : decode cX11_isLoose 89 = .ok (.istore 8, 2) := by decide +kernel
theorem dX11_isLoose_91 : decode cX11_isLoose 91 = .ok (.iload 8, 2) := by decide +kernel
theorem dX11_isLoose_93 : decode cX11_isLoose 93 = .ok (.bipush 30, 2) := by decide +kernel
theorem dX11_isLoose_95 : decode cX11_isLoose 95 = .ok (.if_icmp .ge 17, 3) := by decide +kernel
theorem dX11_isLoose_98 : decode cX11_isLoose 98 = .ok (.aload_n 0, 1) := by decide +kernel
theorem dX11_isLoose_99 : decode cX11_isLoose 99 = .ok (.getfield 38, 3) := by decide +kernel
theorem dX11_isLoose_102 : decode cX11_isLoose 102 = .ok (.iload 8, 2) := by decide +kernel
theorem dX11_isLoose_104 : decode cX11_isLoose 104 = .ok (.lconst 0, 1) := by decide +kernel
theorem dX11_isLoose_105 : decode cX11_isLoose 105 = .ok (.lastore, 1) := by decide +kernel
theorem dX11_isLoose_106 : decode cX11_isLoose 106 = .ok (.iinc 8 1, 3) := by decide +kernel
theorem dX11_isLoose_109 : decode cX11_isLoose 109 = .ok (.goto (-18), 3) := by decide +kernel
theorem dX11_isLoose_112 : decode cX11_isLoose 112 = .ok (.aload_n 0, 1) := by decide +kernel
theorem dX11_isLoose_113 : decode cX11_isLoose 113 = .ok (.iload 7, 2) := by decide +kernel
theorem dX11_isLoose_115 : decode cX11_isLoose 115 = .ok (.lload 4, 2) := by decide +kernel
theorem dX11_isLoose_117 : decode cX11_isLoose 117 = .ok (.iconst 0, 1) := by decide +kernel
theorem dX11_isLoose_118 : decode cX11_isLoose 118 = .ok (.invokevirtual 121, 3) := by decide +kernel
theorem dX11_isLoose_121 : decode cX11_isLoose 121 = .ok (.aload_n 0, 1) := by decide +kernel
theorem dX11_isLoose_122 : decode cX11_isLoose 122 = .ok (.iload 6, 2) := by decide +kernel
theorem dX11_isLoose_124 : decode cX11_isLoose 124 = .ok (.invokevirtual 125, 3) := by decide +kernel
theorem dX11_isLoose_127 : decode cX11_isLoose 127 = .ok (.lconst 0, 1) := by decide +kernel
theorem dX11_isLoose_128 : decode cX11_isLoose 128 = .ok (.lcmp, 1) := by decide +kernel
theorem dX11_isLoose_129 : decode cX11_isLoose 129 = .ok (.ifCond .ne 7, 3) := by decide +kernel
theorem dX11_isLoose_132 : decode cX11_isLoose 132 = .ok (.iconst 1, 1) := by decide +kernel
theorem dX11_isLoose_133 : decode cX11_isLoose 133 = .ok (.goto 4, 3) := by decide +kernel
theorem dX11_isLoose_136 : decode cX11_isLoose 136 = .ok (.iconst 0, 1) := by decide +kernel
theorem dX11_isLoose_137 : decode cX11_isLoose 137 = .ok (.istore 8, 2) := by decide +kernel
theorem dX11_isLoose_139 : decode cX11_isLoose 139 = .ok (.aload_n 0, 1) := by decide +kernel
theorem dX11_isLoose_140 : decode cX11_isLoose 140 = .ok (.getfield 7, 3) := by decide +kernel
theorem dX11_isLoose_143 : decode cX11_isLoose 143 = .ok (.iload 7, 2) := by decide +kernel
theorem dX11_isLoose_145 : decode cX11_isLoose 145 = .ok (.aload_n 0, 1) := by decide +kernel
theorem dX11_isLoose_146 : decode cX11_isLoose 146 = .ok (.getfield 41, 3) := by decide +kernel
theorem dX11_isLoose_149 : decode cX11_isLoose 149 = .ok (.iconst 5, 1) := by decide +kernel
theorem dX11_isLoose_150 : decode cX11_isLoose 150 = .ok (.iaload, 1) := by decide +kernel
theorem dX11_isLoose_151 : decode cX11_isLoose 151 = .ok (.iastore, 1) := by decide +kernel
theorem dX11_isLoose_152 : decode cX11_isLoose 152 = .ok (.aload_n 0, 1) := by decide +kernel
theorem dX11_isLoose_153 : decode cX11_isLoose 153 = .ok (.getfield 13, 3) := by decide +kernel
theorem dX11_isLoose_156 : decode cX11_isLoose 156 = .ok (.iload 7, 2) := by decide +kernel
theorem dX11_isLoose_158 : decode cX11_isLoose 158 = .ok (.aload_n 0, 1) := by decide +kernel
theorem dX11_isLoose_159 : decode cX11_isLoose 159 = .ok (.getfield 41, 3) := by decide +kernel
theorem dX11_isLoose_162 : decode cX11_isLoose 162 = .ok (.bipush 6, 2) := by decide +kernel
theorem dX11_isLoose_164 : decode cX11_isLoose 164 = .ok (.iaload, 1) := by decide +kernel
theorem dX11_isLoose_165 : decode cX11_isLoose 165 = .ok (.iastore, 1) := by decide +kernel
theorem dX11_isLoose_166 : decode cX11_isLoose 166 = .ok (.iconst 0, 1) := by decide +kernel
theorem dX11_isLoose_167 : decode cX11_isLoose 167 = .ok (.istore 9, 2) := by decide +kernel
theorem dX11_isLoose_169 : decode cX11_isLoose 169 = .ok (.iload 9, 2) := by decide +kernel
theorem dX11_isLoose_171 : decode cX11_isLoose 171 = .ok (.iconst 5, 1) := by decide +kernel
theorem dX11_isLoose_172 : decode cX11_isLoose 172 = .ok (.if_icmp .ge 28, 3) := by decide +kernel
theorem dX11_isLoose_175 : decode cX11_isLoose 175 = .ok (.aload_n 0, 1) := by decide +kernel
theorem dX11_isLoose_176 : decode cX11_isLoose 176 = .ok (.getfield 19, 3) := by decide +kernel
theorem dX11_isLoose_179 : decode cX11_isLoose 179 = .ok (.iconst 5, 1) := by decide +kernel
theorem dX11_isLoose_180 : decode cX11_isLoose 180 = .ok (.iload 7, 2) := by decide +kernel
theorem dX11_isLoose_182 : decode cX11_isLoose 182 = .ok (.imul, 1) := by decide +kernel
theorem dX11_isLoose_183 : decode cX11_isLoose 183 = .ok (.iload 9, 2) := by decide +kernel
theorem dX11_isLoose_185 : decode cX11_isLoose 185 = .ok (.iadd, 1) := by decide +kernel
theorem dX11_isLoose_186 : decode cX11_isLoose 186 = .ok (.aload_n 0, 1) := by decide +kernel
theorem dX11_isLoose_187 : decode cX11_isLoose 187 = .ok (.getfield 41, 3) := by decide +kernel
theorem dX11_isLoose_190 : decode cX11_isLoose 190 = .ok (.iload 9, 2) := by decide +kernel
theorem dX11_isLoose_192 : decode cX11_isLoose 192 = .ok (.iaload, 1) := by decide +kernel
theorem dX11_isLoose_193 : decode cX11_isLoose 193 = .ok (.iastore, 1) := by decide +kernel
theorem dX11_isLoose_194 : decode cX11_isLoose 194 = .ok (.iinc 9 1, 3) := by decide +kernel
theorem dX11_isLoose_197 : decode cX11_isLoose 197 = .ok (.goto (-28), 3) := by decide +kernel
theorem dX11_isLoose_200 : decode cX11_isLoose 200 = .ok (.iload 8, 2) := by decide +kernel
theorem dX11_isLoose_202 : decode cX11_isLoose 202 = .ok (.ireturn, 1) := by decide +kernel
theorem dX11_noBridge_0 : decode cX11_noBridge 0 = .ok (.iload_n 1, 1) := by decide +kernel
theorem dX11_noBridge_1 : decode cX11_noBridge 1 = .ok (.i2l, 1) := by decide +kernel
theorem dX11_noBridge_2 : decode cX11_noBridge 2 = .ok (.lconst 0, 1) := by decide +kernel
theorem dX11_noBridge_3 : decode cX11_noBridge 3 = .ok (.aload_n 0, 1) := by decide +kernel
theorem dX11_noBridge_4 : decode cX11_noBridge 4 = .ok (.getfield 143, 3) := by decide +kernel
theorem dX11_noBridge_7 : decode cX11_noBridge 7 = .ok (.iconst 1, 1) := by decide +kernel
theorem dX11_noBridge_8 : decode cX11_noBridge 8 = .ok (.isub, 1) := by decide +kernel
theorem dX11_noBridge_9 : decode cX11_noBridge 9 = .ok (.i2l, 1) := by decide +kernel
theorem dX11_noBridge_10 : decode cX11_noBridge 10 = .ok (.invokestatic 133, 3) := by decide +kernel
theorem dX11_noBridge_13 : decode cX11_noBridge 13 = .ok (.ifCond .ne 7, 3) := by decide +kernel
theorem dX11_noBridge_16 : decode cX11_noBridge 16 = .ok (.iconst 1, 1) := by decide +kernel
theorem dX11_noBridge_17 : decode cX11_noBridge 17 = .ok (.goto 4, 3) := by decide +kernel
theorem dX11_noBridge_20 : decode cX11_noBridge 20 = .ok (.iconst 0, 1) := by decide +kernel
theorem dX11_noBridge_21 : decode cX11_noBridge 21 = .ok (.ireturn, 1) := by decide +kernel
theorem dX11_told_0 : decode cX11_told 0 = .ok (.aload_n 0, 1) := by decide +kernel
theorem dX11_told_1 : decode cX11_told 1 = .ok (.iload_n 1, 1) := by decide +kernel
theorem dX11_told_2 : decode cX11_told 2 = .ok (.invokevirtual 158, 3) := by decide +kernel
theorem dX11_told_5 : decode cX11_told 5 = .ok (.ifCond .eq 7, 3) := by decide +kernel
theorem dX11_told_8 : decode cX11_told 8 = .ok (.sipush (-1001), 3) := by decide +kernel
theorem dX11_told_11 : decode cX11_told 11 = .ok (.ireturn, 1) := by decide +kernel
theorem dX11_told_12 : decode cX11_told 12 = .ok (.iload_n 2, 1) := by decide +kernel
theorem dX11_told_13 : decode cX11_told 13 = .ok (.tableswitch 92 0 6 #[43, 50, 57, 64, 71, 78, 85], 43) := by decide +kernel
theorem dX11_told_56 : decode cX11_told 56 = .ok (.aload_n 0, 1) := by decide +kernel
theorem dX11_told_57 : decode cX11_told 57 = .ok (.getfield 7, 3) := by decide +kernel
theorem dX11_told_60 : decode cX11_told 60 = .ok (.iload_n 1, 1) := by decide +kernel
theorem dX11_told_61 : decode cX11_told 61 = .ok (.iaload, 1) := by decide +kernel
theorem dX11_told_62 : decode cX11_told 62 = .ok (.ireturn, 1) := by decide +kernel
theorem dX11_told_63 : decode cX11_told 63 = .ok (.aload_n 0, 1) := by decide +kernel
theorem dX11_told_64 : decode cX11_told 64 = .ok (.getfield 13, 3) := by decide +kernel
theorem dX11_told_67 : decode cX11_told 67 = .ok (.iload_n 1, 1) := by decide +kernel
theorem dX11_told_68 : decode cX11_told 68 = .ok (.iaload, 1) := by decide +kernel
theorem dX11_told_69 : decode cX11_told 69 = .ok (.ireturn, 1) := by decide +kernel
theorem dX11_told_70 : decode cX11_told 70 = .ok (.aload_n 0, 1) := by decide +kernel
theorem dX11_told_71 : decode cX11_told 71 = .ok (.getfield 16, 3) := by decide +kernel
theorem dX11_told_74 : decode cX11_told 74 = .ok (.iload_n 1, 1) := by decide +kernel
theorem dX11_told_75 : decode cX11_told 75 = .ok (.iaload, 1) := by decide +kernel
theorem dX11_told_76 : decode cX11_told 76 = .ok (.ireturn, 1) := by decide +kernel
theorem dX11_told_77 : decode cX11_told 77 = .ok (.aload_n 0, 1) := by decide +kernel
theorem dX11_told_78 : decode cX11_told 78 = .ok (.getfield 66, 3) := by decide +kernel
theorem dX11_told_81 : decode cX11_told 81 = .ok (.iload_n 1, 1) := by decide +kernel
theorem dX11_told_82 : decode cX11_told 82 = .ok (.iaload, 1) := by decide +kernel
theorem dX11_told_83 : decode cX11_told 83 = .ok (.ireturn, 1) := by decide +kernel
theorem dX11_told_84 : decode cX11_told 84 = .ok (.aload_n 0, 1) := by decide +kernel
theorem dX11_told_85 : decode cX11_told 85 = .ok (.getfield 22, 3) := by decide +kernel
theorem dX11_told_88 : decode cX11_told 88 = .ok (.iload_n 1, 1) := by decide +kernel
theorem dX11_told_89 : decode cX11_told 89 = .ok (.iaload, 1) := by decide +kernel
theorem dX11_told_90 : decode cX11_told 90 = .ok (.ireturn, 1) := by decide +kernel
theorem dX11_told_91 : decode cX11_told 91 = .ok (.aload_n 0, 1) := by decide +kernel
theorem dX11_told_92 : decode cX11_told 92 = .ok (.getfield 25, 3) := by decide +kernel
theorem dX11_told_95 : decode cX11_told 95 = .ok (.iload_n 1, 1) := by decide +kernel
theorem dX11_told_96 : decode cX11_told 96 = .ok (.iaload, 1) := by decide +kernel
theorem dX11_told_97 : decode cX11_told 97 = .ok (.ireturn, 1) := by decide +kernel
theorem dX11_told_98 : decode cX11_told 98 = .ok (.aload_n 0, 1) := by decide +kernel
theorem dX11_told_99 : decode cX11_told 99 = .ok (.getfield 28, 3) := by decide +kernel
theorem dX11_told_102 : decode cX11_told 102 = .ok (.iload_n 1, 1) := by decide +kernel
theorem dX11_told_103 : decode cX11_told 103 = .ok (.iaload, 1) := by decide +kernel
theorem dX11_told_104 : decode cX11_told 104 = .ok (.ireturn, 1) := by decide +kernel
theorem dX11_told_105 : decode cX11_told 105 = .ok (.sipush (-1002), 3) := by decide +kernel
theorem dX11_told_108 : decode cX11_told 108 = .ok (.ireturn, 1) := by decide +kernel
theorem dX11_noSupport_0 : decode cX11_noSupport 0 = .ok (.iload_n 2, 1) := by decide +kernel
theorem dX11_noSupport_1 : decode cX11_noSupport 1 = .ok (.ifCond .ne 25, 3) := by decide +kernel
theorem dX11_noSupport_4 : decode cX11_noSupport 4 = .ok (.iload_n 3, 1) := by decide +kernel
theorem dX11_noSupport_5 : decode cX11_noSupport 5 = .ok (.i2l, 1) := by decide +kernel
theorem dX11_noSupport_6 : decode cX11_noSupport 6 = .ok (.lconst 0, 1) := by decide +kernel
theorem dX11_noSupport_7 : decode cX11_noSupport 7 = .ok (.aload_n 0, 1) := by decide +kernel
theorem dX11_noSupport_8 : decode cX11_noSupport 8 = .ok (.getfield 13, 3) := by decide +kernel
theorem dX11_noSupport_11 : decode cX11_noSupport 11 = .ok (.iload_n 1, 1) := by decide +kernel
theorem dX11_noSupport_12 : decode cX11_noSupport 12 = .ok (.iaload, 1) := by decide +kernel
theorem dX11_noSupport_13 : decode cX11_noSupport 13 = .ok (.iconst 1, 1) := by decide +kernel
theorem dX11_noSupport_14 : decode cX11_noSupport 14 = .ok (.isub, 1) := by decide +kernel
theorem dX11_noSupport_15 : decode cX11_noSupport 15 = .ok (.i2l, 1) := by decide +kernel
theorem dX11_noSupport_16 : decode cX11_noSupport 16 = .ok (.invokestatic 133, 3) := by decide +kernel
theorem dX11_noSupport_19 : decode cX11_noSupport 19 = .ok (.ifCond .ne 7, 3) := by decide +kernel
theorem dX11_noSupport_22 : decode cX11_noSupport 22 = .ok (.iconst 1, 1) := by decide +kernel
theorem dX11_noSupport_23 : decode cX11_noSupport 23 = .ok (.goto 4, 3) := by decide +kernel
theorem dX11_noSupport_26 : decode cX11_noSupport 26 = .ok (.iconst 0, 1) := by decide +kernel
theorem dX11_noSupport_27 : decode cX11_noSupport 27 = .ok (.ireturn, 1) := by decide +kernel
theorem dX11_isResponse_0 : decode cX11_isResponse 0 = .ok (.iload_n 2, 1) := by decide +kernel
theorem dX11_isResponse_1 : decode cX11_isResponse 1 = .ok (.ifCond .eq 24, 3) := by decide +kernel
theorem dX11_isResponse_4 : decode cX11_isResponse 4 = .ok (.iload_n 2, 1) := by decide +kernel
theorem dX11_isResponse_5 : decode cX11_isResponse 5 = .ok (.iconst 1, 1) := by decide +kernel
theorem dX11_isResponse_6 : decode cX11_isResponse 6 = .ok (.if_icmp .ne 23, 3) := by decide +kernel
theorem dX11_isResponse_9 : decode cX11_isResponse 9 = .ok (.iload_n 3, 1) := by decide +kernel
theorem dX11_isResponse_10 : decode cX11_isResponse 10 = .ok (.i2l, 1) := by decide +kernel
theorem dX11_isResponse_11 : decode cX11_isResponse 11 = .ok (.lconst 0, 1) := by decide +kernel
theorem dX11_isResponse_12 : decode cX11_isResponse 12 = .ok (.aload_n 0, 1) := by decide +kernel
theorem dX11_isResponse_13 : decode cX11_isResponse 13 = .ok (.getfield 7, 3) := by decide +kernel
theorem dX11_isResponse_16 : decode cX11_isResponse 16 = .ok (.iload_n 1, 1) := by decide +kernel
theorem dX11_isResponse_17 : decode cX11_isResponse 17 = .ok (.iaload, 1) := by decide +kernel
theorem dX11_isResponse_18 : decode cX11_isResponse 18 = .ok (.i2l, 1) := by decide +kernel
theorem dX11_isResponse_19 : decode cX11_isResponse 19 = .ok (.invokestatic 133, 3) := by decide +kernel
theorem dX11_isResponse_22 : decode cX11_isResponse 22 = .ok (.ifCond .eq 7, 3) := by decide +kernel
theorem dX11_isResponse_25 : decode cX11_isResponse 25 = .ok (.iconst 1, 1) := by decide +kernel
theorem dX11_isResponse_26 : decode cX11_isResponse 26 = .ok (.goto 4, 3) := by decide +kernel
theorem dX11_isResponse_29 : decode cX11_isResponse 29 = .ok (.iconst 0, 1) := by decide +kernel
theorem dX11_isResponse_30 : decode cX11_isResponse 30 = .ok (.ireturn, 1) := by decide +kernel
theorem dX11_influenceAt_0 : decode cX11_influenceAt 0 = .ok (.iconst 5, 1) := by decide +kernel
theorem dX11_influenceAt_1 : decode cX11_influenceAt 1 = .ok (.bipush 61, 2) := by decide +kernel
theorem dX11_influenceAt_3 : decode cX11_influenceAt 3 = .ok (.iload_n 1, 1) := by decide +kernel
theorem dX11_influenceAt_4 : decode cX11_influenceAt 4 = .ok (.imul, 1) := by decide +kernel
theorem dX11_influenceAt_5 : decode cX11_influenceAt 5 = .ok (.iload 4, 2) := by decide +kernel
theorem dX11_influenceAt_7 : decode cX11_influenceAt 7 = .ok (.iadd, 1) := by decide +kernel
theorem dX11_influenceAt_8 : decode cX11_influenceAt 8 = .ok (.imul, 1) := by decide +kernel
theorem dX11_influenceAt_9 : decode cX11_influenceAt 9 = .ok (.istore 5, 2) := by decide +kernel
theorem dX11_influenceAt_11 : decode cX11_influenceAt 11 = .ok (.iload_n 2, 1) := by decide +kernel
theorem dX11_influenceAt_12 : decode cX11_influenceAt 12 = .ok (.ifCond .ne 13, 3) := by decide +kernel
theorem dX11_influenceAt_15 : decode cX11_influenceAt 15 = .ok (.aload_n 0, 1) := by decide +kernel
theorem dX11_influenceAt_16 : decode cX11_influenceAt 16 = .ok (.getfield 31, 3) := by decide +kernel
theorem dX11_influenceAt_19 : decode cX11_influenceAt 19 = .ok (.iload 5, 2) := by decide +kernel
theorem dX11_influenceAt_21 : decode cX11_influenceAt 21 = .ok (.iload_n 3, 1) := by decide +kernel
theorem dX11_influenceAt_22 : decode cX11_influenceAt 22 = .ok (.iadd, 1) := by decide +kernel
theorem dX11_influenceAt_23 : decode cX11_influenceAt 23 = .ok (.laload, 1) := by decide +kernel
theorem dX11_influenceAt_24 : decode cX11_influenceAt 24 = .ok (.lreturn, 1) := by decide +kernel
theorem dX11_influenceAt_25 : decode cX11_influenceAt 25 = .ok (.iload 4, 2) := by decide +kernel
theorem dX11_influenceAt_27 : decode cX11_influenceAt 27 = .ok (.iload_n 3, 1) := by decide +kernel
theorem dX11_influenceAt_28 : decode cX11_influenceAt 28 = .ok (.if_icmp .ge 20, 3) := by decide +kernel
theorem dX11_influenceAt_31 : decode cX11_influenceAt 31 = .ok (.lconst 0, 1) := by decide +kernel
theorem dX11_influenceAt_32 : decode cX11_influenceAt 32 = .ok (.iload_n 3, 1) := by decide +kernel
theorem dX11_influenceAt_33 : decode cX11_influenceAt 33 = .ok (.iload 4, 2) := by decide +kernel
theorem dX11_influenceAt_35 : decode cX11_influenceAt 35 = .ok (.isub, 1) := by decide +kernel
theorem dX11_influenceAt_36 : decode cX11_influenceAt 36 = .ok (.i2l, 1) := by decide +kernel
theorem dX11_influenceAt_37 : decode cX11_influenceAt 37 = .ok (.aload_n 0, 1) := by decide +kernel
theorem dX11_influenceAt_38 : decode cX11_influenceAt 38 = .ok (.getfield 35, 3) := by decide +kernel
theorem dX11_influenceAt_41 : decode cX11_influenceAt 41 = .ok (.iload_n 1, 1) := by decide +kernel
theorem dX11_influenceAt_42 : decode cX11_influenceAt 42 = .ok (.laload, 1) := by decide +kernel
theorem dX11_influenceAt_43 : decode cX11_influenceAt 43 = .ok (.lmul, 1) := by decide +kernel
theorem dX11_influenceAt_44 : decode cX11_influenceAt 44 = .ok (.lsub, 1) := by decide +kernel
theorem dX11_influenceAt_45 : decode cX11_influenceAt 45 = .ok (.goto 4, 3) := by decide +kernel
theorem dX11_influenceAt_48 : decode cX11_influenceAt 48 = .ok (.lconst 0, 1) := by decide +kernel
theorem dX11_influenceAt_49 : decode cX11_influenceAt 49 = .ok (.lstore 6, 2) := by decide +kernel
theorem dX11_influenceAt_51 : decode cX11_influenceAt 51 = .ok (.iconst 0, 1) := by decide +kernel
theorem dX11_influenceAt_52 : decode cX11_influenceAt 52 = .ok (.istore 8, 2) := by decide +kernel
theorem dX11_influenceAt_54 : decode cX11_influenceAt 54 = .ok (.iload 8, 2) := by decide +kernel
theorem dX11_influenceAt_56 : decode cX11_influenceAt 56 = .ok (.aload_n 0, 1) := by decide +kernel
theorem dX11_influenceAt_57 : decode cX11_influenceAt 57 = .ok (.getfield 13, 3) := by decide +kernel
theorem dX11_influenceAt_60 : decode cX11_influenceAt 60 = .ok (.iload_n 1, 1) := by decide +kernel
theorem dX11_influenceAt_61 : decode cX11_influenceAt 61 = .ok (.iaload, 1) := by decide +kernel
theorem dX11_influenceAt_62 : decode cX11_influenceAt 62 = .ok (.if_icmp .ge 53, 3) := by decide +kernel
theorem dX11_influenceAt_65 : decode cX11_influenceAt 65 = .ok (.aload_n 0, 1) := by decide +kernel
theorem dX11_influenceAt_66 : decode cX11_influenceAt 66 = .ok (.getfield 19, 3) := by decide +kernel
theorem dX11_influenceAt_69 : decode cX11_influenceAt 69 = .ok (.iconst 5, 1) := by decide +kernel
theorem dX11_influenceAt_70 : decode cX11_influenceAt 70 = .ok (.iload_n 1, 1) := by decide +kernel
theorem dX11_influenceAt_71 : decode cX11_influenceAt 71 = .ok (.imul, 1) := by decide +kernel
theorem dX11_influenceAt_72 : decode cX11_influenceAt 72 = .ok (.iload 8, 2) := by decide +kernel
theorem dX11_influenceAt_74 : decode cX11_influenceAt 74 = .ok (.iadd, 1) := by decide +kernel
theorem dX11_influenceAt_75 : decode cX11_influenceAt 75 = .ok (.iaload, 1) := by decide +kernel
theorem dX11_influenceAt_76 : decode cX11_influenceAt 76 = .ok (.istore 9, 2) := by decide +kernel
theorem dX11_influenceAt_78 : decode cX11_influenceAt 78 = .ok (.lload 6, 2) := by decide +kernel
theorem dX11_influenceAt_80 : decode cX11_influenceAt 80 = .ok (.iload 9, 2) := by decide +kernel
theorem dX11_influenceAt_82 : decode cX11_influenceAt 82 = .ok (.iload_n 3, 1) := by decide +kernel
theorem dX11_influenceAt_83 : decode cX11_influenceAt 83 = .ok (.if_icmp .ge 22, 3) := by decide +kernel
theorem dX11_influenceAt_86 : decode cX11_influenceAt 86 = .ok (.aload_n 0, 1) := by decide +kernel
theorem dX11_influenceAt_87 : decode cX11_influenceAt 87 = .ok (.getfield 31, 3) := by decide +kernel
theorem dX11_influenceAt_90 : decode cX11_influenceAt 90 = .ok (.iload 5, 2) := by decide +kernel
theorem dX11_influenceAt_92 : decode cX11_influenceAt 92 = .ok (.iload 8, 2) := by decide +kernel
theorem dX11_influenceAt_94 : decode cX11_influenceAt 94 = .ok (.iadd, 1) := by decide +kernel
theorem dX11_influenceAt_95 : decode cX11_influenceAt 95 = .ok (.laload, 1) := by decide +kernel
theorem dX11_influenceAt_96 : decode cX11_influenceAt 96 = .ok (.iload_n 3, 1) := by decide +kernel
theorem dX11_influenceAt_97 : decode cX11_influenceAt 97 = .ok (.iload 9, 2) := by decide +kernel
theorem dX11_influenceAt_99 : decode cX11_influenceAt 99 = .ok (.isub, 1) := by decide +kernel
theorem dX11_influenceAt_100 : decode cX11_influenceAt 100 = .ok (.i2l, 1) := by decide +kernel
theorem dX11_influenceAt_101 : decode cX11_influenceAt 101 = .ok (.lmul, 1) := by decide +kernel
theorem dX11_influenceAt_102 : decode cX11_influenceAt 102 = .ok (.goto 4, 3) := by decide +kernel
theorem dX11_influenceAt_105 : decode cX11_influenceAt 105 = .ok (.lconst 0, 1) := by decide +kernel
theorem dX11_influenceAt_106 : decode cX11_influenceAt 106 = .ok (.ladd, 1) := by decide +kernel
theorem dX11_influenceAt_107 : decode cX11_influenceAt 107 = .ok (.lstore 6, 2) := by decide +kernel
theorem dX11_influenceAt_109 : decode cX11_influenceAt 109 = .ok (.iinc 8 1, 3) := by decide +kernel
theorem dX11_influenceAt_112 : decode cX11_influenceAt 112 = .ok (.goto (-58), 3) := by decide +kernel
theorem dX11_influenceAt_115 : decode cX11_influenceAt 115 = .ok (.lload 6, 2) := by decide +kernel
theorem dX11_influenceAt_117 : decode cX11_influenceAt 117 = .ok (.lreturn, 1) := by decide +kernel
theorem dX11_influence_0 : decode cX11_influence 0 = .ok (.aload_n 0, 1) := by decide +kernel
theorem dX11_influence_1 : decode cX11_influence 1 = .ok (.iload_n 1, 1) := by decide +kernel
theorem dX11_influence_2 : decode cX11_influence 2 = .ok (.invokevirtual 158, 3) := by decide +kernel
theorem dX11_influence_5 : decode cX11_influence 5 = .ok (.ifCond .ne 13, 3) := by decide +kernel
theorem dX11_influence_8 : decode cX11_influence 8 = .ok (.aload_n 0, 1) := by decide +kernel
theorem dX11_influence_9 : decode cX11_influence 9 = .ok (.iload_n 1, 1) := by decide +kernel
theorem dX11_influence_10 : decode cX11_influence 10 = .ok (.iload_n 2, 1) := by decide +kernel
theorem dX11_influence_11 : decode cX11_influence 11 = .ok (.iload_n 3, 1) := by decide +kernel
theorem dX11_influence_12 : decode cX11_influence 12 = .ok (.invokevirtual 162, 3) := by decide +kernel
theorem dX11_influence_15 : decode cX11_influence 15 = .ok (.ifCond .eq 7, 3) := by decide +kernel
theorem dX11_influence_18 : decode cX11_influence 18 = .ok (.ldc2_w 166, 3) := by decide +kernel
theorem dX11_influence_21 : decode cX11_influence 21 = .ok (.lreturn, 1) := by decide +kernel
theorem dX11_influence_22 : decode cX11_influence 22 = .ok (.aload_n 0, 1) := by decide +kernel
theorem dX11_influence_23 : decode cX11_influence 23 = .ok (.iload_n 1, 1) := by decide +kernel
theorem dX11_influence_24 : decode cX11_influence 24 = .ok (.iload_n 2, 1) := by decide +kernel
theorem dX11_influence_25 : decode cX11_influence 25 = .ok (.iload_n 3, 1) := by decide +kernel
theorem dX11_influence_26 : decode cX11_influence 26 = .ok (.invokevirtual 168, 3) := by decide +kernel
theorem dX11_influence_29 : decode cX11_influence 29 = .ok (.ifCond .eq 31, 3) := by decide +kernel
theorem dX11_influence_32 : decode cX11_influence 32 = .ok (.iload 4, 2) := by decide +kernel
theorem dX11_influence_34 : decode cX11_influence 34 = .ok (.i2l, 1) := by decide +kernel
theorem dX11_influence_35 : decode cX11_influence 35 = .ok (.lconst 0, 1) := by decide +kernel
theorem dX11_influence_36 : decode cX11_influence 36 = .ok (.aload_n 0, 1) := by decide +kernel
theorem dX11_influence_37 : decode cX11_influence 37 = .ok (.getfield 7, 3) := by decide +kernel
theorem dX11_influence_40 : decode cX11_influence 40 = .ok (.iload_n 1, 1) := by decide +kernel
theorem dX11_influence_41 : decode cX11_influence 41 = .ok (.iaload, 1) := by decide +kernel
theorem dX11_influence_42 : decode cX11_influence 42 = .ok (.i2l, 1) := by decide +kernel
theorem dX11_influence_43 : decode cX11_influence 43 = .ok (.invokestatic 133, 3) := by decide +kernel
theorem dX11_influence_46 : decode cX11_influence 46 = .ok (.ifCond .eq 14, 3) := by decide +kernel
theorem dX11_influence_49 : decode cX11_influence 49 = .ok (.iload 5, 2) := by decide +kernel
theorem dX11_influence_51 : decode cX11_influence 51 = .ok (.i2l, 1) := by decide +kernel
theorem dX11_influence_52 : decode cX11_influence 52 = .ok (.lconst 0, 1) := by decide +kernel
theorem dX11_influence_53 : decode cX11_influence 53 = .ok (.lconst 1, 1) := by decide +kernel
theorem dX11_influence_54 : decode cX11_influence 54 = .ok (.invokestatic 133, 3) := by decide +kernel
theorem dX11_influence_57 : decode cX11_influence 57 = .ok (.ifCond .ne 7, 3) := by decide +kernel
theorem dX11_influence_60 : decode cX11_influence 60 = .ok (.ldc2_w 171, 3) := by decide +kernel
theorem dX11_influence_63 : decode cX11_influence 63 = .ok (.lreturn, 1) := by decide +kernel
theorem dX11_influence_64 : decode cX11_influence 64 = .ok (.aload_n 0, 1) := by decide +kernel
theorem dX11_influence_65 : decode cX11_influence 65 = .ok (.iload_n 1, 1) := by decide +kernel
theorem dX11_influence_66 : decode cX11_influence 66 = .ok (.iload_n 2, 1) := by decide +kernel
theorem dX11_influence_67 : decode cX11_influence 67 = .ok (.iload_n 3, 1) := by decide +kernel
theorem dX11_influence_68 : decode cX11_influence 68 = .ok (.iload 4, 2) := by decide +kernel
theorem dX11_influence_70 : decode cX11_influence 70 = .ok (.invokevirtual 173, 3) := by decide +kernel
theorem dX11_influence_73 : decode cX11_influence 73 = .ok (.aload_n 0, 1) := by decide +kernel
theorem dX11_influence_74 : decode cX11_influence 74 = .ok (.getfield 35, 3) := by decide +kernel
theorem dX11_influence_77 : decode cX11_influence 77 = .ok (.iload_n 1, 1) := by decide +kernel
theorem dX11_influence_78 : decode cX11_influence 78 = .ok (.laload, 1) := by decide +kernel
theorem dX11_influence_79 : decode cX11_influence 79 = .ok (.iload 5, 2) := by decide +kernel
theorem dX11_influence_81 : decode cX11_influence 81 = .ok (.invokestatic 177, 3) := by decide +kernel
theorem dX11_influence_84 : decode cX11_influence 84 = .ok (.lreturn, 1) := by decide +kernel
theorem dX11_rule_0 : decode cX11_rule 0 = .ok (.aload_n 0, 1) := by decide +kernel
theorem dX11_rule_1 : decode cX11_rule 1 = .ok (.iload_n 1, 1) := by decide +kernel
theorem dX11_rule_2 : decode cX11_rule 2 = .ok (.invokevirtual 158, 3) := by decide +kernel
theorem dX11_rule_5 : decode cX11_rule 5 = .ok (.ifCond .eq 7, 3) := by decide +kernel
theorem dX11_rule_8 : decode cX11_rule 8 = .ok (.sipush (-1001), 3) := by decide +kernel
theorem dX11_rule_11 : decode cX11_rule 11 = .ok (.ireturn, 1) := by decide +kernel
theorem dX11_rule_12 : decode cX11_rule 12 = .ok (.sipush (-1002), 3) := by decide +kernel
theorem dX11_rule_15 : decode cX11_rule 15 = .ok (.istore 4, 2) := by decide +kernel
theorem dX11_rule_17 : decode cX11_rule 17 = .ok (.iload_n 2, 1) := by decide +kernel
theorem dX11_rule_18 : decode cX11_rule 18 = .ok (.ifCond .ne 33, 3) := by decide +kernel
theorem dX11_rule_21 : decode cX11_rule 21 = .ok (.iload_n 3, 1) := by decide +kernel
theorem dX11_rule_22 : decode cX11_rule 22 = .ok (.i2l, 1) := by decide +kernel
theorem dX11_rule_23 : decode cX11_rule 23 = .ok (.lconst 0, 1) := by decide +kernel
theorem dX11_rule_24 : decode cX11_rule 24 = .ok (.ldc2_w 131, 3) := by decide +kernel
theorem dX11_rule_27 : decode cX11_rule 27 = .ok (.invokestatic 133, 3) := by decide +kernel
theorem dX11_rule_30 : decode cX11_rule 30 = .ok (.ifCond .eq 21, 3) := by decide +kernel
theorem dX11_rule_33 : decode cX11_rule 33 = .ok (.aload_n 0, 1) := by decide +kernel
theorem dX11_rule_34 : decode cX11_rule 34 = .ok (.getfield 22, 3) := by decide +kernel
theorem dX11_rule_37 : decode cX11_rule 37 = .ok (.iload_n 1, 1) := by decide +kernel
theorem dX11_rule_38 : decode cX11_rule 38 = .ok (.iaload, 1) := by decide +kernel
theorem dX11_rule_39 : decode cX11_rule 39 = .ok (.istore 4, 2) := by decide +kernel
theorem dX11_rule_41 : decode cX11_rule 41 = .ok (.aload_n 0, 1) := by decide +kernel
theorem dX11_rule_42 : decode cX11_rule 42 = .ok (.getfield 22, 3) := by decide +kernel
theorem dX11_rule_45 : decode cX11_rule 45 = .ok (.iload_n 1, 1) := by decide +kernel
theorem dX11_rule_46 : decode cX11_rule 46 = .ok (.iload_n 3, 1) := by decide +kernel
theorem dX11_rule_47 : decode cX11_rule 47 = .ok (.iastore, 1) := by decide +kernel
theorem dX11_rule_48 : decode cX11_rule 48 = .ok (.goto 70, 3) := by decide +kernel
theorem dX11_rule_51 : decode cX11_rule 51 = .ok (.iload_n 2, 1) := by decide +kernel
theorem dX11_rule_52 : decode cX11_rule 52 = .ok (.iconst 1, 1) := by decide +kernel
theorem dX11_rule_53 : decode cX11_rule 53 = .ok (.if_icmp .ne 33, 3) := by decide +kernel
theorem dX11_rule_56 : decode cX11_rule 56 = .ok (.iload_n 3, 1) := by decide +kernel
theorem dX11_rule_57 : decode cX11_rule 57 = .ok (.i2l, 1) := by decide +kernel
theorem dX11_rule_58 : decode cX11_rule 58 = .ok (.lconst 1, 1) := by decide +kernel
theorem dX11_rule_59 : decode cX11_rule 59 = .ok (.ldc2_w 181, 3) := by decide +kernel
theorem dX11_rule_62 : decode cX11_rule 62 = .ok (.invokestatic 133, 3) := by decide +kernel
theorem dX11_rule_65 : decode cX11_rule 65 = .ok (.ifCond .eq 21, 3) := by decide +kernel
theorem dX11_rule_68 : decode cX11_rule 68 = .ok (.aload_n 0, 1) := by decide +kernel
theorem dX11_rule_69 : decode cX11_rule 69 = .ok (.getfield 25, 3) := by decide +kernel
theorem dX11_rule_72 : decode cX11_rule 72 = .ok (.iload_n 1, 1) := by decide +kernel
theorem dX11_rule_73 : decode cX11_rule 73 = .ok (.iaload, 1) := by decide +kernel
theorem dX11_rule_74 : decode cX11_rule 74 = .ok (.istore 4, 2) := by decide +kernel
theorem dX11_rule_76 : decode cX11_rule 76 = .ok (.aload_n 0, 1) := by decide +kernel
theorem dX11_rule_77 : decode cX11_rule 77 = .ok (.getfield 25, 3) := by decide +kernel
theorem dX11_rule_80 : decode cX11_rule 80 = .ok (.iload_n 1, 1) := by decide +kernel
theorem dX11_rule_81 : decode cX11_rule 81 = .ok (.iload_n 3, 1) := by decide +kernel
theorem dX11_rule_82 : decode cX11_rule 82 = .ok (.iastore, 1) := by decide +kernel
theorem dX11_rule_83 : decode cX11_rule 83 = .ok (.goto 35, 3) := by decide +kernel
theorem dX11_rule_86 : decode cX11_rule 86 = .ok (.iload_n 2, 1) := by decide +kernel
theorem dX11_rule_87 : decode cX11_rule 87 = .ok (.iconst 2, 1) := by decide +kernel
theorem dX11_rule_88 : decode cX11_rule 88 = .ok (.if_icmp .ne 30, 3) := by decide +kernel
theorem dX11_rule_91 : decode cX11_rule 91 = .ok (.iload_n 3, 1) := by decide +kernel
theorem dX11_rule_92 : decode cX11_rule 92 = .ok (.i2l, 1) := by decide +kernel
theorem dX11_rule_93 : decode cX11_rule 93 = .ok (.lconst 0, 1) := by decide +kernel
theorem dX11_rule_94 : decode cX11_rule 94 = .ok (.ldc2_w 183, 3) := by decide +kernel
theorem dX11_rule_97 : decode cX11_rule 97 = .ok (.invokestatic 133, 3) := by decide +kernel
theorem dX11_rule_100 : decode cX11_rule 100 = .ok (.ifCond .eq 18, 3) := by decide +kernel
theorem dX11_rule_103 : decode cX11_rule 103 = .ok (.aload_n 0, 1) := by decide +kernel
theorem dX11_rule_104 : decode cX11_rule 104 = .ok (.getfield 28, 3) := by decide +kernel
theorem dX11_rule_107 : decode cX11_rule 107 = .ok (.iload_n 1, 1) := by decide +kernel
theorem dX11_rule_108 : decode cX11_rule 108 = .ok (.iaload, 1) := by decide +kernel
theorem dX11_rule_109 : decode cX11_rule 109 = .ok (.istore 4, 2) := by decide +kernel
theorem dX11_rule_111 : decode cX11_rule 111 = .ok (.aload_n 0, 1) := by decide +kernel
theorem dX11_rule_112 : decode cX11_rule 112 = .ok (.getfield 28, 3) := by decide +kernel
theorem dX11_rule_115 : decode cX11_rule 115 = .ok (.iload_n 1, 1) := by decide +kernel
theorem dX11_rule_116 : decode cX11_rule 116 = .ok (.iload_n 3, 1) := by decide +kernel
theorem dX11_rule_117 : decode cX11_rule 117 = .ok (.iastore, 1) := by decide +kernel
theorem dX11_rule_118 : decode cX11_rule 118 = .ok (.iload 4, 2) := by decide +kernel
theorem dX11_rule_120 : decode cX11_rule 120 = .ok (.ireturn, 1) := by decide +kernel
theorem dX11_noTrain_0 : decode cX11_noTrain 0 = .ok (.iload_n 1, 1) := by decide +kernel
theorem dX11_noTrain_1 : decode cX11_noTrain 1 = .ok (.i2l, 1) := by decide +kernel
theorem dX11_noTrain_2 : decode cX11_noTrain 2 = .ok (.lconst 0, 1) := by decide +kernel
theorem dX11_noTrain_3 : decode cX11_noTrain 3 = .ok (.aload_n 0, 1) := by decide +kernel
theorem dX11_noTrain_4 : decode cX11_noTrain 4 = .ok (.getfield 185, 3) := by decide +kernel
theorem dX11_noTrain_7 : decode cX11_noTrain 7 = .ok (.iconst 1, 1) := by decide +kernel
theorem dX11_noTrain_8 : decode cX11_noTrain 8 = .ok (.isub, 1) := by decide +kernel
theorem dX11_noTrain_9 : decode cX11_noTrain 9 = .ok (.i2l, 1) := by decide +kernel
theorem dX11_noTrain_10 : decode cX11_noTrain 10 = .ok (.invokestatic 133, 3) := by decide +kernel
theorem dX11_noTrain_13 : decode cX11_noTrain 13 = .ok (.ifCond .ne 7, 3) := by decide +kernel
theorem dX11_noTrain_16 : decode cX11_noTrain 16 = .ok (.iconst 1, 1) := by decide +kernel
theorem dX11_noTrain_17 : decode cX11_noTrain 17 = .ok (.goto 4, 3) := by decide +kernel
theorem dX11_noTrain_20 : decode cX11_noTrain 20 = .ok (.iconst 0, 1) := by decide +kernel
theorem dX11_noTrain_21 : decode cX11_noTrain 21 = .ok (.ireturn, 1) := by decide +kernel
theorem dX11_train_0 : decode cX11_train 0 = .ok (.iload_n 1, 1) := by decide +kernel
theorem dX11_train_1 : decode cX11_train 1 = .ok (.i2l, 1) := by decide +kernel
theorem dX11_train_2 : decode cX11_train 2 = .ok (.lconst 1, 1) := by decide +kernel
theorem dX11_train_3 : decode cX11_train 3 = .ok (.ldc2_w 188, 3) := by decide +kernel
theorem dX11_train_6 : decode cX11_train 6 = .ok (.invokestatic 133, 3) := by decide +kernel
theorem dX11_train_9 : decode cX11_train 9 = .ok (.ifCond .ne 7, 3) := by decide +kernel
theorem dX11_train_12 : decode cX11_train 12 = .ok (.sipush (-1002), 3) := by decide +kernel
theorem dX11_train_15 : decode cX11_train 15 = .ok (.ireturn, 1) := by decide +kernel
theorem dX11_train_16 : decode cX11_train 16 = .ok (.aload_n 0, 1) := by decide +kernel
theorem dX11_train_17 : decode cX11_train 17 = .ok (.getfield 185, 3) := by decide +kernel
theorem dX11_train_20 : decode cX11_train 20 = .ok (.bipush 8, 2) := by decide +kernel
theorem dX11_train_22 : decode cX11_train 22 = .ok (.if_icmp .ne 7, 3) := by decide +kernel
theorem dX11_train_25 : decode cX11_train 25 = .ok (.sipush (-1004), 3) := by decide +kernel
theorem dX11_train_28 : decode cX11_train 28 = .ok (.ireturn, 1) := by decide +kernel
theorem dX11_train_29 : decode cX11_train 29 = .ok (.aload_n 0, 1) := by decide +kernel
theorem dX11_train_30 : decode cX11_train 30 = .ok (.getfield 44, 3) := by decide +kernel
theorem dX11_train_33 : decode cX11_train 33 = .ok (.aload_n 0, 1) := by decide +kernel
theorem dX11_train_34 : decode cX11_train 34 = .ok (.getfield 185, 3) := by decide +kernel
theorem dX11_train_37 : decode cX11_train 37 = .ok (.iconst 1, 1) := by decide +kernel
theorem dX11_train_38 : decode cX11_train 38 = .ok (.iastore, 1) := by decide +kernel
theorem dX11_train_39 : decode cX11_train 39 = .ok (.aload_n 0, 1) := by decide +kernel
theorem dX11_train_40 : decode cX11_train 40 = .ok (.getfield 47, 3) := by decide +kernel
theorem dX11_train_43 : decode cX11_train 43 = .ok (.bipush 8, 2) := by decide +kernel
theorem dX11_train_45 : decode cX11_train 45 = .ok (.aload_n 0, 1) := by decide +kernel
theorem dX11_train_46 : decode cX11_train 46 = .ok (.getfield 185, 3) := by decide +kernel
theorem dX11_train_49 : decode cX11_train 49 = .ok (.imul, 1) := by decide +kernel
theorem dX11_train_50 : decode cX11_train 50 = .ok (.iload_n 1, 1) := by decide +kernel
theorem dX11_train_51 : decode cX11_train 51 = .ok (.iastore, 1) := by decide +kernel
theorem dX11_train_52 : decode cX11_train 52 = .ok (.aload_n 0, 1) := by decide +kernel
theorem dX11_train_53 : decode cX11_train 53 = .ok (.getfield 50, 3) := by decide +kernel
theorem dX11_train_56 : decode cX11_train 56 = .ok (.bipush 8, 2) := by decide +kernel
theorem dX11_train_58 : decode cX11_train 58 = .ok (.aload_n 0, 1) := by decide +kernel
theorem dX11_train_59 : decode cX11_train 59 = .ok (.getfield 185, 3) := by decide +kernel
theorem dX11_train_62 : decode cX11_train 62 = .ok (.imul, 1) := by decide +kernel
theorem dX11_train_63 : decode cX11_train 63 = .ok (.iconst 0, 1) := by decide +kernel
theorem dX11_train_64 : decode cX11_train 64 = .ok (.iastore, 1) := by decide +kernel
theorem dX11_train_65 : decode cX11_train 65 = .ok (.aload_n 0, 1) := by decide +kernel
theorem dX11_train_66 : decode cX11_train 66 = .ok (.getfield 53, 3) := by decide +kernel
theorem dX11_train_69 : decode cX11_train 69 = .ok (.aload_n 0, 1) := by decide +kernel
theorem dX11_train_70 : decode cX11_train 70 = .ok (.getfield 185, 3) := by decide +kernel
theorem dX11_train_73 : decode cX11_train 73 = .ok (.iconst 0, 1) := by decide +kernel
theorem dX11_train_74 : decode cX11_train 74 = .ok (.iastore, 1) := by decide +kernel
theorem dX11_train_75 : decode cX11_train 75 = .ok (.aload_n 0, 1) := by decide +kernel
theorem dX11_train_76 : decode cX11_train 76 = .ok (.dup, 1) := by decide +kernel
theorem dX11_train_77 : decode cX11_train 77 = .ok (.getfield 185, 3) := by decide +kernel
theorem dX11_train_80 : decode cX11_train 80 = .ok (.iconst 1, 1) := by decide +kernel
theorem dX11_train_81 : decode cX11_train 81 = .ok (.iadd, 1) := by decide +kernel
theorem dX11_train_82 : decode cX11_train 82 = .ok (.putfield 185, 3) := by decide +kernel
theorem dX11_train_85 : decode cX11_train 85 = .ok (.aload_n 0, 1) := by decide +kernel
theorem dX11_train_86 : decode cX11_train 86 = .ok (.getfield 185, 3) := by decide +kernel
theorem dX11_train_89 : decode cX11_train 89 = .ok (.iconst 1, 1) := by decide +kernel
theorem dX11_train_90 : decode cX11_train 90 = .ok (.isub, 1) := by decide +kernel
theorem dX11_train_91 : decode cX11_train 91 = .ok (.ireturn, 1) := by decide +kernel
theorem dX11_axle_0 : decode cX11_axle 0 = .ok (.aload_n 0, 1) := by decide +kernel
theorem dX11_axle_1 : decode cX11_axle 1 = .ok (.iload_n 1, 1) := by decide +kernel
theorem dX11_axle_2 : decode cX11_axle 2 = .ok (.invokevirtual 190, 3) := by decide +kernel
theorem dX11_axle_5 : decode cX11_axle 5 = .ok (.ifCond .eq 7, 3) := by decide +kernel
theorem dX11_axle_8 : decode cX11_axle 8 = .ok (.sipush (-1001), 3) := by decide +kernel
theorem dX11_axle_11 : decode cX11_axle 11 = .ok (.ireturn, 1) := by decide +kernel
theorem dX11_axle_12 : decode cX11_axle 12 = .ok (.iload_n 2, 1) := by decide +kernel
theorem dX11_axle_13 : decode cX11_axle 13 = .ok (.i2l, 1) := by decide +kernel
theorem dX11_axle_14 : decode cX11_axle 14 = .ok (.lconst 1, 1) := by decide +kernel
theorem dX11_axle_15 : decode cX11_axle 15 = .ok (.ldc2_w 193, 3) := by decide +kernel
theorem dX11_axle_18 : decode cX11_axle 18 = .ok (.invokestatic 133, 3) := by decide +kernel
theorem dX11_axle_21 : decode cX11_axle 21 = .ok (.ifCond .eq 15, 3) := by decide +kernel
theorem dX11_axle_24 : decode cX11_axle 24 = .ok (.iload_n 3, 1) := by decide +kernel
theorem dX11_axle_25 : decode cX11_axle 25 = .ok (.i2l, 1) := by decide +kernel
theorem dX11_axle_26 : decode cX11_axle 26 = .ok (.lconst 1, 1) := by decide +kernel
theorem dX11_axle_27 : decode cX11_axle 27 = .ok (.ldc2_w 188, 3) := by decide +kernel
theorem dX11_axle_30 : decode cX11_axle 30 = .ok (.invokestatic 133, 3) := by decide +kernel
theorem dX11_axle_33 : decode cX11_axle 33 = .ok (.ifCond .ne 7, 3) := by decide +kernel
theorem dX11_axle_36 : decode cX11_axle 36 = .ok (.sipush (-1002), 3) := by decide +kernel
theorem dX11_axle_39 : decode cX11_axle 39 = .ok (.ireturn, 1) := by decide +kernel
theorem dX11_axle_40 : decode cX11_axle 40 = .ok (.aload_n 0, 1) := by decide +kernel
theorem dX11_axle_41 : decode cX11_axle 41 = .ok (.getfield 44, 3) := by decide +kernel
theorem dX11_axle_44 : decode cX11_axle 44 = .ok (.iload_n 1, 1) := by decide +kernel
theorem dX11_axle_45 : decode cX11_axle 45 = .ok (.iaload, 1) := by decide +kernel
theorem dX11_axle_46 : decode cX11_axle 46 = .ok (.bipush 8, 2) := by decide +kernel
theorem dX11_axle_48 : decode cX11_axle 48 = .ok (.if_icmp .ne 7, 3) := by decide +kernel
theorem dX11_axle_51 : decode cX11_axle 51 = .ok (.sipush (-1004), 3) := by decide +kernel
theorem dX11_axle_54 : decode cX11_axle 54 = .ok (.ireturn, 1) := by decide +kernel
theorem dX11_axle_55 : decode cX11_axle 55 = .ok (.aload_n 0, 1) := by decide +kernel
theorem dX11_axle_56 : decode cX11_axle 56 = .ok (.getfield 47, 3) := by decide +kernel
theorem dX11_axle_59 : decode cX11_axle 59 = .ok (.bipush 8, 2) := by decide +kernel
theorem dX11_axle_61 : decode cX11_axle 61 = .ok (.iload_n 1, 1) := by decide +kernel
theorem dX11_axle_62 : decode cX11_axle 62 = .ok (.imul, 1) := by decide +kernel
theorem dX11_axle_63 : decode cX11_axle 63 = .ok (.aload_n 0, 1) := by decide +kernel
theorem dX11_axle_64 : decode cX11_axle 64 = .ok (.getfield 44, 3) := by decide +kernel
theorem dX11_axle_67 : decode cX11_axle 67 = .ok (.iload_n 1, 1) := by decide +kernel
theorem dX11_axle_68 : decode cX11_axle 68 = .ok (.iaload, 1) := by decide +kernel
theorem dX11_axle_69 : decode cX11_axle 69 = .ok (.iadd, 1) := by decide +kernel
theorem dX11_axle_70 : decode cX11_axle 70 = .ok (.iload_n 3, 1) := by decide +kernel
theorem dX11_axle_71 : decode cX11_axle 71 = .ok (.iastore, 1) := by decide +kernel
theorem dX11_axle_72 : decode cX11_axle 72 = .ok (.aload_n 0, 1) := by decide +kernel
theorem dX11_axle_73 : decode cX11_axle 73 = .ok (.getfield 50, 3) := by decide +kernel
theorem dX11_axle_76 : decode cX11_axle 76 = .ok (.bipush 8, 2) := by decide +kernel
theorem dX11_axle_78 : decode cX11_axle 78 = .ok (.iload_n 1, 1) := by decide +kernel
theorem dX11_axle_79 : decode cX11_axle 79 = .ok (.imul, 1) := by decide +kernel
theorem dX11_axle_80 : decode cX11_axle 80 = .ok (.aload_n 0, 1) := by decide +kernel
theorem dX11_axle_81 : decode cX11_axle 81 = .ok (.getfield 44, 3) := by decide +kernel
theorem dX11_axle_84 : decode cX11_axle 84 = .ok (.iload_n 1, 1) := by decide +kernel
theorem dX11_axle_85 : decode cX11_axle 85 = .ok (.iaload, 1) := by decide +kernel
theorem dX11_axle_86 : decode cX11_axle 86 = .ok (.iadd, 1) := by decide +kernel
theorem dX11_axle_87 : decode cX11_axle 87 = .ok (.iload_n 2, 1) := by decide +kernel
theorem dX11_axle_88 : decode cX11_axle 88 = .ok (.iastore, 1) := by decide +kernel
theorem dX11_axle_89 : decode cX11_axle 89 = .ok (.aload_n 0, 1) := by decide +kernel
theorem dX11_axle_90 : decode cX11_axle 90 = .ok (.getfield 44, 3) := by decide +kernel
theorem dX11_axle_93 : decode cX11_axle 93 = .ok (.iload_n 1, 1) := by decide +kernel
theorem dX11_axle_94 : decode cX11_axle 94 = .ok (.dup2, 1) := by decide +kernel
theorem dX11_axle_95 : decode cX11_axle 95 = .ok (.iaload, 1) := by decide +kernel
theorem dX11_axle_96 : decode cX11_axle 96 = .ok (.iconst 1, 1) := by decide +kernel
theorem dX11_axle_97 : decode cX11_axle 97 = .ok (.iadd, 1) := by decide +kernel
theorem dX11_axle_98 : decode cX11_axle 98 = .ok (.iastore, 1) := by decide +kernel
theorem dX11_axle_99 : decode cX11_axle 99 = .ok (.aload_n 0, 1) := by decide +kernel
theorem dX11_axle_100 : decode cX11_axle 100 = .ok (.getfield 44, 3) := by decide +kernel
theorem dX11_axle_103 : decode cX11_axle 103 = .ok (.iload_n 1, 1) := by decide +kernel
theorem dX11_axle_104 : decode cX11_axle 104 = .ok (.iaload, 1) := by decide +kernel
theorem dX11_axle_105 : decode cX11_axle 105 = .ok (.ireturn, 1) := by decide +kernel
theorem dX11_weightOf_0 : decode cX11_weightOf 0 = .ok (.aload_n 0, 1) := by decide +kernel
theorem dX11_weightOf_1 : decode cX11_weightOf 1 = .ok (.getfield 47, 3) := by decide +kernel
theorem dX11_weightOf_4 : decode cX11_weightOf 4 = .ok (.bipush 8, 2) := by decide +kernel
theorem dX11_weightOf_6 : decode cX11_weightOf 6 = .ok (.iload_n 1, 1) := by decide +kernel
theorem dX11_weightOf_7 : decode cX11_weightOf 7 = .ok (.imul, 1) := by decide +kernel
theorem dX11_weightOf_8 : decode cX11_weightOf 8 = .ok (.iload_n 2, 1) := by decide +kernel
theorem dX11_weightOf_9 : decode cX11_weightOf 9 = .ok (.iadd, 1) := by decide +kernel
theorem dX11_weightOf_10 : decode cX11_weightOf 10 = .ok (.iaload, 1) := by decide +kernel
theorem dX11_weightOf_11 : decode cX11_weightOf 11 = .ok (.istore_n 3, 1) := by decide +kernel
theorem dX11_weightOf_12 : decode cX11_weightOf 12 = .ok (.iload_n 1, 1) := by decide +kernel
theorem dX11_weightOf_13 : decode cX11_weightOf 13 = .ok (.aload_n 0, 1) := by decide +kernel
theorem dX11_weightOf_14 : decode cX11_weightOf 14 = .ok (.getfield 63, 3) := by decide +kernel
theorem dX11_weightOf_17 : decode cX11_weightOf 17 = .ok (.if_icmp .ne 15, 3) := by decide +kernel
theorem dX11_weightOf_20 : decode cX11_weightOf 20 = .ok (.iload_n 3, 1) := by decide +kernel
theorem dX11_weightOf_21 : decode cX11_weightOf 21 = .ok (.aload_n 0, 1) := by decide +kernel
theorem dX11_weightOf_22 : decode cX11_weightOf 22 = .ok (.getfield 60, 3) := by decide +kernel
theorem dX11_weightOf_25 : decode cX11_weightOf 25 = .ok (.imul, 1) := by decide +kernel
theorem dX11_weightOf_26 : decode cX11_weightOf 26 = .ok (.bipush 100, 2) := by decide +kernel
theorem dX11_weightOf_28 : decode cX11_weightOf 28 = .ok (.idiv, 1) := by decide +kernel
theorem dX11_weightOf_29 : decode cX11_weightOf 29 = .ok (.goto 4, 3) := by decide +kernel
theorem dX11_weightOf_32 : decode cX11_weightOf 32 = .ok (.iload_n 3, 1) := by decide +kernel
theorem dX11_weightOf_33 : decode cX11_weightOf 33 = .ok (.ireturn, 1) := by decide +kernel
theorem dX11_gapOf_0 : decode cX11_gapOf 0 = .ok (.iload_n 2, 1) := by decide +kernel
theorem dX11_gapOf_1 : decode cX11_gapOf 1 = .ok (.ifCond .ne 7, 3) := by decide +kernel
theorem dX11_gapOf_4 : decode cX11_gapOf 4 = .ok (.iconst 0, 1) := by decide +kernel
theorem dX11_gapOf_5 : decode cX11_gapOf 5 = .ok (.goto 31, 3) := by decide +kernel
theorem dX11_gapOf_8 : decode cX11_gapOf 8 = .ok (.aload_n 0, 1) := by decide +kernel
theorem dX11_gapOf_9 : decode cX11_gapOf 9 = .ok (.getfield 50, 3) := by decide +kernel
theorem dX11_gapOf_12 : decode cX11_gapOf 12 = .ok (.bipush 8, 2) := by decide +kernel
theorem dX11_gapOf_14 : decode cX11_gapOf 14 = .ok (.iload_n 1, 1) := by decide +kernel
theorem dX11_gapOf_15 : decode cX11_gapOf 15 = .ok (.imul, 1) := by decide +kernel
theorem dX11_gapOf_16 : decode cX11_gapOf 16 = .ok (.iload_n 2, 1) := by decide +kernel
theorem dX11_gapOf_17 : decode cX11_gapOf 17 = .ok (.iadd, 1) := by decide +kernel
theorem dX11_gapOf_18 : decode cX11_gapOf 18 = .ok (.iaload, 1) := by decide +kernel
theorem dX11_gapOf_19 : decode cX11_gapOf 19 = .ok (.iload_n 1, 1) := by decide +kernel
theorem dX11_gapOf_20 : decode cX11_gapOf 20 = .ok (.aload_n 0, 1) := by decide +kernel
theorem dX11_gapOf_21 : decode cX11_gapOf 21 = .ok (.getfield 63, 3) := by decide +kernel
theorem dX11_gapOf_24 : decode cX11_gapOf 24 = .ok (.if_icmp .ne 10, 3) := by decide +kernel
theorem dX11_gapOf_27 : decode cX11_gapOf 27 = .ok (.aload_n 0, 1) := by decide +kernel
theorem dX11_gapOf_28 : decode cX11_gapOf 28 = .ok (.getfield 195, 3) := by decide +kernel
theorem dX11_gapOf_31 : decode cX11_gapOf 31 = .ok (.goto 4, 3) := by decide +kernel
theorem dX11_gapOf_34 : decode cX11_gapOf 34 = .ok (.iconst 0, 1) := by decide +kernel
theorem dX11_gapOf_35 : decode cX11_gapOf 35 = .ok (.iadd, 1) := by decide +kernel
theorem dX11_gapOf_36 : decode cX11_gapOf 36 = .ok (.ireturn, 1) := by decide +kernel
theorem dX11_allGaps_0 : decode cX11_allGaps 0 = .ok (.iconst 0, 1) := by decide +kernel
theorem dX11_allGaps_1 : decode cX11_allGaps 1 = .ok (.istore_n 2, 1) := by decide +kernel
theorem dX11_allGaps_2 : decode cX11_allGaps 2 = .ok (.iconst 0, 1) := by decide +kernel
theorem dX11_allGaps_3 : decode cX11_allGaps 3 = .ok (.istore_n 3, 1) := by decide +kernel
theorem dX11_allGaps_4 : decode cX11_allGaps 4 = .ok (.iload_n 3, 1) := by decide +kernel
theorem dX11_allGaps_5 : decode cX11_allGaps 5 = .ok (.aload_n 0, 1) := by decide +kernel
theorem dX11_allGaps_6 : decode cX11_allGaps 6 = .ok (.getfield 44, 3) := by decide +kernel
theorem dX11_allGaps_9 : decode cX11_allGaps 9 = .ok (.iload_n 1, 1) := by decide +kernel
theorem dX11_allGaps_10 : decode cX11_allGaps 10 = .ok (.iaload, 1) := by decide +kernel
theorem dX11_allGaps_11 : decode cX11_allGaps 11 = .ok (.if_icmp .ge 18, 3) := by decide +kernel
theorem dX11_allGaps_14 : decode cX11_allGaps 14 = .ok (.iload_n 2, 1) := by decide +kernel
theorem dX11_allGaps_15 : decode cX11_allGaps 15 = .ok (.aload_n 0, 1) := by decide +kernel
theorem dX11_allGaps_16 : decode cX11_allGaps 16 = .ok (.iload_n 1, 1) := by decide +kernel
theorem dX11_allGaps_17 : decode cX11_allGaps 17 = .ok (.iload_n 3, 1) := by decide +kernel
theorem dX11_allGaps_18 : decode cX11_allGaps 18 = .ok (.invokevirtual 198, 3) := by decide +kernel
theorem dX11_allGaps_21 : decode cX11_allGaps 21 = .ok (.iadd, 1) := by decide +kernel
theorem dX11_allGaps_22 : decode cX11_allGaps 22 = .ok (.istore_n 2, 1) := by decide +kernel
theorem dX11_allGaps_23 : decode cX11_allGaps 23 = .ok (.iinc 3 1, 3) := by decide +kernel
theorem dX11_allGaps_26 : decode cX11_allGaps 26 = .ok (.goto (-22), 3) := by decide +kernel
theorem dX11_allGaps_29 : decode cX11_allGaps 29 = .ok (.iload_n 2, 1) := by decide +kernel
theorem dX11_allGaps_30 : decode cX11_allGaps 30 = .ok (.ireturn, 1) := by decide +kernel
theorem dX11_axles_0 : decode cX11_axles 0 = .ok (.aload_n 0, 1) := by decide +kernel
theorem dX11_axles_1 : decode cX11_axles 1 = .ok (.iload_n 1, 1) := by decide +kernel
theorem dX11_axles_2 : decode cX11_axles 2 = .ok (.invokevirtual 190, 3) := by decide +kernel
theorem dX11_axles_5 : decode cX11_axles 5 = .ok (.ifCond .eq 7, 3) := by decide +kernel
theorem dX11_axles_8 : decode cX11_axles 8 = .ok (.sipush (-1001), 3) := by decide +kernel
theorem dX11_axles_11 : decode cX11_axles 11 = .ok (.ireturn, 1) := by decide +kernel
theorem dX11_axles_12 : decode cX11_axles 12 = .ok (.iload_n 3, 1) := by decide +kernel
theorem dX11_axles_13 : decode cX11_axles 13 = .ok (.i2l, 1) := by decide +kernel
theorem dX11_axles_14 : decode cX11_axles 14 = .ok (.lconst 0, 1) := by decide +kernel
theorem dX11_axles_15 : decode cX11_axles 15 = .ok (.lconst 1, 1) := by decide +kernel
theorem dX11_axles_16 : decode cX11_axles 16 = .ok (.invokestatic 133, 3) := by decide +kernel
theorem dX11_axles_19 : decode cX11_axles 19 = .ok (.ifCond .ne 7, 3) := by decide +kernel
theorem dX11_axles_22 : decode cX11_axles 22 = .ok (.sipush (-1002), 3) := by decide +kernel
theorem dX11_axles_25 : decode cX11_axles 25 = .ok (.ireturn, 1) := by decide +kernel
theorem dX11_axles_26 : decode cX11_axles 26 = .ok (.iload_n 2, 1) := by decide +kernel
theorem dX11_axles_27 : decode cX11_axles 27 = .ok (.iconst (-1), 1) := by decide +kernel
theorem dX11_axles_28 : decode cX11_axles 28 = .ok (.if_icmp .ne 22, 3) := by decide +kernel
theorem dX11_axles_31 : decode cX11_axles 31 = .ok (.iload_n 3, 1) := by decide +kernel
theorem dX11_axles_32 : decode cX11_axles 32 = .ok (.ifCond .ne 12, 3) := by decide +kernel
theorem dX11_axles_35 : decode cX11_axles 35 = .ok (.aload_n 0, 1) := by decide +kernel
theorem dX11_axles_36 : decode cX11_axles 36 = .ok (.getfield 44, 3) := by decide +kernel
theorem dX11_axles_39 : decode cX11_axles 39 = .ok (.iload_n 1, 1) := by decide +kernel
theorem dX11_axles_40 : decode cX11_axles 40 = .ok (.iaload, 1) := by decide +kernel
theorem dX11_axles_41 : decode cX11_axles 41 = .ok (.goto 8, 3) := by decide +kernel
theorem dX11_axles_44 : decode cX11_axles 44 = .ok (.aload_n 0, 1) := by decide +kernel
theorem dX11_axles_45 : decode cX11_axles 45 = .ok (.iload_n 1, 1) := by decide +kernel
theorem dX11_axles_46 : decode cX11_axles 46 = .ok (.invokevirtual 202, 3) := by decide +kernel
theorem dX11_axles_49 : decode cX11_axles 49 = .ok (.ireturn, 1) := by decide +kernel
theorem dX11_axles_50 : decode cX11_axles 50 = .ok (.iload_n 2, 1) := by decide +kernel
theorem dX11_axles_51 : decode cX11_axles 51 = .ok (.i2l, 1) := by decide +kernel
theorem dX11_axles_52 : decode cX11_axles 52 = .ok (.lconst 0, 1) := by decide +kernel
theorem dX11_axles_53 : decode cX11_axles 53 = .ok (.aload_n 0, 1) := by decide +kernel
theorem dX11_axles_54 : decode cX11_axles 54 = .ok (.getfield 44, 3) := by decide +kernel
theorem dX11_axles_57 : decode cX11_axles 57 = .ok (.iload_n 1, 1) := by decide +kernel
theorem dX11_axles_58 : decode cX11_axles 58 = .ok (.iaload, 1) := by decide +kernel
theorem dX11_axles_59 : decode cX11_axles 59 = .ok (.iconst 1, 1) := by decide +kernel
theorem dX11_axles_60 : decode cX11_axles 60 = .ok (.isub, 1) := by decide +kernel
theorem dX11_axles_61 : decode cX11_axles 61 = .ok (.i2l, 1) := by decide +kernel
theorem dX11_axles_62 : decode cX11_axles 62 = .ok (.invokestatic 133, 3) := by decide +kernel
theorem dX11_axles_65 : decode cX11_axles 65 = .ok (.ifCond .ne 5, 3) := by decide +kernel
theorem dX11_axles_68 : decode cX11_axles 68 = .ok (.iconst (-1), 1) := by decide +kernel
theorem dX11_axles_69 : decode cX11_axles 69 = .ok (.ireturn, 1) := by decide +kernel
theorem dX11_axles_70 : decode cX11_axles 70 = .ok (.iload_n 3, 1) := by decide +kernel
theorem dX11_axles_71 : decode cX11_axles 71 = .ok (.ifCond .ne 17, 3) := by decide +kernel
theorem dX11_axles_74 : decode cX11_axles 74 = .ok (.aload_n 0, 1) := by decide +kernel
theorem dX11_axles_75 : decode cX11_axles 75 = .ok (.getfield 47, 3) := by decide +kernel
theorem dX11_axles_78 : decode cX11_axles 78 = .ok (.bipush 8, 2) := by decide +kernel
theorem dX11_axles_80 : decode cX11_axles 80 = .ok (.iload_n 1, 1) := by decide +kernel
theorem dX11_axles_81 : decode cX11_axles 81 = .ok (.imul, 1) := by decide +kernel
theorem dX11_axles_82 : decode cX11_axles 82 = .ok (.iload_n 2, 1) := by decide +kernel
theorem dX11_axles_83 : decode cX11_axles 83 = .ok (.iadd, 1) := by decide +kernel
theorem dX11_axles_84 : decode cX11_axles 84 = .ok (.iaload, 1) := by decide +kernel
theorem dX11_axles_85 : decode cX11_axles 85 = .ok (.goto 14, 3) := by decide +kernel
theorem dX11_axles_88 : decode cX11_axles 88 = .ok (.aload_n 0, 1) := by decide +kernel
theorem dX11_axles_89 : decode cX11_axles 89 = .ok (.getfield 50, 3) := by decide +kernel
theorem dX11_axles_92 : decode cX11_axles 92 = .ok (.bipush 8, 2) := by decide +kernel
theorem dX11_axles_94 : decode cX11_axles 94 = .ok (.iload_n 1, 1) := by decide +kernel
theorem dX11_axles_95 : decode cX11_axles 95 = .ok (.imul, 1) := by decide +kernel
theorem dX11_axles_96 : decode cX11_axles 96 = .ok (.iload_n 2, 1) := by decide +kernel
theorem dX11_axles_97 : decode cX11_axles 97 = .ok (.iadd, 1) := by decide +kernel
theorem dX11_axles_98 : decode cX11_axles 98 = .ok (.iaload, 1) := by decide +kernel
theorem dX11_axles_99 : decode cX11_axles 99 = .ok (.ireturn, 1) := by decide +kernel
theorem dX11_effectAt_0 : decode cX11_effectAt 0 = .ok (.lconst 0, 1) := by decide +kernel
theorem dX11_effectAt_1 : decode cX11_effectAt 1 = .ok (.lstore 7, 2) := by decide +kernel
theorem dX11_effectAt_3 : decode cX11_effectAt 3 = .ok (.iload 6, 2) := by decide +kernel
theorem dX11_effectAt_5 : decode cX11_effectAt 5 = .ok (.istore 9, 2) := by decide +kernel
theorem dX11_effectAt_7 : decode cX11_effectAt 7 = .ok (.iconst 0, 1) := by decide +kernel
theorem dX11_effectAt_8 : decode cX11_effectAt 8 = .ok (.istore 10, 2) := by decide +kernel
theorem dX11_effectAt_10 : decode cX11_effectAt 10 = .ok (.iload 10, 2) := by decide +kernel
theorem dX11_effectAt_12 : decode cX11_effectAt 12 = .ok (.aload_n 0, 1) := by decide +kernel
theorem dX11_effectAt_13 : decode cX11_effectAt 13 = .ok (.getfield 44, 3) := by decide +kernel
theorem dX11_effectAt_16 : decode cX11_effectAt 16 = .ok (.iload 4, 2) := by decide +kernel
theorem dX11_effectAt_18 : decode cX11_effectAt 18 = .ok (.iaload, 1) := by decide +kernel
theorem dX11_effectAt_19 : decode cX11_effectAt 19 = .ok (.if_icmp .ge 113, 3) := by decide +kernel
theorem dX11_effectAt_22 : decode cX11_effectAt 22 = .ok (.iload 5, 2) := by decide +kernel
theorem dX11_effectAt_24 : decode cX11_effectAt 24 = .ok (.ifCond .ne 8, 3) := by decide +kernel
theorem dX11_effectAt_27 : decode cX11_effectAt 27 = .ok (.iload 10, 2) := by decide +kernel
theorem dX11_effectAt_29 : decode cX11_effectAt 29 = .ok (.goto 15, 3) := by decide +kernel
theorem dX11_effectAt_32 : decode cX11_effectAt 32 = .ok (.aload_n 0, 1) := by decide +kernel
theorem dX11_effectAt_33 : decode cX11_effectAt 33 = .ok (.getfield 44, 3) := by decide +kernel
theorem dX11_effectAt_36 : decode cX11_effectAt 36 = .ok (.iload 4, 2) := by decide +kernel
theorem dX11_effectAt_38 : decode cX11_effectAt 38 = .ok (.iaload, 1) := by decide +kernel
theorem dX11_effectAt_39 : decode cX11_effectAt 39 = .ok (.iconst 1, 1) := by decide +kernel
theorem dX11_effectAt_40 : decode cX11_effectAt 40 = .ok (.isub, 1) := by decide +kernel
theorem dX11_effectAt_41 : decode cX11_effectAt 41 = .ok (.iload 10, 2) := by decide +kernel
theorem dX11_effectAt_43 : decode cX11_effectAt 43 = .ok (.isub, 1) := by decide +kernel
theorem dX11_effectAt_44 : decode cX11_effectAt 44 = .ok (.istore 11, 2) := by decide +kernel
theorem dX11_effectAt_46 : decode cX11_effectAt 46 = .ok (.iload 9, 2) := by decide +kernel
theorem dX11_effectAt_48 : decode cX11_effectAt 48 = .ok (.i2l, 1) := by decide +kernel
theorem dX11_effectAt_49 : decode cX11_effectAt 49 = .ok (.lconst 0, 1) := by decide +kernel
theorem dX11_effectAt_50 : decode cX11_effectAt 50 = .ok (.aload_n 0, 1) := by decide +kernel
theorem dX11_effectAt_51 : decode cX11_effectAt 51 = .ok (.getfield 7, 3) := by decide +kernel
theorem dX11_effectAt_54 : decode cX11_effectAt 54 = .ok (.iload_n 1, 1) := by decide +kernel
theorem dX11_effectAt_55 : decode cX11_effectAt 55 = .ok (.iaload, 1) := by decide +kernel
theorem dX11_effectAt_56 : decode cX11_effectAt 56 = .ok (.i2l, 1) := by decide +kernel
theorem dX11_effectAt_57 : decode cX11_effectAt 57 = .ok (.invokestatic 133, 3) := by decide +kernel
theorem dX11_effectAt_60 : decode cX11_effectAt 60 = .ok (.ifCond .eq 27, 3) := by decide +kernel
theorem dX11_effectAt_63 : decode cX11_effectAt 63 = .ok (.lload 7, 2) := by decide +kernel
theorem dX11_effectAt_65 : decode cX11_effectAt 65 = .ok (.aload_n 0, 1) := by decide +kernel
theorem dX11_effectAt_66 : decode cX11_effectAt 66 = .ok (.iload 4, 2) := by decide +kernel
theorem dX11_effectAt_68 : decode cX11_effectAt 68 = .ok (.iload 11, 2) := by decide +kernel
theorem dX11_effectAt_70 : decode cX11_effectAt 70 = .ok (.invokevirtual 206, 3) := by decide +kernel
theorem dX11_effectAt_73 : decode cX11_effectAt 73 = .ok (.i2l, 1) := by decide +kernel
theorem dX11_effectAt_74 : decode cX11_effectAt 74 = .ok (.aload_n 0, 1) := by decide +kernel
theorem dX11_effectAt_75 : decode cX11_effectAt 75 = .ok (.iload_n 1, 1) := by decide +kernel
theorem dX11_effectAt_76 : decode cX11_effectAt 76 = .ok (.iload_n 2, 1) := by decide +kernel
theorem dX11_effectAt_77 : decode cX11_effectAt 77 = .ok (.iload_n 3, 1) := by decide +kernel
theorem dX11_effectAt_78 : decode cX11_effectAt 78 = .ok (.iload 9, 2) := by decide +kernel
theorem dX11_effectAt_80 : decode cX11_effectAt 80 = .ok (.invokevirtual 173, 3) := by decide +kernel
theorem dX11_effectAt_83 : decode cX11_effectAt 83 = .ok (.lmul, 1) := by decide +kernel
theorem dX11_effectAt_84 : decode cX11_effectAt 84 = .ok (.ladd, 1) := by decide +kernel
theorem dX11_effectAt_85 : decode cX11_effectAt 85 = .ok (.lstore 7, 2) := by decide +kernel
theorem dX11_effectAt_87 : decode cX11_effectAt 87 = .ok (.iload 10, 2) := by decide +kernel
theorem dX11_effectAt_89 : decode cX11_effectAt 89 = .ok (.iconst 1, 1) := by decide +kernel
theorem dX11_effectAt_90 : decode cX11_effectAt 90 = .ok (.iadd, 1) := by decide +kernel
theorem dX11_effectAt_91 : decode cX11_effectAt 91 = .ok (.aload_n 0, 1) := by decide +kernel
theorem dX11_effectAt_92 : decode cX11_effectAt 92 = .ok (.getfield 44, 3) := by decide +kernel
theorem dX11_effectAt_95 : decode cX11_effectAt 95 = .ok (.iload 4, 2) := by decide +kernel
theorem dX11_effectAt_97 : decode cX11_effectAt 97 = .ok (.iaload, 1) := by decide +kernel
theorem dX11_effectAt_98 : decode cX11_effectAt 98 = .ok (.if_icmp .ge 28, 3) := by decide +kernel
theorem dX11_effectAt_101 : decode cX11_effectAt 101 = .ok (.iload 9, 2) := by decide +kernel
theorem dX11_effectAt_103 : decode cX11_effectAt 103 = .ok (.aload_n 0, 1) := by decide +kernel
theorem dX11_effectAt_104 : decode cX11_effectAt 104 = .ok (.iload 4, 2) := by decide +kernel
theorem dX11_effectAt_106 : decode cX11_effectAt 106 = .ok (.iload 5, 2) := by decide +kernel
theorem dX11_effectAt_108 : decode cX11_effectAt 108 = .ok (.ifCond .ne 10, 3) := by decide +kernel
theorem dX11_effectAt_111 : decode cX11_effectAt 111 = .ok (.iload 11, 2) := by decide +kernel
theorem dX11_effectAt_113 : decode cX11_effectAt 113 = .ok (.iconst 1, 1) := by decide +kernel
theorem dX11_effectAt_114 : decode cX11_effectAt 114 = .ok (.iadd, 1) := by decide +kernel
theorem dX11_effectAt_115 : decode cX11_effectAt 115 = .ok (.goto 5, 3) := by decide +kernel
theorem dX11_effectAt_118 : decode cX11_effectAt 118 = .ok (.iload 11, 2) := by decide +kernel
theorem dX11_effectAt_120 : decode cX11_effectAt 120 = .ok (.invokevirtual 198, 3) := by decide +kernel
theorem dX11_effectAt_123 : decode cX11_effectAt 123 = .ok (.isub, 1) := by decide +kernel
theorem dX11_effectAt_124 : decode cX11_effectAt 124 = .ok (.istore 9, 2) := by decide +kernel
theorem dX11_effectAt_126 : decode cX11_effectAt 126 = .ok (.iinc 10 1, 3) := by decide +kernel
theorem dX11_effectAt_129 : decode cX11_effectAt 129 = .ok (.goto (-119), 3) := by decide +kernel
theorem dX11_effectAt_132 : decode cX11_effectAt 132 = .ok (.lload 7, 2) := by decide +kernel
theorem dX11_effectAt_134 : decode cX11_effectAt 134 = .ok (.lreturn, 1) := by decide +kernel
theorem dX11_effect_0 : decode cX11_effect 0 = .ok (.aload_n 0, 1) := by decide +kernel
theorem dX11_effect_1 : decode cX11_effect 1 = .ok (.iload_n 1, 1) := by decide +kernel
theorem dX11_effect_2 : decode cX11_effect 2 = .ok (.invokevirtual 158, 3) := by decide +kernel
theorem dX11_effect_5 : decode cX11_effect 5 = .ok (.ifCond .ne 22, 3) := by decide +kernel
theorem dX11_effect_8 : decode cX11_effect 8 = .ok (.aload_n 0, 1) := by decide +kernel
theorem dX11_effect_9 : decode cX11_effect 9 = .ok (.iload_n 1, 1) := by decide +kernel
theorem dX11_effect_10 : decode cX11_effect 10 = .ok (.iload_n 2, 1) := by decide +kernel
theorem dX11_effect_11 : decode cX11_effect 11 = .ok (.iload_n 3, 1) := by decide +kernel
theorem dX11_effect_12 : decode cX11_effect 12 = .ok (.invokevirtual 162, 3) := by decide +kernel
theorem dX11_effect_15 : decode cX11_effect 15 = .ok (.ifCond .ne 12, 3) := by decide +kernel
theorem dX11_effect_18 : decode cX11_effect 18 = .ok (.aload_n 0, 1) := by decide +kernel
theorem dX11_effect_19 : decode cX11_effect 19 = .ok (.iload 4, 2) := by decide +kernel
theorem dX11_effect_21 : decode cX11_effect 21 = .ok (.invokevirtual 190, 3) := by decide +kernel
theorem dX11_effect_24 : decode cX11_effect 24 = .ok (.ifCond .eq 7, 3) := by decide +kernel
theorem dX11_effect_27 : decode cX11_effect 27 = .ok (.ldc2_w 166, 3) := by decide +kernel
theorem dX11_effect_30 : decode cX11_effect 30 = .ok (.lreturn, 1) := by decide +kernel
theorem dX11_effect_31 : decode cX11_effect 31 = .ok (.aload_n 0, 1) := by decide +kernel
theorem dX11_effect_32 : decode cX11_effect 32 = .ok (.iload_n 1, 1) := by decide +kernel
theorem dX11_effect_33 : decode cX11_effect 33 = .ok (.iload_n 2, 1) := by decide +kernel
theorem dX11_effect_34 : decode cX11_effect 34 = .ok (.iload_n 3, 1) := by decide +kernel
theorem dX11_effect_35 : decode cX11_effect 35 = .ok (.invokevirtual 168, 3) := by decide +kernel
theorem dX11_effect_38 : decode cX11_effect 38 = .ok (.ifCond .eq 49, 3) := by decide +kernel
theorem dX11_effect_41 : decode cX11_effect 41 = .ok (.iload 5, 2) := by decide +kernel
theorem dX11_effect_43 : decode cX11_effect 43 = .ok (.i2l, 1) := by decide +kernel
theorem dX11_effect_44 : decode cX11_effect 44 = .ok (.lconst 0, 1) := by decide +kernel
theorem dX11_effect_45 : decode cX11_effect 45 = .ok (.lconst 1, 1) := by decide +kernel
theorem dX11_effect_46 : decode cX11_effect 46 = .ok (.invokestatic 133, 3) := by decide +kernel
theorem dX11_effect_49 : decode cX11_effect 49 = .ok (.ifCond .eq 38, 3) := by decide +kernel
theorem dX11_effect_52 : decode cX11_effect 52 = .ok (.iload 6, 2) := by decide +kernel
theorem dX11_effect_54 : decode cX11_effect 54 = .ok (.i2l, 1) := by decide +kernel
theorem dX11_effect_55 : decode cX11_effect 55 = .ok (.lconst 0, 1) := by decide +kernel
theorem dX11_effect_56 : decode cX11_effect 56 = .ok (.aload_n 0, 1) := by decide +kernel
theorem dX11_effect_57 : decode cX11_effect 57 = .ok (.getfield 7, 3) := by decide +kernel
theorem dX11_effect_60 : decode cX11_effect 60 = .ok (.iload_n 1, 1) := by decide +kernel
theorem dX11_effect_61 : decode cX11_effect 61 = .ok (.iaload, 1) := by decide +kernel
theorem dX11_effect_62 : decode cX11_effect 62 = .ok (.aload_n 0, 1) := by decide +kernel
theorem dX11_effect_63 : decode cX11_effect 63 = .ok (.iload 4, 2) := by decide +kernel
theorem dX11_effect_65 : decode cX11_effect 65 = .ok (.invokevirtual 202, 3) := by decide +kernel
theorem dX11_effect_68 : decode cX11_effect 68 = .ok (.iadd, 1) := by decide +kernel
theorem dX11_effect_69 : decode cX11_effect 69 = .ok (.i2l, 1) := by decide +kernel
theorem dX11_effect_70 : decode cX11_effect 70 = .ok (.invokestatic 133, 3) := by decide +kernel
theorem dX11_effect_73 : decode cX11_effect 73 = .ok (.ifCond .eq 14, 3) := by decide +kernel
theorem dX11_effect_76 : decode cX11_effect 76 = .ok (.iload 7, 2) := by decide +kernel
theorem dX11_effect_78 : decode cX11_effect 78 = .ok (.i2l, 1) := by decide +kernel
theorem dX11_effect_79 : decode cX11_effect 79 = .ok (.lconst 0, 1) := by decide +kernel
theorem dX11_effect_80 : decode cX11_effect 80 = .ok (.lconst 1, 1) := by decide +kernel
theorem dX11_effect_81 : decode cX11_effect 81 = .ok (.invokestatic 133, 3) := by decide +kernel
theorem dX11_effect_84 : decode cX11_effect 84 = .ok (.ifCond .ne 7, 3) := by decide +kernel
theorem dX11_effect_87 : decode cX11_effect 87 = .ok (.ldc2_w 171, 3) := by decide +kernel
theorem dX11_effect_90 : decode cX11_effect 90 = .ok (.lreturn, 1) := by decide +kernel
theorem dX11_effect_91 : decode cX11_effect 91 = .ok (.aload_n 0, 1) := by decide +kernel
theorem dX11_effect_92 : decode cX11_effect 92 = .ok (.iload_n 1, 1) := by decide +kernel
theorem dX11_effect_93 : decode cX11_effect 93 = .ok (.iload_n 2, 1) := by decide +kernel
theorem dX11_effect_94 : decode cX11_effect 94 = .ok (.iload_n 3, 1) := by decide +kernel
theorem dX11_effect_95 : decode cX11_effect 95 = .ok (.iload 4, 2) := by decide +kernel
theorem dX11_effect_97 : decode cX11_effect 97 = .ok (.iload 5, 2) := by decide +kernel
theorem dX11_effect_99 : decode cX11_effect 99 = .ok (.iload 6, 2) := by decide +kernel
theorem dX11_effect_101 : decode cX11_effect 101 = .ok (.invokevirtual 209, 3) := by decide +kernel
theorem dX11_effect_104 : decode cX11_effect 104 = .ok (.aload_n 0, 1) := by decide +kernel
theorem dX11_effect_105 : decode cX11_effect 105 = .ok (.getfield 35, 3) := by decide +kernel
theorem dX11_effect_108 : decode cX11_effect 108 = .ok (.iload_n 1, 1) := by decide +kernel
theorem dX11_effect_109 : decode cX11_effect 109 = .ok (.laload, 1) := by decide +kernel
theorem dX11_effect_110 : decode cX11_effect 110 = .ok (.iload 7, 2) := by decide +kernel
theorem dX11_effect_112 : decode cX11_effect 112 = .ok (.invokestatic 177, 3) := by decide +kernel
theorem dX11_effect_115 : decode cX11_effect 115 = .ok (.lreturn, 1) := by decide +kernel
theorem dX11_extreme_0 : decode cX11_extreme 0 = .ok (.lconst 0, 1) := by decide +kernel
theorem dX11_extreme_1 : decode cX11_extreme 1 = .ok (.lstore 6, 2) := by decide +kernel
theorem dX11_extreme_3 : decode cX11_extreme 3 = .ok (.aload_n 0, 1) := by decide +kernel
theorem dX11_extreme_4 : decode cX11_extreme 4 = .ok (.iconst (-1), 1) := by decide +kernel
theorem dX11_extreme_5 : decode cX11_extreme 5 = .ok (.putfield 213, 3) := by decide +kernel
theorem dX11_extreme_8 : decode cX11_extreme 8 = .ok (.aload_n 0, 1) := by decide +kernel
theorem dX11_extreme_9 : decode cX11_extreme 9 = .ok (.iconst (-1), 1) := by decide +kernel
theorem dX11_extreme_10 : decode cX11_extreme 10 = .ok (.putfield 216, 3) := by decide +kernel
theorem dX11_extreme_13 : decode cX11_extreme 13 = .ok (.iconst 0, 1) := by decide +kernel
theorem dX11_extreme_14 : decode cX11_extreme 14 = .ok (.istore 8, 2) := by decide +kernel
theorem dX11_extreme_16 : decode cX11_extreme 16 = .ok (.iload 8, 2) := by decide +kernel
theorem dX11_extreme_18 : decode cX11_extreme 18 = .ok (.iconst 2, 1) := by decide +kernel
theorem dX11_extreme_19 : decode cX11_extreme 19 = .ok (.if_icmp .ge 105, 3) := by decide +kernel
theorem dX11_extreme_22 : decode cX11_extreme 22 = .ok (.iconst 0, 1) := by decide +kernel
theorem dX11_extreme_23 : decode cX11_extreme 23 = .ok (.istore 9, 2) := by decide +kernel
theorem dX11_extreme_25 : decode cX11_extreme 25 = .ok (.iload 9, 2) := by decide +kernel
theorem dX11_extreme_27 : decode cX11_extreme 27 = .ok (.aload_n 0, 1) := by decide +kernel
theorem dX11_extreme_28 : decode cX11_extreme 28 = .ok (.getfield 7, 3) := by decide +kernel
theorem dX11_extreme_31 : decode cX11_extreme 31 = .ok (.iload_n 1, 1) := by decide +kernel
theorem dX11_extreme_32 : decode cX11_extreme 32 = .ok (.iaload, 1) := by decide +kernel
theorem dX11_extreme_33 : decode cX11_extreme 33 = .ok (.aload_n 0, 1) := by decide +kernel
theorem dX11_extreme_34 : decode cX11_extreme 34 = .ok (.iload 4, 2) := by decide +kernel
theorem dX11_extreme_36 : decode cX11_extreme 36 = .ok (.invokevirtual 202, 3) := by decide +kernel
theorem dX11_extreme_39 : decode cX11_extreme 39 = .ok (.iadd, 1) := by decide +kernel
theorem dX11_extreme_40 : decode cX11_extreme 40 = .ok (.if_icmp .gt 78, 3) := by decide +kernel
theorem dX11_extreme_43 : decode cX11_extreme 43 = .ok (.aload_n 0, 1) := by decide +kernel
theorem dX11_extreme_44 : decode cX11_extreme 44 = .ok (.iload_n 1, 1) := by decide +kernel
theorem dX11_extreme_45 : decode cX11_extreme 45 = .ok (.iload_n 2, 1) := by decide +kernel
theorem dX11_extreme_46 : decode cX11_extreme 46 = .ok (.iload_n 3, 1) := by decide +kernel
theorem dX11_extreme_47 : decode cX11_extreme 47 = .ok (.iload 4, 2) := by decide +kernel
theorem dX11_extreme_49 : decode cX11_extreme 49 = .ok (.iload 8, 2) := by decide +kernel
theorem dX11_extreme_51 : decode cX11_extreme 51 = .ok (.iload 9, 2) := by decide +kernel
theorem dX11_extreme_53 : decode cX11_extreme 53 = .ok (.invokevirtual 209, 3) := by decide +kernel
theorem dX11_extreme_56 : decode cX11_extreme 56 = .ok (.lstore 10, 2) := by decide +kernel
theorem dX11_extreme_58 : decode cX11_extreme 58 = .ok (.iload 5, 2) := by decide +kernel
theorem dX11_extreme_60 : decode cX11_extreme 60 = .ok (.ifCond .ne 8, 3) := by decide +kernel
theorem dX11_extreme_63 : decode cX11_extreme 63 = .ok (.lload 10, 2) := by decide +kernel
theorem dX11_extreme_65 : decode cX11_extreme 65 = .ok (.goto 7, 3) := by decide +kernel
theorem dX11_extreme_68 : decode cX11_extreme 68 = .ok (.lconst 0, 1) := by decide +kernel
theorem dX11_extreme_69 : decode cX11_extreme 69 = .ok (.lload 10, 2) := by decide +kernel
theorem dX11_extreme_71 : decode cX11_extreme 71 = .ok (.lsub, 1) := by decide +kernel
theorem dX11_extreme_72 : decode cX11_extreme 72 = .ok (.lstore 12, 2) := by decide +kernel
theorem dX11_extreme_74 : decode cX11_extreme 74 = .ok (.lload 12, 2) := by decide +kernel
theorem dX11_extreme_76 : decode cX11_extreme 76 = .ok (.lconst 0, 1) := by decide +kernel
theorem dX11_extreme_77 : decode cX11_extreme 77 = .ok (.lcmp, 1) := by decide +kernel
theorem dX11_extreme_78 : decode cX11_extreme 78 = .ok (.ifCond .lt 34, 3) := by decide +kernel
theorem dX11_extreme_81 : decode cX11_extreme 81 = .ok (.aload_n 0, 1) := by decide +kernel
theorem dX11_extreme_82 : decode cX11_extreme 82 = .ok (.getfield 213, 3) := by decide +kernel
theorem dX11_extreme_85 : decode cX11_extreme 85 = .ok (.ifCond .lt 11, 3) := by decide +kernel
theorem dX11_extreme_88 : decode cX11_extreme 88 = .ok (.lload 12, 2) := by decide +kernel
theorem dX11_extreme_90 : decode cX11_extreme 90 = .ok (.lload 6, 2) := by decide +kernel
theorem dX11_extreme_92 : decode cX11_extreme 92 = .ok (.lcmp, 1) := by decide +kernel
theorem dX11_extreme_93 : decode cX11_extreme 93 = .ok (.ifCond .le 19, 3) := by decide +kernel
theorem dX11_extreme_96 : decode cX11_extreme 96 = .ok (.lload 12, 2) := by decide +kernel
theorem dX11_extreme_98 : decode cX11_extreme 98 = .ok (.lstore 6, 2) := by decide +kernel
theorem dX11_extreme_100 : decode cX11_extreme 100 = .ok (.aload_n 0, 1) := by decide +kernel
theorem dX11_extreme_101 : decode cX11_extreme 101 = .ok (.iload 8, 2) := by decide +kernel
theorem dX11_extreme_103 : decode cX11_extreme 103 = .ok (.putfield 213, 3) := by decide +kernel
theorem dX11_extreme_106 : decode cX11_extreme 106 = .ok (.aload_n 0, 1) := by decide +kernel
theorem dX11_extreme_107 : decode cX11_extreme 107 = .ok (.iload 9, 2) := by decide +kernel
theorem dX11_extreme_109 : decode cX11_extreme 109 = .ok (.putfield 216, 3) := by decide +kernel
theorem dX11_extreme_112 : decode cX11_extreme 112 = .ok (.iinc 9 1, 3) := by decide +kernel
theorem dX11_extreme_115 : decode cX11_extreme 115 = .ok (.goto (-90), 3) := by decide +kernel
theorem dX11_extreme_118 : decode cX11_extreme 118 = .ok (.iinc 8 1, 3) := by decide +kernel
theorem dX11_extreme_121 : decode cX11_extreme 121 = .ok (.goto (-105), 3) := by decide +kernel
theorem dX11_extreme_124 : decode cX11_extreme 124 = .ok (.iload 5, 2) := by decide +kernel
theorem dX11_extreme_126 : decode cX11_extreme 126 = .ok (.ifCond .ne 8, 3) := by decide +kernel
theorem dX11_extreme_129 : decode cX11_extreme 129 = .ok (.lload 6, 2) := by decide +kernel
theorem dX11_extreme_131 : decode cX11_extreme 131 = .ok (.goto 7, 3) := by decide +kernel
theorem dX11_extreme_134 : decode cX11_extreme 134 = .ok (.lconst 0, 1) := by decide +kernel
theorem dX11_extreme_135 : decode cX11_extreme 135 = .ok (.lload 6, 2) := by decide +kernel
theorem dX11_extreme_137 : decode cX11_extreme 137 = .ok (.lsub, 1) := by decide +kernel
theorem dX11_extreme_138 : decode cX11_extreme 138 = .ok (.lreturn, 1) := by decide +kernel
theorem dX11_worst_0 : decode cX11_worst 0 = .ok (.aload_n 0, 1) := by decide +kernel
theorem dX11_worst_1 : decode cX11_worst 1 = .ok (.iload_n 1, 1) := by decide +kernel
theorem dX11_worst_2 : decode cX11_worst 2 = .ok (.invokevirtual 158, 3) := by decide +kernel
theorem dX11_worst_5 : decode cX11_worst 5 = .ok (.ifCond .ne 22, 3) := by decide +kernel
theorem dX11_worst_8 : decode cX11_worst 8 = .ok (.aload_n 0, 1) := by decide +kernel
theorem dX11_worst_9 : decode cX11_worst 9 = .ok (.iload_n 1, 1) := by decide +kernel
theorem dX11_worst_10 : decode cX11_worst 10 = .ok (.iload_n 2, 1) := by decide +kernel
theorem dX11_worst_11 : decode cX11_worst 11 = .ok (.iload_n 3, 1) := by decide +kernel
theorem dX11_worst_12 : decode cX11_worst 12 = .ok (.invokevirtual 162, 3) := by decide +kernel
theorem dX11_worst_15 : decode cX11_worst 15 = .ok (.ifCond .ne 12, 3) := by decide +kernel
theorem dX11_worst_18 : decode cX11_worst 18 = .ok (.aload_n 0, 1) := by decide +kernel
theorem dX11_worst_19 : decode cX11_worst 19 = .ok (.iload 4, 2) := by decide +kernel
theorem dX11_worst_21 : decode cX11_worst 21 = .ok (.invokevirtual 190, 3) := by decide +kernel
theorem dX11_worst_24 : decode cX11_worst 24 = .ok (.ifCond .eq 7, 3) := by decide +kernel
theorem dX11_worst_27 : decode cX11_worst 27 = .ok (.ldc2_w 166, 3) := by decide +kernel
theorem dX11_worst_30 : decode cX11_worst 30 = .ok (.lreturn, 1) := by decide +kernel
theorem dX11_worst_31 : decode cX11_worst 31 = .ok (.aload_n 0, 1) := by decide +kernel
theorem dX11_worst_32 : decode cX11_worst 32 = .ok (.iload_n 1, 1) := by decide +kernel
theorem dX11_worst_33 : decode cX11_worst 33 = .ok (.iload_n 2, 1) := by decide +kernel
theorem dX11_worst_34 : decode cX11_worst 34 = .ok (.iload_n 3, 1) := by decide +kernel
theorem dX11_worst_35 : decode cX11_worst 35 = .ok (.invokevirtual 168, 3) := by decide +kernel
theorem dX11_worst_38 : decode cX11_worst 38 = .ok (.ifCond .eq 27, 3) := by decide +kernel
theorem dX11_worst_41 : decode cX11_worst 41 = .ok (.iload 5, 2) := by decide +kernel
theorem dX11_worst_43 : decode cX11_worst 43 = .ok (.i2l, 1) := by decide +kernel
theorem dX11_worst_44 : decode cX11_worst 44 = .ok (.lconst 0, 1) := by decide +kernel
theorem dX11_worst_45 : decode cX11_worst 45 = .ok (.lconst 1, 1) := by decide +kernel
theorem dX11_worst_46 : decode cX11_worst 46 = .ok (.invokestatic 133, 3) := by decide +kernel
theorem dX11_worst_49 : decode cX11_worst 49 = .ok (.ifCond .eq 16, 3) := by decide +kernel
theorem dX11_worst_52 : decode cX11_worst 52 = .ok (.iload 6, 2) := by decide +kernel
theorem dX11_worst_54 : decode cX11_worst 54 = .ok (.i2l, 1) := by decide +kernel
theorem dX11_worst_55 : decode cX11_worst 55 = .ok (.lconst 0, 1) := by decide +kernel
theorem dX11_worst_56 : decode cX11_worst 56 = .ok (.ldc2_w 219, 3) := by decide +kernel
theorem dX11_worst_59 : decode cX11_worst 59 = .ok (.invokestatic 133, 3) := by decide +kernel
theorem dX11_worst_62 : decode cX11_worst 62 = .ok (.ifCond .ne 7, 3) := by decide +kernel
theorem dX11_worst_65 : decode cX11_worst 65 = .ok (.ldc2_w 171, 3) := by decide +kernel
theorem dX11_worst_68 : decode cX11_worst 68 = .ok (.lreturn, 1) := by decide +kernel
theorem dX11_worst_69 : decode cX11_worst 69 = .ok (.aload_n 0, 1) := by decide +kernel
theorem dX11_worst_70 : decode cX11_worst 70 = .ok (.iload_n 1, 1) := by decide +kernel
theorem dX11_worst_71 : decode cX11_worst 71 = .ok (.iload_n 2, 1) := by decide +kernel
theorem dX11_worst_72 : decode cX11_worst 72 = .ok (.iload_n 3, 1) := by decide +kernel
theorem dX11_worst_73 : decode cX11_worst 73 = .ok (.iload 4, 2) := by decide +kernel
theorem dX11_worst_75 : decode cX11_worst 75 = .ok (.iload 5, 2) := by decide +kernel
theorem dX11_worst_77 : decode cX11_worst 77 = .ok (.invokevirtual 221, 3) := by decide +kernel
theorem dX11_worst_80 : decode cX11_worst 80 = .ok (.lstore 7, 2) := by decide +kernel
theorem dX11_worst_82 : decode cX11_worst 82 = .ok (.iload 6, 2) := by decide +kernel
theorem dX11_worst_84 : decode cX11_worst 84 = .ok (.iconst 2, 1) := by decide +kernel
theorem dX11_worst_85 : decode cX11_worst 85 = .ok (.if_icmp .ge 19, 3) := by decide +kernel
theorem dX11_worst_88 : decode cX11_worst 88 = .ok (.lload 7, 2) := by decide +kernel
theorem dX11_worst_90 : decode cX11_worst 90 = .ok (.aload_n 0, 1) := by decide +kernel
theorem dX11_worst_91 : decode cX11_worst 91 = .ok (.getfield 35, 3) := by decide +kernel
theorem dX11_worst_94 : decode cX11_worst 94 = .ok (.iload_n 1, 1) := by decide +kernel
theorem dX11_worst_95 : decode cX11_worst 95 = .ok (.laload, 1) := by decide +kernel
theorem dX11_worst_96 : decode cX11_worst 96 = .ok (.iload 6, 2) := by decide +kernel
theorem dX11_worst_98 : decode cX11_worst 98 = .ok (.invokestatic 177, 3) := by decide +kernel
theorem dX11_worst_101 : decode cX11_worst 101 = .ok (.goto 22, 3) := by decide +kernel
theorem dX11_worst_104 : decode cX11_worst 104 = .ok (.iload 6, 2) := by decide +kernel
theorem dX11_worst_106 : decode cX11_worst 106 = .ok (.iconst 2, 1) := by decide +kernel
theorem dX11_worst_107 : decode cX11_worst 107 = .ok (.if_icmp .ne 11, 3) := by decide +kernel
theorem dX11_worst_110 : decode cX11_worst 110 = .ok (.aload_n 0, 1) := by decide +kernel
theorem dX11_worst_111 : decode cX11_worst 111 = .ok (.getfield 213, 3) := by decide +kernel
theorem dX11_worst_114 : decode cX11_worst 114 = .ok (.i2l, 1) := by decide +kernel
theorem dX11_worst_115 : decode cX11_worst 115 = .ok (.goto 8, 3) := by decide +kernel
theorem dX11_worst_118 : decode cX11_worst 118 = .ok (.aload_n 0, 1) := by decide +kernel
theorem dX11_worst_119 : decode cX11_worst 119 = .ok (.getfield 216, 3) := by decide +kernel
theorem dX11_worst_122 : decode cX11_worst 122 = .ok (.i2l, 1) := by decide +kernel
theorem dX11_worst_123 : decode cX11_worst 123 = .ok (.lreturn, 1) := by decide +kernel
theorem dX11_isLimit_0 : decode cX11_isLimit 0 = .ok (.iload_n 0, 1) := by decide +kernel
theorem dX11_isLimit_1 : decode cX11_isLimit 1 = .ok (.i2l, 1) := by decide +kernel
theorem dX11_isLimit_2 : decode cX11_isLimit 2 = .ok (.lconst 0, 1) := by decide +kernel
theorem dX11_isLimit_3 : decode cX11_isLimit 3 = .ok (.ldc2_w 225, 3) := by decide +kernel
theorem dX11_isLimit_6 : decode cX11_isLimit 6 = .ok (.invokestatic 133, 3) := by decide +kernel
theorem dX11_isLimit_9 : decode cX11_isLimit 9 = .ok (.ifCond .eq 19, 3) := by decide +kernel
theorem dX11_isLimit_12 : decode cX11_isLimit 12 = .ok (.iload_n 1, 1) := by decide +kernel
theorem dX11_isLimit_13 : decode cX11_isLimit 13 = .ok (.i2l, 1) := by decide +kernel
theorem dX11_isLimit_14 : decode cX11_isLimit 14 = .ok (.ldc2_w 227, 3) := by decide +kernel
theorem dX11_isLimit_17 : decode cX11_isLimit 17 = .ok (.lconst 0, 1) := by decide +kernel
theorem dX11_isLimit_18 : decode cX11_isLimit 18 = .ok (.invokestatic 133, 3) := by decide +kernel
theorem dX11_isLimit_21 : decode cX11_isLimit 21 = .ok (.ifCond .eq 7, 3) := by decide +kernel
theorem dX11_isLimit_24 : decode cX11_isLimit 24 = .ok (.iconst 1, 1) := by decide +kernel
theorem dX11_isLimit_25 : decode cX11_isLimit 25 = .ok (.goto 4, 3) := by decide +kernel
theorem dX11_isLimit_28 : decode cX11_isLimit 28 = .ok (.iconst 0, 1) := by decide +kernel
theorem dX11_isLimit_29 : decode cX11_isLimit 29 = .ok (.ireturn, 1) := by decide +kernel
theorem dX11_check_0 : decode cX11_check 0 = .ok (.aload_n 0, 1) := by decide +kernel
theorem dX11_check_1 : decode cX11_check 1 = .ok (.iload_n 1, 1) := by decide +kernel
theorem dX11_check_2 : decode cX11_check 2 = .ok (.invokevirtual 158, 3) := by decide +kernel
theorem dX11_check_5 : decode cX11_check 5 = .ok (.ifCond .ne 13, 3) := by decide +kernel
theorem dX11_check_8 : decode cX11_check 8 = .ok (.aload_n 0, 1) := by decide +kernel
theorem dX11_check_9 : decode cX11_check 9 = .ok (.iload_n 1, 1) := by decide +kernel
theorem dX11_check_10 : decode cX11_check 10 = .ok (.iload_n 2, 1) := by decide +kernel
theorem dX11_check_11 : decode cX11_check 11 = .ok (.iload_n 3, 1) := by decide +kernel
theorem dX11_check_12 : decode cX11_check 12 = .ok (.invokevirtual 162, 3) := by decide +kernel
theorem dX11_check_15 : decode cX11_check 15 = .ok (.ifCond .eq 7, 3) := by decide +kernel
theorem dX11_check_18 : decode cX11_check 18 = .ok (.sipush (-1001), 3) := by decide +kernel
theorem dX11_check_21 : decode cX11_check 21 = .ok (.ireturn, 1) := by decide +kernel
theorem dX11_check_22 : decode cX11_check 22 = .ok (.aload_n 0, 1) := by decide +kernel
theorem dX11_check_23 : decode cX11_check 23 = .ok (.iload_n 1, 1) := by decide +kernel
theorem dX11_check_24 : decode cX11_check 24 = .ok (.iload_n 2, 1) := by decide +kernel
theorem dX11_check_25 : decode cX11_check 25 = .ok (.iload_n 3, 1) := by decide +kernel
theorem dX11_check_26 : decode cX11_check 26 = .ok (.invokevirtual 168, 3) := by decide +kernel
theorem dX11_check_29 : decode cX11_check 29 = .ok (.ifCond .eq 13, 3) := by decide +kernel
theorem dX11_check_32 : decode cX11_check 32 = .ok (.iload 4, 2) := by decide +kernel
theorem dX11_check_34 : decode cX11_check 34 = .ok (.iload 5, 2) := by decide +kernel
theorem dX11_check_36 : decode cX11_check 36 = .ok (.invokestatic 229, 3) := by decide +kernel
theorem dX11_check_39 : decode cX11_check 39 = .ok (.ifCond .ne 7, 3) := by decide +kernel
theorem dX11_check_42 : decode cX11_check 42 = .ok (.sipush (-1002), 3) := by decide +kernel
theorem dX11_check_45 : decode cX11_check 45 = .ok (.ireturn, 1) := by decide +kernel
theorem dX11_check_46 : decode cX11_check 46 = .ok (.aload_n 0, 1) := by decide +kernel
theorem dX11_check_47 : decode cX11_check 47 = .ok (.getfield 66, 3) := by decide +kernel
theorem dX11_check_50 : decode cX11_check 50 = .ok (.iload_n 1, 1) := by decide +kernel
theorem dX11_check_51 : decode cX11_check 51 = .ok (.iaload, 1) := by decide +kernel
theorem dX11_check_52 : decode cX11_check 52 = .ok (.iconst 5, 1) := by decide +kernel
theorem dX11_check_53 : decode cX11_check 53 = .ok (.if_icmp .ne 7, 3) := by decide +kernel
theorem dX11_check_56 : decode cX11_check 56 = .ok (.sipush (-1004), 3) := by decide +kernel
theorem dX11_check_59 : decode cX11_check 59 = .ok (.ireturn, 1) := by decide +kernel
theorem dX11_check_60 : decode cX11_check 60 = .ok (.iconst 5, 1) := by decide +kernel
theorem dX11_check_61 : decode cX11_check 61 = .ok (.iload_n 1, 1) := by decide +kernel
theorem dX11_check_62 : decode cX11_check 62 = .ok (.imul, 1) := by decide +kernel
theorem dX11_check_63 : decode cX11_check 63 = .ok (.aload_n 0, 1) := by decide +kernel
theorem dX11_check_64 : decode cX11_check 64 = .ok (.getfield 66, 3) := by decide +kernel
theorem dX11_check_67 : decode cX11_check 67 = .ok (.iload_n 1, 1) := by decide +kernel
theorem dX11_check_68 : decode cX11_check 68 = .ok (.iaload, 1) := by decide +kernel
theorem dX11_check_69 : decode cX11_check 69 = .ok (.iadd, 1) := by decide +kernel
theorem dX11_check_70 : decode cX11_check 70 = .ok (.istore 6, 2) := by decide +kernel
theorem dX11_check_72 : decode cX11_check 72 = .ok (.aload_n 0, 1) := by decide +kernel
theorem dX11_check_73 : decode cX11_check 73 = .ok (.getfield 69, 3) := by decide +kernel
theorem dX11_check_76 : decode cX11_check 76 = .ok (.iload 6, 2) := by decide +kernel
theorem dX11_check_78 : decode cX11_check 78 = .ok (.iload_n 2, 1) := by decide +kernel
theorem dX11_check_79 : decode cX11_check 79 = .ok (.iastore, 1) := by decide +kernel
theorem dX11_check_80 : decode cX11_check 80 = .ok (.aload_n 0, 1) := by decide +kernel
theorem dX11_check_81 : decode cX11_check 81 = .ok (.getfield 72, 3) := by decide +kernel
theorem dX11_check_84 : decode cX11_check 84 = .ok (.iload 6, 2) := by decide +kernel
theorem dX11_check_86 : decode cX11_check 86 = .ok (.iload_n 3, 1) := by decide +kernel
theorem dX11_check_87 : decode cX11_check 87 = .ok (.iastore, 1) := by decide +kernel
theorem dX11_check_88 : decode cX11_check 88 = .ok (.aload_n 0, 1) := by decide +kernel
theorem dX11_check_89 : decode cX11_check 89 = .ok (.getfield 75, 3) := by decide +kernel
theorem dX11_check_92 : decode cX11_check 92 = .ok (.iload 6, 2) := by decide +kernel
theorem dX11_check_94 : decode cX11_check 94 = .ok (.iload 4, 2) := by decide +kernel
theorem dX11_check_96 : decode cX11_check 96 = .ok (.iastore, 1) := by decide +kernel
theorem dX11_check_97 : decode cX11_check 97 = .ok (.aload_n 0, 1) := by decide +kernel
theorem dX11_check_98 : decode cX11_check 98 = .ok (.getfield 78, 3) := by decide +kernel
theorem dX11_check_101 : decode cX11_check 101 = .ok (.iload 6, 2) := by decide +kernel
theorem dX11_check_103 : decode cX11_check 103 = .ok (.iload 5, 2) := by decide +kernel
theorem dX11_check_105 : decode cX11_check 105 = .ok (.iastore, 1) := by decide +kernel
theorem dX11_check_106 : decode cX11_check 106 = .ok (.aload_n 0, 1) := by decide +kernel
theorem dX11_check_107 : decode cX11_check 107 = .ok (.getfield 66, 3) := by decide +kernel
theorem dX11_check_110 : decode cX11_check 110 = .ok (.iload_n 1, 1) := by decide +kernel
theorem dX11_check_111 : decode cX11_check 111 = .ok (.dup2, 1) := by decide +kernel
theorem dX11_check_112 : decode cX11_check 112 = .ok (.iaload, 1) := by decide +kernel
theorem dX11_check_113 : decode cX11_check 113 = .ok (.iconst 1, 1) := by decide +kernel
theorem dX11_check_114 : decode cX11_check 114 = .ok (.iadd, 1) := by decide +kernel
theorem dX11_check_115 : decode cX11_check 115 = .ok (.iastore, 1) := by decide +kernel
theorem dX11_check_116 : decode cX11_check 116 = .ok (.aload_n 0, 1) := by decide +kernel
theorem dX11_check_117 : decode cX11_check 117 = .ok (.getfield 66, 3) := by decide +kernel
theorem dX11_check_120 : decode cX11_check 120 = .ok (.iload_n 1, 1) := by decide +kernel
theorem dX11_check_121 : decode cX11_check 121 = .ok (.iaload, 1) := by decide +kernel
theorem dX11_check_122 : decode cX11_check 122 = .ok (.iconst 1, 1) := by decide +kernel
theorem dX11_check_123 : decode cX11_check 123 = .ok (.isub, 1) := by decide +kernel
theorem dX11_check_124 : decode cX11_check 124 = .ok (.ireturn, 1) := by decide +kernel
theorem dX11_noCheck_0 : decode cX11_noCheck 0 = .ok (.aload_n 0, 1) := by decide +kernel
theorem dX11_noCheck_1 : decode cX11_noCheck 1 = .ok (.iload_n 1, 1) := by decide +kernel
theorem dX11_noCheck_2 : decode cX11_noCheck 2 = .ok (.invokevirtual 158, 3) := by decide +kernel
theorem dX11_noCheck_5 : decode cX11_noCheck 5 = .ok (.ifCond .ne 21, 3) := by decide +kernel
theorem dX11_noCheck_8 : decode cX11_noCheck 8 = .ok (.iload_n 2, 1) := by decide +kernel
theorem dX11_noCheck_9 : decode cX11_noCheck 9 = .ok (.i2l, 1) := by decide +kernel
theorem dX11_noCheck_10 : decode cX11_noCheck 10 = .ok (.lconst 0, 1) := by decide +kernel
theorem dX11_noCheck_11 : decode cX11_noCheck 11 = .ok (.aload_n 0, 1) := by decide +kernel
theorem dX11_noCheck_12 : decode cX11_noCheck 12 = .ok (.getfield 66, 3) := by decide +kernel
theorem dX11_noCheck_15 : decode cX11_noCheck 15 = .ok (.iload_n 1, 1) := by decide +kernel
theorem dX11_noCheck_16 : decode cX11_noCheck 16 = .ok (.iaload, 1) := by decide +kernel
theorem dX11_noCheck_17 : decode cX11_noCheck 17 = .ok (.iconst 1, 1) := by decide +kernel
theorem dX11_noCheck_18 : decode cX11_noCheck 18 = .ok (.isub, 1) := by decide +kernel
theorem dX11_noCheck_19 : decode cX11_noCheck 19 = .ok (.i2l, 1) := by decide +kernel
theorem dX11_noCheck_20 : decode cX11_noCheck 20 = .ok (.invokestatic 133, 3) := by decide +kernel
theorem dX11_noCheck_23 : decode cX11_noCheck 23 = .ok (.ifCond .ne 7, 3) := by decide +kernel
theorem dX11_noCheck_26 : decode cX11_noCheck 26 = .ok (.iconst 1, 1) := by decide +kernel
theorem dX11_noCheck_27 : decode cX11_noCheck 27 = .ok (.goto 4, 3) := by decide +kernel
theorem dX11_noCheck_30 : decode cX11_noCheck 30 = .ok (.iconst 0, 1) := by decide +kernel
theorem dX11_noCheck_31 : decode cX11_noCheck 31 = .ok (.ireturn, 1) := by decide +kernel
theorem dX11_limit_0 : decode cX11_limit 0 = .ok (.aload_n 0, 1) := by decide +kernel
theorem dX11_limit_1 : decode cX11_limit 1 = .ok (.iload_n 1, 1) := by decide +kernel
theorem dX11_limit_2 : decode cX11_limit 2 = .ok (.iload_n 2, 1) := by decide +kernel
theorem dX11_limit_3 : decode cX11_limit 3 = .ok (.invokevirtual 233, 3) := by decide +kernel
theorem dX11_limit_6 : decode cX11_limit 6 = .ok (.ifCond .eq 7, 3) := by decide +kernel
theorem dX11_limit_9 : decode cX11_limit 9 = .ok (.sipush (-1001), 3) := by decide +kernel
theorem dX11_limit_12 : decode cX11_limit 12 = .ok (.ireturn, 1) := by decide +kernel
theorem dX11_limit_13 : decode cX11_limit 13 = .ok (.iload_n 3, 1) := by decide +kernel
theorem dX11_limit_14 : decode cX11_limit 14 = .ok (.iload 4, 2) := by decide +kernel
theorem dX11_limit_16 : decode cX11_limit 16 = .ok (.invokestatic 229, 3) := by decide +kernel
theorem dX11_limit_19 : decode cX11_limit 19 = .ok (.ifCond .ne 7, 3) := by decide +kernel
theorem dX11_limit_22 : decode cX11_limit 22 = .ok (.sipush (-1002), 3) := by decide +kernel
theorem dX11_limit_25 : decode cX11_limit 25 = .ok (.ireturn, 1) := by decide +kernel
theorem dX11_limit_26 : decode cX11_limit 26 = .ok (.aload_n 0, 1) := by decide +kernel
theorem dX11_limit_27 : decode cX11_limit 27 = .ok (.getfield 75, 3) := by decide +kernel
theorem dX11_limit_30 : decode cX11_limit 30 = .ok (.iconst 5, 1) := by decide +kernel
theorem dX11_limit_31 : decode cX11_limit 31 = .ok (.iload_n 1, 1) := by decide +kernel
theorem dX11_limit_32 : decode cX11_limit 32 = .ok (.imul, 1) := by decide +kernel
theorem dX11_limit_33 : decode cX11_limit 33 = .ok (.iload_n 2, 1) := by decide +kernel
theorem dX11_limit_34 : decode cX11_limit 34 = .ok (.iadd, 1) := by decide +kernel
theorem dX11_limit_35 : decode cX11_limit 35 = .ok (.iload_n 3, 1) := by decide +kernel
theorem dX11_limit_36 : decode cX11_limit 36 = .ok (.iastore, 1) := by decide +kernel
theorem dX11_limit_37 : decode cX11_limit 37 = .ok (.aload_n 0, 1) := by decide +kernel
theorem dX11_limit_38 : decode cX11_limit 38 = .ok (.getfield 78, 3) := by decide +kernel
theorem dX11_limit_41 : decode cX11_limit 41 = .ok (.iconst 5, 1) := by decide +kernel
theorem dX11_limit_42 : decode cX11_limit 42 = .ok (.iload_n 1, 1) := by decide +kernel
theorem dX11_limit_43 : decode cX11_limit 43 = .ok (.imul, 1) := by decide +kernel
theorem dX11_limit_44 : decode cX11_limit 44 = .ok (.iload_n 2, 1) := by decide +kernel
theorem dX11_limit_45 : decode cX11_limit 45 = .ok (.iadd, 1) := by decide +kernel
theorem dX11_limit_46 : decode cX11_limit 46 = .ok (.iload 4, 2) := by decide +kernel
theorem dX11_limit_48 : decode cX11_limit 48 = .ok (.iastore, 1) := by decide +kernel
theorem dX11_limit_49 : decode cX11_limit 49 = .ok (.iconst 1, 1) := by decide +kernel
theorem dX11_limit_50 : decode cX11_limit 50 = .ok (.ireturn, 1) := by decide +kernel
theorem dX11_usual_0 : decode cX11_usual 0 = .ok (.iload_n 1, 1) := by decide +kernel
theorem dX11_usual_1 : decode cX11_usual 1 = .ok (.iconst (-1), 1) := by decide +kernel
theorem dX11_usual_2 : decode cX11_usual 2 = .ok (.if_icmp .eq 15, 3) := by decide +kernel
theorem dX11_usual_5 : decode cX11_usual 5 = .ok (.aload_n 0, 1) := by decide +kernel
theorem dX11_usual_6 : decode cX11_usual 6 = .ok (.iload_n 1, 1) := by decide +kernel
theorem dX11_usual_7 : decode cX11_usual 7 = .ok (.invokevirtual 190, 3) := by decide +kernel
theorem dX11_usual_10 : decode cX11_usual 10 = .ok (.ifCond .eq 7, 3) := by decide +kernel
theorem dX11_usual_13 : decode cX11_usual 13 = .ok (.sipush (-1001), 3) := by decide +kernel
theorem dX11_usual_16 : decode cX11_usual 16 = .ok (.ireturn, 1) := by decide +kernel
theorem dX11_usual_17 : decode cX11_usual 17 = .ok (.aload_n 0, 1) := by decide +kernel
theorem dX11_usual_18 : decode cX11_usual 18 = .ok (.getfield 56, 3) := by decide +kernel
theorem dX11_usual_21 : decode cX11_usual 21 = .ok (.istore_n 2, 1) := by decide +kernel
theorem dX11_usual_22 : decode cX11_usual 22 = .ok (.aload_n 0, 1) := by decide +kernel
theorem dX11_usual_23 : decode cX11_usual 23 = .ok (.iload_n 1, 1) := by decide +kernel
theorem dX11_usual_24 : decode cX11_usual 24 = .ok (.putfield 56, 3) := by decide +kernel
theorem dX11_usual_27 : decode cX11_usual 27 = .ok (.iload_n 2, 1) := by decide +kernel
theorem dX11_usual_28 : decode cX11_usual 28 = .ok (.ireturn, 1) := by decide +kernel
theorem dX11_totalOf_0 : decode cX11_totalOf 0 = .ok (.iconst 5, 1) := by decide +kernel
theorem dX11_totalOf_1 : decode cX11_totalOf 1 = .ok (.iload_n 1, 1) := by decide +kernel
theorem dX11_totalOf_2 : decode cX11_totalOf 2 = .ok (.imul, 1) := by decide +kernel
theorem dX11_totalOf_3 : decode cX11_totalOf 3 = .ok (.iload_n 2, 1) := by decide +kernel
theorem dX11_totalOf_4 : decode cX11_totalOf 4 = .ok (.iadd, 1) := by decide +kernel
theorem dX11_totalOf_5 : decode cX11_totalOf 5 = .ok (.istore 6, 2) := by decide +kernel
theorem dX11_totalOf_7 : decode cX11_totalOf 7 = .ok (.ldc2_w 183, 3) := by decide +kernel
theorem dX11_totalOf_10 : decode cX11_totalOf 10 = .ok (.aload_n 0, 1) := by decide +kernel
theorem dX11_totalOf_11 : decode cX11_totalOf 11 = .ok (.iload_n 1, 1) := by decide +kernel
theorem dX11_totalOf_12 : decode cX11_totalOf 12 = .ok (.aload_n 0, 1) := by decide +kernel
theorem dX11_totalOf_13 : decode cX11_totalOf 13 = .ok (.getfield 69, 3) := by decide +kernel
theorem dX11_totalOf_16 : decode cX11_totalOf 16 = .ok (.iload 6, 2) := by decide +kernel
theorem dX11_totalOf_18 : decode cX11_totalOf 18 = .ok (.iaload, 1) := by decide +kernel
theorem dX11_totalOf_19 : decode cX11_totalOf 19 = .ok (.aload_n 0, 1) := by decide +kernel
theorem dX11_totalOf_20 : decode cX11_totalOf 20 = .ok (.getfield 72, 3) := by decide +kernel
theorem dX11_totalOf_23 : decode cX11_totalOf 23 = .ok (.iload 6, 2) := by decide +kernel
theorem dX11_totalOf_25 : decode cX11_totalOf 25 = .ok (.iaload, 1) := by decide +kernel
theorem dX11_totalOf_26 : decode cX11_totalOf 26 = .ok (.iload_n 3, 1) := by decide +kernel
theorem dX11_totalOf_27 : decode cX11_totalOf 27 = .ok (.iload 5, 2) := by decide +kernel
theorem dX11_totalOf_29 : decode cX11_totalOf 29 = .ok (.invokevirtual 221, 3) := by decide +kernel
theorem dX11_totalOf_32 : decode cX11_totalOf 32 = .ok (.lmul, 1) := by decide +kernel
theorem dX11_totalOf_33 : decode cX11_totalOf 33 = .ok (.lstore 7, 2) := by decide +kernel
theorem dX11_totalOf_35 : decode cX11_totalOf 35 = .ok (.iload 4, 2) := by decide +kernel
theorem dX11_totalOf_37 : decode cX11_totalOf 37 = .ok (.ifCond .ne 85, 3) := by decide +kernel
theorem dX11_totalOf_40 : decode cX11_totalOf 40 = .ok (.aload_n 0, 1) := by decide +kernel
theorem dX11_totalOf_41 : decode cX11_totalOf 41 = .ok (.getfield 56, 3) := by decide +kernel
theorem dX11_totalOf_44 : decode cX11_totalOf 44 = .ok (.ifCond .lt 78, 3) := by decide +kernel
theorem dX11_totalOf_47 : decode cX11_totalOf 47 = .ok (.aload_n 0, 1) := by decide +kernel
theorem dX11_totalOf_48 : decode cX11_totalOf 48 = .ok (.getfield 25, 3) := by decide +kernel
theorem dX11_totalOf_51 : decode cX11_totalOf 51 = .ok (.iload_n 1, 1) := by decide +kernel
theorem dX11_totalOf_52 : decode cX11_totalOf 52 = .ok (.iaload, 1) := by decide +kernel
theorem dX11_totalOf_53 : decode cX11_totalOf 53 = .ok (.iconst 1, 1) := by decide +kernel
theorem dX11_totalOf_54 : decode cX11_totalOf 54 = .ok (.if_icmp .le 68, 3) := by decide +kernel
theorem dX11_totalOf_57 : decode cX11_totalOf 57 = .ok (.aload_n 0, 1) := by decide +kernel
theorem dX11_totalOf_58 : decode cX11_totalOf 58 = .ok (.getfield 63, 3) := by decide +kernel
theorem dX11_totalOf_61 : decode cX11_totalOf 61 = .ok (.istore 9, 2) := by decide +kernel
theorem dX11_totalOf_63 : decode cX11_totalOf 63 = .ok (.aload_n 0, 1) := by decide +kernel
theorem dX11_totalOf_64 : decode cX11_totalOf 64 = .ok (.iconst (-1), 1) := by decide +kernel
theorem dX11_totalOf_65 : decode cX11_totalOf 65 = .ok (.putfield 63, 3) := by decide +kernel
theorem dX11_totalOf_68 : decode cX11_totalOf 68 = .ok (.lload 7, 2) := by decide +kernel
theorem dX11_totalOf_70 : decode cX11_totalOf 70 = .ok (.aload_n 0, 1) := by decide +kernel
theorem dX11_totalOf_71 : decode cX11_totalOf 71 = .ok (.getfield 25, 3) := by decide +kernel
theorem dX11_totalOf_74 : decode cX11_totalOf 74 = .ok (.iload_n 1, 1) := by decide +kernel
theorem dX11_totalOf_75 : decode cX11_totalOf 75 = .ok (.iaload, 1) := by decide +kernel
theorem dX11_totalOf_76 : decode cX11_totalOf 76 = .ok (.iconst 1, 1) := by decide +kernel
theorem dX11_totalOf_77 : decode cX11_totalOf 77 = .ok (.isub, 1) := by decide +kernel
theorem dX11_totalOf_78 : decode cX11_totalOf 78 = .ok (.i2l, 1) := by decide +kernel
theorem dX11_totalOf_79 : decode cX11_totalOf 79 = .ok (.aload_n 0, 1) := by decide +kernel
theorem dX11_totalOf_80 : decode cX11_totalOf 80 = .ok (.getfield 28, 3) := by decide +kernel
theorem dX11_totalOf_83 : decode cX11_totalOf 83 = .ok (.iload_n 1, 1) := by decide +kernel
theorem dX11_totalOf_84 : decode cX11_totalOf 84 = .ok (.iaload, 1) := by decide +kernel
theorem dX11_totalOf_85 : decode cX11_totalOf 85 = .ok (.i2l, 1) := by decide +kernel
theorem dX11_totalOf_86 : decode cX11_totalOf 86 = .ok (.lmul, 1) := by decide +kernel
theorem dX11_totalOf_87 : decode cX11_totalOf 87 = .ok (.aload_n 0, 1) := by decide +kernel
theorem dX11_totalOf_88 : decode cX11_totalOf 88 = .ok (.iload_n 1, 1) := by decide +kernel
theorem dX11_totalOf_89 : decode cX11_totalOf 89 = .ok (.aload_n 0, 1) := by decide +kernel
theorem dX11_totalOf_90 : decode cX11_totalOf 90 = .ok (.getfield 69, 3) := by decide +kernel
theorem dX11_totalOf_93 : decode cX11_totalOf 93 = .ok (.iload 6, 2) := by decide +kernel
theorem dX11_totalOf_95 : decode cX11_totalOf 95 = .ok (.iaload, 1) := by decide +kernel
theorem dX11_totalOf_96 : decode cX11_totalOf 96 = .ok (.aload_n 0, 1) := by decide +kernel
theorem dX11_totalOf_97 : decode cX11_totalOf 97 = .ok (.getfield 72, 3) := by decide +kernel
theorem dX11_totalOf_100 : decode cX11_totalOf 100 = .ok (.iload 6, 2) := by decide +kernel
theorem dX11_totalOf_102 : decode cX11_totalOf 102 = .ok (.iaload, 1) := by decide +kernel
theorem dX11_totalOf_103 : decode cX11_totalOf 103 = .ok (.aload_n 0, 1) := by decide +kernel
theorem dX11_totalOf_104 : decode cX11_totalOf 104 = .ok (.getfield 56, 3) := by decide +kernel
theorem dX11_totalOf_107 : decode cX11_totalOf 107 = .ok (.iload 5, 2) := by decide +kernel
theorem dX11_totalOf_109 : decode cX11_totalOf 109 = .ok (.invokevirtual 221, 3) := by decide +kernel
theorem dX11_totalOf_112 : decode cX11_totalOf 112 = .ok (.lmul, 1) := by decide +kernel
theorem dX11_totalOf_113 : decode cX11_totalOf 113 = .ok (.ladd, 1) := by decide +kernel
theorem dX11_totalOf_114 : decode cX11_totalOf 114 = .ok (.lstore 7, 2) := by decide +kernel
theorem dX11_totalOf_116 : decode cX11_totalOf 116 = .ok (.aload_n 0, 1) := by decide +kernel
theorem dX11_totalOf_117 : decode cX11_totalOf 117 = .ok (.iload 9, 2) := by decide +kernel
theorem dX11_totalOf_119 : decode cX11_totalOf 119 = .ok (.putfield 63, 3) := by decide +kernel
theorem dX11_totalOf_122 : decode cX11_totalOf 122 = .ok (.lload 7, 2) := by decide +kernel
theorem dX11_totalOf_124 : decode cX11_totalOf 124 = .ok (.iload 4, 2) := by decide +kernel
theorem dX11_totalOf_126 : decode cX11_totalOf 126 = .ok (.iconst 2, 1) := by decide +kernel
theorem dX11_totalOf_127 : decode cX11_totalOf 127 = .ok (.if_icmp .ne 8, 3) := by decide +kernel
theorem dX11_totalOf_130 : decode cX11_totalOf 130 = .ok (.bipush 100, 2) := by decide +kernel
theorem dX11_totalOf_132 : decode cX11_totalOf 132 = .ok (.goto 12, 3) := by decide +kernel
theorem dX11_totalOf_135 : decode cX11_totalOf 135 = .ok (.bipush 100, 2) := by decide +kernel
theorem dX11_totalOf_137 : decode cX11_totalOf 137 = .ok (.aload_n 0, 1) := by decide +kernel
theorem dX11_totalOf_138 : decode cX11_totalOf 138 = .ok (.getfield 22, 3) := by decide +kernel
theorem dX11_totalOf_141 : decode cX11_totalOf 141 = .ok (.iload_n 1, 1) := by decide +kernel
theorem dX11_totalOf_142 : decode cX11_totalOf 142 = .ok (.iaload, 1) := by decide +kernel
theorem dX11_totalOf_143 : decode cX11_totalOf 143 = .ok (.iadd, 1) := by decide +kernel
theorem dX11_totalOf_144 : decode cX11_totalOf 144 = .ok (.i2l, 1) := by decide +kernel
theorem dX11_totalOf_145 : decode cX11_totalOf 145 = .ok (.lmul, 1) := by decide +kernel
theorem dX11_totalOf_146 : decode cX11_totalOf 146 = .ok (.lreturn, 1) := by decide +kernel
theorem dX11_isMode_0 : decode cX11_isMode 0 = .ok (.iload_n 0, 1) := by decide +kernel
theorem dX11_isMode_1 : decode cX11_isMode 1 = .ok (.i2l, 1) := by decide +kernel
theorem dX11_isMode_2 : decode cX11_isMode 2 = .ok (.lconst 0, 1) := by decide +kernel
theorem dX11_isMode_3 : decode cX11_isMode 3 = .ok (.ldc2_w 129, 3) := by decide +kernel
theorem dX11_isMode_6 : decode cX11_isMode 6 = .ok (.invokestatic 133, 3) := by decide +kernel
theorem dX11_isMode_9 : decode cX11_isMode 9 = .ok (.ireturn, 1) := by decide +kernel
theorem dX11_total_0 : decode cX11_total 0 = .ok (.aload_n 0, 1) := by decide +kernel
theorem dX11_total_1 : decode cX11_total 1 = .ok (.iload_n 1, 1) := by decide +kernel
theorem dX11_total_2 : decode cX11_total 2 = .ok (.iload_n 2, 1) := by decide +kernel
theorem dX11_total_3 : decode cX11_total 3 = .ok (.invokevirtual 233, 3) := by decide +kernel
theorem dX11_total_6 : decode cX11_total 6 = .ok (.ifCond .ne 11, 3) := by decide +kernel
theorem dX11_total_9 : decode cX11_total 9 = .ok (.aload_n 0, 1) := by decide +kernel
theorem dX11_total_10 : decode cX11_total 10 = .ok (.iload_n 3, 1) := by decide +kernel
theorem dX11_total_11 : decode cX11_total 11 = .ok (.invokevirtual 190, 3) := by decide +kernel
theorem dX11_total_14 : decode cX11_total 14 = .ok (.ifCond .eq 7, 3) := by decide +kernel
theorem dX11_total_17 : decode cX11_total 17 = .ok (.ldc2_w 166, 3) := by decide +kernel
theorem dX11_total_20 : decode cX11_total 20 = .ok (.lreturn, 1) := by decide +kernel
theorem dX11_total_21 : decode cX11_total 21 = .ok (.iload 4, 2) := by decide +kernel
theorem dX11_total_23 : decode cX11_total 23 = .ok (.invokestatic 236, 3) := by decide +kernel
theorem dX11_total_26 : decode cX11_total 26 = .ok (.ifCond .eq 25, 3) := by decide +kernel
theorem dX11_total_29 : decode cX11_total 29 = .ok (.iload 5, 2) := by decide +kernel
theorem dX11_total_31 : decode cX11_total 31 = .ok (.i2l, 1) := by decide +kernel
theorem dX11_total_32 : decode cX11_total 32 = .ok (.lconst 0, 1) := by decide +kernel
theorem dX11_total_33 : decode cX11_total 33 = .ok (.lconst 1, 1) := by decide +kernel
theorem dX11_total_34 : decode cX11_total 34 = .ok (.invokestatic 133, 3) := by decide +kernel
theorem dX11_total_37 : decode cX11_total 37 = .ok (.ifCond .eq 14, 3) := by decide +kernel
theorem dX11_total_40 : decode cX11_total 40 = .ok (.iload 6, 2) := by decide +kernel
theorem dX11_total_42 : decode cX11_total 42 = .ok (.i2l, 1) := by decide +kernel
theorem dX11_total_43 : decode cX11_total 43 = .ok (.lconst 0, 1) := by decide +kernel
theorem dX11_total_44 : decode cX11_total 44 = .ok (.lconst 1, 1) := by decide +kernel
theorem dX11_total_45 : decode cX11_total 45 = .ok (.invokestatic 133, 3) := by decide +kernel
theorem dX11_total_48 : decode cX11_total 48 = .ok (.ifCond .ne 7, 3) := by decide +kernel
theorem dX11_total_51 : decode cX11_total 51 = .ok (.ldc2_w 171, 3) := by decide +kernel
theorem dX11_total_54 : decode cX11_total 54 = .ok (.lreturn, 1) := by decide +kernel
theorem dX11_total_55 : decode cX11_total 55 = .ok (.aload_n 0, 1) := by decide +kernel
theorem dX11_total_56 : decode cX11_total 56 = .ok (.iload_n 1, 1) := by decide +kernel
theorem dX11_total_57 : decode cX11_total 57 = .ok (.iload_n 2, 1) := by decide +kernel
theorem dX11_total_58 : decode cX11_total 58 = .ok (.iload_n 3, 1) := by decide +kernel
theorem dX11_total_59 : decode cX11_total 59 = .ok (.iload 4, 2) := by decide +kernel
theorem dX11_total_61 : decode cX11_total 61 = .ok (.iload 5, 2) := by decide +kernel
theorem dX11_total_63 : decode cX11_total 63 = .ok (.invokevirtual 239, 3) := by decide +kernel
theorem dX11_total_66 : decode cX11_total 66 = .ok (.ldc2_w 242, 3) := by decide +kernel
theorem dX11_total_69 : decode cX11_total 69 = .ok (.aload_n 0, 1) := by decide +kernel
theorem dX11_total_70 : decode cX11_total 70 = .ok (.getfield 35, 3) := by decide +kernel
theorem dX11_total_73 : decode cX11_total 73 = .ok (.iload_n 1, 1) := by decide +kernel
theorem dX11_total_74 : decode cX11_total 74 = .ok (.laload, 1) := by decide +kernel
theorem dX11_total_75 : decode cX11_total 75 = .ok (.lmul, 1) := by decide +kernel
theorem dX11_total_76 : decode cX11_total 76 = .ok (.iload 6, 2) := by decide +kernel
theorem dX11_total_78 : decode cX11_total 78 = .ok (.invokestatic 177, 3) := by decide +kernel
theorem dX11_total_81 : decode cX11_total 81 = .ok (.lreturn, 1) := by decide +kernel
theorem dX11_isMet_0 : decode cX11_isMet 0 = .ok (.ldc2_w 242, 3) := by decide +kernel
theorem dX11_isMet_3 : decode cX11_isMet 3 = .ok (.aload_n 0, 1) := by decide +kernel
theorem dX11_isMet_4 : decode cX11_isMet 4 = .ok (.getfield 35, 3) := by decide +kernel
theorem dX11_isMet_7 : decode cX11_isMet 7 = .ok (.iload_n 1, 1) := by decide +kernel
theorem dX11_isMet_8 : decode cX11_isMet 8 = .ok (.laload, 1) := by decide +kernel
theorem dX11_isMet_9 : decode cX11_isMet 9 = .ok (.lmul, 1) := by decide +kernel
theorem dX11_isMet_10 : decode cX11_isMet 10 = .ok (.lstore 5, 2) := by decide +kernel
theorem dX11_isMet_12 : decode cX11_isMet 12 = .ok (.aload_n 0, 1) := by decide +kernel
theorem dX11_isMet_13 : decode cX11_isMet 13 = .ok (.iload_n 1, 1) := by decide +kernel
theorem dX11_isMet_14 : decode cX11_isMet 14 = .ok (.iload_n 2, 1) := by decide +kernel
theorem dX11_isMet_15 : decode cX11_isMet 15 = .ok (.iload_n 3, 1) := by decide +kernel
theorem dX11_isMet_16 : decode cX11_isMet 16 = .ok (.iload 4, 2) := by decide +kernel
theorem dX11_isMet_18 : decode cX11_isMet 18 = .ok (.iconst 0, 1) := by decide +kernel
theorem dX11_isMet_19 : decode cX11_isMet 19 = .ok (.invokevirtual 239, 3) := by decide +kernel
theorem dX11_isMet_22 : decode cX11_isMet 22 = .ok (.aload_n 0, 1) := by decide +kernel
theorem dX11_isMet_23 : decode cX11_isMet 23 = .ok (.getfield 75, 3) := by decide +kernel
theorem dX11_isMet_26 : decode cX11_isMet 26 = .ok (.iconst 5, 1) := by decide +kernel
theorem dX11_isMet_27 : decode cX11_isMet 27 = .ok (.iload_n 1, 1) := by decide +kernel
theorem dX11_isMet_28 : decode cX11_isMet 28 = .ok (.imul, 1) := by decide +kernel
theorem dX11_isMet_29 : decode cX11_isMet 29 = .ok (.iload_n 2, 1) := by decide +kernel
theorem dX11_isMet_30 : decode cX11_isMet 30 = .ok (.iadd, 1) := by decide +kernel
theorem dX11_isMet_31 : decode cX11_isMet 31 = .ok (.iaload, 1) := by decide +kernel
theorem dX11_isMet_32 : decode cX11_isMet 32 = .ok (.i2l, 1) := by decide +kernel
theorem dX11_isMet_33 : decode cX11_isMet 33 = .ok (.lload 5, 2) := by decide +kernel
theorem dX11_isMet_35 : decode cX11_isMet 35 = .ok (.lmul, 1) := by decide +kernel
theorem dX11_isMet_36 : decode cX11_isMet 36 = .ok (.lcmp, 1) := by decide +kernel
theorem dX11_isMet_37 : decode cX11_isMet 37 = .ok (.ifCond .gt 35, 3) := by decide +kernel
theorem dX11_isMet_40 : decode cX11_isMet 40 = .ok (.aload_n 0, 1) := by decide +kernel
theorem dX11_isMet_41 : decode cX11_isMet 41 = .ok (.iload_n 1, 1) := by decide +kernel
theorem dX11_isMet_42 : decode cX11_isMet 42 = .ok (.iload_n 2, 1) := by decide +kernel
theorem dX11_isMet_43 : decode cX11_isMet 43 = .ok (.iload_n 3, 1) := by decide +kernel
theorem dX11_isMet_44 : decode cX11_isMet 44 = .ok (.iload 4, 2) := by decide +kernel
theorem dX11_isMet_46 : decode cX11_isMet 46 = .ok (.iconst 1, 1) := by decide +kernel
theorem dX11_isMet_47 : decode cX11_isMet 47 = .ok (.invokevirtual 239, 3) := by decide +kernel
theorem dX11_isMet_50 : decode cX11_isMet 50 = .ok (.aload_n 0, 1) := by decide +kernel
theorem dX11_isMet_51 : decode cX11_isMet 51 = .ok (.getfield 78, 3) := by decide +kernel
theorem dX11_isMet_54 : decode cX11_isMet 54 = .ok (.iconst 5, 1) := by decide +kernel
theorem dX11_isMet_55 : decode cX11_isMet 55 = .ok (.iload_n 1, 1) := by decide +kernel
theorem dX11_isMet_56 : decode cX11_isMet 56 = .ok (.imul, 1) := by decide +kernel
theorem dX11_isMet_57 : decode cX11_isMet 57 = .ok (.iload_n 2, 1) := by decide +kernel
theorem dX11_isMet_58 : decode cX11_isMet 58 = .ok (.iadd, 1) := by decide +kernel
theorem dX11_isMet_59 : decode cX11_isMet 59 = .ok (.iaload, 1) := by decide +kernel
theorem dX11_isMet_60 : decode cX11_isMet 60 = .ok (.i2l, 1) := by decide +kernel
theorem dX11_isMet_61 : decode cX11_isMet 61 = .ok (.lload 5, 2) := by decide +kernel
theorem dX11_isMet_63 : decode cX11_isMet 63 = .ok (.lmul, 1) := by decide +kernel
theorem dX11_isMet_64 : decode cX11_isMet 64 = .ok (.lcmp, 1) := by decide +kernel
theorem dX11_isMet_65 : decode cX11_isMet 65 = .ok (.ifCond .lt 7, 3) := by decide +kernel
theorem dX11_isMet_68 : decode cX11_isMet 68 = .ok (.iconst 1, 1) := by decide +kernel
theorem dX11_isMet_69 : decode cX11_isMet 69 = .ok (.goto 4, 3) := by decide +kernel
theorem dX11_isMet_72 : decode cX11_isMet 72 = .ok (.iconst 0, 1) := by decide +kernel
theorem dX11_isMet_73 : decode cX11_isMet 73 = .ok (.ireturn, 1) := by decide +kernel
theorem dX11_failing_0 : decode cX11_failing 0 = .ok (.iconst 0, 1) := by decide +kernel
theorem dX11_failing_1 : decode cX11_failing 1 = .ok (.istore 4, 2) := by decide +kernel
theorem dX11_failing_3 : decode cX11_failing 3 = .ok (.iload 4, 2) := by decide +kernel
theorem dX11_failing_5 : decode cX11_failing 5 = .ok (.aload_n 0, 1) := by decide +kernel
theorem dX11_failing_6 : decode cX11_failing 6 = .ok (.getfield 66, 3) := by decide +kernel
theorem dX11_failing_9 : decode cX11_failing 9 = .ok (.iload_n 1, 1) := by decide +kernel
theorem dX11_failing_10 : decode cX11_failing 10 = .ok (.iaload, 1) := by decide +kernel
theorem dX11_failing_11 : decode cX11_failing 11 = .ok (.if_icmp .ge 24, 3) := by decide +kernel
theorem dX11_failing_14 : decode cX11_failing 14 = .ok (.aload_n 0, 1) := by decide +kernel
theorem dX11_failing_15 : decode cX11_failing 15 = .ok (.iload_n 1, 1) := by decide +kernel
theorem dX11_failing_16 : decode cX11_failing 16 = .ok (.iload 4, 2) := by decide +kernel
theorem dX11_failing_18 : decode cX11_failing 18 = .ok (.iload_n 2, 1) := by decide +kernel
theorem dX11_failing_19 : decode cX11_failing 19 = .ok (.iload_n 3, 1) := by decide +kernel
theorem dX11_failing_20 : decode cX11_failing 20 = .ok (.invokevirtual 244, 3) := by decide +kernel
theorem dX11_failing_23 : decode cX11_failing 23 = .ok (.ifCond .ne 6, 3) := by decide +kernel
theorem dX11_failing_26 : decode cX11_failing 26 = .ok (.iload 4, 2) := by decide +kernel
theorem dX11_failing_28 : decode cX11_failing 28 = .ok (.ireturn, 1) := by decide +kernel
theorem dX11_failing_29 : decode cX11_failing 29 = .ok (.iinc 4 1, 3) := by decide +kernel
theorem dX11_failing_32 : decode cX11_failing 32 = .ok (.goto (-29), 3) := by decide +kernel
theorem dX11_failing_35 : decode cX11_failing 35 = .ok (.iconst (-1), 1) := by decide +kernel
theorem dX11_failing_36 : decode cX11_failing 36 = .ok (.ireturn, 1) := by decide +kernel
theorem dX11_fails_0 : decode cX11_fails 0 = .ok (.aload_n 0, 1) := by decide +kernel
theorem dX11_fails_1 : decode cX11_fails 1 = .ok (.iload_n 1, 1) := by decide +kernel
theorem dX11_fails_2 : decode cX11_fails 2 = .ok (.invokevirtual 158, 3) := by decide +kernel
theorem dX11_fails_5 : decode cX11_fails 5 = .ok (.ifCond .ne 11, 3) := by decide +kernel
theorem dX11_fails_8 : decode cX11_fails 8 = .ok (.aload_n 0, 1) := by decide +kernel
theorem dX11_fails_9 : decode cX11_fails 9 = .ok (.iload_n 2, 1) := by decide +kernel
theorem dX11_fails_10 : decode cX11_fails 10 = .ok (.invokevirtual 190, 3) := by decide +kernel
theorem dX11_fails_13 : decode cX11_fails 13 = .ok (.ifCond .eq 7, 3) := by decide +kernel
theorem dX11_fails_16 : decode cX11_fails 16 = .ok (.sipush (-1001), 3) := by decide +kernel
theorem dX11_fails_19 : decode cX11_fails 19 = .ok (.ireturn, 1) := by decide +kernel
theorem dX11_fails_20 : decode cX11_fails 20 = .ok (.iload_n 3, 1) := by decide +kernel
theorem dX11_fails_21 : decode cX11_fails 21 = .ok (.invokestatic 236, 3) := by decide +kernel
theorem dX11_fails_24 : decode cX11_fails 24 = .ok (.ifCond .eq 13, 3) := by decide +kernel
theorem dX11_fails_27 : decode cX11_fails 27 = .ok (.aload_n 0, 1) := by decide +kernel
theorem dX11_fails_28 : decode cX11_fails 28 = .ok (.iload_n 1, 1) := by decide +kernel
theorem dX11_fails_29 : decode cX11_fails 29 = .ok (.iload_n 2, 1) := by decide +kernel
theorem dX11_fails_30 : decode cX11_fails 30 = .ok (.iload_n 3, 1) := by decide +kernel
theorem dX11_fails_31 : decode cX11_fails 31 = .ok (.invokevirtual 248, 3) := by decide +kernel
theorem dX11_fails_34 : decode cX11_fails 34 = .ok (.goto 6, 3) := by decide +kernel
theorem dX11_fails_37 : decode cX11_fails 37 = .ok (.sipush (-1002), 3) := by decide +kernel
theorem dX11_fails_40 : decode cX11_fails 40 = .ok (.ireturn, 1) := by decide +kernel
theorem dX11_holds_0 : decode cX11_holds 0 = .ok (.aload_n 0, 1) := by decide +kernel
theorem dX11_holds_1 : decode cX11_holds 1 = .ok (.iload_n 2, 1) := by decide +kernel
theorem dX11_holds_2 : decode cX11_holds 2 = .ok (.putfield 63, 3) := by decide +kernel
theorem dX11_holds_5 : decode cX11_holds 5 = .ok (.aload_n 0, 1) := by decide +kernel
theorem dX11_holds_6 : decode cX11_holds 6 = .ok (.iload 4, 2) := by decide +kernel
theorem dX11_holds_8 : decode cX11_holds 8 = .ok (.putfield 60, 3) := by decide +kernel
theorem dX11_holds_11 : decode cX11_holds 11 = .ok (.aload_n 0, 1) := by decide +kernel
theorem dX11_holds_12 : decode cX11_holds 12 = .ok (.iload 5, 2) := by decide +kernel
theorem dX11_holds_14 : decode cX11_holds 14 = .ok (.putfield 195, 3) := by decide +kernel
theorem dX11_holds_17 : decode cX11_holds 17 = .ok (.aload_n 0, 1) := by decide +kernel
theorem dX11_holds_18 : decode cX11_holds 18 = .ok (.iload_n 1, 1) := by decide +kernel
theorem dX11_holds_19 : decode cX11_holds 19 = .ok (.iload_n 2, 1) := by decide +kernel
theorem dX11_holds_20 : decode cX11_holds 20 = .ok (.iload_n 3, 1) := by decide +kernel
theorem dX11_holds_21 : decode cX11_holds 21 = .ok (.invokevirtual 248, 3) := by decide +kernel
theorem dX11_holds_24 : decode cX11_holds 24 = .ok (.ifCond .ge 7, 3) := by decide +kernel
theorem dX11_holds_27 : decode cX11_holds 27 = .ok (.iconst 1, 1) := by decide +kernel
theorem dX11_holds_28 : decode cX11_holds 28 = .ok (.goto 4, 3) := by decide +kernel
theorem dX11_holds_31 : decode cX11_holds 31 = .ok (.iconst 0, 1) := by decide +kernel
theorem dX11_holds_32 : decode cX11_holds 32 = .ok (.istore 6, 2) := by decide +kernel
theorem dX11_holds_34 : decode cX11_holds 34 = .ok (.aload_n 0, 1) := by decide +kernel
theorem dX11_holds_35 : decode cX11_holds 35 = .ok (.iconst (-1), 1) := by decide +kernel
theorem dX11_holds_36 : decode cX11_holds 36 = .ok (.putfield 63, 3) := by decide +kernel
theorem dX11_holds_39 : decode cX11_holds 39 = .ok (.aload_n 0, 1) := by decide +kernel
theorem dX11_holds_40 : decode cX11_holds 40 = .ok (.bipush 100, 2) := by decide +kernel
theorem dX11_holds_42 : decode cX11_holds 42 = .ok (.putfield 60, 3) := by decide +kernel
theorem dX11_holds_45 : decode cX11_holds 45 = .ok (.aload_n 0, 1) := by decide +kernel
theorem dX11_holds_46 : decode cX11_holds 46 = .ok (.iconst 0, 1) := by decide +kernel
theorem dX11_holds_47 : decode cX11_holds 47 = .ok (.putfield 195, 3) := by decide +kernel
theorem dX11_holds_50 : decode cX11_holds 50 = .ok (.iload 6, 2) := by decide +kernel
theorem dX11_holds_52 : decode cX11_holds 52 = .ok (.ireturn, 1) := by decide +kernel
theorem dX11_posted_0 : decode cX11_posted 0 = .ok (.aload_n 0, 1) := by decide +kernel
theorem dX11_posted_1 : decode cX11_posted 1 = .ok (.iload_n 1, 1) := by decide +kernel
theorem dX11_posted_2 : decode cX11_posted 2 = .ok (.invokevirtual 158, 3) := by decide +kernel
theorem dX11_posted_5 : decode cX11_posted 5 = .ok (.ifCond .ne 11, 3) := by decide +kernel
theorem dX11_posted_8 : decode cX11_posted 8 = .ok (.aload_n 0, 1) := by decide +kernel
theorem dX11_posted_9 : decode cX11_posted 9 = .ok (.iload_n 2, 1) := by decide +kernel
theorem dX11_posted_10 : decode cX11_posted 10 = .ok (.invokevirtual 190, 3) := by decide +kernel
theorem dX11_posted_13 : decode cX11_posted 13 = .ok (.ifCond .eq 7, 3) := by decide +kernel
theorem dX11_posted_16 : decode cX11_posted 16 = .ok (.sipush (-1001), 3) := by decide +kernel
theorem dX11_posted_19 : decode cX11_posted 19 = .ok (.ireturn, 1) := by decide +kernel
theorem dX11_posted_20 : decode cX11_posted 20 = .ok (.sipush 300, 3) := by decide +kernel
theorem dX11_posted_23 : decode cX11_posted 23 = .ok (.istore_n 3, 1) := by decide +kernel
theorem dX11_posted_24 : decode cX11_posted 24 = .ok (.iload_n 3, 1) := by decide +kernel
theorem dX11_posted_25 : decode cX11_posted 25 = .ok (.ifCond .lt 21, 3) := by decide +kernel
theorem dX11_posted_28 : decode cX11_posted 28 = .ok (.aload_n 0, 1) := by decide +kernel
theorem dX11_posted_29 : decode cX11_posted 29 = .ok (.iload_n 1, 1) := by decide +kernel
theorem dX11_posted_30 : decode cX11_posted 30 = .ok (.iload_n 2, 1) := by decide +kernel
theorem dX11_posted_31 : decode cX11_posted 31 = .ok (.iconst 0, 1) := by decide +kernel
theorem dX11_posted_32 : decode cX11_posted 32 = .ok (.iload_n 3, 1) := by decide +kernel
theorem dX11_posted_33 : decode cX11_posted 33 = .ok (.iconst 0, 1) := by decide +kernel
theorem dX11_posted_34 : decode cX11_posted 34 = .ok (.invokevirtual 252, 3) := by decide +kernel
theorem dX11_posted_37 : decode cX11_posted 37 = .ok (.ifCond .ne 9, 3) := by decide +kernel
theorem dX11_posted_40 : decode cX11_posted 40 = .ok (.iinc 3 (-1), 3) := by decide +kernel
theorem dX11_posted_43 : decode cX11_posted 43 = .ok (.goto (-19), 3) := by decide +kernel
theorem dX11_posted_46 : decode cX11_posted 46 = .ok (.iload_n 3, 1) := by decide +kernel
theorem dX11_posted_47 : decode cX11_posted 47 = .ok (.ireturn, 1) := by decide +kernel
theorem dX11_spread_0 : decode cX11_spread 0 = .ok (.aload_n 0, 1) := by decide +kernel
theorem dX11_spread_1 : decode cX11_spread 1 = .ok (.iload_n 1, 1) := by decide +kernel
theorem dX11_spread_2 : decode cX11_spread 2 = .ok (.invokevirtual 158, 3) := by decide +kernel
theorem dX11_spread_5 : decode cX11_spread 5 = .ok (.ifCond .ne 11, 3) := by decide +kernel
theorem dX11_spread_8 : decode cX11_spread 8 = .ok (.aload_n 0, 1) := by decide +kernel
theorem dX11_spread_9 : decode cX11_spread 9 = .ok (.iload_n 2, 1) := by decide +kernel
theorem dX11_spread_10 : decode cX11_spread 10 = .ok (.invokevirtual 190, 3) := by decide +kernel
theorem dX11_spread_13 : decode cX11_spread 13 = .ok (.ifCond .eq 7, 3) := by decide +kernel
theorem dX11_spread_16 : decode cX11_spread 16 = .ok (.sipush (-1001), 3) := by decide +kernel
theorem dX11_spread_19 : decode cX11_spread 19 = .ok (.ireturn, 1) := by decide +kernel
theorem dX11_spread_20 : decode cX11_spread 20 = .ok (.iload_n 3, 1) := by decide +kernel
theorem dX11_spread_21 : decode cX11_spread 21 = .ok (.invokestatic 236, 3) := by decide +kernel
theorem dX11_spread_24 : decode cX11_spread 24 = .ok (.ifCond .ne 7, 3) := by decide +kernel
theorem dX11_spread_27 : decode cX11_spread 27 = .ok (.sipush (-1002), 3) := by decide +kernel
theorem dX11_spread_30 : decode cX11_spread 30 = .ok (.ireturn, 1) := by decide +kernel
theorem dX11_spread_31 : decode cX11_spread 31 = .ok (.iconst 0, 1) := by decide +kernel
theorem dX11_spread_32 : decode cX11_spread 32 = .ok (.istore 4, 2) := by decide +kernel
theorem dX11_spread_34 : decode cX11_spread 34 = .ok (.iload 4, 2) := by decide +kernel
theorem dX11_spread_36 : decode cX11_spread 36 = .ok (.bipush 20, 2) := by decide +kernel
theorem dX11_spread_38 : decode cX11_spread 38 = .ok (.if_icmp .gt 23, 3) := by decide +kernel
theorem dX11_spread_41 : decode cX11_spread 41 = .ok (.aload_n 0, 1) := by decide +kernel
theorem dX11_spread_42 : decode cX11_spread 42 = .ok (.iload_n 1, 1) := by decide +kernel
theorem dX11_spread_43 : decode cX11_spread 43 = .ok (.iload_n 2, 1) := by decide +kernel
theorem dX11_spread_44 : decode cX11_spread 44 = .ok (.iload_n 3, 1) := by decide +kernel
theorem dX11_spread_45 : decode cX11_spread 45 = .ok (.bipush 100, 2) := by decide +kernel
theorem dX11_spread_47 : decode cX11_spread 47 = .ok (.iload 4, 2) := by decide +kernel
theorem dX11_spread_49 : decode cX11_spread 49 = .ok (.invokevirtual 252, 3) := by decide +kernel
theorem dX11_spread_52 : decode cX11_spread 52 = .ok (.ifCond .ne 9, 3) := by decide +kernel
theorem dX11_spread_55 : decode cX11_spread 55 = .ok (.iinc 4 1, 3) := by decide +kernel
theorem dX11_spread_58 : decode cX11_spread 58 = .ok (.goto (-24), 3) := by decide +kernel
theorem dX11_spread_61 : decode cX11_spread 61 = .ok (.iload 4, 2) := by decide +kernel
theorem dX11_spread_63 : decode cX11_spread 63 = .ok (.bipush 20, 2) := by decide +kernel
theorem dX11_spread_65 : decode cX11_spread 65 = .ok (.if_icmp .le 7, 3) := by decide +kernel
theorem dX11_spread_68 : decode cX11_spread 68 = .ok (.iconst (-1), 1) := by decide +kernel
theorem dX11_spread_69 : decode cX11_spread 69 = .ok (.goto 5, 3) := by decide +kernel
theorem dX11_spread_72 : decode cX11_spread 72 = .ok (.iload 4, 2) := by decide +kernel
theorem dX11_spread_74 : decode cX11_spread 74 = .ok (.ireturn, 1) := by decide +kernel
theorem dX11_isTown_0 : decode cX11_isTown 0 = .ok (.iload_n 0, 1) := by decide +kernel
theorem dX11_isTown_1 : decode cX11_isTown 1 = .ok (.i2l, 1) := by decide +kernel
theorem dX11_isTown_2 : decode cX11_isTown 2 = .ok (.lconst 0, 1) := by decide +kernel
theorem dX11_isTown_3 : decode cX11_isTown 3 = .ok (.ldc2_w 256, 3) := by decide +kernel
theorem dX11_isTown_6 : decode cX11_isTown 6 = .ok (.invokestatic 133, 3) := by decide +kernel
theorem dX11_isTown_9 : decode cX11_isTown 9 = .ok (.ireturn, 1) := by decide +kernel
theorem dX11_road_0 : decode cX11_road 0 = .ok (.iload_n 1, 1) := by decide +kernel
theorem dX11_road_1 : decode cX11_road 1 = .ok (.invokestatic 258, 3) := by decide +kernel
theorem dX11_road_4 : decode cX11_road 4 = .ok (.ifCond .eq 25, 3) := by decide +kernel
theorem dX11_road_7 : decode cX11_road 7 = .ok (.iload_n 2, 1) := by decide +kernel
theorem dX11_road_8 : decode cX11_road 8 = .ok (.invokestatic 258, 3) := by decide +kernel
theorem dX11_road_11 : decode cX11_road 11 = .ok (.ifCond .eq 18, 3) := by decide +kernel
theorem dX11_road_14 : decode cX11_road 14 = .ok (.iload 4, 2) := by decide +kernel
theorem dX11_road_16 : decode cX11_road 16 = .ok (.iconst (-1), 1) := by decide +kernel
theorem dX11_road_17 : decode cX11_road 17 = .ok (.if_icmp .eq 16, 3) := by decide +kernel
theorem dX11_road_20 : decode cX11_road 20 = .ok (.aload_n 0, 1) := by decide +kernel
theorem dX11_road_21 : decode cX11_road 21 = .ok (.iload 4, 2) := by decide +kernel
theorem dX11_road_23 : decode cX11_road 23 = .ok (.invokevirtual 158, 3) := by decide +kernel
theorem dX11_road_26 : decode cX11_road 26 = .ok (.ifCond .eq 7, 3) := by decide +kernel
theorem dX11_road_29 : decode cX11_road 29 = .ok (.sipush (-1001), 3) := by decide +kernel
theorem dX11_road_32 : decode cX11_road 32 = .ok (.ireturn, 1) := by decide +kernel
theorem dX11_road_33 : decode cX11_road 33 = .ok (.iload_n 3, 1) := by decide +kernel
theorem dX11_road_34 : decode cX11_road 34 = .ok (.i2l, 1) := by decide +kernel
theorem dX11_road_35 : decode cX11_road 35 = .ok (.lconst 1, 1) := by decide +kernel
theorem dX11_road_36 : decode cX11_road 36 = .ok (.ldc2_w 261, 3) := by decide +kernel
theorem dX11_road_39 : decode cX11_road 39 = .ok (.invokestatic 133, 3) := by decide +kernel
theorem dX11_road_42 : decode cX11_road 42 = .ok (.ifCond .eq 8, 3) := by decide +kernel
theorem dX11_road_45 : decode cX11_road 45 = .ok (.iload_n 1, 1) := by decide +kernel
theorem dX11_road_46 : decode cX11_road 46 = .ok (.iload_n 2, 1) := by decide +kernel
theorem dX11_road_47 : decode cX11_road 47 = .ok (.if_icmp .ne 7, 3) := by decide +kernel
theorem dX11_road_50 : decode cX11_road 50 = .ok (.sipush (-1002), 3) := by decide +kernel
theorem dX11_road_53 : decode cX11_road 53 = .ok (.ireturn, 1) := by decide +kernel
theorem dX11_road_54 : decode cX11_road 54 = .ok (.aload_n 0, 1) := by decide +kernel
theorem dX11_road_55 : decode cX11_road 55 = .ok (.getfield 263, 3) := by decide +kernel
theorem dX11_road_58 : decode cX11_road 58 = .ok (.bipush 24, 2) := by decide +kernel
theorem dX11_road_60 : decode cX11_road 60 = .ok (.if_icmp .ne 7, 3) := by decide +kernel
theorem dX11_road_63 : decode cX11_road 63 = .ok (.sipush (-1004), 3) := by decide +kernel
theorem dX11_road_66 : decode cX11_road 66 = .ok (.ireturn, 1) := by decide +kernel
theorem dX11_road_67 : decode cX11_road 67 = .ok (.aload_n 0, 1) := by decide +kernel
theorem dX11_road_68 : decode cX11_road 68 = .ok (.getfield 81, 3) := by decide +kernel
theorem dX11_road_71 : decode cX11_road 71 = .ok (.aload_n 0, 1) := by decide +kernel
theorem dX11_road_72 : decode cX11_road 72 = .ok (.getfield 263, 3) := by decide +kernel
theorem dX11_road_75 : decode cX11_road 75 = .ok (.iload_n 1, 1) := by decide +kernel
theorem dX11_road_76 : decode cX11_road 76 = .ok (.iastore, 1) := by decide +kernel
theorem dX11_road_77 : decode cX11_road 77 = .ok (.aload_n 0, 1) := by decide +kernel
theorem dX11_road_78 : decode cX11_road 78 = .ok (.getfield 84, 3) := by decide +kernel
theorem dX11_road_81 : decode cX11_road 81 = .ok (.aload_n 0, 1) := by decide +kernel
theorem dX11_road_82 : decode cX11_road 82 = .ok (.getfield 263, 3) := by decide +kernel
theorem dX11_road_85 : decode cX11_road 85 = .ok (.iload_n 2, 1) := by decide +kernel
theorem dX11_road_86 : decode cX11_road 86 = .ok (.iastore, 1) := by decide +kernel
theorem dX11_road_87 : decode cX11_road 87 = .ok (.aload_n 0, 1) := by decide +kernel
theorem dX11_road_88 : decode cX11_road 88 = .ok (.getfield 87, 3) := by decide +kernel
theorem dX11_road_91 : decode cX11_road 91 = .ok (.aload_n 0, 1) := by decide +kernel
theorem dX11_road_92 : decode cX11_road 92 = .ok (.getfield 263, 3) := by decide +kernel
theorem dX11_road_95 : decode cX11_road 95 = .ok (.iload_n 3, 1) := by decide +kernel
theorem dX11_road_96 : decode cX11_road 96 = .ok (.iastore, 1) := by decide +kernel
theorem dX11_road_97 : decode cX11_road 97 = .ok (.aload_n 0, 1) := by decide +kernel
theorem dX11_road_98 : decode cX11_road 98 = .ok (.getfield 90, 3) := by decide +kernel
theorem dX11_road_101 : decode cX11_road 101 = .ok (.aload_n 0, 1) := by decide +kernel
theorem dX11_road_102 : decode cX11_road 102 = .ok (.getfield 263, 3) := by decide +kernel
theorem dX11_road_105 : decode cX11_road 105 = .ok (.iload 4, 2) := by decide +kernel
theorem dX11_road_107 : decode cX11_road 107 = .ok (.iastore, 1) := by decide +kernel
theorem dX11_road_108 : decode cX11_road 108 = .ok (.aload_n 0, 1) := by decide +kernel
theorem dX11_road_109 : decode cX11_road 109 = .ok (.dup, 1) := by decide +kernel
theorem dX11_road_110 : decode cX11_road 110 = .ok (.getfield 263, 3) := by decide +kernel
theorem dX11_road_113 : decode cX11_road 113 = .ok (.iconst 1, 1) := by decide +kernel
theorem dX11_road_114 : decode cX11_road 114 = .ok (.iadd, 1) := by decide +kernel
theorem dX11_road_115 : decode cX11_road 115 = .ok (.putfield 263, 3) := by decide +kernel
theorem dX11_road_118 : decode cX11_road 118 = .ok (.aload_n 0, 1) := by decide +kernel
theorem dX11_road_119 : decode cX11_road 119 = .ok (.getfield 263, 3) := by decide +kernel
theorem dX11_road_122 : decode cX11_road 122 = .ok (.iconst 1, 1) := by decide +kernel
theorem dX11_road_123 : decode cX11_road 123 = .ok (.isub, 1) := by decide +kernel
theorem dX11_road_124 : decode cX11_road 124 = .ok (.ireturn, 1) := by decide +kernel
theorem dX11_open_0 : decode cX11_open 0 = .ok (.iconst 0, 1) := by decide +kernel
theorem dX11_open_1 : decode cX11_open 1 = .ok (.istore 4, 2) := by decide +kernel
theorem dX11_open_3 : decode cX11_open 3 = .ok (.iload 4, 2) := by decide +kernel
theorem dX11_open_5 : decode cX11_open 5 = .ok (.aload_n 0, 1) := by decide +kernel
theorem dX11_open_6 : decode cX11_open 6 = .ok (.getfield 263, 3) := by decide +kernel
theorem dX11_open_9 : decode cX11_open 9 = .ok (.if_icmp .ge 51, 3) := by decide +kernel
theorem dX11_open_12 : decode cX11_open 12 = .ok (.aload_n 0, 1) := by decide +kernel
theorem dX11_open_13 : decode cX11_open 13 = .ok (.getfield 93, 3) := by decide +kernel
theorem dX11_open_16 : decode cX11_open 16 = .ok (.iload 4, 2) := by decide +kernel
theorem dX11_open_18 : decode cX11_open 18 = .ok (.iload_n 3, 1) := by decide +kernel
theorem dX11_open_19 : decode cX11_open 19 = .ok (.ifCond .ne 29, 3) := by decide +kernel
theorem dX11_open_22 : decode cX11_open 22 = .ok (.aload_n 0, 1) := by decide +kernel
theorem dX11_open_23 : decode cX11_open 23 = .ok (.getfield 90, 3) := by decide +kernel
theorem dX11_open_26 : decode cX11_open 26 = .ok (.iload 4, 2) := by decide +kernel
theorem dX11_open_28 : decode cX11_open 28 = .ok (.iaload, 1) := by decide +kernel
theorem dX11_open_29 : decode cX11_open 29 = .ok (.ifCond .lt 19, 3) := by decide +kernel
theorem dX11_open_32 : decode cX11_open 32 = .ok (.aload_n 0, 1) := by decide +kernel
theorem dX11_open_33 : decode cX11_open 33 = .ok (.aload_n 0, 1) := by decide +kernel
theorem dX11_open_34 : decode cX11_open 34 = .ok (.getfield 90, 3) := by decide +kernel
theorem dX11_open_37 : decode cX11_open 37 = .ok (.iload 4, 2) := by decide +kernel
theorem dX11_open_39 : decode cX11_open 39 = .ok (.iaload, 1) := by decide +kernel
theorem dX11_open_40 : decode cX11_open 40 = .ok (.iload_n 1, 1) := by decide +kernel
theorem dX11_open_41 : decode cX11_open 41 = .ok (.iload_n 2, 1) := by decide +kernel
theorem dX11_open_42 : decode cX11_open 42 = .ok (.invokevirtual 248, 3) := by decide +kernel
theorem dX11_open_45 : decode cX11_open 45 = .ok (.ifCond .ge 7, 3) := by decide +kernel
theorem dX11_open_48 : decode cX11_open 48 = .ok (.iconst 1, 1) := by decide +kernel
theorem dX11_open_49 : decode cX11_open 49 = .ok (.goto 4, 3) := by decide +kernel
theorem dX11_open_52 : decode cX11_open 52 = .ok (.iconst 0, 1) := by decide +kernel
theorem dX11_open_53 : decode cX11_open 53 = .ok (.bastore, 1) := by decide +kernel
theorem dX11_open_54 : decode cX11_open 54 = .ok (.iinc 4 1, 3) := by decide +kernel
theorem dX11_open_57 : decode cX11_open 57 = .ok (.goto (-54), 3) := by decide +kernel
theorem dX11_open_60 : decode cX11_open 60 = .ok (.return_, 1) := by decide +kernel
theorem dX11_beyond_0 : decode cX11_beyond 0 = .ok (.aload_n 0, 1) := by decide +kernel
theorem dX11_beyond_1 : decode cX11_beyond 1 = .ok (.getfield 81, 3) := by decide +kernel
theorem dX11_beyond_4 : decode cX11_beyond 4 = .ok (.iload_n 1, 1) := by decide +kernel
theorem dX11_beyond_5 : decode cX11_beyond 5 = .ok (.iaload, 1) := by decide +kernel
theorem dX11_beyond_6 : decode cX11_beyond 6 = .ok (.iload_n 2, 1) := by decide +kernel
theorem dX11_beyond_7 : decode cX11_beyond 7 = .ok (.if_icmp .ne 12, 3) := by decide +kernel
theorem dX11_beyond_10 : decode cX11_beyond 10 = .ok (.aload_n 0, 1) := by decide +kernel
theorem dX11_beyond_11 : decode cX11_beyond 11 = .ok (.getfield 84, 3) := by decide +kernel
theorem dX11_beyond_14 : decode cX11_beyond 14 = .ok (.iload_n 1, 1) := by decide +kernel
theorem dX11_beyond_15 : decode cX11_beyond 15 = .ok (.iaload, 1) := by decide +kernel
theorem dX11_beyond_16 : decode cX11_beyond 16 = .ok (.goto 23, 3) := by decide +kernel
theorem dX11_beyond_19 : decode cX11_beyond 19 = .ok (.aload_n 0, 1) := by decide +kernel
theorem dX11_beyond_20 : decode cX11_beyond 20 = .ok (.getfield 84, 3) := by decide +kernel
theorem dX11_beyond_23 : decode cX11_beyond 23 = .ok (.iload_n 1, 1) := by decide +kernel
theorem dX11_beyond_24 : decode cX11_beyond 24 = .ok (.iaload, 1) := by decide +kernel
theorem dX11_beyond_25 : decode cX11_beyond 25 = .ok (.iload_n 2, 1) := by decide +kernel
theorem dX11_beyond_26 : decode cX11_beyond 26 = .ok (.if_icmp .ne 12, 3) := by decide +kernel
theorem dX11_beyond_29 : decode cX11_beyond 29 = .ok (.aload_n 0, 1) := by decide +kernel
theorem dX11_beyond_30 : decode cX11_beyond 30 = .ok (.getfield 81, 3) := by decide +kernel
theorem dX11_beyond_33 : decode cX11_beyond 33 = .ok (.iload_n 1, 1) := by decide +kernel
theorem dX11_beyond_34 : decode cX11_beyond 34 = .ok (.iaload, 1) := by decide +kernel
theorem dX11_beyond_35 : decode cX11_beyond 35 = .ok (.goto 4, 3) := by decide +kernel
theorem dX11_beyond_38 : decode cX11_beyond 38 = .ok (.iconst (-1), 1) := by decide +kernel
theorem dX11_beyond_39 : decode cX11_beyond 39 = .ok (.ireturn, 1) := by decide +kernel
theorem dX11_findFar_0 : decode cX11_findFar 0 = .ok (.iconst 0, 1) := by decide +kernel
theorem dX11_findFar_1 : decode cX11_findFar 1 = .ok (.istore_n 2, 1) := by decide +kernel
theorem dX11_findFar_2 : decode cX11_findFar 2 = .ok (.iload_n 2, 1) := by decide +kernel
theorem dX11_findFar_3 : decode cX11_findFar 3 = .ok (.bipush 10, 2) := by decide +kernel
theorem dX11_findFar_5 : decode cX11_findFar 5 = .ok (.if_icmp .ge 32, 3) := by decide +kernel
theorem dX11_findFar_8 : decode cX11_findFar 8 = .ok (.aload_n 0, 1) := by decide +kernel
theorem dX11_findFar_9 : decode cX11_findFar 9 = .ok (.getfield 97, 3) := by decide +kernel
theorem dX11_findFar_12 : decode cX11_findFar 12 = .ok (.iload_n 2, 1) := by decide +kernel
theorem dX11_findFar_13 : decode cX11_findFar 13 = .ok (.iload_n 2, 1) := by decide +kernel
theorem dX11_findFar_14 : decode cX11_findFar 14 = .ok (.iload_n 1, 1) := by decide +kernel
theorem dX11_findFar_15 : decode cX11_findFar 15 = .ok (.if_icmp .ne 7, 3) := by decide +kernel
theorem dX11_findFar_18 : decode cX11_findFar 18 = .ok (.iconst 0, 1) := by decide +kernel
theorem dX11_findFar_19 : decode cX11_findFar 19 = .ok (.goto 4, 3) := by decide +kernel
theorem dX11_findFar_22 : decode cX11_findFar 22 = .ok (.iconst (-1), 1) := by decide +kernel
theorem dX11_findFar_23 : decode cX11_findFar 23 = .ok (.iastore, 1) := by decide +kernel
theorem dX11_findFar_24 : decode cX11_findFar 24 = .ok (.aload_n 0, 1) := by decide +kernel
theorem dX11_findFar_25 : decode cX11_findFar 25 = .ok (.getfield 100, 3) := by decide +kernel
theorem dX11_findFar_28 : decode cX11_findFar 28 = .ok (.iload_n 2, 1) := by decide +kernel
theorem dX11_findFar_29 : decode cX11_findFar 29 = .ok (.iconst 0, 1) := by decide +kernel
theorem dX11_findFar_30 : decode cX11_findFar 30 = .ok (.iastore, 1) := by decide +kernel
theorem dX11_findFar_31 : decode cX11_findFar 31 = .ok (.iinc 2 1, 3) := by decide +kernel
theorem dX11_findFar_34 : decode cX11_findFar 34 = .ok (.goto (-32), 3) := by decide +kernel
theorem dX11_findFar_37 : decode cX11_findFar 37 = .ok (.iconst 1, 1) := by decide +kernel
theorem dX11_findFar_38 : decode cX11_findFar 38 = .ok (.istore_n 2, 1) := by decide +kernel
theorem dX11_findFar_39 : decode cX11_findFar 39 = .ok (.iload_n 2, 1) := by decide +kernel
theorem dX11_findFar_40 : decode cX11_findFar 40 = .ok (.ifCond .eq 210, 3) := by decide +kernel
theorem dX11_findFar_43 : decode cX11_findFar 43 = .ok (.iconst 0, 1) := by decide +kernel
theorem dX11_findFar_44 : decode cX11_findFar 44 = .ok (.istore_n 2, 1) := by decide +kernel
theorem dX11_findFar_45 : decode cX11_findFar 45 = .ok (.iconst 0, 1) := by decide +kernel
theorem dX11_findFar_46 : decode cX11_findFar 46 = .ok (.istore_n 3, 1) := by decide +kernel
theorem dX11_findFar_47 : decode cX11_findFar 47 = .ok (.iload_n 3, 1) := by decide +kernel
theorem dX11_findFar_48 : decode cX11_findFar 48 = .ok (.aload_n 0, 1) := by decide +kernel
theorem dX11_findFar_49 : decode cX11_findFar 49 = .ok (.getfield 263, 3) := by decide +kernel
theorem dX11_findFar_52 : decode cX11_findFar 52 = .ok (.if_icmp .ge 195, 3) := by decide +kernel
theorem dX11_findFar_55 : decode cX11_findFar 55 = .ok (.iconst 0, 1) := by decide +kernel
theorem dX11_findFar_56 : decode cX11_findFar 56 = .ok (.istore 4, 2) := by decide +kernel
theorem dX11_findFar_58 : decode cX11_findFar 58 = .ok (.iload 4, 2) := by decide +kernel
theorem dX11_findFar_60 : decode cX11_findFar 60 = .ok (.iconst 2, 1) := by decide +kernel
theorem dX11_findFar_61 : decode cX11_findFar 61 = .ok (.if_icmp .ge 180, 3) := by decide +kernel
theorem dX11_findFar_64 : decode cX11_findFar 64 = .ok (.aload_n 0, 1) := by decide +kernel
theorem dX11_findFar_65 : decode cX11_findFar 65 = .ok (.getfield 93, 3) := by decide +kernel
theorem dX11_findFar_68 : decode cX11_findFar 68 = .ok (.iload_n 3, 1) := by decide +kernel
theorem dX11_findFar_69 : decode cX11_findFar 69 = .ok (.baload, 1) := by decide +kernel
theorem dX11_findFar_70 : decode cX11_findFar 70 = .ok (.ifCond .eq 171, 3) := by decide +kernel
theorem dX11_findFar_73 : decode cX11_findFar 73 = .ok (.iload 4, 2) := by decide +kernel
theorem dX11_findFar_75 : decode cX11_findFar 75 = .ok (.ifCond .ne 12, 3) := by decide +kernel
theorem dX11_findFar_78 : decode cX11_findFar 78 = .ok (.aload_n 0, 1) := by decide +kernel
theorem dX11_findFar_79 : decode cX11_findFar 79 = .ok (.getfield 81, 3) := by decide +kernel
theorem dX11_findFar_82 : decode cX11_findFar 82 = .ok (.iload_n 3, 1) := by decide +kernel
theorem dX11_findFar_83 : decode cX11_findFar 83 = .ok (.iaload, 1) := by decide +kernel
theorem dX11_findFar_84 : decode cX11_findFar 84 = .ok (.goto 9, 3) := by decide +kernel
theorem dX11_findFar_87 : decode cX11_findFar 87 = .ok (.aload_n 0, 1) := by decide +kernel
theorem dX11_findFar_88 : decode cX11_findFar 88 = .ok (.getfield 84, 3) := by decide +kernel
theorem dX11_findFar_91 : decode cX11_findFar 91 = .ok (.iload_n 3, 1) := by decide +kernel
theorem dX11_findFar_92 : decode cX11_findFar 92 = .ok (.iaload, 1) := by decide +kernel
theorem dX11_findFar_93 : decode cX11_findFar 93 = .ok (.istore 5, 2) := by decide +kernel
theorem dX11_findFar_95 : decode cX11_findFar 95 = .ok (.iload 4, 2) := by decide +kernel
theorem dX11_findFar_97 : decode cX11_findFar 97 = .ok (.ifCond .ne 12, 3) := by decide +kernel
theorem dX11_findFar_100 : decode cX11_findFar 100 = .ok (.aload_n 0, 1) := by decide +kernel
theorem dX11_findFar_101 : decode cX11_findFar 101 = .ok (.getfield 84, 3) := by decide +kernel
theorem dX11_findFar_104 : decode cX11_findFar 104 = .ok (.iload_n 3, 1) := by decide +kernel
theorem dX11_findFar_105 : decode cX11_findFar 105 = .ok (.iaload, 1) := by decide +kernel
theorem dX11_findFar_106 : decode cX11_findFar 106 = .ok (.goto 9, 3) := by decide +kernel
theorem dX11_findFar_109 : decode cX11_findFar 109 = .ok (.aload_n 0, 1) := by decide +kernel
theorem dX11_findFar_110 : decode cX11_findFar 110 = .ok (.getfield 81, 3) := by decide +kernel
theorem dX11_findFar_113 : decode cX11_findFar 113 = .ok (.iload_n 3, 1) := by decide +kernel
theorem dX11_findFar_114 : decode cX11_findFar 114 = .ok (.iaload, 1) := by decide +kernel
theorem dX11_findFar_115 : decode cX11_findFar 115 = .ok (.istore 6, 2) := by decide +kernel
theorem dX11_findFar_117 : decode cX11_findFar 117 = .ok (.aload_n 0, 1) := by decide +kernel
theorem dX11_findFar_118 : decode cX11_findFar 118 = .ok (.getfield 97, 3) := by decide +kernel
theorem dX11_findFar_121 : decode cX11_findFar 121 = .ok (.iload 5, 2) := by decide +kernel
theorem dX11_findFar_123 : decode cX11_findFar 123 = .ok (.iaload, 1) := by decide +kernel
theorem dX11_findFar_124 : decode cX11_findFar 124 = .ok (.aload_n 0, 1) := by decide +kernel
theorem dX11_findFar_125 : decode cX11_findFar 125 = .ok (.getfield 87, 3) := by decide +kernel
theorem dX11_findFar_128 : decode cX11_findFar 128 = .ok (.iload_n 3, 1) := by decide +kernel
theorem dX11_findFar_129 : decode cX11_findFar 129 = .ok (.iaload, 1) := by decide +kernel
theorem dX11_findFar_130 : decode cX11_findFar 130 = .ok (.iadd, 1) := by decide +kernel
theorem dX11_findFar_131 : decode cX11_findFar 131 = .ok (.istore 7, 2) := by decide +kernel
theorem dX11_findFar_133 : decode cX11_findFar 133 = .ok (.aload_n 0, 1) := by decide +kernel
theorem dX11_findFar_134 : decode cX11_findFar 134 = .ok (.getfield 97, 3) := by decide +kernel
theorem dX11_findFar_137 : decode cX11_findFar 137 = .ok (.iload 5, 2) := by decide +kernel
theorem dX11_findFar_139 : decode cX11_findFar 139 = .ok (.iaload, 1) := by decide +kernel
theorem dX11_findFar_140 : decode cX11_findFar 140 = .ok (.ifCond .lt 60, 3) := by decide +kernel
theorem dX11_findFar_143 : decode cX11_findFar 143 = .ok (.aload_n 0, 1) := by decide +kernel
theorem dX11_findFar_144 : decode cX11_findFar 144 = .ok (.getfield 97, 3) := by decide +kernel
theorem dX11_findFar_147 : decode cX11_findFar 147 = .ok (.iload 6, 2) := by decide +kernel
theorem dX11_findFar_149 : decode cX11_findFar 149 = .ok (.iaload, 1) := by decide +kernel
theorem dX11_findFar_150 : decode cX11_findFar 150 = .ok (.ifCond .lt 46, 3) := by decide +kernel
theorem dX11_findFar_153 : decode cX11_findFar 153 = .ok (.iload 7, 2) := by decide +kernel
theorem dX11_findFar_155 : decode cX11_findFar 155 = .ok (.aload_n 0, 1) := by decide +kernel
theorem dX11_findFar_156 : decode cX11_findFar 156 = .ok (.getfield 97, 3) := by decide +kernel
theorem dX11_findFar_159 : decode cX11_findFar 159 = .ok (.iload 6, 2) := by decide +kernel
theorem dX11_findFar_161 : decode cX11_findFar 161 = .ok (.iaload, 1) := by decide +kernel
theorem dX11_findFar_162 : decode cX11_findFar 162 = .ok (.if_icmp .lt 34, 3) := by decide +kernel
theorem dX11_findFar_165 : decode cX11_findFar 165 = .ok (.iload 7, 2) := by decide +kernel
theorem dX11_findFar_167 : decode cX11_findFar 167 = .ok (.aload_n 0, 1) := by decide +kernel
theorem dX11_findFar_168 : decode cX11_findFar 168 = .ok (.getfield 97, 3) := by decide +kernel
theorem dX11_findFar_171 : decode cX11_findFar 171 = .ok (.iload 6, 2) := by decide +kernel
theorem dX11_findFar_173 : decode cX11_findFar 173 = .ok (.iaload, 1) := by decide +kernel
theorem dX11_findFar_174 : decode cX11_findFar 174 = .ok (.if_icmp .ne 26, 3) := by decide +kernel
theorem dX11_findFar_177 : decode cX11_findFar 177 = .ok (.aload_n 0, 1) := by decide +kernel
theorem dX11_findFar_178 : decode cX11_findFar 178 = .ok (.getfield 100, 3) := by decide +kernel
theorem dX11_findFar_181 : decode cX11_findFar 181 = .ok (.iload 5, 2) := by decide +kernel
theorem dX11_findFar_183 : decode cX11_findFar 183 = .ok (.iaload, 1) := by decide +kernel
theorem dX11_findFar_184 : decode cX11_findFar 184 = .ok (.iconst 1, 1) := by decide +kernel
theorem dX11_findFar_185 : decode cX11_findFar 185 = .ok (.iadd, 1) := by decide +kernel
theorem dX11_findFar_186 : decode cX11_findFar 186 = .ok (.aload_n 0, 1) := by decide +kernel
theorem dX11_findFar_187 : decode cX11_findFar 187 = .ok (.getfield 100, 3) := by decide +kernel
theorem dX11_findFar_190 : decode cX11_findFar 190 = .ok (.iload 6, 2) := by decide +kernel
theorem dX11_findFar_192 : decode cX11_findFar 192 = .ok (.iaload, 1) := by decide +kernel
theorem dX11_findFar_193 : decode cX11_findFar 193 = .ok (.if_icmp .ge 7, 3) := by decide +kernel
theorem dX11_findFar_196 : decode cX11_findFar 196 = .ok (.iconst 1, 1) := by decide +kernel
theorem dX11_findFar_197 : decode cX11_findFar 197 = .ok (.goto 4, 3) := by decide +kernel
theorem dX11_findFar_200 : decode cX11_findFar 200 = .ok (.iconst 0, 1) := by decide +kernel
theorem dX11_findFar_201 : decode cX11_findFar 201 = .ok (.istore 8, 2) := by decide +kernel
theorem dX11_findFar_203 : decode cX11_findFar 203 = .ok (.iload 8, 2) := by decide +kernel
theorem dX11_findFar_205 : decode cX11_findFar 205 = .ok (.ifCond .eq 30, 3) := by decide +kernel
theorem dX11_findFar_208 : decode cX11_findFar 208 = .ok (.aload_n 0, 1) := by decide +kernel
theorem dX11_findFar_209 : decode cX11_findFar 209 = .ok (.getfield 97, 3) := by decide +kernel
theorem dX11_findFar_212 : decode cX11_findFar 212 = .ok (.iload 6, 2) := by decide +kernel
theorem dX11_findFar_214 : decode cX11_findFar 214 = .ok (.iload 7, 2) := by decide +kernel
theorem dX11_findFar_216 : decode cX11_findFar 216 = .ok (.iastore, 1) := by decide +kernel
theorem dX11_findFar_217 : decode cX11_findFar 217 = .ok (.aload_n 0, 1) := by decide +kernel
theorem dX11_findFar_218 : decode cX11_findFar 218 = .ok (.getfield 100, 3) := by decide +kernel
theorem dX11_findFar_221 : decode cX11_findFar 221 = .ok (.iload 6, 2) := by decide +kernel
theorem dX11_findFar_223 : decode cX11_findFar 223 = .ok (.aload_n 0, 1) := by decide +kernel
theorem dX11_findFar_224 : decode cX11_findFar 224 = .ok (.getfield 100, 3) := by decide +kernel
theorem dX11_findFar_227 : decode cX11_findFar 227 = .ok (.iload 5, 2) := by decide +kernel
theorem dX11_findFar_229 : decode cX11_findFar 229 = .ok (.iaload, 1) := by decide +kernel
theorem dX11_findFar_230 : decode cX11_findFar 230 = .ok (.iconst 1, 1) := by decide +kernel
theorem dX11_findFar_231 : decode cX11_findFar 231 = .ok (.iadd, 1) := by decide +kernel
theorem dX11_findFar_232 : decode cX11_findFar 232 = .ok (.iastore, 1) := by decide +kernel
theorem dX11_findFar_233 : decode cX11_findFar 233 = .ok (.iconst 1, 1) := by decide +kernel
theorem dX11_findFar_234 : decode cX11_findFar 234 = .ok (.istore_n 2, 1) := by decide +kernel
theorem dX11_findFar_235 : decode cX11_findFar 235 = .ok (.iinc 4 1, 3) := by decide +kernel
theorem dX11_findFar_238 : decode cX11_findFar 238 = .ok (.goto (-180), 3) := by decide +kernel
theorem dX11_findFar_241 : decode cX11_findFar 241 = .ok (.iinc 3 1, 3) := by decide +kernel
theorem dX11_findFar_244 : decode cX11_findFar 244 = .ok (.goto (-197), 3) := by decide +kernel
theorem dX11_findFar_247 : decode cX11_findFar 247 = .ok (.goto (-208), 3) := by decide +kernel
theorem dX11_findFar_250 : decode cX11_findFar 250 = .ok (.return_, 1) := by decide +kernel
theorem dX11_layRoute_0 : decode cX11_layRoute 0 = .ok (.aload_n 0, 1) := by decide +kernel
theorem dX11_layRoute_1 : decode cX11_layRoute 1 = .ok (.iload_n 2, 1) := by decide +kernel
theorem dX11_layRoute_2 : decode cX11_layRoute 2 = .ok (.invokevirtual 266, 3) := by decide +kernel
theorem dX11_layRoute_5 : decode cX11_layRoute 5 = .ok (.aload_n 0, 1) := by decide +kernel
theorem dX11_layRoute_6 : decode cX11_layRoute 6 = .ok (.getfield 97, 3) := by decide +kernel
theorem dX11_layRoute_9 : decode cX11_layRoute 9 = .ok (.iload_n 1, 1) := by decide +kernel
theorem dX11_layRoute_10 : decode cX11_layRoute 10 = .ok (.iaload, 1) := by decide +kernel
theorem dX11_layRoute_11 : decode cX11_layRoute 11 = .ok (.ifCond .ge 5, 3) := by decide +kernel
theorem dX11_layRoute_14 : decode cX11_layRoute 14 = .ok (.iconst (-1), 1) := by decide +kernel
theorem dX11_layRoute_15 : decode cX11_layRoute 15 = .ok (.ireturn, 1) := by decide +kernel
theorem dX11_layRoute_16 : decode cX11_layRoute 16 = .ok (.iload_n 1, 1) := by decide +kernel
theorem dX11_layRoute_17 : decode cX11_layRoute 17 = .ok (.istore_n 3, 1) := by decide +kernel
theorem dX11_layRoute_18 : decode cX11_layRoute 18 = .ok (.iconst 0, 1) := by decide +kernel
theorem dX11_layRoute_19 : decode cX11_layRoute 19 = .ok (.istore 4, 2) := by decide +kernel
theorem dX11_layRoute_21 : decode cX11_layRoute 21 = .ok (.iload_n 3, 1) := by decide +kernel
theorem dX11_layRoute_22 : decode cX11_layRoute 22 = .ok (.iload_n 2, 1) := by decide +kernel
theorem dX11_layRoute_23 : decode cX11_layRoute 23 = .ok (.if_icmp .eq 142, 3) := by decide +kernel
theorem dX11_layRoute_26 : decode cX11_layRoute 26 = .ok (.iconst 0, 1) := by decide +kernel
theorem dX11_layRoute_27 : decode cX11_layRoute 27 = .ok (.istore 5, 2) := by decide +kernel
theorem dX11_layRoute_29 : decode cX11_layRoute 29 = .ok (.iconst 0, 1) := by decide +kernel
theorem dX11_layRoute_30 : decode cX11_layRoute 30 = .ok (.istore 6, 2) := by decide +kernel
theorem dX11_layRoute_32 : decode cX11_layRoute 32 = .ok (.iload 6, 2) := by decide +kernel
theorem dX11_layRoute_34 : decode cX11_layRoute 34 = .ok (.ifCond .ne 108, 3) := by decide +kernel
theorem dX11_layRoute_37 : decode cX11_layRoute 37 = .ok (.aload_n 0, 1) := by decide +kernel
theorem dX11_layRoute_38 : decode cX11_layRoute 38 = .ok (.getfield 93, 3) := by decide +kernel
theorem dX11_layRoute_41 : decode cX11_layRoute 41 = .ok (.iload 5, 2) := by decide +kernel
theorem dX11_layRoute_43 : decode cX11_layRoute 43 = .ok (.baload, 1) := by decide +kernel
theorem dX11_layRoute_44 : decode cX11_layRoute 44 = .ok (.ifCond .eq 13, 3) := by decide +kernel
theorem dX11_layRoute_47 : decode cX11_layRoute 47 = .ok (.aload_n 0, 1) := by decide +kernel
theorem dX11_layRoute_48 : decode cX11_layRoute 48 = .ok (.iload 5, 2) := by decide +kernel
theorem dX11_layRoute_50 : decode cX11_layRoute 50 = .ok (.iload_n 3, 1) := by decide +kernel
theorem dX11_layRoute_51 : decode cX11_layRoute 51 = .ok (.invokevirtual 270, 3) := by decide +kernel
theorem dX11_layRoute_54 : decode cX11_layRoute 54 = .ok (.goto 4, 3) := by decide +kernel
theorem dX11_layRoute_57 : decode cX11_layRoute 57 = .ok (.iconst (-1), 1) := by decide +kernel
theorem dX11_layRoute_58 : decode cX11_layRoute 58 = .ok (.istore 7, 2) := by decide +kernel
theorem dX11_layRoute_60 : decode cX11_layRoute 60 = .ok (.iload 7, 2) := by decide +kernel
theorem dX11_layRoute_62 : decode cX11_layRoute 62 = .ok (.ifCond .lt 59, 3) := by decide +kernel
theorem dX11_layRoute_65 : decode cX11_layRoute 65 = .ok (.aload_n 0, 1) := by decide +kernel
theorem dX11_layRoute_66 : decode cX11_layRoute 66 = .ok (.getfield 97, 3) := by decide +kernel
theorem dX11_layRoute_69 : decode cX11_layRoute 69 = .ok (.iload 7, 2) := by decide +kernel
theorem dX11_layRoute_71 : decode cX11_layRoute 71 = .ok (.iaload, 1) := by decide +kernel
theorem dX11_layRoute_72 : decode cX11_layRoute 72 = .ok (.ifCond .lt 49, 3) := by decide +kernel
theorem dX11_layRoute_75 : decode cX11_layRoute 75 = .ok (.aload_n 0, 1) := by decide +kernel
theorem dX11_layRoute_76 : decode cX11_layRoute 76 = .ok (.getfield 97, 3) := by decide +kernel
theorem dX11_layRoute_79 : decode cX11_layRoute 79 = .ok (.iload 7, 2) := by decide +kernel
theorem dX11_layRoute_81 : decode cX11_layRoute 81 = .ok (.iaload, 1) := by decide +kernel
theorem dX11_layRoute_82 : decode cX11_layRoute 82 = .ok (.aload_n 0, 1) := by decide +kernel
theorem dX11_layRoute_83 : decode cX11_layRoute 83 = .ok (.getfield 87, 3) := by decide +kernel
theorem dX11_layRoute_86 : decode cX11_layRoute 86 = .ok (.iload 5, 2) := by decide +kernel
theorem dX11_layRoute_88 : decode cX11_layRoute 88 = .ok (.iaload, 1) := by decide +kernel
theorem dX11_layRoute_89 : decode cX11_layRoute 89 = .ok (.iadd, 1) := by decide +kernel
theorem dX11_layRoute_90 : decode cX11_layRoute 90 = .ok (.aload_n 0, 1) := by decide +kernel
theorem dX11_layRoute_91 : decode cX11_layRoute 91 = .ok (.getfield 97, 3) := by decide +kernel
theorem dX11_layRoute_94 : decode cX11_layRoute 94 = .ok (.iload_n 3, 1) := by decide +kernel
theorem dX11_layRoute_95 : decode cX11_layRoute 95 = .ok (.iaload, 1) := by decide +kernel
theorem dX11_layRoute_96 : decode cX11_layRoute 96 = .ok (.if_icmp .ne 25, 3) := by decide +kernel
theorem dX11_layRoute_99 : decode cX11_layRoute 99 = .ok (.aload_n 0, 1) := by decide +kernel
theorem dX11_layRoute_100 : decode cX11_layRoute 100 = .ok (.getfield 100, 3) := by decide +kernel
theorem dX11_layRoute_103 : decode cX11_layRoute 103 = .ok (.iload 7, 2) := by decide +kernel
theorem dX11_layRoute_105 : decode cX11_layRoute 105 = .ok (.iaload, 1) := by decide +kernel
theorem dX11_layRoute_106 : decode cX11_layRoute 106 = .ok (.iconst 1, 1) := by decide +kernel
theorem dX11_layRoute_107 : decode cX11_layRoute 107 = .ok (.iadd, 1) := by decide +kernel
theorem dX11_layRoute_108 : decode cX11_layRoute 108 = .ok (.aload_n 0, 1) := by decide +kernel
theorem dX11_layRoute_109 : decode cX11_layRoute 109 = .ok (.getfield 100, 3) := by decide +kernel
theorem dX11_layRoute_112 : decode cX11_layRoute 112 = .ok (.iload_n 3, 1) := by decide +kernel
theorem dX11_layRoute_113 : decode cX11_layRoute 113 = .ok (.iaload, 1) := by decide +kernel
theorem dX11_layRoute_114 : decode cX11_layRoute 114 = .ok (.if_icmp .ne 7, 3) := by decide +kernel
theorem dX11_layRoute_117 : decode cX11_layRoute 117 = .ok (.iconst 1, 1) := by decide +kernel
theorem dX11_layRoute_118 : decode cX11_layRoute 118 = .ok (.goto 4, 3) := by decide +kernel
theorem dX11_layRoute_121 : decode cX11_layRoute 121 = .ok (.iconst 0, 1) := by decide +kernel
theorem dX11_layRoute_122 : decode cX11_layRoute 122 = .ok (.istore 6, 2) := by decide +kernel
theorem dX11_layRoute_124 : decode cX11_layRoute 124 = .ok (.iload 5, 2) := by decide +kernel
theorem dX11_layRoute_126 : decode cX11_layRoute 126 = .ok (.iload 6, 2) := by decide +kernel
theorem dX11_layRoute_128 : decode cX11_layRoute 128 = .ok (.ifCond .eq 7, 3) := by decide +kernel
theorem dX11_layRoute_131 : decode cX11_layRoute 131 = .ok (.iconst 0, 1) := by decide +kernel
theorem dX11_layRoute_132 : decode cX11_layRoute 132 = .ok (.goto 4, 3) := by decide +kernel
theorem dX11_layRoute_135 : decode cX11_layRoute 135 = .ok (.iconst 1, 1) := by decide +kernel
theorem dX11_layRoute_136 : decode cX11_layRoute 136 = .ok (.iadd, 1) := by decide +kernel
theorem dX11_layRoute_137 : decode cX11_layRoute 137 = .ok (.istore 5, 2) := by decide +kernel
theorem dX11_layRoute_139 : decode cX11_layRoute 139 = .ok (.goto (-107), 3) := by decide +kernel
theorem dX11_layRoute_142 : decode cX11_layRoute 142 = .ok (.aload_n 0, 1) := by decide +kernel
theorem dX11_layRoute_143 : decode cX11_layRoute 143 = .ok (.getfield 103, 3) := by decide +kernel
theorem dX11_layRoute_146 : decode cX11_layRoute 146 = .ok (.iload 4, 2) := by decide +kernel
theorem dX11_layRoute_148 : decode cX11_layRoute 148 = .ok (.iload 5, 2) := by decide +kernel
theorem dX11_layRoute_150 : decode cX11_layRoute 150 = .ok (.iastore, 1) := by decide +kernel
theorem dX11_layRoute_151 : decode cX11_layRoute 151 = .ok (.iinc 4 1, 3) := by decide +kernel
theorem dX11_layRoute_154 : decode cX11_layRoute 154 = .ok (.aload_n 0, 1) := by decide +kernel
theorem dX11_layRoute_155 : decode cX11_layRoute 155 = .ok (.iload 5, 2) := by decide +kernel
theorem dX11_layRoute_157 : decode cX11_layRoute 157 = .ok (.iload_n 3, 1) := by decide +kernel
theorem dX11_layRoute_158 : decode cX11_layRoute 158 = .ok (.invokevirtual 270, 3) := by decide +kernel
theorem dX11_layRoute_161 : decode cX11_layRoute 161 = .ok (.istore_n 3, 1) := by decide +kernel
theorem dX11_layRoute_162 : decode cX11_layRoute 162 = .ok (.goto (-141), 3) := by decide +kernel
theorem dX11_layRoute_165 : decode cX11_layRoute 165 = .ok (.iload 4, 2) := by decide +kernel
theorem dX11_layRoute_167 : decode cX11_layRoute 167 = .ok (.ireturn, 1) := by decide +kernel
theorem dX11_route_0 : decode cX11_route 0 = .ok (.aload_n 0, 1) := by decide +kernel
theorem dX11_route_1 : decode cX11_route 1 = .ok (.iload_n 1, 1) := by decide +kernel
theorem dX11_route_2 : decode cX11_route 2 = .ok (.invokevirtual 190, 3) := by decide +kernel
theorem dX11_route_5 : decode cX11_route 5 = .ok (.ifCond .ne 18, 3) := by decide +kernel
theorem dX11_route_8 : decode cX11_route 8 = .ok (.iload_n 3, 1) := by decide +kernel
theorem dX11_route_9 : decode cX11_route 9 = .ok (.invokestatic 258, 3) := by decide +kernel
theorem dX11_route_12 : decode cX11_route 12 = .ok (.ifCond .eq 11, 3) := by decide +kernel
theorem dX11_route_15 : decode cX11_route 15 = .ok (.iload 4, 2) := by decide +kernel
theorem dX11_route_17 : decode cX11_route 17 = .ok (.invokestatic 258, 3) := by decide +kernel
theorem dX11_route_20 : decode cX11_route 20 = .ok (.ifCond .ne 7, 3) := by decide +kernel
theorem dX11_route_23 : decode cX11_route 23 = .ok (.sipush (-1001), 3) := by decide +kernel
theorem dX11_route_26 : decode cX11_route 26 = .ok (.ireturn, 1) := by decide +kernel
theorem dX11_route_27 : decode cX11_route 27 = .ok (.iload_n 2, 1) := by decide +kernel
theorem dX11_route_28 : decode cX11_route 28 = .ok (.invokestatic 236, 3) := by decide +kernel
theorem dX11_route_31 : decode cX11_route 31 = .ok (.ifCond .eq 22, 3) := by decide +kernel
theorem dX11_route_34 : decode cX11_route 34 = .ok (.iload 5, 2) := by decide +kernel
theorem dX11_route_36 : decode cX11_route 36 = .ok (.i2l, 1) := by decide +kernel
theorem dX11_route_37 : decode cX11_route 37 = .ok (.lconst 0, 1) := by decide +kernel
theorem dX11_route_38 : decode cX11_route 38 = .ok (.ldc2_w 273, 3) := by decide +kernel
theorem dX11_route_41 : decode cX11_route 41 = .ok (.invokestatic 133, 3) := by decide +kernel
theorem dX11_route_44 : decode cX11_route 44 = .ok (.ifCond .eq 9, 3) := by decide +kernel
theorem dX11_route_47 : decode cX11_route 47 = .ok (.iload_n 3, 1) := by decide +kernel
theorem dX11_route_48 : decode cX11_route 48 = .ok (.iload 4, 2) := by decide +kernel
theorem dX11_route_50 : decode cX11_route 50 = .ok (.if_icmp .ne 7, 3) := by decide +kernel
theorem dX11_route_53 : decode cX11_route 53 = .ok (.sipush (-1002), 3) := by decide +kernel
theorem dX11_route_56 : decode cX11_route 56 = .ok (.ireturn, 1) := by decide +kernel
theorem dX11_route_57 : decode cX11_route 57 = .ok (.aload_n 0, 1) := by decide +kernel
theorem dX11_route_58 : decode cX11_route 58 = .ok (.iload_n 1, 1) := by decide +kernel
theorem dX11_route_59 : decode cX11_route 59 = .ok (.iload_n 2, 1) := by decide +kernel
theorem dX11_route_60 : decode cX11_route 60 = .ok (.iconst 0, 1) := by decide +kernel
theorem dX11_route_61 : decode cX11_route 61 = .ok (.invokevirtual 275, 3) := by decide +kernel
theorem dX11_route_64 : decode cX11_route 64 = .ok (.aload_n 0, 1) := by decide +kernel
theorem dX11_route_65 : decode cX11_route 65 = .ok (.iload_n 3, 1) := by decide +kernel
theorem dX11_route_66 : decode cX11_route 66 = .ok (.iload 4, 2) := by decide +kernel
theorem dX11_route_68 : decode cX11_route 68 = .ok (.invokevirtual 279, 3) := by decide +kernel
theorem dX11_route_71 : decode cX11_route 71 = .ok (.istore 6, 2) := by decide +kernel
theorem dX11_route_73 : decode cX11_route 73 = .ok (.iload 6, 2) := by decide +kernel
theorem dX11_route_75 : decode cX11_route 75 = .ok (.ifCond .ge 5, 3) := by decide +kernel
theorem dX11_route_78 : decode cX11_route 78 = .ok (.iconst (-1), 1) := by decide +kernel
theorem dX11_route_79 : decode cX11_route 79 = .ok (.ireturn, 1) := by decide +kernel
theorem dX11_route_80 : decode cX11_route 80 = .ok (.iload 5, 2) := by decide +kernel
theorem dX11_route_82 : decode cX11_route 82 = .ok (.ifCond .ne 12, 3) := by decide +kernel
theorem dX11_route_85 : decode cX11_route 85 = .ok (.aload_n 0, 1) := by decide +kernel
theorem dX11_route_86 : decode cX11_route 86 = .ok (.getfield 97, 3) := by decide +kernel
theorem dX11_route_89 : decode cX11_route 89 = .ok (.iload_n 3, 1) := by decide +kernel
theorem dX11_route_90 : decode cX11_route 90 = .ok (.iaload, 1) := by decide +kernel
theorem dX11_route_91 : decode cX11_route 91 = .ok (.goto 36, 3) := by decide +kernel
theorem dX11_route_94 : decode cX11_route 94 = .ok (.iload 5, 2) := by decide +kernel
theorem dX11_route_96 : decode cX11_route 96 = .ok (.iconst 1, 1) := by decide +kernel
theorem dX11_route_97 : decode cX11_route 97 = .ok (.if_icmp .ne 8, 3) := by decide +kernel
theorem dX11_route_100 : decode cX11_route 100 = .ok (.iload 6, 2) := by decide +kernel
theorem dX11_route_102 : decode cX11_route 102 = .ok (.goto 25, 3) := by decide +kernel
theorem dX11_route_105 : decode cX11_route 105 = .ok (.iload 5, 2) := by decide +kernel
theorem dX11_route_107 : decode cX11_route 107 = .ok (.iconst 2, 1) := by decide +kernel
theorem dX11_route_108 : decode cX11_route 108 = .ok (.isub, 1) := by decide +kernel
theorem dX11_route_109 : decode cX11_route 109 = .ok (.iload 6, 2) := by decide +kernel
theorem dX11_route_111 : decode cX11_route 111 = .ok (.if_icmp .ge 15, 3) := by decide +kernel
theorem dX11_route_114 : decode cX11_route 114 = .ok (.aload_n 0, 1) := by decide +kernel
theorem dX11_route_115 : decode cX11_route 115 = .ok (.getfield 103, 3) := by decide +kernel
theorem dX11_route_118 : decode cX11_route 118 = .ok (.iload 5, 2) := by decide +kernel
theorem dX11_route_120 : decode cX11_route 120 = .ok (.iconst 2, 1) := by decide +kernel
theorem dX11_route_121 : decode cX11_route 121 = .ok (.isub, 1) := by decide +kernel
theorem dX11_route_122 : decode cX11_route 122 = .ok (.iaload, 1) := by decide +kernel
theorem dX11_route_123 : decode cX11_route 123 = .ok (.goto 4, 3) := by decide +kernel
theorem dX11_route_126 : decode cX11_route 126 = .ok (.iconst (-1), 1) := by decide +kernel
theorem dX11_route_127 : decode cX11_route 127 = .ok (.ireturn, 1) := by decide +kernel
theorem dX11_why_0 : decode cX11_why 0 = .ok (.aload_n 0, 1) := by decide +kernel
theorem dX11_why_1 : decode cX11_why 1 = .ok (.iload_n 1, 1) := by decide +kernel
theorem dX11_why_2 : decode cX11_why 2 = .ok (.invokevirtual 190, 3) := by decide +kernel
theorem dX11_why_5 : decode cX11_why 5 = .ok (.ifCond .ne 18, 3) := by decide +kernel
theorem dX11_why_8 : decode cX11_why 8 = .ok (.iload_n 3, 1) := by decide +kernel
theorem dX11_why_9 : decode cX11_why 9 = .ok (.invokestatic 258, 3) := by decide +kernel
theorem dX11_why_12 : decode cX11_why 12 = .ok (.ifCond .eq 11, 3) := by decide +kernel
theorem dX11_why_15 : decode cX11_why 15 = .ok (.iload 4, 2) := by decide +kernel
theorem dX11_why_17 : decode cX11_why 17 = .ok (.invokestatic 258, 3) := by decide +kernel
theorem dX11_why_20 : decode cX11_why 20 = .ok (.ifCond .ne 7, 3) := by decide +kernel
theorem dX11_why_23 : decode cX11_why 23 = .ok (.sipush (-1001), 3) := by decide +kernel
theorem dX11_why_26 : decode cX11_why 26 = .ok (.ireturn, 1) := by decide +kernel
theorem dX11_why_27 : decode cX11_why 27 = .ok (.iload_n 2, 1) := by decide +kernel
theorem dX11_why_28 : decode cX11_why 28 = .ok (.invokestatic 236, 3) := by decide +kernel
theorem dX11_why_31 : decode cX11_why 31 = .ok (.ifCond .eq 9, 3) := by decide +kernel
theorem dX11_why_34 : decode cX11_why 34 = .ok (.iload_n 3, 1) := by decide +kernel
theorem dX11_why_35 : decode cX11_why 35 = .ok (.iload 4, 2) := by decide +kernel
theorem dX11_why_37 : decode cX11_why 37 = .ok (.if_icmp .ne 7, 3) := by decide +kernel
theorem dX11_why_40 : decode cX11_why 40 = .ok (.sipush (-1002), 3) := by decide +kernel
theorem dX11_why_43 : decode cX11_why 43 = .ok (.ireturn, 1) := by decide +kernel
theorem dX11_why_44 : decode cX11_why 44 = .ok (.aload_n 0, 1) := by decide +kernel
theorem dX11_why_45 : decode cX11_why 45 = .ok (.iload_n 1, 1) := by decide +kernel
theorem dX11_why_46 : decode cX11_why 46 = .ok (.iload_n 2, 1) := by decide +kernel
theorem dX11_why_47 : decode cX11_why 47 = .ok (.iconst 0, 1) := by decide +kernel
theorem dX11_why_48 : decode cX11_why 48 = .ok (.invokevirtual 275, 3) := by decide +kernel
theorem dX11_why_51 : decode cX11_why 51 = .ok (.aload_n 0, 1) := by decide +kernel
theorem dX11_why_52 : decode cX11_why 52 = .ok (.iload_n 3, 1) := by decide +kernel
theorem dX11_why_53 : decode cX11_why 53 = .ok (.iload 4, 2) := by decide +kernel
theorem dX11_why_55 : decode cX11_why 55 = .ok (.invokevirtual 279, 3) := by decide +kernel
theorem dX11_why_58 : decode cX11_why 58 = .ok (.ifCond .lt 5, 3) := by decide +kernel
theorem dX11_why_61 : decode cX11_why 61 = .ok (.iconst (-1), 1) := by decide +kernel
theorem dX11_why_62 : decode cX11_why 62 = .ok (.ireturn, 1) := by decide +kernel
theorem dX11_why_63 : decode cX11_why 63 = .ok (.aload_n 0, 1) := by decide +kernel
theorem dX11_why_64 : decode cX11_why 64 = .ok (.iload_n 1, 1) := by decide +kernel
theorem dX11_why_65 : decode cX11_why 65 = .ok (.iload_n 2, 1) := by decide +kernel
theorem dX11_why_66 : decode cX11_why 66 = .ok (.iconst 1, 1) := by decide +kernel
theorem dX11_why_67 : decode cX11_why 67 = .ok (.invokevirtual 275, 3) := by decide +kernel
theorem dX11_why_70 : decode cX11_why 70 = .ok (.aload_n 0, 1) := by decide +kernel
theorem dX11_why_71 : decode cX11_why 71 = .ok (.iload_n 3, 1) := by decide +kernel
theorem dX11_why_72 : decode cX11_why 72 = .ok (.iload 4, 2) := by decide +kernel
theorem dX11_why_74 : decode cX11_why 74 = .ok (.invokevirtual 279, 3) := by decide +kernel
theorem dX11_why_77 : decode cX11_why 77 = .ok (.istore 5, 2) := by decide +kernel
theorem dX11_why_79 : decode cX11_why 79 = .ok (.iconst 0, 1) := by decide +kernel
theorem dX11_why_80 : decode cX11_why 80 = .ok (.istore 6, 2) := by decide +kernel
theorem dX11_why_82 : decode cX11_why 82 = .ok (.iload 6, 2) := by decide +kernel
theorem dX11_why_84 : decode cX11_why 84 = .ok (.iload 5, 2) := by decide +kernel
theorem dX11_why_86 : decode cX11_why 86 = .ok (.if_icmp .ge 56, 3) := by decide +kernel
theorem dX11_why_89 : decode cX11_why 89 = .ok (.aload_n 0, 1) := by decide +kernel
theorem dX11_why_90 : decode cX11_why 90 = .ok (.getfield 90, 3) := by decide +kernel
theorem dX11_why_93 : decode cX11_why 93 = .ok (.aload_n 0, 1) := by decide +kernel
theorem dX11_why_94 : decode cX11_why 94 = .ok (.getfield 103, 3) := by decide +kernel
theorem dX11_why_97 : decode cX11_why 97 = .ok (.iload 6, 2) := by decide +kernel
theorem dX11_why_99 : decode cX11_why 99 = .ok (.iaload, 1) := by decide +kernel
theorem dX11_why_100 : decode cX11_why 100 = .ok (.iaload, 1) := by decide +kernel
theorem dX11_why_101 : decode cX11_why 101 = .ok (.istore 7, 2) := by decide +kernel
theorem dX11_why_103 : decode cX11_why 103 = .ok (.iload 7, 2) := by decide +kernel
theorem dX11_why_105 : decode cX11_why 105 = .ok (.ifCond .ge 7, 3) := by decide +kernel
theorem dX11_why_108 : decode cX11_why 108 = .ok (.iconst (-1), 1) := by decide +kernel
theorem dX11_why_109 : decode cX11_why 109 = .ok (.goto 11, 3) := by decide +kernel
theorem dX11_why_112 : decode cX11_why 112 = .ok (.aload_n 0, 1) := by decide +kernel
theorem dX11_why_113 : decode cX11_why 113 = .ok (.iload 7, 2) := by decide +kernel
theorem dX11_why_115 : decode cX11_why 115 = .ok (.iload_n 1, 1) := by decide +kernel
theorem dX11_why_116 : decode cX11_why 116 = .ok (.iload_n 2, 1) := by decide +kernel
theorem dX11_why_117 : decode cX11_why 117 = .ok (.invokevirtual 248, 3) := by decide +kernel
theorem dX11_why_120 : decode cX11_why 120 = .ok (.istore 8, 2) := by decide +kernel
theorem dX11_why_122 : decode cX11_why 122 = .ok (.iload 8, 2) := by decide +kernel
theorem dX11_why_124 : decode cX11_why 124 = .ok (.ifCond .lt 12, 3) := by decide +kernel
theorem dX11_why_127 : decode cX11_why 127 = .ok (.bipush 10, 2) := by decide +kernel
theorem dX11_why_129 : decode cX11_why 129 = .ok (.iload 7, 2) := by decide +kernel
theorem dX11_why_131 : decode cX11_why 131 = .ok (.imul, 1) := by decide +kernel
theorem dX11_why_132 : decode cX11_why 132 = .ok (.iload 8, 2) := by decide +kernel
theorem dX11_why_134 : decode cX11_why 134 = .ok (.iadd, 1) := by decide +kernel
theorem dX11_why_135 : decode cX11_why 135 = .ok (.ireturn, 1) := by decide +kernel
theorem dX11_why_136 : decode cX11_why 136 = .ok (.iinc 6 1, 3) := by decide +kernel
theorem dX11_why_139 : decode cX11_why 139 = .ok (.goto (-57), 3) := by decide +kernel
theorem dX11_why_142 : decode cX11_why 142 = .ok (.iconst (-1), 1) := by decide +kernel
theorem dX11_why_143 : decode cX11_why 143 = .ok (.ireturn, 1) := by decide +kernel
theorem dX11_out_0 : decode cX11_out 0 = .ok (.iload_n 1, 1) := by decide +kernel
theorem dX11_out_1 : decode cX11_out 1 = .ok (.istore_n 3, 1) := by decide +kernel
theorem dX11_out_2 : decode cX11_out 2 = .ok (.iload_n 3, 1) := by decide +kernel
theorem dX11_out_3 : decode cX11_out 3 = .ok (.iload_n 2, 1) := by decide +kernel
theorem dX11_out_4 : decode cX11_out 4 = .ok (.iadd, 1) := by decide +kernel
theorem dX11_out_5 : decode cX11_out 5 = .ok (.aload_n 0, 1) := by decide +kernel
theorem dX11_out_6 : decode cX11_out 6 = .ok (.getfield 282, 3) := by decide +kernel
theorem dX11_out_9 : decode cX11_out 9 = .ok (.if_icmp .ge 23, 3) := by decide +kernel
theorem dX11_out_12 : decode cX11_out 12 = .ok (.aload_n 0, 1) := by decide +kernel
theorem dX11_out_13 : decode cX11_out 13 = .ok (.getfield 106, 3) := by decide +kernel
theorem dX11_out_16 : decode cX11_out 16 = .ok (.iload_n 3, 1) := by decide +kernel
theorem dX11_out_17 : decode cX11_out 17 = .ok (.aload_n 0, 1) := by decide +kernel
theorem dX11_out_18 : decode cX11_out 18 = .ok (.getfield 106, 3) := by decide +kernel
theorem dX11_out_21 : decode cX11_out 21 = .ok (.iload_n 3, 1) := by decide +kernel
theorem dX11_out_22 : decode cX11_out 22 = .ok (.iload_n 2, 1) := by decide +kernel
theorem dX11_out_23 : decode cX11_out 23 = .ok (.iadd, 1) := by decide +kernel
theorem dX11_out_24 : decode cX11_out 24 = .ok (.laload, 1) := by decide +kernel
theorem dX11_out_25 : decode cX11_out 25 = .ok (.lastore, 1) := by decide +kernel
theorem dX11_out_26 : decode cX11_out 26 = .ok (.iinc 3 1, 3) := by decide +kernel
theorem dX11_out_29 : decode cX11_out 29 = .ok (.goto (-27), 3) := by decide +kernel
theorem dX11_out_32 : decode cX11_out 32 = .ok (.aload_n 0, 1) := by decide +kernel
theorem dX11_out_33 : decode cX11_out 33 = .ok (.dup, 1) := by decide +kernel
theorem dX11_out_34 : decode cX11_out 34 = .ok (.getfield 282, 3) := by decide +kernel
theorem dX11_out_37 : decode cX11_out 37 = .ok (.iload_n 2, 1) := by decide +kernel
theorem dX11_out_38 : decode cX11_out 38 = .ok (.isub, 1) := by decide +kernel
theorem dX11_out_39 : decode cX11_out 39 = .ok (.putfield 282, 3) := by decide +kernel
theorem dX11_out_42 : decode cX11_out 42 = .ok (.return_, 1) := by decide +kernel
theorem dX11_stepAt_0 : decode cX11_stepAt 0 = .ok (.aload_n 0, 1) := by decide +kernel
theorem dX11_stepAt_1 : decode cX11_stepAt 1 = .ok (.getfield 106, 3) := by decide +kernel
theorem dX11_stepAt_4 : decode cX11_stepAt 4 = .ok (.iload_n 1, 1) := by decide +kernel
theorem dX11_stepAt_5 : decode cX11_stepAt 5 = .ok (.iconst 1, 1) := by decide +kernel
theorem dX11_stepAt_6 : decode cX11_stepAt 6 = .ok (.iadd, 1) := by decide +kernel
theorem dX11_stepAt_7 : decode cX11_stepAt 7 = .ok (.laload, 1) := by decide +kernel
theorem dX11_stepAt_8 : decode cX11_stepAt 8 = .ok (.aload_n 0, 1) := by decide +kernel
theorem dX11_stepAt_9 : decode cX11_stepAt 9 = .ok (.getfield 106, 3) := by decide +kernel
theorem dX11_stepAt_12 : decode cX11_stepAt 12 = .ok (.iload_n 1, 1) := by decide +kernel
theorem dX11_stepAt_13 : decode cX11_stepAt 13 = .ok (.laload, 1) := by decide +kernel
theorem dX11_stepAt_14 : decode cX11_stepAt 14 = .ok (.lsub, 1) := by decide +kernel
theorem dX11_stepAt_15 : decode cX11_stepAt 15 = .ok (.invokestatic 109, 3) := by decide +kernel
theorem dX11_stepAt_18 : decode cX11_stepAt 18 = .ok (.lreturn, 1) := by decide +kernel
theorem dX11_isIdle_0 : decode cX11_isIdle 0 = .ok (.aload_n 0, 1) := by decide +kernel
theorem dX11_isIdle_1 : decode cX11_isIdle 1 = .ok (.getfield 106, 3) := by decide +kernel
theorem dX11_isIdle_4 : decode cX11_isIdle 4 = .ok (.iload_n 1, 1) := by decide +kernel
theorem dX11_isIdle_5 : decode cX11_isIdle 5 = .ok (.laload, 1) := by decide +kernel
theorem dX11_isIdle_6 : decode cX11_isIdle 6 = .ok (.aload_n 0, 1) := by decide +kernel
theorem dX11_isIdle_7 : decode cX11_isIdle 7 = .ok (.getfield 106, 3) := by decide +kernel
theorem dX11_isIdle_10 : decode cX11_isIdle 10 = .ok (.iload_n 1, 1) := by decide +kernel
theorem dX11_isIdle_11 : decode cX11_isIdle 11 = .ok (.iconst 1, 1) := by decide +kernel
theorem dX11_isIdle_12 : decode cX11_isIdle 12 = .ok (.isub, 1) := by decide +kernel
theorem dX11_isIdle_13 : decode cX11_isIdle 13 = .ok (.laload, 1) := by decide +kernel
theorem dX11_isIdle_14 : decode cX11_isIdle 14 = .ok (.lsub, 1) := by decide +kernel
theorem dX11_isIdle_15 : decode cX11_isIdle 15 = .ok (.lstore_n 2, 1) := by decide +kernel
theorem dX11_isIdle_16 : decode cX11_isIdle 16 = .ok (.aload_n 0, 1) := by decide +kernel
theorem dX11_isIdle_17 : decode cX11_isIdle 17 = .ok (.getfield 106, 3) := by decide +kernel
theorem dX11_isIdle_20 : decode cX11_isIdle 20 = .ok (.iload_n 1, 1) := by decide +kernel
theorem dX11_isIdle_21 : decode cX11_isIdle 21 = .ok (.iconst 1, 1) := by decide +kernel
theorem dX11_isIdle_22 : decode cX11_isIdle 22 = .ok (.iadd, 1) := by decide +kernel
theorem dX11_isIdle_23 : decode cX11_isIdle 23 = .ok (.laload, 1) := by decide +kernel
theorem dX11_isIdle_24 : decode cX11_isIdle 24 = .ok (.aload_n 0, 1) := by decide +kernel
theorem dX11_isIdle_25 : decode cX11_isIdle 25 = .ok (.getfield 106, 3) := by decide +kernel
theorem dX11_isIdle_28 : decode cX11_isIdle 28 = .ok (.iload_n 1, 1) := by decide +kernel
theorem dX11_isIdle_29 : decode cX11_isIdle 29 = .ok (.laload, 1) := by decide +kernel
theorem dX11_isIdle_30 : decode cX11_isIdle 30 = .ok (.lsub, 1) := by decide +kernel
theorem dX11_isIdle_31 : decode cX11_isIdle 31 = .ok (.lstore 4, 2) := by decide +kernel
theorem dX11_isIdle_33 : decode cX11_isIdle 33 = .ok (.lload_n 2, 1) := by decide +kernel
theorem dX11_isIdle_34 : decode cX11_isIdle 34 = .ok (.lconst 0, 1) := by decide +kernel
theorem dX11_isIdle_35 : decode cX11_isIdle 35 = .ok (.lcmp, 1) := by decide +kernel
theorem dX11_isIdle_36 : decode cX11_isIdle 36 = .ok (.ifCond .eq 36, 3) := by decide +kernel
theorem dX11_isIdle_39 : decode cX11_isIdle 39 = .ok (.lload 4, 2) := by decide +kernel
theorem dX11_isIdle_41 : decode cX11_isIdle 41 = .ok (.lconst 0, 1) := by decide +kernel
theorem dX11_isIdle_42 : decode cX11_isIdle 42 = .ok (.lcmp, 1) := by decide +kernel
theorem dX11_isIdle_43 : decode cX11_isIdle 43 = .ok (.ifCond .eq 29, 3) := by decide +kernel
theorem dX11_isIdle_46 : decode cX11_isIdle 46 = .ok (.lload_n 2, 1) := by decide +kernel
theorem dX11_isIdle_47 : decode cX11_isIdle 47 = .ok (.lconst 0, 1) := by decide +kernel
theorem dX11_isIdle_48 : decode cX11_isIdle 48 = .ok (.lcmp, 1) := by decide +kernel
theorem dX11_isIdle_49 : decode cX11_isIdle 49 = .ok (.ifCond .le 7, 3) := by decide +kernel
theorem dX11_isIdle_52 : decode cX11_isIdle 52 = .ok (.iconst 1, 1) := by decide +kernel
theorem dX11_isIdle_53 : decode cX11_isIdle 53 = .ok (.goto 4, 3) := by decide +kernel
theorem dX11_isIdle_56 : decode cX11_isIdle 56 = .ok (.iconst 0, 1) := by decide +kernel
theorem dX11_isIdle_57 : decode cX11_isIdle 57 = .ok (.lload 4, 2) := by decide +kernel
theorem dX11_isIdle_59 : decode cX11_isIdle 59 = .ok (.lconst 0, 1) := by decide +kernel
theorem dX11_isIdle_60 : decode cX11_isIdle 60 = .ok (.lcmp, 1) := by decide +kernel
theorem dX11_isIdle_61 : decode cX11_isIdle 61 = .ok (.ifCond .le 7, 3) := by decide +kernel
theorem dX11_isIdle_64 : decode cX11_isIdle 64 = .ok (.iconst 1, 1) := by decide +kernel
theorem dX11_isIdle_65 : decode cX11_isIdle 65 = .ok (.goto 4, 3) := by decide +kernel
theorem dX11_isIdle_68 : decode cX11_isIdle 68 = .ok (.iconst 0, 1) := by decide +kernel
theorem dX11_isIdle_69 : decode cX11_isIdle 69 = .ok (.if_icmp .ne 7, 3) := by decide +kernel
theorem dX11_isIdle_72 : decode cX11_isIdle 72 = .ok (.iconst 1, 1) := by decide +kernel
theorem dX11_isIdle_73 : decode cX11_isIdle 73 = .ok (.goto 4, 3) := by decide +kernel
theorem dX11_isIdle_76 : decode cX11_isIdle 76 = .ok (.iconst 0, 1) := by decide +kernel
theorem dX11_isIdle_77 : decode cX11_isIdle 77 = .ok (.ireturn, 1) := by decide +kernel
theorem dX11_cube_0 : decode cX11_cube 0 = .ok (.lload_n 0, 1) := by decide +kernel
theorem dX11_cube_1 : decode cX11_cube 1 = .ok (.lload_n 0, 1) := by decide +kernel
theorem dX11_cube_2 : decode cX11_cube 2 = .ok (.lmul, 1) := by decide +kernel
theorem dX11_cube_3 : decode cX11_cube 3 = .ok (.lload_n 0, 1) := by decide +kernel
theorem dX11_cube_4 : decode cX11_cube 4 = .ok (.lmul, 1) := by decide +kernel
theorem dX11_cube_5 : decode cX11_cube 5 = .ok (.lreturn, 1) := by decide +kernel
theorem dX11_wearOf_0 : decode cX11_wearOf 0 = .ok (.aload_n 0, 1) := by decide +kernel
theorem dX11_wearOf_1 : decode cX11_wearOf 1 = .ok (.iconst 1, 1) := by decide +kernel
theorem dX11_wearOf_2 : decode cX11_wearOf 2 = .ok (.putfield 282, 3) := by decide +kernel
theorem dX11_wearOf_5 : decode cX11_wearOf 5 = .ok (.aload_n 0, 1) := by decide +kernel
theorem dX11_wearOf_6 : decode cX11_wearOf 6 = .ok (.getfield 106, 3) := by decide +kernel
theorem dX11_wearOf_9 : decode cX11_wearOf 9 = .ok (.iconst 0, 1) := by decide +kernel
theorem dX11_wearOf_10 : decode cX11_wearOf 10 = .ok (.lconst 0, 1) := by decide +kernel
theorem dX11_wearOf_11 : decode cX11_wearOf 11 = .ok (.lastore, 1) := by decide +kernel
theorem dX11_wearOf_12 : decode cX11_wearOf 12 = .ok (.iconst 0, 1) := by decide +kernel
theorem dX11_wearOf_13 : decode cX11_wearOf 13 = .ok (.istore 5, 2) := by decide +kernel
theorem dX11_wearOf_15 : decode cX11_wearOf 15 = .ok (.iload 5, 2) := by decide +kernel
theorem dX11_wearOf_17 : decode cX11_wearOf 17 = .ok (.aload_n 0, 1) := by decide +kernel
theorem dX11_wearOf_18 : decode cX11_wearOf 18 = .ok (.getfield 7, 3) := by decide +kernel
theorem dX11_wearOf_21 : decode cX11_wearOf 21 = .ok (.iload_n 1, 1) := by decide +kernel
theorem dX11_wearOf_22 : decode cX11_wearOf 22 = .ok (.iaload, 1) := by decide +kernel
theorem dX11_wearOf_23 : decode cX11_wearOf 23 = .ok (.aload_n 0, 1) := by decide +kernel
theorem dX11_wearOf_24 : decode cX11_wearOf 24 = .ok (.iload 4, 2) := by decide +kernel
theorem dX11_wearOf_26 : decode cX11_wearOf 26 = .ok (.invokevirtual 202, 3) := by decide +kernel
theorem dX11_wearOf_29 : decode cX11_wearOf 29 = .ok (.iadd, 1) := by decide +kernel
theorem dX11_wearOf_30 : decode cX11_wearOf 30 = .ok (.if_icmp .gt 40, 3) := by decide +kernel
theorem dX11_wearOf_33 : decode cX11_wearOf 33 = .ok (.aload_n 0, 1) := by decide +kernel
theorem dX11_wearOf_34 : decode cX11_wearOf 34 = .ok (.getfield 106, 3) := by decide +kernel
theorem dX11_wearOf_37 : decode cX11_wearOf 37 = .ok (.aload_n 0, 1) := by decide +kernel
theorem dX11_wearOf_38 : decode cX11_wearOf 38 = .ok (.getfield 282, 3) := by decide +kernel
theorem dX11_wearOf_41 : decode cX11_wearOf 41 = .ok (.aload_n 0, 1) := by decide +kernel
theorem dX11_wearOf_42 : decode cX11_wearOf 42 = .ok (.iload_n 1, 1) := by decide +kernel
theorem dX11_wearOf_43 : decode cX11_wearOf 43 = .ok (.iload_n 2, 1) := by decide +kernel
theorem dX11_wearOf_44 : decode cX11_wearOf 44 = .ok (.iload_n 3, 1) := by decide +kernel
theorem dX11_wearOf_45 : decode cX11_wearOf 45 = .ok (.iload 4, 2) := by decide +kernel
theorem dX11_wearOf_47 : decode cX11_wearOf 47 = .ok (.iconst 0, 1) := by decide +kernel
theorem dX11_wearOf_48 : decode cX11_wearOf 48 = .ok (.iload 5, 2) := by decide +kernel
theorem dX11_wearOf_50 : decode cX11_wearOf 50 = .ok (.invokevirtual 209, 3) := by decide +kernel
theorem dX11_wearOf_53 : decode cX11_wearOf 53 = .ok (.lastore, 1) := by decide +kernel
theorem dX11_wearOf_54 : decode cX11_wearOf 54 = .ok (.aload_n 0, 1) := by decide +kernel
theorem dX11_wearOf_55 : decode cX11_wearOf 55 = .ok (.dup, 1) := by decide +kernel
theorem dX11_wearOf_56 : decode cX11_wearOf 56 = .ok (.getfield 282, 3) := by decide +kernel
theorem dX11_wearOf_59 : decode cX11_wearOf 59 = .ok (.iconst 1, 1) := by decide +kernel
theorem dX11_wearOf_60 : decode cX11_wearOf 60 = .ok (.iadd, 1) := by decide +kernel
theorem dX11_wearOf_61 : decode cX11_wearOf 61 = .ok (.putfield 282, 3) := by decide +kernel
theorem dX11_wearOf_64 : decode cX11_wearOf 64 = .ok (.iinc 5 1, 3) := by decide +kernel
theorem dX11_wearOf_67 : decode cX11_wearOf 67 = .ok (.goto (-52), 3) := by decide +kernel
theorem dX11_wearOf_70 : decode cX11_wearOf 70 = .ok (.aload_n 0, 1) := by decide +kernel
theorem dX11_wearOf_71 : decode cX11_wearOf 71 = .ok (.getfield 106, 3) := by decide +kernel
theorem dX11_wearOf_74 : decode cX11_wearOf 74 = .ok (.aload_n 0, 1) := by decide +kernel
theorem dX11_wearOf_75 : decode cX11_wearOf 75 = .ok (.getfield 282, 3) := by decide +kernel
theorem dX11_wearOf_78 : decode cX11_wearOf 78 = .ok (.lconst 0, 1) := by decide +kernel
theorem dX11_wearOf_79 : decode cX11_wearOf 79 = .ok (.lastore, 1) := by decide +kernel
theorem dX11_wearOf_80 : decode cX11_wearOf 80 = .ok (.aload_n 0, 1) := by decide +kernel
theorem dX11_wearOf_81 : decode cX11_wearOf 81 = .ok (.dup, 1) := by decide +kernel
theorem dX11_wearOf_82 : decode cX11_wearOf 82 = .ok (.getfield 282, 3) := by decide +kernel
theorem dX11_wearOf_85 : decode cX11_wearOf 85 = .ok (.iconst 1, 1) := by decide +kernel
theorem dX11_wearOf_86 : decode cX11_wearOf 86 = .ok (.iadd, 1) := by decide +kernel
theorem dX11_wearOf_87 : decode cX11_wearOf 87 = .ok (.putfield 282, 3) := by decide +kernel
theorem dX11_wearOf_90 : decode cX11_wearOf 90 = .ok (.iconst 1, 1) := by decide +kernel
theorem dX11_wearOf_91 : decode cX11_wearOf 91 = .ok (.istore 5, 2) := by decide +kernel
theorem dX11_wearOf_93 : decode cX11_wearOf 93 = .ok (.iload 5, 2) := by decide +kernel
theorem dX11_wearOf_95 : decode cX11_wearOf 95 = .ok (.iconst 1, 1) := by decide +kernel
theorem dX11_wearOf_96 : decode cX11_wearOf 96 = .ok (.iadd, 1) := by decide +kernel
theorem dX11_wearOf_97 : decode cX11_wearOf 97 = .ok (.aload_n 0, 1) := by decide +kernel
theorem dX11_wearOf_98 : decode cX11_wearOf 98 = .ok (.getfield 282, 3) := by decide +kernel
theorem dX11_wearOf_101 : decode cX11_wearOf 101 = .ok (.if_icmp .ge 31, 3) := by decide +kernel
theorem dX11_wearOf_104 : decode cX11_wearOf 104 = .ok (.aload_n 0, 1) := by decide +kernel
theorem dX11_wearOf_105 : decode cX11_wearOf 105 = .ok (.iload 5, 2) := by decide +kernel
theorem dX11_wearOf_107 : decode cX11_wearOf 107 = .ok (.invokevirtual 285, 3) := by decide +kernel
theorem dX11_wearOf_110 : decode cX11_wearOf 110 = .ok (.ifCond .eq 16, 3) := by decide +kernel
theorem dX11_wearOf_113 : decode cX11_wearOf 113 = .ok (.aload_n 0, 1) := by decide +kernel
theorem dX11_wearOf_114 : decode cX11_wearOf 114 = .ok (.iload 5, 2) := by decide +kernel
theorem dX11_wearOf_116 : decode cX11_wearOf 116 = .ok (.iconst 1, 1) := by decide +kernel
theorem dX11_wearOf_117 : decode cX11_wearOf 117 = .ok (.invokevirtual 288, 3) := by decide +kernel
theorem dX11_wearOf_120 : decode cX11_wearOf 120 = .ok (.iconst 1, 1) := by decide +kernel
theorem dX11_wearOf_121 : decode cX11_wearOf 121 = .ok (.istore 5, 2) := by decide +kernel
theorem dX11_wearOf_123 : decode cX11_wearOf 123 = .ok (.goto (-30), 3) := by decide +kernel
theorem dX11_wearOf_126 : decode cX11_wearOf 126 = .ok (.iinc 5 1, 3) := by decide +kernel
theorem dX11_wearOf_129 : decode cX11_wearOf 129 = .ok (.goto (-36), 3) := by decide +kernel
theorem dX11_wearOf_132 : decode cX11_wearOf 132 = .ok (.lconst 0, 1) := by decide +kernel
theorem dX11_wearOf_133 : decode cX11_wearOf 133 = .ok (.lstore 6, 2) := by decide +kernel
theorem dX11_wearOf_135 : decode cX11_wearOf 135 = .ok (.aload_n 0, 1) := by decide +kernel
theorem dX11_wearOf_136 : decode cX11_wearOf 136 = .ok (.iconst 0, 1) := by decide +kernel
theorem dX11_wearOf_137 : decode cX11_wearOf 137 = .ok (.putfield 291, 3) := by decide +kernel
theorem dX11_wearOf_140 : decode cX11_wearOf 140 = .ok (.iconst 0, 1) := by decide +kernel
theorem dX11_wearOf_141 : decode cX11_wearOf 141 = .ok (.istore 5, 2) := by decide +kernel
theorem dX11_wearOf_143 : decode cX11_wearOf 143 = .ok (.iload 5, 2) := by decide +kernel
theorem dX11_wearOf_145 : decode cX11_wearOf 145 = .ok (.iconst 3, 1) := by decide +kernel
theorem dX11_wearOf_146 : decode cX11_wearOf 146 = .ok (.iadd, 1) := by decide +kernel
theorem dX11_wearOf_147 : decode cX11_wearOf 147 = .ok (.aload_n 0, 1) := by decide +kernel
theorem dX11_wearOf_148 : decode cX11_wearOf 148 = .ok (.getfield 282, 3) := by decide +kernel
theorem dX11_wearOf_151 : decode cX11_wearOf 151 = .ok (.if_icmp .ge 91, 3) := by decide +kernel
theorem dX11_wearOf_154 : decode cX11_wearOf 154 = .ok (.aload_n 0, 1) := by decide +kernel
theorem dX11_wearOf_155 : decode cX11_wearOf 155 = .ok (.iload 5, 2) := by decide +kernel
theorem dX11_wearOf_157 : decode cX11_wearOf 157 = .ok (.iconst 1, 1) := by decide +kernel
theorem dX11_wearOf_158 : decode cX11_wearOf 158 = .ok (.iadd, 1) := by decide +kernel
theorem dX11_wearOf_159 : decode cX11_wearOf 159 = .ok (.invokevirtual 294, 3) := by decide +kernel
theorem dX11_wearOf_162 : decode cX11_wearOf 162 = .ok (.lstore 8, 2) := by decide +kernel
theorem dX11_wearOf_164 : decode cX11_wearOf 164 = .ok (.lload 8, 2) := by decide +kernel
theorem dX11_wearOf_166 : decode cX11_wearOf 166 = .ok (.aload_n 0, 1) := by decide +kernel
theorem dX11_wearOf_167 : decode cX11_wearOf 167 = .ok (.iload 5, 2) := by decide +kernel
theorem dX11_wearOf_169 : decode cX11_wearOf 169 = .ok (.invokevirtual 294, 3) := by decide +kernel
theorem dX11_wearOf_172 : decode cX11_wearOf 172 = .ok (.lcmp, 1) := by decide +kernel
theorem dX11_wearOf_173 : decode cX11_wearOf 173 = .ok (.ifCond .gt 63, 3) := by decide +kernel
theorem dX11_wearOf_176 : decode cX11_wearOf 176 = .ok (.lload 8, 2) := by decide +kernel
theorem dX11_wearOf_178 : decode cX11_wearOf 178 = .ok (.aload_n 0, 1) := by decide +kernel
theorem dX11_wearOf_179 : decode cX11_wearOf 179 = .ok (.iload 5, 2) := by decide +kernel
theorem dX11_wearOf_181 : decode cX11_wearOf 181 = .ok (.iconst 2, 1) := by decide +kernel
theorem dX11_wearOf_182 : decode cX11_wearOf 182 = .ok (.iadd, 1) := by decide +kernel
theorem dX11_wearOf_183 : decode cX11_wearOf 183 = .ok (.invokevirtual 294, 3) := by decide +kernel
theorem dX11_wearOf_186 : decode cX11_wearOf 186 = .ok (.lcmp, 1) := by decide +kernel
theorem dX11_wearOf_187 : decode cX11_wearOf 187 = .ok (.ifCond .gt 49, 3) := by decide +kernel
theorem dX11_wearOf_190 : decode cX11_wearOf 190 = .ok (.lload 6, 2) := by decide +kernel
theorem dX11_wearOf_192 : decode cX11_wearOf 192 = .ok (.ldc2_w 129, 3) := by decide +kernel
theorem dX11_wearOf_195 : decode cX11_wearOf 195 = .ok (.lload 8, 2) := by decide +kernel
theorem dX11_wearOf_197 : decode cX11_wearOf 197 = .ok (.aload_n 0, 1) := by decide +kernel
theorem dX11_wearOf_198 : decode cX11_wearOf 198 = .ok (.getfield 35, 3) := by decide +kernel
theorem dX11_wearOf_201 : decode cX11_wearOf 201 = .ok (.iload_n 1, 1) := by decide +kernel
theorem dX11_wearOf_202 : decode cX11_wearOf 202 = .ok (.laload, 1) := by decide +kernel
theorem dX11_wearOf_203 : decode cX11_wearOf 203 = .ok (.ldiv, 1) := by decide +kernel
theorem dX11_wearOf_204 : decode cX11_wearOf 204 = .ok (.invokestatic 297, 3) := by decide +kernel
theorem dX11_wearOf_207 : decode cX11_wearOf 207 = .ok (.lmul, 1) := by decide +kernel
theorem dX11_wearOf_208 : decode cX11_wearOf 208 = .ok (.ladd, 1) := by decide +kernel
theorem dX11_wearOf_209 : decode cX11_wearOf 209 = .ok (.lstore 6, 2) := by decide +kernel
theorem dX11_wearOf_211 : decode cX11_wearOf 211 = .ok (.aload_n 0, 1) := by decide +kernel
theorem dX11_wearOf_212 : decode cX11_wearOf 212 = .ok (.dup, 1) := by decide +kernel
theorem dX11_wearOf_213 : decode cX11_wearOf 213 = .ok (.getfield 291, 3) := by decide +kernel
theorem dX11_wearOf_216 : decode cX11_wearOf 216 = .ok (.iconst 1, 1) := by decide +kernel
theorem dX11_wearOf_217 : decode cX11_wearOf 217 = .ok (.iadd, 1) := by decide +kernel
theorem dX11_wearOf_218 : decode cX11_wearOf 218 = .ok (.putfield 291, 3) := by decide +kernel
theorem dX11_wearOf_221 : decode cX11_wearOf 221 = .ok (.aload_n 0, 1) := by decide +kernel
theorem dX11_wearOf_222 : decode cX11_wearOf 222 = .ok (.iload 5, 2) := by decide +kernel
theorem dX11_wearOf_224 : decode cX11_wearOf 224 = .ok (.iconst 1, 1) := by decide +kernel
theorem dX11_wearOf_225 : decode cX11_wearOf 225 = .ok (.iadd, 1) := by decide +kernel
theorem dX11_wearOf_226 : decode cX11_wearOf 226 = .ok (.iconst 2, 1) := by decide +kernel
theorem dX11_wearOf_227 : decode cX11_wearOf 227 = .ok (.invokevirtual 288, 3) := by decide +kernel
theorem dX11_wearOf_230 : decode cX11_wearOf 230 = .ok (.iconst 0, 1) := by decide +kernel
theorem dX11_wearOf_231 : decode cX11_wearOf 231 = .ok (.istore 5, 2) := by decide +kernel
theorem dX11_wearOf_233 : decode cX11_wearOf 233 = .ok (.goto 6, 3) := by decide +kernel
theorem dX11_wearOf_236 : decode cX11_wearOf 236 = .ok (.iinc 5 1, 3) := by decide +kernel
theorem dX11_wearOf_239 : decode cX11_wearOf 239 = .ok (.goto (-96), 3) := by decide +kernel
theorem dX11_wearOf_242 : decode cX11_wearOf 242 = .ok (.aload_n 0, 1) := by decide +kernel
theorem dX11_wearOf_243 : decode cX11_wearOf 243 = .ok (.aload_n 0, 1) := by decide +kernel
theorem dX11_wearOf_244 : decode cX11_wearOf 244 = .ok (.getfield 282, 3) := by decide +kernel
theorem dX11_wearOf_247 : decode cX11_wearOf 247 = .ok (.iconst 1, 1) := by decide +kernel
theorem dX11_wearOf_248 : decode cX11_wearOf 248 = .ok (.isub, 1) := by decide +kernel
theorem dX11_wearOf_249 : decode cX11_wearOf 249 = .ok (.putfield 300, 3) := by decide +kernel
theorem dX11_wearOf_252 : decode cX11_wearOf 252 = .ok (.iconst 0, 1) := by decide +kernel
theorem dX11_wearOf_253 : decode cX11_wearOf 253 = .ok (.istore 8, 2) := by decide +kernel
theorem dX11_wearOf_255 : decode cX11_wearOf 255 = .ok (.iload 8, 2) := by decide +kernel
theorem dX11_wearOf_257 : decode cX11_wearOf 257 = .ok (.iconst 1, 1) := by decide +kernel
theorem dX11_wearOf_258 : decode cX11_wearOf 258 = .ok (.iadd, 1) := by decide +kernel
theorem dX11_wearOf_259 : decode cX11_wearOf 259 = .ok (.aload_n 0, 1) := by decide +kernel
theorem dX11_wearOf_260 : decode cX11_wearOf 260 = .ok (.getfield 282, 3) := by decide +kernel
theorem dX11_wearOf_263 : decode cX11_wearOf 263 = .ok (.if_icmp .ge 30, 3) := by decide +kernel
theorem dX11_wearOf_266 : decode cX11_wearOf 266 = .ok (.lload 6, 2) := by decide +kernel
theorem dX11_wearOf_268 : decode cX11_wearOf 268 = .ok (.aload_n 0, 1) := by decide +kernel
theorem dX11_wearOf_269 : decode cX11_wearOf 269 = .ok (.iload 8, 2) := by decide +kernel
theorem dX11_wearOf_271 : decode cX11_wearOf 271 = .ok (.invokevirtual 294, 3) := by decide +kernel
theorem dX11_wearOf_274 : decode cX11_wearOf 274 = .ok (.aload_n 0, 1) := by decide +kernel
theorem dX11_wearOf_275 : decode cX11_wearOf 275 = .ok (.getfield 35, 3) := by decide +kernel
theorem dX11_wearOf_278 : decode cX11_wearOf 278 = .ok (.iload_n 1, 1) := by decide +kernel
theorem dX11_wearOf_279 : decode cX11_wearOf 279 = .ok (.laload, 1) := by decide +kernel
theorem dX11_wearOf_280 : decode cX11_wearOf 280 = .ok (.ldiv, 1) := by decide +kernel
theorem dX11_wearOf_281 : decode cX11_wearOf 281 = .ok (.invokestatic 297, 3) := by decide +kernel
theorem dX11_wearOf_284 : decode cX11_wearOf 284 = .ok (.ladd, 1) := by decide +kernel
theorem dX11_wearOf_285 : decode cX11_wearOf 285 = .ok (.lstore 6, 2) := by decide +kernel
theorem dX11_wearOf_287 : decode cX11_wearOf 287 = .ok (.iinc 8 1, 3) := by decide +kernel
theorem dX11_wearOf_290 : decode cX11_wearOf 290 = .ok (.goto (-35), 3) := by decide +kernel
theorem dX11_wearOf_293 : decode cX11_wearOf 293 = .ok (.lload 6, 2) := by decide +kernel
theorem dX11_wearOf_295 : decode cX11_wearOf 295 = .ok (.lreturn, 1) := by decide +kernel
theorem dX11_wear_0 : decode cX11_wear 0 = .ok (.aload_n 0, 1) := by decide +kernel
theorem dX11_wear_1 : decode cX11_wear 1 = .ok (.iload_n 1, 1) := by decide +kernel
theorem dX11_wear_2 : decode cX11_wear 2 = .ok (.invokevirtual 158, 3) := by decide +kernel
theorem dX11_wear_5 : decode cX11_wear 5 = .ok (.ifCond .ne 22, 3) := by decide +kernel
theorem dX11_wear_8 : decode cX11_wear 8 = .ok (.aload_n 0, 1) := by decide +kernel
theorem dX11_wear_9 : decode cX11_wear 9 = .ok (.iload_n 1, 1) := by decide +kernel
theorem dX11_wear_10 : decode cX11_wear 10 = .ok (.iload_n 2, 1) := by decide +kernel
theorem dX11_wear_11 : decode cX11_wear 11 = .ok (.iload_n 3, 1) := by decide +kernel
theorem dX11_wear_12 : decode cX11_wear 12 = .ok (.invokevirtual 162, 3) := by decide +kernel
theorem dX11_wear_15 : decode cX11_wear 15 = .ok (.ifCond .ne 12, 3) := by decide +kernel
theorem dX11_wear_18 : decode cX11_wear 18 = .ok (.aload_n 0, 1) := by decide +kernel
theorem dX11_wear_19 : decode cX11_wear 19 = .ok (.iload 4, 2) := by decide +kernel
theorem dX11_wear_21 : decode cX11_wear 21 = .ok (.invokevirtual 190, 3) := by decide +kernel
theorem dX11_wear_24 : decode cX11_wear 24 = .ok (.ifCond .eq 7, 3) := by decide +kernel
theorem dX11_wear_27 : decode cX11_wear 27 = .ok (.ldc2_w 166, 3) := by decide +kernel
theorem dX11_wear_30 : decode cX11_wear 30 = .ok (.lreturn, 1) := by decide +kernel
theorem dX11_wear_31 : decode cX11_wear 31 = .ok (.aload_n 0, 1) := by decide +kernel
theorem dX11_wear_32 : decode cX11_wear 32 = .ok (.iload_n 1, 1) := by decide +kernel
theorem dX11_wear_33 : decode cX11_wear 33 = .ok (.iload_n 2, 1) := by decide +kernel
theorem dX11_wear_34 : decode cX11_wear 34 = .ok (.iload_n 3, 1) := by decide +kernel
theorem dX11_wear_35 : decode cX11_wear 35 = .ok (.invokevirtual 168, 3) := by decide +kernel
theorem dX11_wear_38 : decode cX11_wear 38 = .ok (.ifCond .eq 16, 3) := by decide +kernel
theorem dX11_wear_41 : decode cX11_wear 41 = .ok (.iload 5, 2) := by decide +kernel
theorem dX11_wear_43 : decode cX11_wear 43 = .ok (.i2l, 1) := by decide +kernel
theorem dX11_wear_44 : decode cX11_wear 44 = .ok (.lconst 0, 1) := by decide +kernel
theorem dX11_wear_45 : decode cX11_wear 45 = .ok (.ldc2_w 129, 3) := by decide +kernel
theorem dX11_wear_48 : decode cX11_wear 48 = .ok (.invokestatic 133, 3) := by decide +kernel
theorem dX11_wear_51 : decode cX11_wear 51 = .ok (.ifCond .ne 7, 3) := by decide +kernel
theorem dX11_wear_54 : decode cX11_wear 54 = .ok (.ldc2_w 171, 3) := by decide +kernel
theorem dX11_wear_57 : decode cX11_wear 57 = .ok (.lreturn, 1) := by decide +kernel
theorem dX11_wear_58 : decode cX11_wear 58 = .ok (.aload_n 0, 1) := by decide +kernel
theorem dX11_wear_59 : decode cX11_wear 59 = .ok (.iload_n 1, 1) := by decide +kernel
theorem dX11_wear_60 : decode cX11_wear 60 = .ok (.iload_n 2, 1) := by decide +kernel
theorem dX11_wear_61 : decode cX11_wear 61 = .ok (.iload_n 3, 1) := by decide +kernel
theorem dX11_wear_62 : decode cX11_wear 62 = .ok (.iload 4, 2) := by decide +kernel
theorem dX11_wear_64 : decode cX11_wear 64 = .ok (.invokevirtual 303, 3) := by decide +kernel
theorem dX11_wear_67 : decode cX11_wear 67 = .ok (.lstore 6, 2) := by decide +kernel
theorem dX11_wear_69 : decode cX11_wear 69 = .ok (.iload 5, 2) := by decide +kernel
theorem dX11_wear_71 : decode cX11_wear 71 = .ok (.ifCond .ne 8, 3) := by decide +kernel
theorem dX11_wear_74 : decode cX11_wear 74 = .ok (.lload 6, 2) := by decide +kernel
theorem dX11_wear_76 : decode cX11_wear 76 = .ok (.goto 22, 3) := by decide +kernel
theorem dX11_wear_79 : decode cX11_wear 79 = .ok (.iload 5, 2) := by decide +kernel
theorem dX11_wear_81 : decode cX11_wear 81 = .ok (.iconst 1, 1) := by decide +kernel
theorem dX11_wear_82 : decode cX11_wear 82 = .ok (.if_icmp .ne 11, 3) := by decide +kernel
theorem dX11_wear_85 : decode cX11_wear 85 = .ok (.aload_n 0, 1) := by decide +kernel
theorem dX11_wear_86 : decode cX11_wear 86 = .ok (.getfield 291, 3) := by decide +kernel
theorem dX11_wear_89 : decode cX11_wear 89 = .ok (.i2l, 1) := by decide +kernel
theorem dX11_wear_90 : decode cX11_wear 90 = .ok (.goto 8, 3) := by decide +kernel
theorem dX11_wear_93 : decode cX11_wear 93 = .ok (.aload_n 0, 1) := by decide +kernel
theorem dX11_wear_94 : decode cX11_wear 94 = .ok (.getfield 300, 3) := by decide +kernel
theorem dX11_wear_97 : decode cX11_wear 97 = .ok (.i2l, 1) := by decide +kernel
theorem dX11_wear_98 : decode cX11_wear 98 = .ok (.lreturn, 1) := by decide +kernel
theorem dX11_traffic_0 : decode cX11_traffic 0 = .ok (.aload_n 0, 1) := by decide +kernel
theorem dX11_traffic_1 : decode cX11_traffic 1 = .ok (.iload_n 1, 1) := by decide +kernel
theorem dX11_traffic_2 : decode cX11_traffic 2 = .ok (.invokevirtual 190, 3) := by decide +kernel
theorem dX11_traffic_5 : decode cX11_traffic 5 = .ok (.ifCond .eq 7, 3) := by decide +kernel
theorem dX11_traffic_8 : decode cX11_traffic 8 = .ok (.sipush (-1001), 3) := by decide +kernel
theorem dX11_traffic_11 : decode cX11_traffic 11 = .ok (.ireturn, 1) := by decide +kernel
theorem dX11_traffic_12 : decode cX11_traffic 12 = .ok (.iload_n 2, 1) := by decide +kernel
theorem dX11_traffic_13 : decode cX11_traffic 13 = .ok (.i2l, 1) := by decide +kernel
theorem dX11_traffic_14 : decode cX11_traffic 14 = .ok (.lconst 0, 1) := by decide +kernel
theorem dX11_traffic_15 : decode cX11_traffic 15 = .ok (.ldc2_w 306, 3) := by decide +kernel
theorem dX11_traffic_18 : decode cX11_traffic 18 = .ok (.invokestatic 133, 3) := by decide +kernel
theorem dX11_traffic_21 : decode cX11_traffic 21 = .ok (.ifCond .ne 7, 3) := by decide +kernel
theorem dX11_traffic_24 : decode cX11_traffic 24 = .ok (.sipush (-1002), 3) := by decide +kernel
theorem dX11_traffic_27 : decode cX11_traffic 27 = .ok (.ireturn, 1) := by decide +kernel
theorem dX11_traffic_28 : decode cX11_traffic 28 = .ok (.aload_n 0, 1) := by decide +kernel
theorem dX11_traffic_29 : decode cX11_traffic 29 = .ok (.getfield 53, 3) := by decide +kernel
theorem dX11_traffic_32 : decode cX11_traffic 32 = .ok (.iload_n 1, 1) := by decide +kernel
theorem dX11_traffic_33 : decode cX11_traffic 33 = .ok (.iaload, 1) := by decide +kernel
theorem dX11_traffic_34 : decode cX11_traffic 34 = .ok (.istore_n 3, 1) := by decide +kernel
theorem dX11_traffic_35 : decode cX11_traffic 35 = .ok (.aload_n 0, 1) := by decide +kernel
theorem dX11_traffic_36 : decode cX11_traffic 36 = .ok (.getfield 53, 3) := by decide +kernel
theorem dX11_traffic_39 : decode cX11_traffic 39 = .ok (.iload_n 1, 1) := by decide +kernel
theorem dX11_traffic_40 : decode cX11_traffic 40 = .ok (.iload_n 2, 1) := by decide +kernel
theorem dX11_traffic_41 : decode cX11_traffic 41 = .ok (.iastore, 1) := by decide +kernel
theorem dX11_traffic_42 : decode cX11_traffic 42 = .ok (.iload_n 3, 1) := by decide +kernel
theorem dX11_traffic_43 : decode cX11_traffic 43 = .ok (.ireturn, 1) := by decide +kernel
theorem dX11_worn_0 : decode cX11_worn 0 = .ok (.aload_n 0, 1) := by decide +kernel
theorem dX11_worn_1 : decode cX11_worn 1 = .ok (.iload_n 1, 1) := by decide +kernel
theorem dX11_worn_2 : decode cX11_worn 2 = .ok (.invokevirtual 158, 3) := by decide +kernel
theorem dX11_worn_5 : decode cX11_worn 5 = .ok (.ifCond .ne 13, 3) := by decide +kernel
theorem dX11_worn_8 : decode cX11_worn 8 = .ok (.aload_n 0, 1) := by decide +kernel
theorem dX11_worn_9 : decode cX11_worn 9 = .ok (.iload_n 1, 1) := by decide +kernel
theorem dX11_worn_10 : decode cX11_worn 10 = .ok (.iload_n 2, 1) := by decide +kernel
theorem dX11_worn_11 : decode cX11_worn 11 = .ok (.iload_n 3, 1) := by decide +kernel
theorem dX11_worn_12 : decode cX11_worn 12 = .ok (.invokevirtual 162, 3) := by decide +kernel
theorem dX11_worn_15 : decode cX11_worn 15 = .ok (.ifCond .eq 7, 3) := by decide +kernel
theorem dX11_worn_18 : decode cX11_worn 18 = .ok (.ldc2_w 166, 3) := by decide +kernel
theorem dX11_worn_21 : decode cX11_worn 21 = .ok (.lreturn, 1) := by decide +kernel
theorem dX11_worn_22 : decode cX11_worn 22 = .ok (.aload_n 0, 1) := by decide +kernel
theorem dX11_worn_23 : decode cX11_worn 23 = .ok (.iload_n 1, 1) := by decide +kernel
theorem dX11_worn_24 : decode cX11_worn 24 = .ok (.iload_n 2, 1) := by decide +kernel
theorem dX11_worn_25 : decode cX11_worn 25 = .ok (.iload_n 3, 1) := by decide +kernel
theorem dX11_worn_26 : decode cX11_worn 26 = .ok (.invokevirtual 168, 3) := by decide +kernel
theorem dX11_worn_29 : decode cX11_worn 29 = .ok (.ifCond .ne 7, 3) := by decide +kernel
theorem dX11_worn_32 : decode cX11_worn 32 = .ok (.ldc2_w 171, 3) := by decide +kernel
theorem dX11_worn_35 : decode cX11_worn 35 = .ok (.lreturn, 1) := by decide +kernel
theorem dX11_worn_36 : decode cX11_worn 36 = .ok (.lconst 0, 1) := by decide +kernel
theorem dX11_worn_37 : decode cX11_worn 37 = .ok (.lstore 4, 2) := by decide +kernel
theorem dX11_worn_39 : decode cX11_worn 39 = .ok (.iconst 0, 1) := by decide +kernel
theorem dX11_worn_40 : decode cX11_worn 40 = .ok (.istore 6, 2) := by decide +kernel
theorem dX11_worn_42 : decode cX11_worn 42 = .ok (.iload 6, 2) := by decide +kernel
theorem dX11_worn_44 : decode cX11_worn 44 = .ok (.aload_n 0, 1) := by decide +kernel
theorem dX11_worn_45 : decode cX11_worn 45 = .ok (.getfield 185, 3) := by decide +kernel
theorem dX11_worn_48 : decode cX11_worn 48 = .ok (.if_icmp .ge 32, 3) := by decide +kernel
theorem dX11_worn_51 : decode cX11_worn 51 = .ok (.lload 4, 2) := by decide +kernel
theorem dX11_worn_53 : decode cX11_worn 53 = .ok (.aload_n 0, 1) := by decide +kernel
theorem dX11_worn_54 : decode cX11_worn 54 = .ok (.getfield 53, 3) := by decide +kernel
theorem dX11_worn_57 : decode cX11_worn 57 = .ok (.iload 6, 2) := by decide +kernel
theorem dX11_worn_59 : decode cX11_worn 59 = .ok (.iaload, 1) := by decide +kernel
theorem dX11_worn_60 : decode cX11_worn 60 = .ok (.i2l, 1) := by decide +kernel
theorem dX11_worn_61 : decode cX11_worn 61 = .ok (.aload_n 0, 1) := by decide +kernel
theorem dX11_worn_62 : decode cX11_worn 62 = .ok (.iload_n 1, 1) := by decide +kernel
theorem dX11_worn_63 : decode cX11_worn 63 = .ok (.iload_n 2, 1) := by decide +kernel
theorem dX11_worn_64 : decode cX11_worn 64 = .ok (.iload_n 3, 1) := by decide +kernel
theorem dX11_worn_65 : decode cX11_worn 65 = .ok (.iload 6, 2) := by decide +kernel
theorem dX11_worn_67 : decode cX11_worn 67 = .ok (.invokevirtual 303, 3) := by decide +kernel
theorem dX11_worn_70 : decode cX11_worn 70 = .ok (.lmul, 1) := by decide +kernel
theorem dX11_worn_71 : decode cX11_worn 71 = .ok (.ladd, 1) := by decide +kernel
theorem dX11_worn_72 : decode cX11_worn 72 = .ok (.lstore 4, 2) := by decide +kernel
theorem dX11_worn_74 : decode cX11_worn 74 = .ok (.iinc 6 1, 3) := by decide +kernel
theorem dX11_worn_77 : decode cX11_worn 77 = .ok (.goto (-35), 3) := by decide +kernel
theorem dX11_worn_80 : decode cX11_worn 80 = .ok (.lload 4, 2) := by decide +kernel
theorem dX11_worn_82 : decode cX11_worn 82 = .ok (.lreturn, 1) := by decide +kernel
theorem dX11_count_0 : decode cX11_count 0 = .ok (.iconst 0, 1) := by decide +kernel
theorem dX11_count_1 : decode cX11_count 1 = .ok (.istore_n 2, 1) := by decide +kernel
theorem dX11_count_2 : decode cX11_count 2 = .ok (.iconst 0, 1) := by decide +kernel
theorem dX11_count_3 : decode cX11_count 3 = .ok (.istore_n 3, 1) := by decide +kernel
theorem dX11_count_4 : decode cX11_count 4 = .ok (.iconst 0, 1) := by decide +kernel
theorem dX11_count_5 : decode cX11_count 5 = .ok (.istore 4, 2) := by decide +kernel
theorem dX11_count_7 : decode cX11_count 7 = .ok (.iload 4, 2) := by decide +kernel
theorem dX11_count_9 : decode cX11_count 9 = .ok (.aload_n 0, 1) := by decide +kernel
theorem dX11_count_10 : decode cX11_count 10 = .ok (.getfield 143, 3) := by decide +kernel
theorem dX11_count_13 : decode cX11_count 13 = .ok (.if_icmp .ge 19, 3) := by decide +kernel
theorem dX11_count_16 : decode cX11_count 16 = .ok (.iload_n 2, 1) := by decide +kernel
theorem dX11_count_17 : decode cX11_count 17 = .ok (.aload_n 0, 1) := by decide +kernel
theorem dX11_count_18 : decode cX11_count 18 = .ok (.getfield 66, 3) := by decide +kernel
theorem dX11_count_21 : decode cX11_count 21 = .ok (.iload 4, 2) := by decide +kernel
theorem dX11_count_23 : decode cX11_count 23 = .ok (.iaload, 1) := by decide +kernel
theorem dX11_count_24 : decode cX11_count 24 = .ok (.iadd, 1) := by decide +kernel
theorem dX11_count_25 : decode cX11_count 25 = .ok (.istore_n 2, 1) := by decide +kernel
theorem dX11_count_26 : decode cX11_count 26 = .ok (.iinc 4 1, 3) := by decide +kernel
theorem dX11_count_29 : decode cX11_count 29 = .ok (.goto (-22), 3) := by decide +kernel
theorem dX11_count_32 : decode cX11_count 32 = .ok (.iconst 0, 1) := by decide +kernel
theorem dX11_count_33 : decode cX11_count 33 = .ok (.istore 4, 2) := by decide +kernel
theorem dX11_count_35 : decode cX11_count 35 = .ok (.iload 4, 2) := by decide +kernel
theorem dX11_count_37 : decode cX11_count 37 = .ok (.aload_n 0, 1) := by decide +kernel
theorem dX11_count_38 : decode cX11_count 38 = .ok (.getfield 185, 3) := by decide +kernel
theorem dX11_count_41 : decode cX11_count 41 = .ok (.if_icmp .ge 19, 3) := by decide +kernel
theorem dX11_count_44 : decode cX11_count 44 = .ok (.iload_n 3, 1) := by decide +kernel
theorem dX11_count_45 : decode cX11_count 45 = .ok (.aload_n 0, 1) := by decide +kernel
theorem dX11_count_46 : decode cX11_count 46 = .ok (.getfield 53, 3) := by decide +kernel
theorem dX11_count_49 : decode cX11_count 49 = .ok (.iload 4, 2) := by decide +kernel
theorem dX11_count_51 : decode cX11_count 51 = .ok (.iaload, 1) := by decide +kernel
theorem dX11_count_52 : decode cX11_count 52 = .ok (.iadd, 1) := by decide +kernel
theorem dX11_count_53 : decode cX11_count 53 = .ok (.istore_n 3, 1) := by decide +kernel
theorem dX11_count_54 : decode cX11_count 54 = .ok (.iinc 4 1, 3) := by decide +kernel
theorem dX11_count_57 : decode cX11_count 57 = .ok (.goto (-22), 3) := by decide +kernel
theorem dX11_count_60 : decode cX11_count 60 = .ok (.iload_n 1, 1) := by decide +kernel
theorem dX11_count_61 : decode cX11_count 61 = .ok (.tableswitch 63 0 5 #[39, 44, 49, 54, 56, 61], 39) := by decide +kernel
theorem dX11_count_100 : decode cX11_count 100 = .ok (.aload_n 0, 1) := by decide +kernel
theorem dX11_count_101 : decode cX11_count 101 = .ok (.getfield 143, 3) := by decide +kernel
theorem dX11_count_104 : decode cX11_count 104 = .ok (.ireturn, 1) := by decide +kernel
theorem dX11_count_105 : decode cX11_count 105 = .ok (.aload_n 0, 1) := by decide +kernel
theorem dX11_count_106 : decode cX11_count 106 = .ok (.getfield 185, 3) := by decide +kernel
theorem dX11_count_109 : decode cX11_count 109 = .ok (.ireturn, 1) := by decide +kernel
theorem dX11_count_110 : decode cX11_count 110 = .ok (.aload_n 0, 1) := by decide +kernel
theorem dX11_count_111 : decode cX11_count 111 = .ok (.getfield 263, 3) := by decide +kernel
theorem dX11_count_114 : decode cX11_count 114 = .ok (.ireturn, 1) := by decide +kernel
theorem dX11_count_115 : decode cX11_count 115 = .ok (.iload_n 2, 1) := by decide +kernel
theorem dX11_count_116 : decode cX11_count 116 = .ok (.ireturn, 1) := by decide +kernel
theorem dX11_count_117 : decode cX11_count 117 = .ok (.aload_n 0, 1) := by decide +kernel
theorem dX11_count_118 : decode cX11_count 118 = .ok (.getfield 56, 3) := by decide +kernel
theorem dX11_count_121 : decode cX11_count 121 = .ok (.ireturn, 1) := by decide +kernel
theorem dX11_count_122 : decode cX11_count 122 = .ok (.iload_n 3, 1) := by decide +kernel
theorem dX11_count_123 : decode cX11_count 123 = .ok (.ireturn, 1) := by decide +kernel
theorem dX11_count_124 : decode cX11_count 124 = .ok (.sipush (-1002), 3) := by decide +kernel
theorem dX11_count_127 : decode cX11_count 127 = .ok (.ireturn, 1) := by decide +kernel
end
section
theorem dL_law_0 : decode cL_law 0 = .ok (.new 7, 3) := by decide +kernel
theorem dL_law_3 : decode cL_law 3 = .ok (.dup, 1) := by decide +kernel
theorem dL_law_4 : decode cL_law 4 = .ok (.invokespecial 9, 3) := by decide +kernel
theorem dL_law_7 : decode cL_law 7 = .ok (.astore_n 1, 1) := by decide +kernel
theorem dL_law_8 : decode cL_law 8 = .ok (.new 10, 3) := by decide +kernel
theorem dL_law_11 : decode cL_law 11 = .ok (.dup, 1) := by decide +kernel
theorem dL_law_12 : decode cL_law 12 = .ok (.invokespecial 12, 3) := by decide +kernel
theorem dL_law_15 : decode cL_law 15 = .ok (.astore_n 2, 1) := by decide +kernel
theorem dL_law_16 : decode cL_law 16 = .ok (.iconst 0, 1) := by decide +kernel
theorem dL_law_17 : decode cL_law 17 = .ok (.istore_n 3, 1) := by decide +kernel
theorem dL_law_18 : decode cL_law 18 = .ok (.iload_n 3, 1) := by decide +kernel
theorem dL_law_19 : decode cL_law 19 = .ok (.aload_n 0, 1) := by decide +kernel
theorem dL_law_20 : decode cL_law 20 = .ok (.arraylength, 1) := by decide +kernel
theorem dL_law_21 : decode cL_law 21 = .ok (.bipush 8, 2) := by decide +kernel
theorem dL_law_23 : decode cL_law 23 = .ok (.isub, 1) := by decide +kernel
theorem dL_law_24 : decode cL_law 24 = .ok (.if_icmp .gt 1305, 3) := by decide +kernel
theorem dL_law_27 : decode cL_law 27 = .ok (.aload_n 0, 1) := by decide +kernel
theorem dL_law_28 : decode cL_law 28 = .ok (.iload_n 3, 1) := by decide +kernel
theorem dL_law_29 : decode cL_law 29 = .ok (.iaload, 1) := by decide +kernel
theorem dL_law_30 : decode cL_law 30 = .ok (.bipush 31, 2) := by decide +kernel
theorem dL_law_32 : decode cL_law 32 = .ok (.iand, 1) := by decide +kernel
theorem dL_law_33 : decode cL_law 33 = .ok (.tableswitch 1290 0 22 #[107, 210, 243, 307, 350, 373, 416, 459, 547, 623, 686, 739, 762, 838, 881, 914, 957, 1010, 1073, 1126, 1190, 1223, 1267], 107) := by decide +kernel
theorem dL_law_140 : decode cL_law 140 = .ok (.aload_n 1, 1) := by decide +kernel
theorem dL_law_141 : decode cL_law 141 = .ok (.aload_n 0, 1) := by decide +kernel
theorem dL_law_142 : decode cL_law 142 = .ok (.iload_n 3, 1) := by decide +kernel
theorem dL_law_143 : decode cL_law 143 = .ok (.iconst 1, 1) := by decide +kernel
theorem dL_law_144 : decode cL_law 144 = .ok (.iadd, 1) := by decide +kernel
theorem dL_law_145 : decode cL_law 145 = .ok (.iaload, 1) := by decide +kernel
theorem dL_law_146 : decode cL_law 146 = .ok (.aload_n 0, 1) := by decide +kernel
theorem dL_law_147 : decode cL_law 147 = .ok (.iload_n 3, 1) := by decide +kernel
theorem dL_law_148 : decode cL_law 148 = .ok (.iconst 2, 1) := by decide +kernel
theorem dL_law_149 : decode cL_law 149 = .ok (.iadd, 1) := by decide +kernel
theorem dL_law_150 : decode cL_law 150 = .ok (.iaload, 1) := by decide +kernel
theorem dL_law_151 : decode cL_law 151 = .ok (.i2l, 1) := by decide +kernel
theorem dL_law_152 : decode cL_law 152 = .ok (.bipush 32, 2) := by decide +kernel
theorem dL_law_154 : decode cL_law 154 = .ok (.lshl, 1) := by decide +kernel
theorem dL_law_155 : decode cL_law 155 = .ok (.aload_n 0, 1) := by decide +kernel
theorem dL_law_156 : decode cL_law 156 = .ok (.iload_n 3, 1) := by decide +kernel
theorem dL_law_157 : decode cL_law 157 = .ok (.iconst 3, 1) := by decide +kernel
theorem dL_law_158 : decode cL_law 158 = .ok (.iadd, 1) := by decide +kernel
theorem dL_law_159 : decode cL_law 159 = .ok (.iaload, 1) := by decide +kernel
theorem dL_law_160 : decode cL_law 160 = .ok (.i2l, 1) := by decide +kernel
theorem dL_law_161 : decode cL_law 161 = .ok (.ldc2_w 13, 3) := by decide +kernel
theorem dL_law_164 : decode cL_law 164 = .ok (.land, 1) := by decide +kernel
theorem dL_law_165 : decode cL_law 165 = .ok (.lor, 1) := by decide +kernel
theorem dL_law_166 : decode cL_law 166 = .ok (.aload_n 0, 1) := by decide +kernel
theorem dL_law_167 : decode cL_law 167 = .ok (.iload_n 3, 1) := by decide +kernel
theorem dL_law_168 : decode cL_law 168 = .ok (.iconst 4, 1) := by decide +kernel
theorem dL_law_169 : decode cL_law 169 = .ok (.iadd, 1) := by decide +kernel
theorem dL_law_170 : decode cL_law 170 = .ok (.iaload, 1) := by decide +kernel
theorem dL_law_171 : decode cL_law 171 = .ok (.i2l, 1) := by decide +kernel
theorem dL_law_172 : decode cL_law 172 = .ok (.bipush 32, 2) := by decide +kernel
theorem dL_law_174 : decode cL_law 174 = .ok (.lshl, 1) := by decide +kernel
theorem dL_law_175 : decode cL_law 175 = .ok (.aload_n 0, 1) := by decide +kernel
theorem dL_law_176 : decode cL_law 176 = .ok (.iload_n 3, 1) := by decide +kernel
theorem dL_law_177 : decode cL_law 177 = .ok (.iconst 5, 1) := by decide +kernel
theorem dL_law_178 : decode cL_law 178 = .ok (.iadd, 1) := by decide +kernel
theorem dL_law_179 : decode cL_law 179 = .ok (.iaload, 1) := by decide +kernel
theorem dL_law_180 : decode cL_law 180 = .ok (.i2l, 1) := by decide +kernel
theorem dL_law_181 : decode cL_law 181 = .ok (.ldc2_w 13, 3) := by decide +kernel
theorem dL_law_184 : decode cL_law 184 = .ok (.land, 1) := by decide +kernel
theorem dL_law_185 : decode cL_law 185 = .ok (.lor, 1) := by decide +kernel
theorem dL_law_186 : decode cL_law 186 = .ok (.invokevirtual 15, 3) := by decide +kernel
theorem dL_law_189 : decode cL_law 189 = .ok (.aload_n 2, 1) := by decide +kernel
theorem dL_law_190 : decode cL_law 190 = .ok (.aload_n 0, 1) := by decide +kernel
theorem dL_law_191 : decode cL_law 191 = .ok (.iload_n 3, 1) := by decide +kernel
theorem dL_law_192 : decode cL_law 192 = .ok (.iconst 1, 1) := by decide +kernel
theorem dL_law_193 : decode cL_law 193 = .ok (.iadd, 1) := by decide +kernel
theorem dL_law_194 : decode cL_law 194 = .ok (.iaload, 1) := by decide +kernel
theorem dL_law_195 : decode cL_law 195 = .ok (.aload_n 0, 1) := by decide +kernel
theorem dL_law_196 : decode cL_law 196 = .ok (.iload_n 3, 1) := by decide +kernel
theorem dL_law_197 : decode cL_law 197 = .ok (.iconst 2, 1) := by decide +kernel
theorem dL_law_198 : decode cL_law 198 = .ok (.iadd, 1) := by decide +kernel
theorem dL_law_199 : decode cL_law 199 = .ok (.iaload, 1) := by decide +kernel
theorem dL_law_200 : decode cL_law 200 = .ok (.i2l, 1) := by decide +kernel
theorem dL_law_201 : decode cL_law 201 = .ok (.bipush 32, 2) := by decide +kernel
theorem dL_law_203 : decode cL_law 203 = .ok (.lshl, 1) := by decide +kernel
theorem dL_law_204 : decode cL_law 204 = .ok (.aload_n 0, 1) := by decide +kernel
theorem dL_law_205 : decode cL_law 205 = .ok (.iload_n 3, 1) := by decide +kernel
theorem dL_law_206 : decode cL_law 206 = .ok (.iconst 3, 1) := by decide +kernel
theorem dL_law_207 : decode cL_law 207 = .ok (.iadd, 1) := by decide +kernel
theorem dL_law_208 : decode cL_law 208 = .ok (.iaload, 1) := by decide +kernel
theorem dL_law_209 : decode cL_law 209 = .ok (.i2l, 1) := by decide +kernel
theorem dL_law_210 : decode cL_law 210 = .ok (.ldc2_w 13, 3) := by decide +kernel
theorem dL_law_213 : decode cL_law 213 = .ok (.land, 1) := by decide +kernel
theorem dL_law_214 : decode cL_law 214 = .ok (.lor, 1) := by decide +kernel
theorem dL_law_215 : decode cL_law 215 = .ok (.aload_n 0, 1) := by decide +kernel
theorem dL_law_216 : decode cL_law 216 = .ok (.iload_n 3, 1) := by decide +kernel
theorem dL_law_217 : decode cL_law 217 = .ok (.iconst 4, 1) := by decide +kernel
theorem dL_law_218 : decode cL_law 218 = .ok (.iadd, 1) := by decide +kernel
theorem dL_law_219 : decode cL_law 219 = .ok (.iaload, 1) := by decide +kernel
theorem dL_law_220 : decode cL_law 220 = .ok (.i2l, 1) := by decide +kernel
theorem dL_law_221 : decode cL_law 221 = .ok (.bipush 32, 2) := by decide +kernel
theorem dL_law_223 : decode cL_law 223 = .ok (.lshl, 1) := by decide +kernel
theorem dL_law_224 : decode cL_law 224 = .ok (.aload_n 0, 1) := by decide +kernel
theorem dL_law_225 : decode cL_law 225 = .ok (.iload_n 3, 1) := by decide +kernel
theorem dL_law_226 : decode cL_law 226 = .ok (.iconst 5, 1) := by decide +kernel
theorem dL_law_227 : decode cL_law 227 = .ok (.iadd, 1) := by decide +kernel
theorem dL_law_228 : decode cL_law 228 = .ok (.iaload, 1) := by decide +kernel
theorem dL_law_229 : decode cL_law 229 = .ok (.i2l, 1) := by decide +kernel
theorem dL_law_230 : decode cL_law 230 = .ok (.ldc2_w 13, 3) := by decide +kernel
theorem dL_law_233 : decode cL_law 233 = .ok (.land, 1) := by decide +kernel
theorem dL_law_234 : decode cL_law 234 = .ok (.lor, 1) := by decide +kernel
theorem dL_law_235 : decode cL_law 235 = .ok (.invokevirtual 19, 3) := by decide +kernel
theorem dL_law_238 : decode cL_law 238 = .ok (.if_icmp .eq 1085, 3) := by decide +kernel
theorem dL_law_241 : decode cL_law 241 = .ok (.iconst 0, 1) := by decide +kernel
theorem dL_law_242 : decode cL_law 242 = .ok (.ireturn, 1) := by decide +kernel
theorem dL_law_243 : decode cL_law 243 = .ok (.aload_n 1, 1) := by decide +kernel
theorem dL_law_244 : decode cL_law 244 = .ok (.aload_n 0, 1) := by decide +kernel
theorem dL_law_245 : decode cL_law 245 = .ok (.iload_n 3, 1) := by decide +kernel
theorem dL_law_246 : decode cL_law 246 = .ok (.iconst 1, 1) := by decide +kernel
theorem dL_law_247 : decode cL_law 247 = .ok (.iadd, 1) := by decide +kernel
theorem dL_law_248 : decode cL_law 248 = .ok (.iaload, 1) := by decide +kernel
theorem dL_law_249 : decode cL_law 249 = .ok (.aload_n 0, 1) := by decide +kernel
theorem dL_law_250 : decode cL_law 250 = .ok (.iload_n 3, 1) := by decide +kernel
theorem dL_law_251 : decode cL_law 251 = .ok (.iconst 2, 1) := by decide +kernel
theorem dL_law_252 : decode cL_law 252 = .ok (.iadd, 1) := by decide +kernel
theorem dL_law_253 : decode cL_law 253 = .ok (.iaload, 1) := by decide +kernel
theorem dL_law_254 : decode cL_law 254 = .ok (.invokevirtual 20, 3) := by decide +kernel
theorem dL_law_257 : decode cL_law 257 = .ok (.aload_n 2, 1) := by decide +kernel
theorem dL_law_258 : decode cL_law 258 = .ok (.aload_n 0, 1) := by decide +kernel
theorem dL_law_259 : decode cL_law 259 = .ok (.iload_n 3, 1) := by decide +kernel
theorem dL_law_260 : decode cL_law 260 = .ok (.iconst 1, 1) := by decide +kernel
theorem dL_law_261 : decode cL_law 261 = .ok (.iadd, 1) := by decide +kernel
theorem dL_law_262 : decode cL_law 262 = .ok (.iaload, 1) := by decide +kernel
theorem dL_law_263 : decode cL_law 263 = .ok (.aload_n 0, 1) := by decide +kernel
theorem dL_law_264 : decode cL_law 264 = .ok (.iload_n 3, 1) := by decide +kernel
theorem dL_law_265 : decode cL_law 265 = .ok (.iconst 2, 1) := by decide +kernel
theorem dL_law_266 : decode cL_law 266 = .ok (.iadd, 1) := by decide +kernel
theorem dL_law_267 : decode cL_law 267 = .ok (.iaload, 1) := by decide +kernel
theorem dL_law_268 : decode cL_law 268 = .ok (.invokevirtual 24, 3) := by decide +kernel
theorem dL_law_271 : decode cL_law 271 = .ok (.if_icmp .eq 1052, 3) := by decide +kernel
theorem dL_law_274 : decode cL_law 274 = .ok (.iconst 0, 1) := by decide +kernel
theorem dL_law_275 : decode cL_law 275 = .ok (.ireturn, 1) := by decide +kernel
theorem dL_law_276 : decode cL_law 276 = .ok (.aload_n 1, 1) := by decide +kernel
theorem dL_law_277 : decode cL_law 277 = .ok (.aload_n 0, 1) := by decide +kernel
theorem dL_law_278 : decode cL_law 278 = .ok (.iload_n 3, 1) := by decide +kernel
theorem dL_law_279 : decode cL_law 279 = .ok (.iconst 1, 1) := by decide +kernel
theorem dL_law_280 : decode cL_law 280 = .ok (.iadd, 1) := by decide +kernel
theorem dL_law_281 : decode cL_law 281 = .ok (.iaload, 1) := by decide +kernel
theorem dL_law_282 : decode cL_law 282 = .ok (.aload_n 0, 1) := by decide +kernel
theorem dL_law_283 : decode cL_law 283 = .ok (.iload_n 3, 1) := by decide +kernel
theorem dL_law_284 : decode cL_law 284 = .ok (.iconst 2, 1) := by decide +kernel
theorem dL_law_285 : decode cL_law 285 = .ok (.iadd, 1) := by decide +kernel
theorem dL_law_286 : decode cL_law 286 = .ok (.iaload, 1) := by decide +kernel
theorem dL_law_287 : decode cL_law 287 = .ok (.aload_n 0, 1) := by decide +kernel
theorem dL_law_288 : decode cL_law 288 = .ok (.iload_n 3, 1) := by decide +kernel
theorem dL_law_289 : decode cL_law 289 = .ok (.iconst 3, 1) := by decide +kernel
theorem dL_law_290 : decode cL_law 290 = .ok (.iadd, 1) := by decide +kernel
theorem dL_law_291 : decode cL_law 291 = .ok (.iaload, 1) := by decide +kernel
theorem dL_law_292 : decode cL_law 292 = .ok (.aload_n 0, 1) := by decide +kernel
theorem dL_law_293 : decode cL_law 293 = .ok (.iload_n 3, 1) := by decide +kernel
theorem dL_law_294 : decode cL_law 294 = .ok (.iconst 4, 1) := by decide +kernel
theorem dL_law_295 : decode cL_law 295 = .ok (.iadd, 1) := by decide +kernel
theorem dL_law_296 : decode cL_law 296 = .ok (.iaload, 1) := by decide +kernel
theorem dL_law_297 : decode cL_law 297 = .ok (.aload_n 0, 1) := by decide +kernel
theorem dL_law_298 : decode cL_law 298 = .ok (.iload_n 3, 1) := by decide +kernel
theorem dL_law_299 : decode cL_law 299 = .ok (.iconst 5, 1) := by decide +kernel
theorem dL_law_300 : decode cL_law 300 = .ok (.iadd, 1) := by decide +kernel
theorem dL_law_301 : decode cL_law 301 = .ok (.iaload, 1) := by decide +kernel
theorem dL_law_302 : decode cL_law 302 = .ok (.invokevirtual 25, 3) := by decide +kernel
theorem dL_law_305 : decode cL_law 305 = .ok (.aload_n 2, 1) := by decide +kernel
theorem dL_law_306 : decode cL_law 306 = .ok (.aload_n 0, 1) := by decide +kernel
theorem dL_law_307 : decode cL_law 307 = .ok (.iload_n 3, 1) := by decide +kernel
theorem dL_law_308 : decode cL_law 308 = .ok (.iconst 1, 1) := by decide +kernel
theorem dL_law_309 : decode cL_law 309 = .ok (.iadd, 1) := by decide +kernel
theorem dL_law_310 : decode cL_law 310 = .ok (.iaload, 1) := by decide +kernel
theorem dL_law_311 : decode cL_law 311 = .ok (.aload_n 0, 1) := by decide +kernel
theorem dL_law_312 : decode cL_law 312 = .ok (.iload_n 3, 1) := by decide +kernel
theorem dL_law_313 : decode cL_law 313 = .ok (.iconst 2, 1) := by decide +kernel
theorem dL_law_314 : decode cL_law 314 = .ok (.iadd, 1) := by decide +kernel
theorem dL_law_315 : decode cL_law 315 = .ok (.iaload, 1) := by decide +kernel
theorem dL_law_316 : decode cL_law 316 = .ok (.aload_n 0, 1) := by decide +kernel
theorem dL_law_317 : decode cL_law 317 = .ok (.iload_n 3, 1) := by decide +kernel
theorem dL_law_318 : decode cL_law 318 = .ok (.iconst 3, 1) := by decide +kernel
theorem dL_law_319 : decode cL_law 319 = .ok (.iadd, 1) := by decide +kernel
theorem dL_law_320 : decode cL_law 320 = .ok (.iaload, 1) := by decide +kernel
theorem dL_law_321 : decode cL_law 321 = .ok (.aload_n 0, 1) := by decide +kernel
theorem dL_law_322 : decode cL_law 322 = .ok (.iload_n 3, 1) := by decide +kernel
theorem dL_law_323 : decode cL_law 323 = .ok (.iconst 4, 1) := by decide +kernel
theorem dL_law_324 : decode cL_law 324 = .ok (.iadd, 1) := by decide +kernel
theorem dL_law_325 : decode cL_law 325 = .ok (.iaload, 1) := by decide +kernel
theorem dL_law_326 : decode cL_law 326 = .ok (.aload_n 0, 1) := by decide +kernel
theorem dL_law_327 : decode cL_law 327 = .ok (.iload_n 3, 1) := by decide +kernel
theorem dL_law_328 : decode cL_law 328 = .ok (.iconst 5, 1) := by decide +kernel
theorem dL_law_329 : decode cL_law 329 = .ok (.iadd, 1) := by decide +kernel
theorem dL_law_330 : decode cL_law 330 = .ok (.iaload, 1) := by decide +kernel
theorem dL_law_331 : decode cL_law 331 = .ok (.invokevirtual 29, 3) := by decide +kernel
theorem dL_law_334 : decode cL_law 334 = .ok (.lcmp, 1) := by decide +kernel
theorem dL_law_335 : decode cL_law 335 = .ok (.ifCond .eq 988, 3) := by decide +kernel
theorem dL_law_338 : decode cL_law 338 = .ok (.iconst 0, 1) := by decide +kernel
theorem dL_law_339 : decode cL_law 339 = .ok (.ireturn, 1) := by decide +kernel
theorem dL_law_340 : decode cL_law 340 = .ok (.aload_n 1, 1) := by decide +kernel
theorem dL_law_341 : decode cL_law 341 = .ok (.aload_n 0, 1) := by decide +kernel
theorem dL_law_342 : decode cL_law 342 = .ok (.iload_n 3, 1) := by decide +kernel
theorem dL_law_343 : decode cL_law 343 = .ok (.iconst 1, 1) := by decide +kernel
theorem dL_law_344 : decode cL_law 344 = .ok (.iadd, 1) := by decide +kernel
theorem dL_law_345 : decode cL_law 345 = .ok (.iaload, 1) := by decide +kernel
theorem dL_law_346 : decode cL_law 346 = .ok (.aload_n 0, 1) := by decide +kernel
theorem dL_law_347 : decode cL_law 347 = .ok (.iload_n 3, 1) := by decide +kernel
theorem dL_law_348 : decode cL_law 348 = .ok (.iconst 2, 1) := by decide +kernel
theorem dL_law_349 : decode cL_law 349 = .ok (.iadd, 1) := by decide +kernel
theorem dL_law_350 : decode cL_law 350 = .ok (.iaload, 1) := by decide +kernel
theorem dL_law_351 : decode cL_law 351 = .ok (.aload_n 0, 1) := by decide +kernel
theorem dL_law_352 : decode cL_law 352 = .ok (.iload_n 3, 1) := by decide +kernel
theorem dL_law_353 : decode cL_law 353 = .ok (.iconst 3, 1) := by decide +kernel
theorem dL_law_354 : decode cL_law 354 = .ok (.iadd, 1) := by decide +kernel
theorem dL_law_355 : decode cL_law 355 = .ok (.iaload, 1) := by decide +kernel
theorem dL_law_356 : decode cL_law 356 = .ok (.invokevirtual 30, 3) := by decide +kernel
theorem dL_law_359 : decode cL_law 359 = .ok (.aload_n 2, 1) := by decide +kernel
theorem dL_law_360 : decode cL_law 360 = .ok (.aload_n 0, 1) := by decide +kernel
theorem dL_law_361 : decode cL_law 361 = .ok (.iload_n 3, 1) := by decide +kernel
theorem dL_law_362 : decode cL_law 362 = .ok (.iconst 1, 1) := by decide +kernel
theorem dL_law_363 : decode cL_law 363 = .ok (.iadd, 1) := by decide +kernel
theorem dL_law_364 : decode cL_law 364 = .ok (.iaload, 1) := by decide +kernel
theorem dL_law_365 : decode cL_law 365 = .ok (.aload_n 0, 1) := by decide +kernel
theorem dL_law_366 : decode cL_law 366 = .ok (.iload_n 3, 1) := by decide +kernel
theorem dL_law_367 : decode cL_law 367 = .ok (.iconst 2, 1) := by decide +kernel
theorem dL_law_368 : decode cL_law 368 = .ok (.iadd, 1) := by decide +kernel
theorem dL_law_369 : decode cL_law 369 = .ok (.iaload, 1) := by decide +kernel
theorem dL_law_370 : decode cL_law 370 = .ok (.aload_n 0, 1) := by decide +kernel
theorem dL_law_371 : decode cL_law 371 = .ok (.iload_n 3, 1) := by decide +kernel
theorem dL_law_372 : decode cL_law 372 = .ok (.iconst 3, 1) := by decide +kernel
theorem dL_law_373 : decode cL_law 373 = .ok (.iadd, 1) := by decide +kernel
theorem dL_law_374 : decode cL_law 374 = .ok (.iaload, 1) := by decide +kernel
theorem dL_law_375 : decode cL_law 375 = .ok (.invokevirtual 34, 3) := by decide +kernel
theorem dL_law_378 : decode cL_law 378 = .ok (.if_icmp .eq 945, 3) := by decide +kernel
theorem dL_law_381 : decode cL_law 381 = .ok (.iconst 0, 1) := by decide +kernel
theorem dL_law_382 : decode cL_law 382 = .ok (.ireturn, 1) := by decide +kernel
theorem dL_law_383 : decode cL_law 383 = .ok (.aload_n 1, 1) := by decide +kernel
theorem dL_law_384 : decode cL_law 384 = .ok (.aload_n 0, 1) := by decide +kernel
theorem dL_law_385 : decode cL_law 385 = .ok (.iload_n 3, 1) := by decide +kernel
theorem dL_law_386 : decode cL_law 386 = .ok (.iconst 1, 1) := by decide +kernel
theorem dL_law_387 : decode cL_law 387 = .ok (.iadd, 1) := by decide +kernel
theorem dL_law_388 : decode cL_law 388 = .ok (.iaload, 1) := by decide +kernel
theorem dL_law_389 : decode cL_law 389 = .ok (.invokevirtual 35, 3) := by decide +kernel
theorem dL_law_392 : decode cL_law 392 = .ok (.aload_n 2, 1) := by decide +kernel
theorem dL_law_393 : decode cL_law 393 = .ok (.aload_n 0, 1) := by decide +kernel
theorem dL_law_394 : decode cL_law 394 = .ok (.iload_n 3, 1) := by decide +kernel
theorem dL_law_395 : decode cL_law 395 = .ok (.iconst 1, 1) := by decide +kernel
theorem dL_law_396 : decode cL_law 396 = .ok (.iadd, 1) := by decide +kernel
theorem dL_law_397 : decode cL_law 397 = .ok (.iaload, 1) := by decide +kernel
theorem dL_law_398 : decode cL_law 398 = .ok (.invokevirtual 39, 3) := by decide +kernel
theorem dL_law_401 : decode cL_law 401 = .ok (.if_icmp .eq 922, 3) := by decide +kernel
theorem dL_law_404 : decode cL_law 404 = .ok (.iconst 0, 1) := by decide +kernel
theorem dL_law_405 : decode cL_law 405 = .ok (.ireturn, 1) := by decide +kernel
theorem dL_law_406 : decode cL_law 406 = .ok (.aload_n 1, 1) := by decide +kernel
theorem dL_law_407 : decode cL_law 407 = .ok (.aload_n 0, 1) := by decide +kernel
theorem dL_law_408 : decode cL_law 408 = .ok (.iload_n 3, 1) := by decide +kernel
theorem dL_law_409 : decode cL_law 409 = .ok (.iconst 1, 1) := by decide +kernel
theorem dL_law_410 : decode cL_law 410 = .ok (.iadd, 1) := by decide +kernel
theorem dL_law_411 : decode cL_law 411 = .ok (.iaload, 1) := by decide +kernel
theorem dL_law_412 : decode cL_law 412 = .ok (.aload_n 0, 1) := by decide +kernel
theorem dL_law_413 : decode cL_law 413 = .ok (.iload_n 3, 1) := by decide +kernel
theorem dL_law_414 : decode cL_law 414 = .ok (.iconst 2, 1) := by decide +kernel
theorem dL_law_415 : decode cL_law 415 = .ok (.iadd, 1) := by decide +kernel
theorem dL_law_416 : decode cL_law 416 = .ok (.iaload, 1) := by decide +kernel
theorem dL_law_417 : decode cL_law 417 = .ok (.aload_n 0, 1) := by decide +kernel
theorem dL_law_418 : decode cL_law 418 = .ok (.iload_n 3, 1) := by decide +kernel
theorem dL_law_419 : decode cL_law 419 = .ok (.iconst 3, 1) := by decide +kernel
theorem dL_law_420 : decode cL_law 420 = .ok (.iadd, 1) := by decide +kernel
theorem dL_law_421 : decode cL_law 421 = .ok (.iaload, 1) := by decide +kernel
theorem dL_law_422 : decode cL_law 422 = .ok (.invokevirtual 40, 3) := by decide +kernel
theorem dL_law_425 : decode cL_law 425 = .ok (.aload_n 2, 1) := by decide +kernel
theorem dL_law_426 : decode cL_law 426 = .ok (.aload_n 0, 1) := by decide +kernel
theorem dL_law_427 : decode cL_law 427 = .ok (.iload_n 3, 1) := by decide +kernel
theorem dL_law_428 : decode cL_law 428 = .ok (.iconst 1, 1) := by decide +kernel
theorem dL_law_429 : decode cL_law 429 = .ok (.iadd, 1) := by decide +kernel
theorem dL_law_430 : decode cL_law 430 = .ok (.iaload, 1) := by decide +kernel
theorem dL_law_431 : decode cL_law 431 = .ok (.aload_n 0, 1) := by decide +kernel
theorem dL_law_432 : decode cL_law 432 = .ok (.iload_n 3, 1) := by decide +kernel
theorem dL_law_433 : decode cL_law 433 = .ok (.iconst 2, 1) := by decide +kernel
theorem dL_law_434 : decode cL_law 434 = .ok (.iadd, 1) := by decide +kernel
theorem dL_law_435 : decode cL_law 435 = .ok (.iaload, 1) := by decide +kernel
theorem dL_law_436 : decode cL_law 436 = .ok (.aload_n 0, 1) := by decide +kernel
theorem dL_law_437 : decode cL_law 437 = .ok (.iload_n 3, 1) := by decide +kernel
theorem dL_law_438 : decode cL_law 438 = .ok (.iconst 3, 1) := by decide +kernel
theorem dL_law_439 : decode cL_law 439 = .ok (.iadd, 1) := by decide +kernel
theorem dL_law_440 : decode cL_law 440 = .ok (.iaload, 1) := by decide +kernel
theorem dL_law_441 : decode cL_law 441 = .ok (.invokevirtual 43, 3) := by decide +kernel
theorem dL_law_444 : decode cL_law 444 = .ok (.if_icmp .eq 879, 3) := by decide +kernel
theorem dL_law_447 : decode cL_law 447 = .ok (.iconst 0, 1) := by decide +kernel
theorem dL_law_448 : decode cL_law 448 = .ok (.ireturn, 1) := by decide +kernel
theorem dL_law_449 : decode cL_law 449 = .ok (.aload_n 1, 1) := by decide +kernel
theorem dL_law_450 : decode cL_law 450 = .ok (.aload_n 0, 1) := by decide +kernel
theorem dL_law_451 : decode cL_law 451 = .ok (.iload_n 3, 1) := by decide +kernel
theorem dL_law_452 : decode cL_law 452 = .ok (.iconst 1, 1) := by decide +kernel
theorem dL_law_453 : decode cL_law 453 = .ok (.iadd, 1) := by decide +kernel
theorem dL_law_454 : decode cL_law 454 = .ok (.iaload, 1) := by decide +kernel
theorem dL_law_455 : decode cL_law 455 = .ok (.aload_n 0, 1) := by decide +kernel
theorem dL_law_456 : decode cL_law 456 = .ok (.iload_n 3, 1) := by decide +kernel
theorem dL_law_457 : decode cL_law 457 = .ok (.iconst 2, 1) := by decide +kernel
theorem dL_law_458 : decode cL_law 458 = .ok (.iadd, 1) := by decide +kernel
theorem dL_law_459 : decode cL_law 459 = .ok (.iaload, 1) := by decide +kernel
theorem dL_law_460 : decode cL_law 460 = .ok (.aload_n 0, 1) := by decide +kernel
theorem dL_law_461 : decode cL_law 461 = .ok (.iload_n 3, 1) := by decide +kernel
theorem dL_law_462 : decode cL_law 462 = .ok (.iconst 3, 1) := by decide +kernel
theorem dL_law_463 : decode cL_law 463 = .ok (.iadd, 1) := by decide +kernel
theorem dL_law_464 : decode cL_law 464 = .ok (.iaload, 1) := by decide +kernel
theorem dL_law_465 : decode cL_law 465 = .ok (.invokevirtual 44, 3) := by decide +kernel
theorem dL_law_468 : decode cL_law 468 = .ok (.aload_n 2, 1) := by decide +kernel
theorem dL_law_469 : decode cL_law 469 = .ok (.aload_n 0, 1) := by decide +kernel
theorem dL_law_470 : decode cL_law 470 = .ok (.iload_n 3, 1) := by decide +kernel
theorem dL_law_471 : decode cL_law 471 = .ok (.iconst 1, 1) := by decide +kernel
theorem dL_law_472 : decode cL_law 472 = .ok (.iadd, 1) := by decide +kernel
theorem dL_law_473 : decode cL_law 473 = .ok (.iaload, 1) := by decide +kernel
theorem dL_law_474 : decode cL_law 474 = .ok (.aload_n 0, 1) := by decide +kernel
theorem dL_law_475 : decode cL_law 475 = .ok (.iload_n 3, 1) := by decide +kernel
theorem dL_law_476 : decode cL_law 476 = .ok (.iconst 2, 1) := by decide +kernel
theorem dL_law_477 : decode cL_law 477 = .ok (.iadd, 1) := by decide +kernel
theorem dL_law_478 : decode cL_law 478 = .ok (.iaload, 1) := by decide +kernel
theorem dL_law_479 : decode cL_law 479 = .ok (.aload_n 0, 1) := by decide +kernel
theorem dL_law_480 : decode cL_law 480 = .ok (.iload_n 3, 1) := by decide +kernel
theorem dL_law_481 : decode cL_law 481 = .ok (.iconst 3, 1) := by decide +kernel
theorem dL_law_482 : decode cL_law 482 = .ok (.iadd, 1) := by decide +kernel
theorem dL_law_483 : decode cL_law 483 = .ok (.iaload, 1) := by decide +kernel
theorem dL_law_484 : decode cL_law 484 = .ok (.invokevirtual 47, 3) := by decide +kernel
theorem dL_law_487 : decode cL_law 487 = .ok (.if_icmp .eq 836, 3) := by decide +kernel
theorem dL_law_490 : decode cL_law 490 = .ok (.iconst 0, 1) := by decide +kernel
theorem dL_law_491 : decode cL_law 491 = .ok (.ireturn, 1) := by decide +kernel
theorem dL_law_492 : decode cL_law 492 = .ok (.aload_n 1, 1) := by decide +kernel
theorem dL_law_493 : decode cL_law 493 = .ok (.aload_n 0, 1) := by decide +kernel
theorem dL_law_494 : decode cL_law 494 = .ok (.iload_n 3, 1) := by decide +kernel
theorem dL_law_495 : decode cL_law 495 = .ok (.iconst 1, 1) := by decide +kernel
theorem dL_law_496 : decode cL_law 496 = .ok (.iadd, 1) := by decide +kernel
theorem dL_law_497 : decode cL_law 497 = .ok (.iaload, 1) := by decide +kernel
theorem dL_law_498 : decode cL_law 498 = .ok (.aload_n 0, 1) := by decide +kernel
theorem dL_law_499 : decode cL_law 499 = .ok (.iload_n 3, 1) := by decide +kernel
theorem dL_law_500 : decode cL_law 500 = .ok (.iconst 2, 1) := by decide +kernel
theorem dL_law_501 : decode cL_law 501 = .ok (.iadd, 1) := by decide +kernel
theorem dL_law_502 : decode cL_law 502 = .ok (.iaload, 1) := by decide +kernel
theorem dL_law_503 : decode cL_law 503 = .ok (.aload_n 0, 1) := by decide +kernel
theorem dL_law_504 : decode cL_law 504 = .ok (.iload_n 3, 1) := by decide +kernel
theorem dL_law_505 : decode cL_law 505 = .ok (.iconst 3, 1) := by decide +kernel
theorem dL_law_506 : decode cL_law 506 = .ok (.iadd, 1) := by decide +kernel
theorem dL_law_507 : decode cL_law 507 = .ok (.iaload, 1) := by decide +kernel
theorem dL_law_508 : decode cL_law 508 = .ok (.aload_n 0, 1) := by decide +kernel
theorem dL_law_509 : decode cL_law 509 = .ok (.iload_n 3, 1) := by decide +kernel
theorem dL_law_510 : decode cL_law 510 = .ok (.iconst 4, 1) := by decide +kernel
theorem dL_law_511 : decode cL_law 511 = .ok (.iadd, 1) := by decide +kernel
theorem dL_law_512 : decode cL_law 512 = .ok (.iaload, 1) := by decide +kernel
theorem dL_law_513 : decode cL_law 513 = .ok (.aload_n 0, 1) := by decide +kernel
theorem dL_law_514 : decode cL_law 514 = .ok (.iload_n 3, 1) := by decide +kernel
theorem dL_law_515 : decode cL_law 515 = .ok (.iconst 5, 1) := by decide +kernel
theorem dL_law_516 : decode cL_law 516 = .ok (.iadd, 1) := by decide +kernel
theorem dL_law_517 : decode cL_law 517 = .ok (.iaload, 1) := by decide +kernel
theorem dL_law_518 : decode cL_law 518 = .ok (.aload_n 0, 1) := by decide +kernel
theorem dL_law_519 : decode cL_law 519 = .ok (.iload_n 3, 1) := by decide +kernel
theorem dL_law_520 : decode cL_law 520 = .ok (.bipush 6, 2) := by decide +kernel
theorem dL_law_522 : decode cL_law 522 = .ok (.iadd, 1) := by decide +kernel
theorem dL_law_523 : decode cL_law 523 = .ok (.iaload, 1) := by decide +kernel
theorem dL_law_524 : decode cL_law 524 = .ok (.aload_n 0, 1) := by decide +kernel
theorem dL_law_525 : decode cL_law 525 = .ok (.iload_n 3, 1) := by decide +kernel
theorem dL_law_526 : decode cL_law 526 = .ok (.bipush 7, 2) := by decide +kernel
theorem dL_law_528 : decode cL_law 528 = .ok (.iadd, 1) := by decide +kernel
theorem dL_law_529 : decode cL_law 529 = .ok (.iaload, 1) := by decide +kernel
theorem dL_law_530 : decode cL_law 530 = .ok (.invokevirtual 48, 3) := by decide +kernel
theorem dL_law_533 : decode cL_law 533 = .ok (.aload_n 2, 1) := by decide +kernel
theorem dL_law_534 : decode cL_law 534 = .ok (.aload_n 0, 1) := by decide +kernel
theorem dL_law_535 : decode cL_law 535 = .ok (.iload_n 3, 1) := by decide +kernel
theorem dL_law_536 : decode cL_law 536 = .ok (.iconst 1, 1) := by decide +kernel
theorem dL_law_537 : decode cL_law 537 = .ok (.iadd, 1) := by decide +kernel
theorem dL_law_538 : decode cL_law 538 = .ok (.iaload, 1) := by decide +kernel
theorem dL_law_539 : decode cL_law 539 = .ok (.aload_n 0, 1) := by decide +kernel
theorem dL_law_540 : decode cL_law 540 = .ok (.iload_n 3, 1) := by decide +kernel
theorem dL_law_541 : decode cL_law 541 = .ok (.iconst 2, 1) := by decide +kernel
theorem dL_law_542 : decode cL_law 542 = .ok (.iadd, 1) := by decide +kernel
theorem dL_law_543 : decode cL_law 543 = .ok (.iaload, 1) := by decide +kernel
theorem dL_law_544 : decode cL_law 544 = .ok (.aload_n 0, 1) := by decide +kernel
theorem dL_law_545 : decode cL_law 545 = .ok (.iload_n 3, 1) := by decide +kernel
theorem dL_law_546 : decode cL_law 546 = .ok (.iconst 3, 1) := by decide +kernel
theorem dL_law_547 : decode cL_law 547 = .ok (.iadd, 1) := by decide +kernel
theorem dL_law_548 : decode cL_law 548 = .ok (.iaload, 1) := by decide +kernel
theorem dL_law_549 : decode cL_law 549 = .ok (.aload_n 0, 1) := by decide +kernel
theorem dL_law_550 : decode cL_law 550 = .ok (.iload_n 3, 1) := by decide +kernel
theorem dL_law_551 : decode cL_law 551 = .ok (.iconst 4, 1) := by decide +kernel
theorem dL_law_552 : decode cL_law 552 = .ok (.iadd, 1) := by decide +kernel
theorem dL_law_553 : decode cL_law 553 = .ok (.iaload, 1) := by decide +kernel
theorem dL_law_554 : decode cL_law 554 = .ok (.aload_n 0, 1) := by decide +kernel
theorem dL_law_555 : decode cL_law 555 = .ok (.iload_n 3, 1) := by decide +kernel
theorem dL_law_556 : decode cL_law 556 = .ok (.iconst 5, 1) := by decide +kernel
theorem dL_law_557 : decode cL_law 557 = .ok (.iadd, 1) := by decide +kernel
theorem dL_law_558 : decode cL_law 558 = .ok (.iaload, 1) := by decide +kernel
theorem dL_law_559 : decode cL_law 559 = .ok (.aload_n 0, 1) := by decide +kernel
theorem dL_law_560 : decode cL_law 560 = .ok (.iload_n 3, 1) := by decide +kernel
theorem dL_law_561 : decode cL_law 561 = .ok (.bipush 6, 2) := by decide +kernel
theorem dL_law_563 : decode cL_law 563 = .ok (.iadd, 1) := by decide +kernel
theorem dL_law_564 : decode cL_law 564 = .ok (.iaload, 1) := by decide +kernel
theorem dL_law_565 : decode cL_law 565 = .ok (.aload_n 0, 1) := by decide +kernel
theorem dL_law_566 : decode cL_law 566 = .ok (.iload_n 3, 1) := by decide +kernel
theorem dL_law_567 : decode cL_law 567 = .ok (.bipush 7, 2) := by decide +kernel
theorem dL_law_569 : decode cL_law 569 = .ok (.iadd, 1) := by decide +kernel
theorem dL_law_570 : decode cL_law 570 = .ok (.iaload, 1) := by decide +kernel
theorem dL_law_571 : decode cL_law 571 = .ok (.invokevirtual 52, 3) := by decide +kernel
theorem dL_law_574 : decode cL_law 574 = .ok (.lcmp, 1) := by decide +kernel
theorem dL_law_575 : decode cL_law 575 = .ok (.ifCond .eq 748, 3) := by decide +kernel
theorem dL_law_578 : decode cL_law 578 = .ok (.iconst 0, 1) := by decide +kernel
theorem dL_law_579 : decode cL_law 579 = .ok (.ireturn, 1) := by decide +kernel
theorem dL_law_580 : decode cL_law 580 = .ok (.aload_n 1, 1) := by decide +kernel
theorem dL_law_581 : decode cL_law 581 = .ok (.aload_n 0, 1) := by decide +kernel
theorem dL_law_582 : decode cL_law 582 = .ok (.iload_n 3, 1) := by decide +kernel
theorem dL_law_583 : decode cL_law 583 = .ok (.iconst 1, 1) := by decide +kernel
theorem dL_law_584 : decode cL_law 584 = .ok (.iadd, 1) := by decide +kernel
theorem dL_law_585 : decode cL_law 585 = .ok (.iaload, 1) := by decide +kernel
theorem dL_law_586 : decode cL_law 586 = .ok (.aload_n 0, 1) := by decide +kernel
theorem dL_law_587 : decode cL_law 587 = .ok (.iload_n 3, 1) := by decide +kernel
theorem dL_law_588 : decode cL_law 588 = .ok (.iconst 2, 1) := by decide +kernel
theorem dL_law_589 : decode cL_law 589 = .ok (.iadd, 1) := by decide +kernel
theorem dL_law_590 : decode cL_law 590 = .ok (.iaload, 1) := by decide +kernel
theorem dL_law_591 : decode cL_law 591 = .ok (.aload_n 0, 1) := by decide +kernel
theorem dL_law_592 : decode cL_law 592 = .ok (.iload_n 3, 1) := by decide +kernel
theorem dL_law_593 : decode cL_law 593 = .ok (.iconst 3, 1) := by decide +kernel
theorem dL_law_594 : decode cL_law 594 = .ok (.iadd, 1) := by decide +kernel
theorem dL_law_595 : decode cL_law 595 = .ok (.iaload, 1) := by decide +kernel
theorem dL_law_596 : decode cL_law 596 = .ok (.aload_n 0, 1) := by decide +kernel
theorem dL_law_597 : decode cL_law 597 = .ok (.iload_n 3, 1) := by decide +kernel
theorem dL_law_598 : decode cL_law 598 = .ok (.iconst 4, 1) := by decide +kernel
theorem dL_law_599 : decode cL_law 599 = .ok (.iadd, 1) := by decide +kernel
theorem dL_law_600 : decode cL_law 600 = .ok (.iaload, 1) := by decide +kernel
theorem dL_law_601 : decode cL_law 601 = .ok (.aload_n 0, 1) := by decide +kernel
theorem dL_law_602 : decode cL_law 602 = .ok (.iload_n 3, 1) := by decide +kernel
theorem dL_law_603 : decode cL_law 603 = .ok (.iconst 5, 1) := by decide +kernel
theorem dL_law_604 : decode cL_law 604 = .ok (.iadd, 1) := by decide +kernel
theorem dL_law_605 : decode cL_law 605 = .ok (.iaload, 1) := by decide +kernel
theorem dL_law_606 : decode cL_law 606 = .ok (.aload_n 0, 1) := by decide +kernel
theorem dL_law_607 : decode cL_law 607 = .ok (.iload_n 3, 1) := by decide +kernel
theorem dL_law_608 : decode cL_law 608 = .ok (.bipush 6, 2) := by decide +kernel
theorem dL_law_610 : decode cL_law 610 = .ok (.iadd, 1) := by decide +kernel
theorem dL_law_611 : decode cL_law 611 = .ok (.iaload, 1) := by decide +kernel
theorem dL_law_612 : decode cL_law 612 = .ok (.invokevirtual 53, 3) := by decide +kernel
theorem dL_law_615 : decode cL_law 615 = .ok (.aload_n 2, 1) := by decide +kernel
theorem dL_law_616 : decode cL_law 616 = .ok (.aload_n 0, 1) := by decide +kernel
theorem dL_law_617 : decode cL_law 617 = .ok (.iload_n 3, 1) := by decide +kernel
theorem dL_law_618 : decode cL_law 618 = .ok (.iconst 1, 1) := by decide +kernel
theorem dL_law_619 : decode cL_law 619 = .ok (.iadd, 1) := by decide +kernel
theorem dL_law_620 : decode cL_law 620 = .ok (.iaload, 1) := by decide +kernel
theorem dL_law_621 : decode cL_law 621 = .ok (.aload_n 0, 1) := by decide +kernel
theorem dL_law_622 : decode cL_law 622 = .ok (.iload_n 3, 1) := by decide +kernel
theorem dL_law_623 : decode cL_law 623 = .ok (.iconst 2, 1) := by decide +kernel
theorem dL_law_624 : decode cL_law 624 = .ok (.iadd, 1) := by decide +kernel
theorem dL_law_625 : decode cL_law 625 = .ok (.iaload, 1) := by decide +kernel
theorem dL_law_626 : decode cL_law 626 = .ok (.aload_n 0, 1) := by decide +kernel
theorem dL_law_627 : decode cL_law 627 = .ok (.iload_n 3, 1) := by decide +kernel
theorem dL_law_628 : decode cL_law 628 = .ok (.iconst 3, 1) := by decide +kernel
theorem dL_law_629 : decode cL_law 629 = .ok (.iadd, 1) := by decide +kernel
theorem dL_law_630 : decode cL_law 630 = .ok (.iaload, 1) := by decide +kernel
theorem dL_law_631 : decode cL_law 631 = .ok (.aload_n 0, 1) := by decide +kernel
theorem dL_law_632 : decode cL_law 632 = .ok (.iload_n 3, 1) := by decide +kernel
theorem dL_law_633 : decode cL_law 633 = .ok (.iconst 4, 1) := by decide +kernel
theorem dL_law_634 : decode cL_law 634 = .ok (.iadd, 1) := by decide +kernel
theorem dL_law_635 : decode cL_law 635 = .ok (.iaload, 1) := by decide +kernel
theorem dL_law_636 : decode cL_law 636 = .ok (.aload_n 0, 1) := by decide +kernel
theorem dL_law_637 : decode cL_law 637 = .ok (.iload_n 3, 1) := by decide +kernel
theorem dL_law_638 : decode cL_law 638 = .ok (.iconst 5, 1) := by decide +kernel
theorem dL_law_639 : decode cL_law 639 = .ok (.iadd, 1) := by decide +kernel
theorem dL_law_640 : decode cL_law 640 = .ok (.iaload, 1) := by decide +kernel
theorem dL_law_641 : decode cL_law 641 = .ok (.aload_n 0, 1) := by decide +kernel
theorem dL_law_642 : decode cL_law 642 = .ok (.iload_n 3, 1) := by decide +kernel
theorem dL_law_643 : decode cL_law 643 = .ok (.bipush 6, 2) := by decide +kernel
theorem dL_law_645 : decode cL_law 645 = .ok (.iadd, 1) := by decide +kernel
theorem dL_law_646 : decode cL_law 646 = .ok (.iaload, 1) := by decide +kernel
theorem dL_law_647 : decode cL_law 647 = .ok (.invokevirtual 57, 3) := by decide +kernel
theorem dL_law_650 : decode cL_law 650 = .ok (.lcmp, 1) := by decide +kernel
theorem dL_law_651 : decode cL_law 651 = .ok (.ifCond .eq 672, 3) := by decide +kernel
theorem dL_law_654 : decode cL_law 654 = .ok (.iconst 0, 1) := by decide +kernel
theorem dL_law_655 : decode cL_law 655 = .ok (.ireturn, 1) := by decide +kernel
theorem dL_law_656 : decode cL_law 656 = .ok (.aload_n 1, 1) := by decide +kernel
theorem dL_law_657 : decode cL_law 657 = .ok (.aload_n 0, 1) := by decide +kernel
theorem dL_law_658 : decode cL_law 658 = .ok (.iload_n 3, 1) := by decide +kernel
theorem dL_law_659 : decode cL_law 659 = .ok (.iconst 1, 1) := by decide +kernel
theorem dL_law_660 : decode cL_law 660 = .ok (.iadd, 1) := by decide +kernel
theorem dL_law_661 : decode cL_law 661 = .ok (.iaload, 1) := by decide +kernel
theorem dL_law_662 : decode cL_law 662 = .ok (.aload_n 0, 1) := by decide +kernel
theorem dL_law_663 : decode cL_law 663 = .ok (.iload_n 3, 1) := by decide +kernel
theorem dL_law_664 : decode cL_law 664 = .ok (.iconst 2, 1) := by decide +kernel
theorem dL_law_665 : decode cL_law 665 = .ok (.iadd, 1) := by decide +kernel
theorem dL_law_666 : decode cL_law 666 = .ok (.iaload, 1) := by decide +kernel
theorem dL_law_667 : decode cL_law 667 = .ok (.aload_n 0, 1) := by decide +kernel
theorem dL_law_668 : decode cL_law 668 = .ok (.iload_n 3, 1) := by decide +kernel
theorem dL_law_669 : decode cL_law 669 = .ok (.iconst 3, 1) := by decide +kernel
theorem dL_law_670 : decode cL_law 670 = .ok (.iadd, 1) := by decide +kernel
theorem dL_law_671 : decode cL_law 671 = .ok (.iaload, 1) := by decide +kernel
theorem dL_law_672 : decode cL_law 672 = .ok (.aload_n 0, 1) := by decide +kernel
theorem dL_law_673 : decode cL_law 673 = .ok (.iload_n 3, 1) := by decide +kernel
theorem dL_law_674 : decode cL_law 674 = .ok (.iconst 4, 1) := by decide +kernel
theorem dL_law_675 : decode cL_law 675 = .ok (.iadd, 1) := by decide +kernel
theorem dL_law_676 : decode cL_law 676 = .ok (.iaload, 1) := by decide +kernel
theorem dL_law_677 : decode cL_law 677 = .ok (.aload_n 0, 1) := by decide +kernel
theorem dL_law_678 : decode cL_law 678 = .ok (.iload_n 3, 1) := by decide +kernel
theorem dL_law_679 : decode cL_law 679 = .ok (.iconst 5, 1) := by decide +kernel
theorem dL_law_680 : decode cL_law 680 = .ok (.iadd, 1) := by decide +kernel
theorem dL_law_681 : decode cL_law 681 = .ok (.iaload, 1) := by decide +kernel
theorem dL_law_682 : decode cL_law 682 = .ok (.invokevirtual 58, 3) := by decide +kernel
theorem dL_law_685 : decode cL_law 685 = .ok (.aload_n 2, 1) := by decide +kernel
theorem dL_law_686 : decode cL_law 686 = .ok (.aload_n 0, 1) := by decide +kernel
theorem dL_law_687 : decode cL_law 687 = .ok (.iload_n 3, 1) := by decide +kernel
theorem dL_law_688 : decode cL_law 688 = .ok (.iconst 1, 1) := by decide +kernel
theorem dL_law_689 : decode cL_law 689 = .ok (.iadd, 1) := by decide +kernel
theorem dL_law_690 : decode cL_law 690 = .ok (.iaload, 1) := by decide +kernel
theorem dL_law_691 : decode cL_law 691 = .ok (.aload_n 0, 1) := by decide +kernel
theorem dL_law_692 : decode cL_law 692 = .ok (.iload_n 3, 1) := by decide +kernel
theorem dL_law_693 : decode cL_law 693 = .ok (.iconst 2, 1) := by decide +kernel
theorem dL_law_694 : decode cL_law 694 = .ok (.iadd, 1) := by decide +kernel
theorem dL_law_695 : decode cL_law 695 = .ok (.iaload, 1) := by decide +kernel
theorem dL_law_696 : decode cL_law 696 = .ok (.aload_n 0, 1) := by decide +kernel
theorem dL_law_697 : decode cL_law 697 = .ok (.iload_n 3, 1) := by decide +kernel
theorem dL_law_698 : decode cL_law 698 = .ok (.iconst 3, 1) := by decide +kernel
theorem dL_law_699 : decode cL_law 699 = .ok (.iadd, 1) := by decide +kernel
theorem dL_law_700 : decode cL_law 700 = .ok (.iaload, 1) := by decide +kernel
theorem dL_law_701 : decode cL_law 701 = .ok (.aload_n 0, 1) := by decide +kernel
theorem dL_law_702 : decode cL_law 702 = .ok (.iload_n 3, 1) := by decide +kernel
theorem dL_law_703 : decode cL_law 703 = .ok (.iconst 4, 1) := by decide +kernel
theorem dL_law_704 : decode cL_law 704 = .ok (.iadd, 1) := by decide +kernel
theorem dL_law_705 : decode cL_law 705 = .ok (.iaload, 1) := by decide +kernel
theorem dL_law_706 : decode cL_law 706 = .ok (.aload_n 0, 1) := by decide +kernel
theorem dL_law_707 : decode cL_law 707 = .ok (.iload_n 3, 1) := by decide +kernel
theorem dL_law_708 : decode cL_law 708 = .ok (.iconst 5, 1) := by decide +kernel
theorem dL_law_709 : decode cL_law 709 = .ok (.iadd, 1) := by decide +kernel
theorem dL_law_710 : decode cL_law 710 = .ok (.iaload, 1) := by decide +kernel
theorem dL_law_711 : decode cL_law 711 = .ok (.invokevirtual 62, 3) := by decide +kernel
theorem dL_law_714 : decode cL_law 714 = .ok (.if_icmp .eq 609, 3) := by decide +kernel
theorem dL_law_717 : decode cL_law 717 = .ok (.iconst 0, 1) := by decide +kernel
theorem dL_law_718 : decode cL_law 718 = .ok (.ireturn, 1) := by decide +kernel
theorem dL_law_719 : decode cL_law 719 = .ok (.aload_n 1, 1) := by decide +kernel
theorem dL_law_720 : decode cL_law 720 = .ok (.aload_n 0, 1) := by decide +kernel
theorem dL_law_721 : decode cL_law 721 = .ok (.iload_n 3, 1) := by decide +kernel
theorem dL_law_722 : decode cL_law 722 = .ok (.iconst 1, 1) := by decide +kernel
theorem dL_law_723 : decode cL_law 723 = .ok (.iadd, 1) := by decide +kernel
theorem dL_law_724 : decode cL_law 724 = .ok (.iaload, 1) := by decide +kernel
theorem dL_law_725 : decode cL_law 725 = .ok (.aload_n 0, 1) := by decide +kernel
theorem dL_law_726 : decode cL_law 726 = .ok (.iload_n 3, 1) := by decide +kernel
theorem dL_law_727 : decode cL_law 727 = .ok (.iconst 2, 1) := by decide +kernel
theorem dL_law_728 : decode cL_law 728 = .ok (.iadd, 1) := by decide +kernel
theorem dL_law_729 : decode cL_law 729 = .ok (.iaload, 1) := by decide +kernel
theorem dL_law_730 : decode cL_law 730 = .ok (.aload_n 0, 1) := by decide +kernel
theorem dL_law_731 : decode cL_law 731 = .ok (.iload_n 3, 1) := by decide +kernel
theorem dL_law_732 : decode cL_law 732 = .ok (.iconst 3, 1) := by decide +kernel
theorem dL_law_733 : decode cL_law 733 = .ok (.iadd, 1) := by decide +kernel
theorem dL_law_734 : decode cL_law 734 = .ok (.iaload, 1) := by decide +kernel
theorem dL_law_735 : decode cL_law 735 = .ok (.aload_n 0, 1) := by decide +kernel
theorem dL_law_736 : decode cL_law 736 = .ok (.iload_n 3, 1) := by decide +kernel
theorem dL_law_737 : decode cL_law 737 = .ok (.iconst 4, 1) := by decide +kernel
theorem dL_law_738 : decode cL_law 738 = .ok (.iadd, 1) := by decide +kernel
theorem dL_law_739 : decode cL_law 739 = .ok (.iaload, 1) := by decide +kernel
theorem dL_law_740 : decode cL_law 740 = .ok (.invokevirtual 63, 3) := by decide +kernel
theorem dL_law_743 : decode cL_law 743 = .ok (.aload_n 2, 1) := by decide +kernel
theorem dL_law_744 : decode cL_law 744 = .ok (.aload_n 0, 1) := by decide +kernel
theorem dL_law_745 : decode cL_law 745 = .ok (.iload_n 3, 1) := by decide +kernel
theorem dL_law_746 : decode cL_law 746 = .ok (.iconst 1, 1) := by decide +kernel
theorem dL_law_747 : decode cL_law 747 = .ok (.iadd, 1) := by decide +kernel
theorem dL_law_748 : decode cL_law 748 = .ok (.iaload, 1) := by decide +kernel
theorem dL_law_749 : decode cL_law 749 = .ok (.aload_n 0, 1) := by decide +kernel
theorem dL_law_750 : decode cL_law 750 = .ok (.iload_n 3, 1) := by decide +kernel
theorem dL_law_751 : decode cL_law 751 = .ok (.iconst 2, 1) := by decide +kernel
theorem dL_law_752 : decode cL_law 752 = .ok (.iadd, 1) := by decide +kernel
theorem dL_law_753 : decode cL_law 753 = .ok (.iaload, 1) := by decide +kernel
theorem dL_law_754 : decode cL_law 754 = .ok (.aload_n 0, 1) := by decide +kernel
theorem dL_law_755 : decode cL_law 755 = .ok (.iload_n 3, 1) := by decide +kernel
theorem dL_law_756 : decode cL_law 756 = .ok (.iconst 3, 1) := by decide +kernel
theorem dL_law_757 : decode cL_law 757 = .ok (.iadd, 1) := by decide +kernel
theorem dL_law_758 : decode cL_law 758 = .ok (.iaload, 1) := by decide +kernel
theorem dL_law_759 : decode cL_law 759 = .ok (.aload_n 0, 1) := by decide +kernel
theorem dL_law_760 : decode cL_law 760 = .ok (.iload_n 3, 1) := by decide +kernel
theorem dL_law_761 : decode cL_law 761 = .ok (.iconst 4, 1) := by decide +kernel
theorem dL_law_762 : decode cL_law 762 = .ok (.iadd, 1) := by decide +kernel
theorem dL_law_763 : decode cL_law 763 = .ok (.iaload, 1) := by decide +kernel
theorem dL_law_764 : decode cL_law 764 = .ok (.invokevirtual 67, 3) := by decide +kernel
theorem dL_law_767 : decode cL_law 767 = .ok (.if_icmp .eq 556, 3) := by decide +kernel
theorem dL_law_770 : decode cL_law 770 = .ok (.iconst 0, 1) := by decide +kernel
theorem dL_law_771 : decode cL_law 771 = .ok (.ireturn, 1) := by decide +kernel
theorem dL_law_772 : decode cL_law 772 = .ok (.aload_n 1, 1) := by decide +kernel
theorem dL_law_773 : decode cL_law 773 = .ok (.aload_n 0, 1) := by decide +kernel
theorem dL_law_774 : decode cL_law 774 = .ok (.iload_n 3, 1) := by decide +kernel
theorem dL_law_775 : decode cL_law 775 = .ok (.iconst 1, 1) := by decide +kernel
theorem dL_law_776 : decode cL_law 776 = .ok (.iadd, 1) := by decide +kernel
theorem dL_law_777 : decode cL_law 777 = .ok (.iaload, 1) := by decide +kernel
theorem dL_law_778 : decode cL_law 778 = .ok (.invokevirtual 68, 3) := by decide +kernel
theorem dL_law_781 : decode cL_law 781 = .ok (.aload_n 2, 1) := by decide +kernel
theorem dL_law_782 : decode cL_law 782 = .ok (.aload_n 0, 1) := by decide +kernel
theorem dL_law_783 : decode cL_law 783 = .ok (.iload_n 3, 1) := by decide +kernel
theorem dL_law_784 : decode cL_law 784 = .ok (.iconst 1, 1) := by decide +kernel
theorem dL_law_785 : decode cL_law 785 = .ok (.iadd, 1) := by decide +kernel
theorem dL_law_786 : decode cL_law 786 = .ok (.iaload, 1) := by decide +kernel
theorem dL_law_787 : decode cL_law 787 = .ok (.invokevirtual 71, 3) := by decide +kernel
theorem dL_law_790 : decode cL_law 790 = .ok (.if_icmp .eq 533, 3) := by decide +kernel
theorem dL_law_793 : decode cL_law 793 = .ok (.iconst 0, 1) := by decide +kernel
theorem dL_law_794 : decode cL_law 794 = .ok (.ireturn, 1) := by decide +kernel
theorem dL_law_795 : decode cL_law 795 = .ok (.aload_n 1, 1) := by decide +kernel
theorem dL_law_796 : decode cL_law 796 = .ok (.aload_n 0, 1) := by decide +kernel
theorem dL_law_797 : decode cL_law 797 = .ok (.iload_n 3, 1) := by decide +kernel
theorem dL_law_798 : decode cL_law 798 = .ok (.iconst 1, 1) := by decide +kernel
theorem dL_law_799 : decode cL_law 799 = .ok (.iadd, 1) := by decide +kernel
theorem dL_law_800 : decode cL_law 800 = .ok (.iaload, 1) := by decide +kernel
theorem dL_law_801 : decode cL_law 801 = .ok (.aload_n 0, 1) := by decide +kernel
theorem dL_law_802 : decode cL_law 802 = .ok (.iload_n 3, 1) := by decide +kernel
theorem dL_law_803 : decode cL_law 803 = .ok (.iconst 2, 1) := by decide +kernel
theorem dL_law_804 : decode cL_law 804 = .ok (.iadd, 1) := by decide +kernel
theorem dL_law_805 : decode cL_law 805 = .ok (.iaload, 1) := by decide +kernel
theorem dL_law_806 : decode cL_law 806 = .ok (.aload_n 0, 1) := by decide +kernel
theorem dL_law_807 : decode cL_law 807 = .ok (.iload_n 3, 1) := by decide +kernel
theorem dL_law_808 : decode cL_law 808 = .ok (.iconst 3, 1) := by decide +kernel
theorem dL_law_809 : decode cL_law 809 = .ok (.iadd, 1) := by decide +kernel
theorem dL_law_810 : decode cL_law 810 = .ok (.iaload, 1) := by decide +kernel
theorem dL_law_811 : decode cL_law 811 = .ok (.aload_n 0, 1) := by decide +kernel
theorem dL_law_812 : decode cL_law 812 = .ok (.iload_n 3, 1) := by decide +kernel
theorem dL_law_813 : decode cL_law 813 = .ok (.iconst 4, 1) := by decide +kernel
theorem dL_law_814 : decode cL_law 814 = .ok (.iadd, 1) := by decide +kernel
theorem dL_law_815 : decode cL_law 815 = .ok (.iaload, 1) := by decide +kernel
theorem dL_law_816 : decode cL_law 816 = .ok (.aload_n 0, 1) := by decide +kernel
theorem dL_law_817 : decode cL_law 817 = .ok (.iload_n 3, 1) := by decide +kernel
theorem dL_law_818 : decode cL_law 818 = .ok (.iconst 5, 1) := by decide +kernel
theorem dL_law_819 : decode cL_law 819 = .ok (.iadd, 1) := by decide +kernel
theorem dL_law_820 : decode cL_law 820 = .ok (.iaload, 1) := by decide +kernel
theorem dL_law_821 : decode cL_law 821 = .ok (.aload_n 0, 1) := by decide +kernel
theorem dL_law_822 : decode cL_law 822 = .ok (.iload_n 3, 1) := by decide +kernel
theorem dL_law_823 : decode cL_law 823 = .ok (.bipush 6, 2) := by decide +kernel
theorem dL_law_825 : decode cL_law 825 = .ok (.iadd, 1) := by decide +kernel
theorem dL_law_826 : decode cL_law 826 = .ok (.iaload, 1) := by decide +kernel
theorem dL_law_827 : decode cL_law 827 = .ok (.invokevirtual 72, 3) := by decide +kernel
theorem dL_law_830 : decode cL_law 830 = .ok (.aload_n 2, 1) := by decide +kernel
theorem dL_law_831 : decode cL_law 831 = .ok (.aload_n 0, 1) := by decide +kernel
theorem dL_law_832 : decode cL_law 832 = .ok (.iload_n 3, 1) := by decide +kernel
theorem dL_law_833 : decode cL_law 833 = .ok (.iconst 1, 1) := by decide +kernel
theorem dL_law_834 : decode cL_law 834 = .ok (.iadd, 1) := by decide +kernel
theorem dL_law_835 : decode cL_law 835 = .ok (.iaload, 1) := by decide +kernel
theorem dL_law_836 : decode cL_law 836 = .ok (.aload_n 0, 1) := by decide +kernel
theorem dL_law_837 : decode cL_law 837 = .ok (.iload_n 3, 1) := by decide +kernel
theorem dL_law_838 : decode cL_law 838 = .ok (.iconst 2, 1) := by decide +kernel
theorem dL_law_839 : decode cL_law 839 = .ok (.iadd, 1) := by decide +kernel
theorem dL_law_840 : decode cL_law 840 = .ok (.iaload, 1) := by decide +kernel
theorem dL_law_841 : decode cL_law 841 = .ok (.aload_n 0, 1) := by decide +kernel
theorem dL_law_842 : decode cL_law 842 = .ok (.iload_n 3, 1) := by decide +kernel
theorem dL_law_843 : decode cL_law 843 = .ok (.iconst 3, 1) := by decide +kernel
theorem dL_law_844 : decode cL_law 844 = .ok (.iadd, 1) := by decide +kernel
theorem dL_law_845 : decode cL_law 845 = .ok (.iaload, 1) := by decide +kernel
theorem dL_law_846 : decode cL_law 846 = .ok (.aload_n 0, 1) := by decide +kernel
theorem dL_law_847 : decode cL_law 847 = .ok (.iload_n 3, 1) := by decide +kernel
theorem dL_law_848 : decode cL_law 848 = .ok (.iconst 4, 1) := by decide +kernel
theorem dL_law_849 : decode cL_law 849 = .ok (.iadd, 1) := by decide +kernel
theorem dL_law_850 : decode cL_law 850 = .ok (.iaload, 1) := by decide +kernel
theorem dL_law_851 : decode cL_law 851 = .ok (.aload_n 0, 1) := by decide +kernel
theorem dL_law_852 : decode cL_law 852 = .ok (.iload_n 3, 1) := by decide +kernel
theorem dL_law_853 : decode cL_law 853 = .ok (.iconst 5, 1) := by decide +kernel
theorem dL_law_854 : decode cL_law 854 = .ok (.iadd, 1) := by decide +kernel
theorem dL_law_855 : decode cL_law 855 = .ok (.iaload, 1) := by decide +kernel
theorem dL_law_856 : decode cL_law 856 = .ok (.aload_n 0, 1) := by decide +kernel
theorem dL_law_857 : decode cL_law 857 = .ok (.iload_n 3, 1) := by decide +kernel
theorem dL_law_858 : decode cL_law 858 = .ok (.bipush 6, 2) := by decide +kernel
theorem dL_law_860 : decode cL_law 860 = .ok (.iadd, 1) := by decide +kernel
theorem dL_law_861 : decode cL_law 861 = .ok (.iaload, 1) := by decide +kernel
theorem dL_law_862 : decode cL_law 862 = .ok (.invokevirtual 75, 3) := by decide +kernel
theorem dL_law_865 : decode cL_law 865 = .ok (.lcmp, 1) := by decide +kernel
theorem dL_law_866 : decode cL_law 866 = .ok (.ifCond .eq 457, 3) := by decide +kernel
theorem dL_law_869 : decode cL_law 869 = .ok (.iconst 0, 1) := by decide +kernel
theorem dL_law_870 : decode cL_law 870 = .ok (.ireturn, 1) := by decide +kernel
theorem dL_law_871 : decode cL_law 871 = .ok (.aload_n 1, 1) := by decide +kernel
theorem dL_law_872 : decode cL_law 872 = .ok (.aload_n 0, 1) := by decide +kernel
theorem dL_law_873 : decode cL_law 873 = .ok (.iload_n 3, 1) := by decide +kernel
theorem dL_law_874 : decode cL_law 874 = .ok (.iconst 1, 1) := by decide +kernel
theorem dL_law_875 : decode cL_law 875 = .ok (.iadd, 1) := by decide +kernel
theorem dL_law_876 : decode cL_law 876 = .ok (.iaload, 1) := by decide +kernel
theorem dL_law_877 : decode cL_law 877 = .ok (.aload_n 0, 1) := by decide +kernel
theorem dL_law_878 : decode cL_law 878 = .ok (.iload_n 3, 1) := by decide +kernel
theorem dL_law_879 : decode cL_law 879 = .ok (.iconst 2, 1) := by decide +kernel
theorem dL_law_880 : decode cL_law 880 = .ok (.iadd, 1) := by decide +kernel
theorem dL_law_881 : decode cL_law 881 = .ok (.iaload, 1) := by decide +kernel
theorem dL_law_882 : decode cL_law 882 = .ok (.aload_n 0, 1) := by decide +kernel
theorem dL_law_883 : decode cL_law 883 = .ok (.iload_n 3, 1) := by decide +kernel
theorem dL_law_884 : decode cL_law 884 = .ok (.iconst 3, 1) := by decide +kernel
theorem dL_law_885 : decode cL_law 885 = .ok (.iadd, 1) := by decide +kernel
theorem dL_law_886 : decode cL_law 886 = .ok (.iaload, 1) := by decide +kernel
theorem dL_law_887 : decode cL_law 887 = .ok (.invokevirtual 76, 3) := by decide +kernel
theorem dL_law_890 : decode cL_law 890 = .ok (.aload_n 2, 1) := by decide +kernel
theorem dL_law_891 : decode cL_law 891 = .ok (.aload_n 0, 1) := by decide +kernel
theorem dL_law_892 : decode cL_law 892 = .ok (.iload_n 3, 1) := by decide +kernel
theorem dL_law_893 : decode cL_law 893 = .ok (.iconst 1, 1) := by decide +kernel
theorem dL_law_894 : decode cL_law 894 = .ok (.iadd, 1) := by decide +kernel
theorem dL_law_895 : decode cL_law 895 = .ok (.iaload, 1) := by decide +kernel
theorem dL_law_896 : decode cL_law 896 = .ok (.aload_n 0, 1) := by decide +kernel
theorem dL_law_897 : decode cL_law 897 = .ok (.iload_n 3, 1) := by decide +kernel
theorem dL_law_898 : decode cL_law 898 = .ok (.iconst 2, 1) := by decide +kernel
theorem dL_law_899 : decode cL_law 899 = .ok (.iadd, 1) := by decide +kernel
theorem dL_law_900 : decode cL_law 900 = .ok (.iaload, 1) := by decide +kernel
theorem dL_law_901 : decode cL_law 901 = .ok (.aload_n 0, 1) := by decide +kernel
theorem dL_law_902 : decode cL_law 902 = .ok (.iload_n 3, 1) := by decide +kernel
theorem dL_law_903 : decode cL_law 903 = .ok (.iconst 3, 1) := by decide +kernel
theorem dL_law_904 : decode cL_law 904 = .ok (.iadd, 1) := by decide +kernel
theorem dL_law_905 : decode cL_law 905 = .ok (.iaload, 1) := by decide +kernel
theorem dL_law_906 : decode cL_law 906 = .ok (.invokevirtual 79, 3) := by decide +kernel
theorem dL_law_909 : decode cL_law 909 = .ok (.if_icmp .eq 414, 3) := by decide +kernel
theorem dL_law_912 : decode cL_law 912 = .ok (.iconst 0, 1) := by decide +kernel
theorem dL_law_913 : decode cL_law 913 = .ok (.ireturn, 1) := by decide +kernel
theorem dL_law_914 : decode cL_law 914 = .ok (.aload_n 1, 1) := by decide +kernel
theorem dL_law_915 : decode cL_law 915 = .ok (.aload_n 0, 1) := by decide +kernel
theorem dL_law_916 : decode cL_law 916 = .ok (.iload_n 3, 1) := by decide +kernel
theorem dL_law_917 : decode cL_law 917 = .ok (.iconst 1, 1) := by decide +kernel
theorem dL_law_918 : decode cL_law 918 = .ok (.iadd, 1) := by decide +kernel
theorem dL_law_919 : decode cL_law 919 = .ok (.iaload, 1) := by decide +kernel
theorem dL_law_920 : decode cL_law 920 = .ok (.aload_n 0, 1) := by decide +kernel
theorem dL_law_921 : decode cL_law 921 = .ok (.iload_n 3, 1) := by decide +kernel
theorem dL_law_922 : decode cL_law 922 = .ok (.iconst 2, 1) := by decide +kernel
theorem dL_law_923 : decode cL_law 923 = .ok (.iadd, 1) := by decide +kernel
theorem dL_law_924 : decode cL_law 924 = .ok (.iaload, 1) := by decide +kernel
theorem dL_law_925 : decode cL_law 925 = .ok (.invokevirtual 80, 3) := by decide +kernel
theorem dL_law_928 : decode cL_law 928 = .ok (.aload_n 2, 1) := by decide +kernel
theorem dL_law_929 : decode cL_law 929 = .ok (.aload_n 0, 1) := by decide +kernel
theorem dL_law_930 : decode cL_law 930 = .ok (.iload_n 3, 1) := by decide +kernel
theorem dL_law_931 : decode cL_law 931 = .ok (.iconst 1, 1) := by decide +kernel
theorem dL_law_932 : decode cL_law 932 = .ok (.iadd, 1) := by decide +kernel
theorem dL_law_933 : decode cL_law 933 = .ok (.iaload, 1) := by decide +kernel
theorem dL_law_934 : decode cL_law 934 = .ok (.aload_n 0, 1) := by decide +kernel
theorem dL_law_935 : decode cL_law 935 = .ok (.iload_n 3, 1) := by decide +kernel
theorem dL_law_936 : decode cL_law 936 = .ok (.iconst 2, 1) := by decide +kernel
theorem dL_law_937 : decode cL_law 937 = .ok (.iadd, 1) := by decide +kernel
theorem dL_law_938 : decode cL_law 938 = .ok (.iaload, 1) := by decide +kernel
theorem dL_law_939 : decode cL_law 939 = .ok (.invokevirtual 83, 3) := by decide +kernel
theorem dL_law_942 : decode cL_law 942 = .ok (.if_icmp .eq 381, 3) := by decide +kernel
theorem dL_law_945 : decode cL_law 945 = .ok (.iconst 0, 1) := by decide +kernel
theorem dL_law_946 : decode cL_law 946 = .ok (.ireturn, 1) := by decide +kernel
theorem dL_law_947 : decode cL_law 947 = .ok (.aload_n 1, 1) := by decide +kernel
theorem dL_law_948 : decode cL_law 948 = .ok (.aload_n 0, 1) := by decide +kernel
theorem dL_law_949 : decode cL_law 949 = .ok (.iload_n 3, 1) := by decide +kernel
theorem dL_law_950 : decode cL_law 950 = .ok (.iconst 1, 1) := by decide +kernel
theorem dL_law_951 : decode cL_law 951 = .ok (.iadd, 1) := by decide +kernel
theorem dL_law_952 : decode cL_law 952 = .ok (.iaload, 1) := by decide +kernel
theorem dL_law_953 : decode cL_law 953 = .ok (.aload_n 0, 1) := by decide +kernel
theorem dL_law_954 : decode cL_law 954 = .ok (.iload_n 3, 1) := by decide +kernel
theorem dL_law_955 : decode cL_law 955 = .ok (.iconst 2, 1) := by decide +kernel
theorem dL_law_956 : decode cL_law 956 = .ok (.iadd, 1) := by decide +kernel
theorem dL_law_957 : decode cL_law 957 = .ok (.iaload, 1) := by decide +kernel
theorem dL_law_958 : decode cL_law 958 = .ok (.aload_n 0, 1) := by decide +kernel
theorem dL_law_959 : decode cL_law 959 = .ok (.iload_n 3, 1) := by decide +kernel
theorem dL_law_960 : decode cL_law 960 = .ok (.iconst 3, 1) := by decide +kernel
theorem dL_law_961 : decode cL_law 961 = .ok (.iadd, 1) := by decide +kernel
theorem dL_law_962 : decode cL_law 962 = .ok (.iaload, 1) := by decide +kernel
theorem dL_law_963 : decode cL_law 963 = .ok (.invokevirtual 84, 3) := by decide +kernel
theorem dL_law_966 : decode cL_law 966 = .ok (.aload_n 2, 1) := by decide +kernel
theorem dL_law_967 : decode cL_law 967 = .ok (.aload_n 0, 1) := by decide +kernel
theorem dL_law_968 : decode cL_law 968 = .ok (.iload_n 3, 1) := by decide +kernel
theorem dL_law_969 : decode cL_law 969 = .ok (.iconst 1, 1) := by decide +kernel
theorem dL_law_970 : decode cL_law 970 = .ok (.iadd, 1) := by decide +kernel
theorem dL_law_971 : decode cL_law 971 = .ok (.iaload, 1) := by decide +kernel
theorem dL_law_972 : decode cL_law 972 = .ok (.aload_n 0, 1) := by decide +kernel
theorem dL_law_973 : decode cL_law 973 = .ok (.iload_n 3, 1) := by decide +kernel
theorem dL_law_974 : decode cL_law 974 = .ok (.iconst 2, 1) := by decide +kernel
theorem dL_law_975 : decode cL_law 975 = .ok (.iadd, 1) := by decide +kernel
theorem dL_law_976 : decode cL_law 976 = .ok (.iaload, 1) := by decide +kernel
theorem dL_law_977 : decode cL_law 977 = .ok (.aload_n 0, 1) := by decide +kernel
theorem dL_law_978 : decode cL_law 978 = .ok (.iload_n 3, 1) := by decide +kernel
theorem dL_law_979 : decode cL_law 979 = .ok (.iconst 3, 1) := by decide +kernel
theorem dL_law_980 : decode cL_law 980 = .ok (.iadd, 1) := by decide +kernel
theorem dL_law_981 : decode cL_law 981 = .ok (.iaload, 1) := by decide +kernel
theorem dL_law_982 : decode cL_law 982 = .ok (.invokevirtual 87, 3) := by decide +kernel
theorem dL_law_985 : decode cL_law 985 = .ok (.if_icmp .eq 338, 3) := by decide +kernel
theorem dL_law_988 : decode cL_law 988 = .ok (.iconst 0, 1) := by decide +kernel
theorem dL_law_989 : decode cL_law 989 = .ok (.ireturn, 1) := by decide +kernel
theorem dL_law_990 : decode cL_law 990 = .ok (.aload_n 1, 1) := by decide +kernel
theorem dL_law_991 : decode cL_law 991 = .ok (.aload_n 0, 1) := by decide +kernel
theorem dL_law_992 : decode cL_law 992 = .ok (.iload_n 3, 1) := by decide +kernel
theorem dL_law_993 : decode cL_law 993 = .ok (.iconst 1, 1) := by decide +kernel
theorem dL_law_994 : decode cL_law 994 = .ok (.iadd, 1) := by decide +kernel
theorem dL_law_995 : decode cL_law 995 = .ok (.iaload, 1) := by decide +kernel
theorem dL_law_996 : decode cL_law 996 = .ok (.aload_n 0, 1) := by decide +kernel
theorem dL_law_997 : decode cL_law 997 = .ok (.iload_n 3, 1) := by decide +kernel
theorem dL_law_998 : decode cL_law 998 = .ok (.iconst 2, 1) := by decide +kernel
theorem dL_law_999 : decode cL_law 999 = .ok (.iadd, 1) := by decide +kernel
theorem dL_law_1000 : decode cL_law 1000 = .ok (.iaload, 1) := by decide +kernel
theorem dL_law_1001 : decode cL_law 1001 = .ok (.aload_n 0, 1) := by decide +kernel
theorem dL_law_1002 : decode cL_law 1002 = .ok (.iload_n 3, 1) := by decide +kernel
theorem dL_law_1003 : decode cL_law 1003 = .ok (.iconst 3, 1) := by decide +kernel
theorem dL_law_1004 : decode cL_law 1004 = .ok (.iadd, 1) := by decide +kernel
theorem dL_law_1005 : decode cL_law 1005 = .ok (.iaload, 1) := by decide +kernel
theorem dL_law_1006 : decode cL_law 1006 = .ok (.aload_n 0, 1) := by decide +kernel
theorem dL_law_1007 : decode cL_law 1007 = .ok (.iload_n 3, 1) := by decide +kernel
theorem dL_law_1008 : decode cL_law 1008 = .ok (.iconst 4, 1) := by decide +kernel
theorem dL_law_1009 : decode cL_law 1009 = .ok (.iadd, 1) := by decide +kernel
theorem dL_law_1010 : decode cL_law 1010 = .ok (.iaload, 1) := by decide +kernel
theorem dL_law_1011 : decode cL_law 1011 = .ok (.invokevirtual 88, 3) := by decide +kernel
theorem dL_law_1014 : decode cL_law 1014 = .ok (.aload_n 2, 1) := by decide +kernel
theorem dL_law_1015 : decode cL_law 1015 = .ok (.aload_n 0, 1) := by decide +kernel
theorem dL_law_1016 : decode cL_law 1016 = .ok (.iload_n 3, 1) := by decide +kernel
theorem dL_law_1017 : decode cL_law 1017 = .ok (.iconst 1, 1) := by decide +kernel
theorem dL_law_1018 : decode cL_law 1018 = .ok (.iadd, 1) := by decide +kernel
theorem dL_law_1019 : decode cL_law 1019 = .ok (.iaload, 1) := by decide +kernel
theorem dL_law_1020 : decode cL_law 1020 = .ok (.aload_n 0, 1) := by decide +kernel
theorem dL_law_1021 : decode cL_law 1021 = .ok (.iload_n 3, 1) := by decide +kernel
theorem dL_law_1022 : decode cL_law 1022 = .ok (.iconst 2, 1) := by decide +kernel
theorem dL_law_1023 : decode cL_law 1023 = .ok (.iadd, 1) := by decide +kernel
theorem dL_law_1024 : decode cL_law 1024 = .ok (.iaload, 1) := by decide +kernel
theorem dL_law_1025 : decode cL_law 1025 = .ok (.aload_n 0, 1) := by decide +kernel
theorem dL_law_1026 : decode cL_law 1026 = .ok (.iload_n 3, 1) := by decide +kernel
theorem dL_law_1027 : decode cL_law 1027 = .ok (.iconst 3, 1) := by decide +kernel
theorem dL_law_1028 : decode cL_law 1028 = .ok (.iadd, 1) := by decide +kernel
theorem dL_law_1029 : decode cL_law 1029 = .ok (.iaload, 1) := by decide +kernel
theorem dL_law_1030 : decode cL_law 1030 = .ok (.aload_n 0, 1) := by decide +kernel
theorem dL_law_1031 : decode cL_law 1031 = .ok (.iload_n 3, 1) := by decide +kernel
theorem dL_law_1032 : decode cL_law 1032 = .ok (.iconst 4, 1) := by decide +kernel
theorem dL_law_1033 : decode cL_law 1033 = .ok (.iadd, 1) := by decide +kernel
theorem dL_law_1034 : decode cL_law 1034 = .ok (.iaload, 1) := by decide +kernel
theorem dL_law_1035 : decode cL_law 1035 = .ok (.invokevirtual 91, 3) := by decide +kernel
theorem dL_law_1038 : decode cL_law 1038 = .ok (.if_icmp .eq 285, 3) := by decide +kernel
theorem dL_law_1041 : decode cL_law 1041 = .ok (.iconst 0, 1) := by decide +kernel
theorem dL_law_1042 : decode cL_law 1042 = .ok (.ireturn, 1) := by decide +kernel
theorem dL_law_1043 : decode cL_law 1043 = .ok (.aload_n 1, 1) := by decide +kernel
theorem dL_law_1044 : decode cL_law 1044 = .ok (.aload_n 0, 1) := by decide +kernel
theorem dL_law_1045 : decode cL_law 1045 = .ok (.iload_n 3, 1) := by decide +kernel
theorem dL_law_1046 : decode cL_law 1046 = .ok (.iconst 1, 1) := by decide +kernel
theorem dL_law_1047 : decode cL_law 1047 = .ok (.iadd, 1) := by decide +kernel
theorem dL_law_1048 : decode cL_law 1048 = .ok (.iaload, 1) := by decide +kernel
theorem dL_law_1049 : decode cL_law 1049 = .ok (.aload_n 0, 1) := by decide +kernel
theorem dL_law_1050 : decode cL_law 1050 = .ok (.iload_n 3, 1) := by decide +kernel
theorem dL_law_1051 : decode cL_law 1051 = .ok (.iconst 2, 1) := by decide +kernel
theorem dL_law_1052 : decode cL_law 1052 = .ok (.iadd, 1) := by decide +kernel
theorem dL_law_1053 : decode cL_law 1053 = .ok (.iaload, 1) := by decide +kernel
theorem dL_law_1054 : decode cL_law 1054 = .ok (.aload_n 0, 1) := by decide +kernel
theorem dL_law_1055 : decode cL_law 1055 = .ok (.iload_n 3, 1) := by decide +kernel
theorem dL_law_1056 : decode cL_law 1056 = .ok (.iconst 3, 1) := by decide +kernel
theorem dL_law_1057 : decode cL_law 1057 = .ok (.iadd, 1) := by decide +kernel
theorem dL_law_1058 : decode cL_law 1058 = .ok (.iaload, 1) := by decide +kernel
theorem dL_law_1059 : decode cL_law 1059 = .ok (.aload_n 0, 1) := by decide +kernel
theorem dL_law_1060 : decode cL_law 1060 = .ok (.iload_n 3, 1) := by decide +kernel
theorem dL_law_1061 : decode cL_law 1061 = .ok (.iconst 4, 1) := by decide +kernel
theorem dL_law_1062 : decode cL_law 1062 = .ok (.iadd, 1) := by decide +kernel
theorem dL_law_1063 : decode cL_law 1063 = .ok (.iaload, 1) := by decide +kernel
theorem dL_law_1064 : decode cL_law 1064 = .ok (.aload_n 0, 1) := by decide +kernel
theorem dL_law_1065 : decode cL_law 1065 = .ok (.iload_n 3, 1) := by decide +kernel
theorem dL_law_1066 : decode cL_law 1066 = .ok (.iconst 5, 1) := by decide +kernel
theorem dL_law_1067 : decode cL_law 1067 = .ok (.iadd, 1) := by decide +kernel
theorem dL_law_1068 : decode cL_law 1068 = .ok (.iaload, 1) := by decide +kernel
theorem dL_law_1069 : decode cL_law 1069 = .ok (.invokevirtual 92, 3) := by decide +kernel
theorem dL_law_1072 : decode cL_law 1072 = .ok (.aload_n 2, 1) := by decide +kernel
theorem dL_law_1073 : decode cL_law 1073 = .ok (.aload_n 0, 1) := by decide +kernel
theorem dL_law_1074 : decode cL_law 1074 = .ok (.iload_n 3, 1) := by decide +kernel
theorem dL_law_1075 : decode cL_law 1075 = .ok (.iconst 1, 1) := by decide +kernel
theorem dL_law_1076 : decode cL_law 1076 = .ok (.iadd, 1) := by decide +kernel
theorem dL_law_1077 : decode cL_law 1077 = .ok (.iaload, 1) := by decide +kernel
theorem dL_law_1078 : decode cL_law 1078 = .ok (.aload_n 0, 1) := by decide +kernel
theorem dL_law_1079 : decode cL_law 1079 = .ok (.iload_n 3, 1) := by decide +kernel
theorem dL_law_1080 : decode cL_law 1080 = .ok (.iconst 2, 1) := by decide +kernel
theorem dL_law_1081 : decode cL_law 1081 = .ok (.iadd, 1) := by decide +kernel
theorem dL_law_1082 : decode cL_law 1082 = .ok (.iaload, 1) := by decide +kernel
theorem dL_law_1083 : decode cL_law 1083 = .ok (.aload_n 0, 1) := by decide +kernel
theorem dL_law_1084 : decode cL_law 1084 = .ok (.iload_n 3, 1) := by decide +kernel
theorem dL_law_1085 : decode cL_law 1085 = .ok (.iconst 3, 1) := by decide +kernel
theorem dL_law_1086 : decode cL_law 1086 = .ok (.iadd, 1) := by decide +kernel
theorem dL_law_1087 : decode cL_law 1087 = .ok (.iaload, 1) := by decide +kernel
theorem dL_law_1088 : decode cL_law 1088 = .ok (.aload_n 0, 1) := by decide +kernel
theorem dL_law_1089 : decode cL_law 1089 = .ok (.iload_n 3, 1) := by decide +kernel
theorem dL_law_1090 : decode cL_law 1090 = .ok (.iconst 4, 1) := by decide +kernel
theorem dL_law_1091 : decode cL_law 1091 = .ok (.iadd, 1) := by decide +kernel
theorem dL_law_1092 : decode cL_law 1092 = .ok (.iaload, 1) := by decide +kernel
theorem dL_law_1093 : decode cL_law 1093 = .ok (.aload_n 0, 1) := by decide +kernel
theorem dL_law_1094 : decode cL_law 1094 = .ok (.iload_n 3, 1) := by decide +kernel
theorem dL_law_1095 : decode cL_law 1095 = .ok (.iconst 5, 1) := by decide +kernel
theorem dL_law_1096 : decode cL_law 1096 = .ok (.iadd, 1) := by decide +kernel
theorem dL_law_1097 : decode cL_law 1097 = .ok (.iaload, 1) := by decide +kernel
theorem dL_law_1098 : decode cL_law 1098 = .ok (.invokevirtual 95, 3) := by decide +kernel
theorem dL_law_1101 : decode cL_law 1101 = .ok (.if_icmp .eq 222, 3) := by decide +kernel
theorem dL_law_1104 : decode cL_law 1104 = .ok (.iconst 0, 1) := by decide +kernel
theorem dL_law_1105 : decode cL_law 1105 = .ok (.ireturn, 1) := by decide +kernel
theorem dL_law_1106 : decode cL_law 1106 = .ok (.aload_n 1, 1) := by decide +kernel
theorem dL_law_1107 : decode cL_law 1107 = .ok (.aload_n 0, 1) := by decide +kernel
theorem dL_law_1108 : decode cL_law 1108 = .ok (.iload_n 3, 1) := by decide +kernel
theorem dL_law_1109 : decode cL_law 1109 = .ok (.iconst 1, 1) := by decide +kernel
theorem dL_law_1110 : decode cL_law 1110 = .ok (.iadd, 1) := by decide +kernel
theorem dL_law_1111 : decode cL_law 1111 = .ok (.iaload, 1) := by decide +kernel
theorem dL_law_1112 : decode cL_law 1112 = .ok (.aload_n 0, 1) := by decide +kernel
theorem dL_law_1113 : decode cL_law 1113 = .ok (.iload_n 3, 1) := by decide +kernel
theorem dL_law_1114 : decode cL_law 1114 = .ok (.iconst 2, 1) := by decide +kernel
theorem dL_law_1115 : decode cL_law 1115 = .ok (.iadd, 1) := by decide +kernel
theorem dL_law_1116 : decode cL_law 1116 = .ok (.iaload, 1) := by decide +kernel
theorem dL_law_1117 : decode cL_law 1117 = .ok (.aload_n 0, 1) := by decide +kernel
theorem dL_law_1118 : decode cL_law 1118 = .ok (.iload_n 3, 1) := by decide +kernel
theorem dL_law_1119 : decode cL_law 1119 = .ok (.iconst 3, 1) := by decide +kernel
theorem dL_law_1120 : decode cL_law 1120 = .ok (.iadd, 1) := by decide +kernel
theorem dL_law_1121 : decode cL_law 1121 = .ok (.iaload, 1) := by decide +kernel
theorem dL_law_1122 : decode cL_law 1122 = .ok (.aload_n 0, 1) := by decide +kernel
theorem dL_law_1123 : decode cL_law 1123 = .ok (.iload_n 3, 1) := by decide +kernel
theorem dL_law_1124 : decode cL_law 1124 = .ok (.iconst 4, 1) := by decide +kernel
theorem dL_law_1125 : decode cL_law 1125 = .ok (.iadd, 1) := by decide +kernel
theorem dL_law_1126 : decode cL_law 1126 = .ok (.iaload, 1) := by decide +kernel
theorem dL_law_1127 : decode cL_law 1127 = .ok (.invokevirtual 96, 3) := by decide +kernel
theorem dL_law_1130 : decode cL_law 1130 = .ok (.aload_n 2, 1) := by decide +kernel
theorem dL_law_1131 : decode cL_law 1131 = .ok (.aload_n 0, 1) := by decide +kernel
theorem dL_law_1132 : decode cL_law 1132 = .ok (.iload_n 3, 1) := by decide +kernel
theorem dL_law_1133 : decode cL_law 1133 = .ok (.iconst 1, 1) := by decide +kernel
theorem dL_law_1134 : decode cL_law 1134 = .ok (.iadd, 1) := by decide +kernel
theorem dL_law_1135 : decode cL_law 1135 = .ok (.iaload, 1) := by decide +kernel
theorem dL_law_1136 : decode cL_law 1136 = .ok (.aload_n 0, 1) := by decide +kernel
theorem dL_law_1137 : decode cL_law 1137 = .ok (.iload_n 3, 1) := by decide +kernel
theorem dL_law_1138 : decode cL_law 1138 = .ok (.iconst 2, 1) := by decide +kernel
theorem dL_law_1139 : decode cL_law 1139 = .ok (.iadd, 1) := by decide +kernel
theorem dL_law_1140 : decode cL_law 1140 = .ok (.iaload, 1) := by decide +kernel
theorem dL_law_1141 : decode cL_law 1141 = .ok (.aload_n 0, 1) := by decide +kernel
theorem dL_law_1142 : decode cL_law 1142 = .ok (.iload_n 3, 1) := by decide +kernel
theorem dL_law_1143 : decode cL_law 1143 = .ok (.iconst 3, 1) := by decide +kernel
theorem dL_law_1144 : decode cL_law 1144 = .ok (.iadd, 1) := by decide +kernel
theorem dL_law_1145 : decode cL_law 1145 = .ok (.iaload, 1) := by decide +kernel
theorem dL_law_1146 : decode cL_law 1146 = .ok (.aload_n 0, 1) := by decide +kernel
theorem dL_law_1147 : decode cL_law 1147 = .ok (.iload_n 3, 1) := by decide +kernel
theorem dL_law_1148 : decode cL_law 1148 = .ok (.iconst 4, 1) := by decide +kernel
theorem dL_law_1149 : decode cL_law 1149 = .ok (.iadd, 1) := by decide +kernel
theorem dL_law_1150 : decode cL_law 1150 = .ok (.iaload, 1) := by decide +kernel
theorem dL_law_1151 : decode cL_law 1151 = .ok (.invokevirtual 99, 3) := by decide +kernel
theorem dL_law_1154 : decode cL_law 1154 = .ok (.if_icmp .eq 169, 3) := by decide +kernel
theorem dL_law_1157 : decode cL_law 1157 = .ok (.iconst 0, 1) := by decide +kernel
theorem dL_law_1158 : decode cL_law 1158 = .ok (.ireturn, 1) := by decide +kernel
theorem dL_law_1159 : decode cL_law 1159 = .ok (.aload_n 1, 1) := by decide +kernel
theorem dL_law_1160 : decode cL_law 1160 = .ok (.aload_n 0, 1) := by decide +kernel
theorem dL_law_1161 : decode cL_law 1161 = .ok (.iload_n 3, 1) := by decide +kernel
theorem dL_law_1162 : decode cL_law 1162 = .ok (.iconst 1, 1) := by decide +kernel
theorem dL_law_1163 : decode cL_law 1163 = .ok (.iadd, 1) := by decide +kernel
theorem dL_law_1164 : decode cL_law 1164 = .ok (.iaload, 1) := by decide +kernel
theorem dL_law_1165 : decode cL_law 1165 = .ok (.aload_n 0, 1) := by decide +kernel
theorem dL_law_1166 : decode cL_law 1166 = .ok (.iload_n 3, 1) := by decide +kernel
theorem dL_law_1167 : decode cL_law 1167 = .ok (.iconst 2, 1) := by decide +kernel
theorem dL_law_1168 : decode cL_law 1168 = .ok (.iadd, 1) := by decide +kernel
theorem dL_law_1169 : decode cL_law 1169 = .ok (.iaload, 1) := by decide +kernel
theorem dL_law_1170 : decode cL_law 1170 = .ok (.aload_n 0, 1) := by decide +kernel
theorem dL_law_1171 : decode cL_law 1171 = .ok (.iload_n 3, 1) := by decide +kernel
theorem dL_law_1172 : decode cL_law 1172 = .ok (.iconst 3, 1) := by decide +kernel
theorem dL_law_1173 : decode cL_law 1173 = .ok (.iadd, 1) := by decide +kernel
theorem dL_law_1174 : decode cL_law 1174 = .ok (.iaload, 1) := by decide +kernel
theorem dL_law_1175 : decode cL_law 1175 = .ok (.aload_n 0, 1) := by decide +kernel
theorem dL_law_1176 : decode cL_law 1176 = .ok (.iload_n 3, 1) := by decide +kernel
theorem dL_law_1177 : decode cL_law 1177 = .ok (.iconst 4, 1) := by decide +kernel
theorem dL_law_1178 : decode cL_law 1178 = .ok (.iadd, 1) := by decide +kernel
theorem dL_law_1179 : decode cL_law 1179 = .ok (.iaload, 1) := by decide +kernel
theorem dL_law_1180 : decode cL_law 1180 = .ok (.aload_n 0, 1) := by decide +kernel
theorem dL_law_1181 : decode cL_law 1181 = .ok (.iload_n 3, 1) := by decide +kernel
theorem dL_law_1182 : decode cL_law 1182 = .ok (.iconst 5, 1) := by decide +kernel
theorem dL_law_1183 : decode cL_law 1183 = .ok (.iadd, 1) := by decide +kernel
theorem dL_law_1184 : decode cL_law 1184 = .ok (.iaload, 1) := by decide +kernel
theorem dL_law_1185 : decode cL_law 1185 = .ok (.invokevirtual 100, 3) := by decide +kernel
theorem dL_law_1188 : decode cL_law 1188 = .ok (.aload_n 2, 1) := by decide +kernel
theorem dL_law_1189 : decode cL_law 1189 = .ok (.aload_n 0, 1) := by decide +kernel
theorem dL_law_1190 : decode cL_law 1190 = .ok (.iload_n 3, 1) := by decide +kernel
theorem dL_law_1191 : decode cL_law 1191 = .ok (.iconst 1, 1) := by decide +kernel
theorem dL_law_1192 : decode cL_law 1192 = .ok (.iadd, 1) := by decide +kernel
theorem dL_law_1193 : decode cL_law 1193 = .ok (.iaload, 1) := by decide +kernel
theorem dL_law_1194 : decode cL_law 1194 = .ok (.aload_n 0, 1) := by decide +kernel
theorem dL_law_1195 : decode cL_law 1195 = .ok (.iload_n 3, 1) := by decide +kernel
theorem dL_law_1196 : decode cL_law 1196 = .ok (.iconst 2, 1) := by decide +kernel
theorem dL_law_1197 : decode cL_law 1197 = .ok (.iadd, 1) := by decide +kernel
theorem dL_law_1198 : decode cL_law 1198 = .ok (.iaload, 1) := by decide +kernel
theorem dL_law_1199 : decode cL_law 1199 = .ok (.aload_n 0, 1) := by decide +kernel
theorem dL_law_1200 : decode cL_law 1200 = .ok (.iload_n 3, 1) := by decide +kernel
theorem dL_law_1201 : decode cL_law 1201 = .ok (.iconst 3, 1) := by decide +kernel
theorem dL_law_1202 : decode cL_law 1202 = .ok (.iadd, 1) := by decide +kernel
theorem dL_law_1203 : decode cL_law 1203 = .ok (.iaload, 1) := by decide +kernel
theorem dL_law_1204 : decode cL_law 1204 = .ok (.aload_n 0, 1) := by decide +kernel
theorem dL_law_1205 : decode cL_law 1205 = .ok (.iload_n 3, 1) := by decide +kernel
theorem dL_law_1206 : decode cL_law 1206 = .ok (.iconst 4, 1) := by decide +kernel
theorem dL_law_1207 : decode cL_law 1207 = .ok (.iadd, 1) := by decide +kernel
theorem dL_law_1208 : decode cL_law 1208 = .ok (.iaload, 1) := by decide +kernel
theorem dL_law_1209 : decode cL_law 1209 = .ok (.aload_n 0, 1) := by decide +kernel
theorem dL_law_1210 : decode cL_law 1210 = .ok (.iload_n 3, 1) := by decide +kernel
theorem dL_law_1211 : decode cL_law 1211 = .ok (.iconst 5, 1) := by decide +kernel
theorem dL_law_1212 : decode cL_law 1212 = .ok (.iadd, 1) := by decide +kernel
theorem dL_law_1213 : decode cL_law 1213 = .ok (.iaload, 1) := by decide +kernel
theorem dL_law_1214 : decode cL_law 1214 = .ok (.invokevirtual 103, 3) := by decide +kernel
theorem dL_law_1217 : decode cL_law 1217 = .ok (.lcmp, 1) := by decide +kernel
theorem dL_law_1218 : decode cL_law 1218 = .ok (.ifCond .eq 105, 3) := by decide +kernel
theorem dL_law_1221 : decode cL_law 1221 = .ok (.iconst 0, 1) := by decide +kernel
theorem dL_law_1222 : decode cL_law 1222 = .ok (.ireturn, 1) := by decide +kernel
theorem dL_law_1223 : decode cL_law 1223 = .ok (.aload_n 1, 1) := by decide +kernel
theorem dL_law_1224 : decode cL_law 1224 = .ok (.aload_n 0, 1) := by decide +kernel
theorem dL_law_1225 : decode cL_law 1225 = .ok (.iload_n 3, 1) := by decide +kernel
theorem dL_law_1226 : decode cL_law 1226 = .ok (.iconst 1, 1) := by decide +kernel
theorem dL_law_1227 : decode cL_law 1227 = .ok (.iadd, 1) := by decide +kernel
theorem dL_law_1228 : decode cL_law 1228 = .ok (.iaload, 1) := by decide +kernel
theorem dL_law_1229 : decode cL_law 1229 = .ok (.aload_n 0, 1) := by decide +kernel
theorem dL_law_1230 : decode cL_law 1230 = .ok (.iload_n 3, 1) := by decide +kernel
theorem dL_law_1231 : decode cL_law 1231 = .ok (.iconst 2, 1) := by decide +kernel
theorem dL_law_1232 : decode cL_law 1232 = .ok (.iadd, 1) := by decide +kernel
theorem dL_law_1233 : decode cL_law 1233 = .ok (.iaload, 1) := by decide +kernel
theorem dL_law_1234 : decode cL_law 1234 = .ok (.invokevirtual 104, 3) := by decide +kernel
theorem dL_law_1237 : decode cL_law 1237 = .ok (.aload_n 2, 1) := by decide +kernel
theorem dL_law_1238 : decode cL_law 1238 = .ok (.aload_n 0, 1) := by decide +kernel
theorem dL_law_1239 : decode cL_law 1239 = .ok (.iload_n 3, 1) := by decide +kernel
theorem dL_law_1240 : decode cL_law 1240 = .ok (.iconst 1, 1) := by decide +kernel
theorem dL_law_1241 : decode cL_law 1241 = .ok (.iadd, 1) := by decide +kernel
theorem dL_law_1242 : decode cL_law 1242 = .ok (.iaload, 1) := by decide +kernel
theorem dL_law_1243 : decode cL_law 1243 = .ok (.aload_n 0, 1) := by decide +kernel
theorem dL_law_1244 : decode cL_law 1244 = .ok (.iload_n 3, 1) := by decide +kernel
theorem dL_law_1245 : decode cL_law 1245 = .ok (.iconst 2, 1) := by decide +kernel
theorem dL_law_1246 : decode cL_law 1246 = .ok (.iadd, 1) := by decide +kernel
theorem dL_law_1247 : decode cL_law 1247 = .ok (.iaload, 1) := by decide +kernel
theorem dL_law_1248 : decode cL_law 1248 = .ok (.invokevirtual 107, 3) := by decide +kernel
theorem dL_law_1251 : decode cL_law 1251 = .ok (.if_icmp .eq 72, 3) := by decide +kernel
theorem dL_law_1254 : decode cL_law 1254 = .ok (.iconst 0, 1) := by decide +kernel
theorem dL_law_1255 : decode cL_law 1255 = .ok (.ireturn, 1) := by decide +kernel
theorem dL_law_1256 : decode cL_law 1256 = .ok (.aload_n 1, 1) := by decide +kernel
theorem dL_law_1257 : decode cL_law 1257 = .ok (.aload_n 0, 1) := by decide +kernel
theorem dL_law_1258 : decode cL_law 1258 = .ok (.iload_n 3, 1) := by decide +kernel
theorem dL_law_1259 : decode cL_law 1259 = .ok (.iconst 1, 1) := by decide +kernel
theorem dL_law_1260 : decode cL_law 1260 = .ok (.iadd, 1) := by decide +kernel
theorem dL_law_1261 : decode cL_law 1261 = .ok (.iaload, 1) := by decide +kernel
theorem dL_law_1262 : decode cL_law 1262 = .ok (.aload_n 0, 1) := by decide +kernel
theorem dL_law_1263 : decode cL_law 1263 = .ok (.iload_n 3, 1) := by decide +kernel
theorem dL_law_1264 : decode cL_law 1264 = .ok (.iconst 2, 1) := by decide +kernel
theorem dL_law_1265 : decode cL_law 1265 = .ok (.iadd, 1) := by decide +kernel
theorem dL_law_1266 : decode cL_law 1266 = .ok (.iaload, 1) := by decide +kernel
theorem dL_law_1267 : decode cL_law 1267 = .ok (.aload_n 0, 1) := by decide +kernel
theorem dL_law_1268 : decode cL_law 1268 = .ok (.iload_n 3, 1) := by decide +kernel
theorem dL_law_1269 : decode cL_law 1269 = .ok (.iconst 3, 1) := by decide +kernel
theorem dL_law_1270 : decode cL_law 1270 = .ok (.iadd, 1) := by decide +kernel
theorem dL_law_1271 : decode cL_law 1271 = .ok (.iaload, 1) := by decide +kernel
theorem dL_law_1272 : decode cL_law 1272 = .ok (.invokevirtual 108, 3) := by decide +kernel
theorem dL_law_1275 : decode cL_law 1275 = .ok (.aload_n 2, 1) := by decide +kernel
theorem dL_law_1276 : decode cL_law 1276 = .ok (.aload_n 0, 1) := by decide +kernel
theorem dL_law_1277 : decode cL_law 1277 = .ok (.iload_n 3, 1) := by decide +kernel
theorem dL_law_1278 : decode cL_law 1278 = .ok (.iconst 1, 1) := by decide +kernel
theorem dL_law_1279 : decode cL_law 1279 = .ok (.iadd, 1) := by decide +kernel
theorem dL_law_1280 : decode cL_law 1280 = .ok (.iaload, 1) := by decide +kernel
theorem dL_law_1281 : decode cL_law 1281 = .ok (.aload_n 0, 1) := by decide +kernel
theorem dL_law_1282 : decode cL_law 1282 = .ok (.iload_n 3, 1) := by decide +kernel
theorem dL_law_1283 : decode cL_law 1283 = .ok (.iconst 2, 1) := by decide +kernel
theorem dL_law_1284 : decode cL_law 1284 = .ok (.iadd, 1) := by decide +kernel
theorem dL_law_1285 : decode cL_law 1285 = .ok (.iaload, 1) := by decide +kernel
theorem dL_law_1286 : decode cL_law 1286 = .ok (.aload_n 0, 1) := by decide +kernel
theorem dL_law_1287 : decode cL_law 1287 = .ok (.iload_n 3, 1) := by decide +kernel
theorem dL_law_1288 : decode cL_law 1288 = .ok (.iconst 3, 1) := by decide +kernel
theorem dL_law_1289 : decode cL_law 1289 = .ok (.iadd, 1) := by decide +kernel
theorem dL_law_1290 : decode cL_law 1290 = .ok (.iaload, 1) := by decide +kernel
theorem dL_law_1291 : decode cL_law 1291 = .ok (.invokevirtual 112, 3) := by decide +kernel
theorem dL_law_1294 : decode cL_law 1294 = .ok (.lcmp, 1) := by decide +kernel
theorem dL_law_1295 : decode cL_law 1295 = .ok (.ifCond .eq 28, 3) := by decide +kernel
theorem dL_law_1298 : decode cL_law 1298 = .ok (.iconst 0, 1) := by decide +kernel
theorem dL_law_1299 : decode cL_law 1299 = .ok (.ireturn, 1) := by decide +kernel
theorem dL_law_1300 : decode cL_law 1300 = .ok (.aload_n 1, 1) := by decide +kernel
theorem dL_law_1301 : decode cL_law 1301 = .ok (.aload_n 0, 1) := by decide +kernel
theorem dL_law_1302 : decode cL_law 1302 = .ok (.iload_n 3, 1) := by decide +kernel
theorem dL_law_1303 : decode cL_law 1303 = .ok (.iconst 1, 1) := by decide +kernel
theorem dL_law_1304 : decode cL_law 1304 = .ok (.iadd, 1) := by decide +kernel
theorem dL_law_1305 : decode cL_law 1305 = .ok (.iaload, 1) := by decide +kernel
theorem dL_law_1306 : decode cL_law 1306 = .ok (.invokevirtual 113, 3) := by decide +kernel
theorem dL_law_1309 : decode cL_law 1309 = .ok (.aload_n 2, 1) := by decide +kernel
theorem dL_law_1310 : decode cL_law 1310 = .ok (.aload_n 0, 1) := by decide +kernel
theorem dL_law_1311 : decode cL_law 1311 = .ok (.iload_n 3, 1) := by decide +kernel
theorem dL_law_1312 : decode cL_law 1312 = .ok (.iconst 1, 1) := by decide +kernel
theorem dL_law_1313 : decode cL_law 1313 = .ok (.iadd, 1) := by decide +kernel
theorem dL_law_1314 : decode cL_law 1314 = .ok (.iaload, 1) := by decide +kernel
theorem dL_law_1315 : decode cL_law 1315 = .ok (.invokevirtual 116, 3) := by decide +kernel
theorem dL_law_1318 : decode cL_law 1318 = .ok (.if_icmp .eq 5, 3) := by decide +kernel
theorem dL_law_1321 : decode cL_law 1321 = .ok (.iconst 0, 1) := by decide +kernel
theorem dL_law_1322 : decode cL_law 1322 = .ok (.ireturn, 1) := by decide +kernel
theorem dL_law_1323 : decode cL_law 1323 = .ok (.iinc 3 8, 3) := by decide +kernel
theorem dL_law_1326 : decode cL_law 1326 = .ok (.goto (-1308), 3) := by decide +kernel
theorem dL_law_1329 : decode cL_law 1329 = .ok (.iconst 1, 1) := by decide +kernel
theorem dL_law_1330 : decode cL_law 1330 = .ok (.ireturn, 1) := by decide +kernel
end
section
/-! A pure machine: typed values, cells, heaps; programs as functions of a heap; and what it means that the bytecode does as such a program says. -/
abbrev TV : Type := Int32 ⊕ Int64 ⊕ Option Nat ⊕ Unit
abbrev vi (x : Int32) : TV := .inl x
abbrev vl (x : Int64) : TV := .inr (.inl x)
abbrev vr (r : Option Nat) : TV := .inr (.inr (.inl r))
abbrev vu : TV := .inr (.inr (.inr ()))
def toV : TV → Value
  | .inl x => .int x
  | .inr (.inl x) => .long x
  | .inr (.inr (.inl r)) => va_rf r
  | .inr (.inr (.inr _)) => .null
def isU : TV → Bool
  | .inr (.inr (.inr _)) => true
  | _ => false
def isW : TV → Bool
  | .inr (.inl _) => true
  | _ => false
def catT : TV → Nat
  | .inr (.inl _) => 2
  | _ => 1
theorem cat_toV (v : TV) : (toV v).category = catT v := by
  rcases v with x | x | r | u
  · rfl
  · rfl
  · cases r <;> rfl
  · rfl
abbrev AC : Type := (Nat × List TV) ⊕ (Nat × List Int32) ⊕ (List Int64) ⊕ (Nat × List (Option Nat))
abbrev ob (ci : Nat) (fs : List TV) : AC := .inl (ci, fs)
abbrev ai (t : Nat) (xs : List Int32) : AC := .inr (.inl (t, xs))
abbrev al (xs : List Int64) : AC := .inr (.inr (.inl xs))
abbrev aq (t : Nat) (xs : List (Option Nat)) : AC := .inr (.inr (.inr (t, xs)))
/-- cells by address; the next address; how many slots were made so far -/
abbrev Hp : Type := (Nat → Option AC) × Nat × Nat
abbrev Mo (R : Type) : Type := Hp → Option (R × Hp)
def up (h : Hp) (a : Nat) (c : AC) : Hp := (fun b => if b = a then some c else h.1 b, h.2)
def mk (h : Hp) (c : AC) (n : Nat) : Hp := (fun b => if b = h.2.1 then some c else h.1 b, h.2.1 + 1, h.2.2 + n)
def rn {R : Type} (r : R) : Mo R := fun h => some (r, h)
def fl {R : Type} : Mo R := fun _ => none
def bd {A B : Type} (p : Mo A) (k : A → Mo B) : Mo B := fun h => match p h with
  | some (r, h') => k r h'
  | none => none
/-- the object at r, if it is one of kind ci -/
def obOf (h : Hp) (r : Option Nat) (ci : Nat) : Option (Nat × List TV) := match r with
  | none => none
  | some a => match h.1 a with
    | some (.inl (c, fs)) => if c = ci then some (a, fs) else none
    | _ => none
def gI (r : Option Nat) (ci k : Nat) : Mo Int32 := fun h => match obOf h r ci with
  | some (_, fs) => match fs[k]? with
    | some (.inl x) => some (x, h)
    | _ => none
  | none => none
def gL (r : Option Nat) (ci k : Nat) : Mo Int64 := fun h => match obOf h r ci with
  | some (_, fs) => match fs[k]? with
    | some (.inr (.inl x)) => some (x, h)
    | _ => none
  | none => none
def gA (r : Option Nat) (ci k : Nat) : Mo (Option Nat) := fun h => match obOf h r ci with
  | some (_, fs) => match fs[k]? with
    | some (.inr (.inr (.inl x))) => some (x, h)
    | _ => none
  | none => none
def pF (r : Option Nat) (ci k : Nat) (v : TV) : Mo Unit := fun h => match obOf h r ci with
  | some (a, fs) => if k < fs.length then some ((), up h a (ob ci (fs.set k v))) else none
  | none => none
def iaOf (h : Hp) (r : Option Nat) (t : Nat) : Option (Nat × List Int32) := match r with
  | none => none
  | some a => match h.1 a with
    | some (.inr (.inl (t', xs))) => if t' = t then some (a, xs) else none
    | _ => none
def laOf (h : Hp) (r : Option Nat) : Option (Nat × List Int64) := match r with
  | none => none
  | some a => match h.1 a with
    | some (.inr (.inr (.inl xs))) => some (a, xs)
    | _ => none
def qaOf (h : Hp) (r : Option Nat) (t : Nat) : Option (Nat × List (Option Nat)) := match r with
  | none => none
  | some a => match h.1 a with
    | some (.inr (.inr (.inr (t', xs)))) => if t' = t then some (a, xs) else none
    | _ => none
/-- int (t = 0) and boolean (t = 2) arrays -/
def ldI (t : Nat) (r : Option Nat) (i : Int32) : Mo Int32 := fun h => match iaOf h r t with
  | some (_, xs) => if i < 0 ∨ xs.length ≤ i.toNatClampNeg then none else some (xs.getD i.toNatClampNeg 0, h)
  | none => none
def ldL (r : Option Nat) (i : Int32) : Mo Int64 := fun h => match laOf h r with
  | some (_, xs) => if i < 0 ∨ xs.length ≤ i.toNatClampNeg then none else some (xs.getD i.toNatClampNeg 0, h)
  | none => none
def ldQ (t : Nat) (r : Option Nat) (i : Int32) : Mo (Option Nat) := fun h => match qaOf h r t with
  | some (_, xs) => if i < 0 ∨ xs.length ≤ i.toNatClampNeg then none else some (xs.getD i.toNatClampNeg none, h)
  | none => none
def stI (r : Option Nat) (i x : Int32) : Mo Unit := fun h => match iaOf h r 0 with
  | some (a, xs) => if i < 0 ∨ xs.length ≤ i.toNatClampNeg then none else some ((), up h a (ai 0 (xs.set i.toNatClampNeg x)))
  | none => none
def stZ (r : Option Nat) (i x : Int32) : Mo Unit := fun h => match iaOf h r 2 with
  | some (a, xs) => if (i < 0 ∨ xs.length ≤ i.toNatClampNeg) ∨ ¬ (x = 0 ∨ x = 1) then none else some ((), up h a (ai 2 (xs.set i.toNatClampNeg x)))
  | none => none
def stL (r : Option Nat) (i : Int32) (x : Int64) : Mo Unit := fun h => match laOf h r with
  | some (a, xs) => if i < 0 ∨ xs.length ≤ i.toNatClampNeg then none else some ((), up h a (al (xs.set i.toNatClampNeg x)))
  | none => none
/-- a reference to an object of kind ci goes into an array of kind t -/
def stQ (t ci : Nat) (r : Option Nat) (i : Int32) (v : Option Nat) : Mo Unit := fun h => match qaOf h r t, obOf h v ci with
  | some (a, xs), some (b, _) => if i < 0 ∨ xs.length ≤ i.toNatClampNeg then none else some ((), up h a (aq t (xs.set i.toNatClampNeg (some b))))
  | _, _ => none
/-- a row of longs goes into an array of rows (kind 6) -/
def stR (r : Option Nat) (i : Int32) (v : Option Nat) : Mo Unit := fun h => match qaOf h r 6, laOf h v with
  | some (a, xs), some (b, _) => if i < 0 ∨ xs.length ≤ i.toNatClampNeg then none else some ((), up h a (aq 6 (xs.set i.toNatClampNeg (some b))))
  | _, _ => none
def aln (r : Option Nat) : Mo Int32 := fun h => match r with
  | none => none
  | some a => match h.1 a with
    | some (.inr (.inl (t, xs))) => if t = 0 then some (Int32.ofNat xs.length, h) else none
    | some (.inr (.inr (.inl xs))) => some (Int32.ofNat xs.length, h)
    | _ => none
def nwO (ci : Nat) (fs : List TV) : Mo (Option Nat) := fun h => some (some h.2.1, mk h (ob ci fs) fs.length)
def nwI (t : Nat) (n : Int32) : Mo (Option Nat) := fun h => if n < 0 ∨ 1000 < n.toNatClampNeg then none else some (some h.2.1, mk h (ai t (List.replicate n.toNatClampNeg 0)) n.toNatClampNeg)
def nwL (n : Int32) : Mo (Option Nat) := fun h => if n < 0 ∨ 5000 < n.toNatClampNeg then none else some (some h.2.1, mk h (al (List.replicate n.toNatClampNeg 0)) n.toNatClampNeg)
def nwQ (t : Nat) (n : Int32) : Mo (Option Nat) := fun h => if n < 0 ∨ 1000 < n.toNatClampNeg then none else some (some h.2.1, mk h (aq t (List.replicate n.toNatClampNeg none)) n.toNatClampNeg)
/-- new long[n][k]: the outer array at the next address, its rows behind it -/
def nwM (n k : Int32) : Mo (Option Nat) := fun h => if n < 0 ∨ k < 0 ∨ 1000 < n.toNatClampNeg ∨ 1000 < k.toNatClampNeg then none else
  some (some h.2.1, (fun b => if b = h.2.1 then some (aq 6 ((List.range n.toNatClampNeg).map (fun j => some (h.2.1 + 1 + j)))) else if h.2.1 < b ∧ b < h.2.1 + 1 + n.toNatClampNeg then some (al (List.replicate k.toNatClampNeg 0)) else h.1 b, h.2.1 + 1 + n.toNatClampNeg, h.2.2 + n.toNatClampNeg + n.toNatClampNeg * k.toNatClampNeg))
def dvI (x y : Int32) : Mo Int32 := fun h => if y = 0 then none else some (x / y, h)
def dvL (x y : Int64) : Mo Int64 := fun h => if y = 0 then none else some (x / y, h)
def rmL (x y : Int64) : Mo Int64 := fun h => if y = 0 then none else some (x - x / y * y, h)
/-- a boolean answer -/
def rnZ (x : Int32) : Mo Int32 := fun h => if x = 0 ∨ x = 1 then some (x, h) else none
/-- a method called on the object r of kind ci -/
def vc {R : Type} (ci : Nat) (r : Option Nat) (f : Nat → Mo R) : Mo R := fun h => match obOf h r ci with
  | some (a, _) => f a h
  | none => none
/-- a new object's constructor: the object is not null -/
def vn {R : Type} (r : Option Nat) (f : Nat → Mo R) : Mo R := match r with
  | some a => f a
  | none => fl
/-- a small table of ints, not in the heap -/
def tb (xs : List Int32) (i : Int32) : Mo Int32 := fun h => if i < 0 ∨ xs.length ≤ i.toNatClampNeg then none else some (xs.getD i.toNatClampNeg 0, h)
end
section
/-! The locals: a list of typed values, by their places; what isn't known is vu. -/
def asc : Nat → List TV → List (Nat × Value)
  | _, [] => []
  | i, v :: vs => match isU v with
    | true => asc (i + 1) vs
    | false => (i, toV v) :: asc (i + 1) vs
theorem asc_mem : ∀ (ls : List TV) (k : Nat) (q : Nat × Value), q ∈ asc k ls → ∃ (j : Nat) (t : TV), q.1 = k + j ∧ ls[j]? = some t ∧ isU t = false ∧ q.2 = toV t
  | [], k, q, h => by simp [asc] at h
  | v :: vs, k, q, h => by
    cases hu : isU v with
    | true =>
      simp only [asc, hu] at h
      obtain ⟨j, t, h1, h2, h3, h4⟩ := asc_mem vs (k + 1) q h
      exact ⟨j + 1, t, by omega, by simpa using h2, h3, h4⟩
    | false =>
      simp only [asc, hu, List.mem_cons] at h
      rcases h with rfl | h
      · exact ⟨0, v, rfl, rfl, hu, rfl⟩
      · obtain ⟨j, t, h1, h2, h3, h4⟩ := asc_mem vs (k + 1) q h
        exact ⟨j + 1, t, by omega, by simpa using h2, h3, h4⟩
theorem asc_in : ∀ (ls : List TV) (k j : Nat) (t : TV), ls[j]? = some t → isU t = false → (k + j, toV t) ∈ asc k ls
  | [], k, j, t, h, _ => by simp at h
  | v :: vs, k, 0, t, h, hu => by
    simp at h
    subst h
    simp [asc, hu]
  | v :: vs, k, j + 1, t, h, hu => by
    have h1 := asc_in vs (k + 1) j t (by simpa using h) hu
    have e : k + (j + 1) = k + 1 + j := by omega
    rw [e]
    cases hv : isU v with
    | true => simpa [asc, hv] using h1
    | false => simp only [asc, hv]; exact List.mem_cons_of_mem _ h1
def LV (la : Array Slot) (nL : Nat) (ls : List TV) : Prop := lv_has la nL (asc 0 ls)
theorem LV.at {la : Array Slot} {nL : Nat} {ls : List TV} (h : LV la nL ls) {i : Nat} {t : TV} (hi : ls[i]? = some t) (hu : isU t = false) : la[i]? = some (.val (toV t)) := by
  have h1 := h.2.2 _ (asc_in ls 0 i t hi hu)
  simpa using h1
def kl : TV → TV
  | .inr (.inl _) => vu
  | v => v
def set1 : List TV → Nat → TV → List TV
  | [], _, _ => []
  | _ :: r, 0, v => v :: r
  | a :: r, 1, v => kl a :: set1 r 0 v
  | a :: r, n + 2, v => a :: set1 r (n + 1) v
def set2 : List TV → Nat → TV → List TV
  | [], _, _ => []
  | [_], 0, _ => [vu]
  | _ :: _ :: r, 0, v => v :: vu :: r
  | a :: r, 1, v => kl a :: set2 r 0 v
  | a :: r, n + 2, v => a :: set2 r (n + 1) v
theorem set1_at : ∀ (ls : List TV) (i : Nat) (v : TV) (j : Nat) (t : TV), (set1 ls i v)[j]? = some t → isU t = false → (j = i ∧ t = v) ∨ (j ≠ i ∧ ls[j]? = some t ∧ ¬ (j + 1 = i ∧ catT t = 2))
  | [], i, v, j, t, h, _ => by simp [set1] at h
  | a :: r, 0, v, 0, t, h, _ => by simp [set1] at h; exact Or.inl ⟨rfl, h.symm⟩
  | a :: r, 0, v, j + 1, t, h, _ => by
    simp [set1] at h
    exact Or.inr ⟨by omega, by simpa using h, by omega⟩
  | a :: r, 1, v, 0, t, h, hu => by
    simp [set1] at h
    refine Or.inr ⟨by omega, ?_, ?_⟩
    · rcases a with x | x | x | x
      · simpa [kl] using h
      · simp [kl] at h; subst h; simp [isU] at hu
      · simpa [kl] using h
      · simp [kl] at h; subst h; simp [isU] at hu
    · rcases a with x | x | x | x
      · simp [kl] at h; subst h; simp [catT]
      · simp [kl] at h; subst h; simp [isU] at hu
      · simp [kl] at h; subst h; simp [catT]
      · simp [kl] at h; subst h; simp [isU] at hu
  | a :: r, 1, v, j + 1, t, h, hu => by
    simp [set1] at h
    rcases set1_at r 0 v j t h hu with ⟨h1, h2⟩ | ⟨h1, h2, h3⟩
    · exact Or.inl ⟨by omega, h2⟩
    · exact Or.inr ⟨by omega, by simpa using h2, by omega⟩
  | a :: r, n + 2, v, 0, t, h, hu => by
    simp [set1] at h
    exact Or.inr ⟨by omega, by simpa using h, by omega⟩
  | a :: r, n + 2, v, j + 1, t, h, hu => by
    simp [set1] at h
    rcases set1_at r (n + 1) v j t h hu with ⟨h1, h2⟩ | ⟨h1, h2, h3⟩
    · exact Or.inl ⟨by omega, h2⟩
    · exact Or.inr ⟨by omega, by simpa using h2, fun q => h3 ⟨by omega, q.2⟩⟩
theorem set2_at : ∀ (ls : List TV) (i : Nat) (v : TV) (j : Nat) (t : TV), (set2 ls i v)[j]? = some t → isU t = false → (j = i ∧ t = v) ∨ (j ≠ i ∧ j ≠ i + 1 ∧ ls[j]? = some t ∧ ¬ (j + 1 = i ∧ catT t = 2))
  | [], i, v, j, t, h, _ => by simp [set2] at h
  | [a], 0, v, j, t, h, hu => by
    rcases j with _ | j
    · simp [set2] at h; subst h; simp [isU] at hu
    · simp [set2] at h
  | a :: b :: r, 0, v, 0, t, h, _ => by simp [set2] at h; exact Or.inl ⟨rfl, h.symm⟩
  | a :: b :: r, 0, v, 1, t, h, hu => by simp [set2] at h; subst h; simp [isU] at hu
  | a :: b :: r, 0, v, j + 2, t, h, _ => by
    simp [set2] at h
    exact Or.inr ⟨by omega, by omega, by simpa using h, by omega⟩
  | a :: r, 1, v, 0, t, h, hu => by
    simp [set2] at h
    refine Or.inr ⟨by omega, by omega, ?_, ?_⟩
    · rcases a with x | x | x | x
      · simpa [kl] using h
      · simp [kl] at h; subst h; simp [isU] at hu
      · simpa [kl] using h
      · simp [kl] at h; subst h; simp [isU] at hu
    · rcases a with x | x | x | x
      · simp [kl] at h; subst h; simp [catT]
      · simp [kl] at h; subst h; simp [isU] at hu
      · simp [kl] at h; subst h; simp [catT]
      · simp [kl] at h; subst h; simp [isU] at hu
  | a :: r, 1, v, j + 1, t, h, hu => by
    simp [set2] at h
    rcases set2_at r 0 v j t h hu with ⟨h1, h2⟩ | ⟨h1, h2, h3, h4⟩
    · exact Or.inl ⟨by omega, h2⟩
    · exact Or.inr ⟨by omega, by omega, by simpa using h3, by omega⟩
  | a :: r, n + 2, v, 0, t, h, hu => by
    simp [set2] at h
    exact Or.inr ⟨by omega, by omega, by simpa using h, by omega⟩
  | a :: r, n + 2, v, j + 1, t, h, hu => by
    simp [set2] at h
    rcases set2_at r (n + 1) v j t h hu with ⟨h1, h2⟩ | ⟨h1, h2, h3, h4⟩
    · exact Or.inl ⟨by omega, h2⟩
    · exact Or.inr ⟨by omega, by omega, by simpa using h3, fun q => h4 ⟨by omega, q.2⟩⟩
theorem LV.of1 {la : Array Slot} {nL i : Nat} {ls : List TV} {v : TV} (h : lv_has la nL ((i, toV v) :: (asc 0 ls).filter (fun q => !(q.1 == i) && !(q.1 + 1 == i && q.2.category == 2)))) : LV la nL (set1 ls i v) := by
  refine ⟨h.1, h.2.1, fun q hq => ?_⟩
  obtain ⟨j, t, h1, h2, h3, h4⟩ := asc_mem _ _ _ hq
  obtain ⟨q1, q2⟩ := q
  simp only [Nat.zero_add] at h1
  simp only at h4
  subst h1 h4
  rcases set1_at ls i v q1 t h2 h3 with ⟨e1, e2⟩ | ⟨e1, e2, e3⟩
  · subst e1 e2
    exact h.2.2 _ List.mem_cons_self
  · refine h.2.2 _ (List.mem_cons_of_mem _ (List.mem_filter.mpr ⟨by simpa using asc_in ls 0 q1 t e2 h3, ?_⟩))
    simp only [cat_toV]
    simp [e1]
    omega
theorem LV.of2 {la : Array Slot} {nL i : Nat} {ls : List TV} {v : TV} (h : lv_has la nL ((i, toV v) :: (asc 0 ls).filter (fun q => !(q.1 == i) && (!(q.1 == i + 1) && !(q.1 + 1 == i && q.2.category == 2))))) : LV la nL (set2 ls i v) := by
  refine ⟨h.1, h.2.1, fun q hq => ?_⟩
  obtain ⟨j, t, h1, h2, h3, h4⟩ := asc_mem _ _ _ hq
  obtain ⟨q1, q2⟩ := q
  simp only [Nat.zero_add] at h1
  simp only at h4
  subst h1 h4
  rcases set2_at ls i v q1 t h2 h3 with ⟨e1, e2⟩ | ⟨e1, e2, e3, e4⟩
  · subst e1 e2
    exact h.2.2 _ List.mem_cons_self
  · refine h.2.2 _ (List.mem_cons_of_mem _ (List.mem_filter.mpr ⟨by simpa using asc_in ls 0 q1 t e3 h3, ?_⟩))
    simp only [cat_toV]
    simp [e1, e2]
    omega
/-- fewer known locals -/
def msk : List Bool → List TV → List TV
  | true :: bs, v :: vs => v :: msk bs vs
  | false :: bs, _ :: vs => vu :: msk bs vs
  | _, _ => []
theorem msk_at : ∀ (bs : List Bool) (ls : List TV) (j : Nat) (t : TV), (msk bs ls)[j]? = some t → isU t = false → ls[j]? = some t
  | [], _, j, t, h, _ => by simp [msk] at h
  | true :: bs, [], j, t, h, _ => by simp [msk] at h
  | false :: bs, [], j, t, h, _ => by simp [msk] at h
  | true :: bs, v :: vs, 0, t, h, _ => by simpa [msk] using h
  | false :: bs, v :: vs, 0, t, h, hu => by simp [msk] at h; subst h; simp [isU] at hu
  | true :: bs, v :: vs, j + 1, t, h, hu => by simp [msk] at h; simpa using msk_at bs vs j t h hu
  | false :: bs, v :: vs, j + 1, t, h, hu => by simp [msk] at h; simpa using msk_at bs vs j t h hu
theorem LV.msk {la : Array Slot} {nL : Nat} {ls : List TV} (bs : List Bool) (h : LV la nL ls) : LV la nL (msk bs ls) := by
  refine ⟨h.1, h.2.1, fun q hq => ?_⟩
  obtain ⟨j, t, h1, h2, h3, h4⟩ := asc_mem _ _ _ hq
  refine h.2.2 q ?_
  obtain ⟨q1, q2⟩ := q
  simp only [Nat.zero_add] at h1
  simp only at h4
  subst h1 h4
  simpa using asc_in ls 0 q1 t (msk_at bs ls q1 t h2 h3) h3
end
section
/-! What the heap of the machine has to do with a heap of the pure machine; the context of a method; AW: from here the bytecode does as the program says. -/
def arC (cA : ClassId) (l : List Value) : Cell := { cls := cA, slots := l.toArray, vm := .none }
def AT (D : va_G) (K : Nat → ClassId) (a : Nat) (H : Heap) : AC → Prop
  | .inl (ci, fs) => ∃ r : vw_C, vwCl[ci]? = some r ∧ fs.length = r.2.2 ∧ t_OB a (D.1 ci) r.2.2 (D.2 ci) H (fun k => toV (fs.getD k vu))
  | .inr (.inl (t, xs)) => H[a]? = some (arC (K t) (xs.map Value.int))
  | .inr (.inr (.inl xs)) => H[a]? = some (arC (K 1) (xs.map Value.long))
  | .inr (.inr (.inr (t, xs))) => H[a]? = some (arC (K t) (xs.map va_rf))
theorem AT.kept {D : va_G} {K : Nat → ClassId} {a : Nat} {H H1 : Heap} {c : AC} (h : AT D K a H c) (hq : H1[a]? = H[a]?) : AT D K a H1 c := by
  rcases c with ⟨ci, fs⟩ | ⟨t, xs⟩ | xs | ⟨t, xs⟩
  · obtain ⟨r, h1, h2, h3⟩ := h
    exact ⟨r, h1, h2, h3.kept hq⟩
  · exact hq.trans h
  · exact hq.trans h
  · exact hq.trans h
theorem AT.lt {D : va_G} {K : Nat → ClassId} {a : Nat} {H : Heap} {c : AC} (h : AT D K a H c) : a < H.size := by
  rcases c with ⟨ci, fs⟩ | ⟨t, xs⟩ | xs | ⟨t, xs⟩
  · obtain ⟨r, h1, h2, cell, h3, -⟩ := h
    exact (Array.getElem?_eq_some_iff.mp h3).1
  · exact (Array.getElem?_eq_some_iff.mp h).1
  · exact (Array.getElem?_eq_some_iff.mp h).1
  · exact (Array.getElem?_eq_some_iff.mp h).1
/-- the machine's heap H holds what h says, and h's cells are all of the kind A -/
def Rep (D : va_G) (K : Nat → ClassId) (A : Nat → Prop) (h : Hp) (H : Heap) : Prop := H.size = h.2.1 ∧ ∀ (a : Nat) (c : AC), h.1 a = some c → AT D K a H c ∧ A a
theorem Rep.up {D : va_G} {K : Nat → ClassId} {A : Nat → Prop} {h : Hp} {H H1 : Heap} (hR : Rep D K A h H) {a : Nat} {c : AC} (hA : A a) (z : H1.size = H.size) (he : AT D K a H1 c) (oq : ∀ q : Nat, q ≠ a → H1[q]? = H[q]?) : Rep D K A (up h a c) H1 := by
  refine ⟨by rw [z]; exact hR.1, fun b d hb => ?_⟩
  by_cases e : b = a
  · subst e
    simp [_root_.Jvm.Pilot.@@N@@.up] at hb
    subst hb
    exact ⟨he, hA⟩
  · simp [_root_.Jvm.Pilot.@@N@@.up, e] at hb
    obtain ⟨h1, h2⟩ := hR.2 b d hb
    exact ⟨h1.kept (oq b e), h2⟩
theorem Rep.mk {D : va_G} {K : Nat → ClassId} {A : Nat → Prop} {h : Hp} {H H1 : Heap} (hR : Rep D K A h H) {c : AC} {n : Nat} (hA : A H.size) (z : H1.size = H.size + 1) (he : AT D K H.size H1 c) (oq : ∀ q : Nat, q < H.size → H1[q]? = H[q]?) : Rep D K A (mk h c n) H1 := by
  refine ⟨by rw [z, hR.1]; rfl, fun b d hb => ?_⟩
  by_cases e : b = h.2.1
  · subst e
    simp [_root_.Jvm.Pilot.@@N@@.mk] at hb
    subst hb
    rw [← hR.1]
    exact ⟨he, hA⟩
  · simp [_root_.Jvm.Pilot.@@N@@.mk, e] at hb
    obtain ⟨h1, h2⟩ := hR.2 b d hb
    exact ⟨h1.kept (oq b h1.lt), h2⟩
/-- the kinds of arrays -/
def tyl (K : Nat → ClassId) : List (ClassId × FieldType) := [(K 0, .int), (K 1, .long), (K 2, .boolean), (K 3, .object RX0), (K 4, .object RX1), (K 5, .object RX8), (K 6, .array .long)]
def isNest : Cond → Bool
  | .fieldLinkNest .. => true
  | .methodLinkNest .. => true
  | _ => false
def TBg : List Cond := lw_tbl.filter goodWord
def TBn : List Cond := lw_tbl.filter isNest
/-- a static int array of three, that nobody writes -/
def Sta (nm : String) (xs : List Int32) (A : Nat → Prop) (U : State) (H : Heap) : Prop := ∃ t : Nat, va_Z RX10 nm "[I" (.ref t) A U H ∧ va_T .int t xs.length (fun j => .int (xs.getD j 0)) A U H
def least : List Int32 := [0, 1, 0]
def most : List Int32 := [60, 4, 100]
/-- what stays the same all along, at a state -/
def Knw (D : va_G) (K : Nat → ClassId) (A : Nat → Prop) (U : State) : Prop :=
  va_K D vwCl (tyl K) U ∧ (∀ w ∈ TBn, va_Nw w U) ∧ va_AO RX0 U ∧ va_AO RX1 U ∧ va_AO RX8 U ∧ (Cond.arrayOver (.array .long)).before #[] U = true ∧ (∀ q, U.heap.size ≤ q → A q)
def Stt (A : Nat → Prop) (U : State) : Prop := Sta "RULE_LEAST" least A U U.heap ∧ Sta "RULE_MOST" most A U U.heap
/-- own class, size of the locals, what it returns, frames and locals that its calls need, a constructor -/
abbrev Mt : Type := String × Nat × Option FieldType × Nat × Nat × Bool
abbrev Cx : Type := Program × Launch × Env × Room × State × MethodId × Array Value × List Frame × Method × Code × va_G × (Nat → ClassId) × (Nat → Prop) × Nat
abbrev Cx.p (C : Cx) : Program := C.1
abbrev Cx.l (C : Cx) : Launch := C.2.1
abbrev Cx.e (C : Cx) : Env := C.2.2.1
abbrev Cx.R (C : Cx) : Room := C.2.2.2.1
abbrev Cx.s (C : Cx) : State := C.2.2.2.2.1
abbrev Cx.m (C : Cx) : MethodId := C.2.2.2.2.2.1
abbrev Cx.args (C : Cx) : Array Value := C.2.2.2.2.2.2.1
abbrev Cx.below (C : Cx) : List Frame := C.2.2.2.2.2.2.2.1
abbrev Cx.meth (C : Cx) : Method := C.2.2.2.2.2.2.2.2.1
abbrev Cx.c (C : Cx) : Code := C.2.2.2.2.2.2.2.2.2.1
abbrev Cx.D (C : Cx) : va_G := C.2.2.2.2.2.2.2.2.2.2.1
abbrev Cx.K (C : Cx) : Nat → ClassId := C.2.2.2.2.2.2.2.2.2.2.2.1
abbrev Cx.A (C : Cx) : Nat → Prop := C.2.2.2.2.2.2.2.2.2.2.2.2.1
abbrev Cx.u (C : Cx) : Nat := C.2.2.2.2.2.2.2.2.2.2.2.2.2
abbrev WC (C : Cx) (H : Heap) (locs : List Loc) (cells slots : Nat) (Q : State → Prop) (g : JFrame) : Prop := W C.p C.l C.e C.R C.s C.m C.args C.below C.meth C.c H locs cells slots Q g
def Mn (h h' : Hp) : Prop := h.2.1 ≤ h'.2.1 ∧ h.2.2 ≤ h'.2.2
theorem Mn.rf (h : Hp) : Mn h h := ⟨Nat.le_refl _, Nat.le_refl _⟩
theorem Mn.tr {a b c : Hp} (h1 : Mn a b) (h2 : Mn b c) : Mn a c := ⟨Nat.le_trans h1.1 h2.1, Nat.le_trans h1.2 h2.2⟩
/-- what is known of a method's context; its end is at the heap h' -/
def Gd (C : Cx) (cc : ByteArray) (mt : Mt) (h' : Hp) : Prop :=
  C.p.tables.exec = Jvm.exec ∧ C.c.code = cc ∧ C.c.maxLocals = mt.2.1 ∧ C.s.vm.findClass mt.1 = some C.m.cls ∧ (∀ w ∈ TBg, w.before C.args C.s = true) ∧ C.meth.sig.returnType = mt.2.2.1 ∧ C.meth.locks = false ∧
  (mt.2.2.2.2.2 = true → C.meth.name = "<init>") ∧ Knw C.D C.K C.A C.s ∧ Stt C.A C.s ∧ mt.2.2.2.1 ≤ C.R.frames ∧ mt.2.2.2.2.1 ≤ C.R.locals ∧ h'.2.1 - C.s.heap.size ≤ C.R.cells ∧ h'.2.2 - C.u ≤ C.R.slots
/-- how a method ends -/
def Qe (D : va_G) (K : Nat → ClassId) (A : Nat → Prop) (v : Option Value) (h' : Hp) : Array Value → State → Outcome → State → Prop := fun _ st o t => o = .returned v ∧ Rep D K A h' t.heap ∧ va_F A st t
def QC (C : Cx) (v : Option Value) (h' : Hp) : State → Prop := MQ C.below (Qe C.D C.K C.A v h') C.args C.s (h'.2.1 - C.s.heap.size) (h'.2.2 - C.u) C.A
def AW (C : Cx) (cc : ByteArray) (mt : Mt) {R : Type} (q : R → Option Value) (res : R × Hp) (pc : Nat) (ls st : List TV) (P : Mo R) : Prop :=
  ∀ h : Hp, P h = some res → Mn h res.2 ∧ ∀ (H : Heap) (locs : List Loc) (la : Array Slot), Gd C cc mt res.2 → Rep C.D C.K C.A h H → C.u ≤ h.2.2 → va_S C.A C.s.heap H locs → LV la mt.2.1 ls →
    WC C H locs (h.2.1 - C.s.heap.size) (h.2.2 - C.u) (QC C (q res.1) res.2) (F0 C.m pc la (st.map toV))
section AWr
variable {C : Cx} {cc : ByteArray} {mt : Mt} {R : Type} {q : R → Option Value} {res : R × Hp} {pc pc' : Nat} {ls ls' st st' : List TV} {P : Mo R}
/-- an instruction that leaves the heap alone -/
theorem aw_of (hW : ∀ (H : Heap) (locs : List Loc) (cells slots : Nat) (Q : State → Prop) (la : Array Slot), Gd C cc mt res.2 → LV la mt.2.1 ls → (∀ la' : Array Slot, LV la' mt.2.1 ls' → WC C H locs cells slots Q (F0 C.m pc' la' (st'.map toV))) → WC C H locs cells slots Q (F0 C.m pc la (st.map toV)))
    (kk : AW C cc mt q res pc' ls' st' P) : AW C cc mt q res pc ls st P := by
  intro h hP
  obtain ⟨k1, k2⟩ := kk h hP
  exact ⟨k1, fun H locs la G hR hu hS hl => hW H locs _ _ _ la G hl (fun la' hl' => k2 H locs la' G hR hu hS hl')⟩
theorem aw_msk (bs : List Bool) (kk : AW C cc mt q res pc (msk bs ls) st P) : AW C cc mt q res pc ls st P := aw_of (fun _ _ _ _ _ la _ hl k => k la (hl.msk bs)) kk
theorem aw_fl : AW C cc mt q res pc ls st fl := fun h hP => by simp [fl] at hP
theorem aw_iconst {n : Int} (v : Int32) (hd : decode cc pc = .ok (.iconst n, 1)) (hv : Int32.ofInt n = v) (kk : AW C cc mt q res (pc + 1) ls (vi v :: st) P) : AW C cc mt q res pc ls st P :=
  aw_of (fun _ _ _ _ _ la G hl k => lv_iconst G.1 G.2.1 hd hv (k la hl)) kk
theorem aw_bipush {n : Int} (v : Int32) (hd : decode cc pc = .ok (.bipush n, 2)) (hv : (Int8.ofInt n).toInt32 = v) (kk : AW C cc mt q res (pc + 2) ls (vi v :: st) P) : AW C cc mt q res pc ls st P :=
  aw_of (fun _ _ _ _ _ la G hl k => lv_bipush G.1 G.2.1 hd hv (k la hl)) kk
theorem aw_sipush {n : Int} (v : Int32) (hd : decode cc pc = .ok (.sipush n, 3)) (hv : (Int16.ofInt n).toInt32 = v) (kk : AW C cc mt q res (pc + 3) ls (vi v :: st) P) : AW C cc mt q res pc ls st P :=
  aw_of (fun _ _ _ _ _ la G hl k => lv_sipush G.1 G.2.1 hd hv (k la hl)) kk
theorem aw_lconst {n : Fin 2} (v : Int64) (hd : decode cc pc = .ok (.lconst n, 1)) (hv : Int64.ofNat (n : Nat) = v) (kk : AW C cc mt q res (pc + 1) ls (vl v :: st) P) : AW C cc mt q res pc ls st P :=
  aw_of (fun _ _ _ _ _ la G hl k => lv_lconst G.1 G.2.1 hd hv (k la hl)) kk
theorem aw_null (hd : decode cc pc = .ok (.aconst_null, 1)) (kk : AW C cc mt q res (pc + 1) ls (vr none :: st) P) : AW C cc mt q res pc ls st P :=
  aw_of (fun _ _ _ _ _ la G hl k => lv_null G.1 G.2.1 hd (k la hl)) kk
theorem aw_ldc {v : Int32} {i : Nat} (hd : decode cc pc = .ok (.ldc i, 2)) (hw : Cond.constant mt.1 i v ∈ TBg) (kk : AW C cc mt q res (pc + 2) ls (vi v :: st) P) : AW C cc mt q res pc ls st P :=
  aw_of (fun _ _ _ _ _ la G hl k => lv_ldc G.1 G.2.1 G.2.2.2.1 (G.2.2.2.2.1 _ hw) hd (k la hl)) kk
theorem aw_ldcw {v : Int32} {i : Nat} (hd : decode cc pc = .ok (.ldc_w i, 3)) (hw : Cond.constant mt.1 i v ∈ TBg) (kk : AW C cc mt q res (pc + 3) ls (vi v :: st) P) : AW C cc mt q res pc ls st P :=
  aw_of (fun _ _ _ _ _ la G hl k => lv_ldcw G.1 G.2.1 G.2.2.2.1 (G.2.2.2.2.1 _ hw) hd (k la hl)) kk
theorem aw_ldc2 {v : Int64} {i : Nat} (hd : decode cc pc = .ok (.ldc2_w i, 3)) (hw : Cond.constantLong mt.1 i v ∈ TBg) (kk : AW C cc mt q res (pc + 3) ls (vl v :: st) P) : AW C cc mt q res pc ls st P :=
  aw_of (fun _ _ _ _ _ la G hl k => lv_ldc2 G.1 G.2.1 G.2.2.2.1 (G.2.2.2.2.1 _ hw) hd (k la hl)) kk
theorem aw_iload_n {k : Fin 4} {x : Int32} (hd : decode cc pc = .ok (.iload_n k, 1)) (hi : ls[(k : Nat)]? = some (vi x)) (kk : AW C cc mt q res (pc + 1) ls (vi x :: st) P) : AW C cc mt q res pc ls st P :=
  aw_of (fun _ _ _ _ _ la G hl k => lv_iload_n G.1 G.2.1 hd rfl (hl.at hi rfl) (k la hl)) kk
theorem aw_iload {i : Nat} {x : Int32} (hd : decode cc pc = .ok (.iload i, 2)) (hi : ls[i]? = some (vi x)) (kk : AW C cc mt q res (pc + 2) ls (vi x :: st) P) : AW C cc mt q res pc ls st P :=
  aw_of (fun _ _ _ _ _ la G hl k => lv_iload G.1 G.2.1 hd (hl.at hi rfl) (k la hl)) kk
theorem aw_lload_n {k : Fin 4} {x : Int64} (hd : decode cc pc = .ok (.lload_n k, 1)) (hi : ls[(k : Nat)]? = some (vl x)) (kk : AW C cc mt q res (pc + 1) ls (vl x :: st) P) : AW C cc mt q res pc ls st P :=
  aw_of (fun _ _ _ _ _ la G hl k => lv_lload_n G.1 G.2.1 hd rfl (hl.at hi rfl) (k la hl)) kk
theorem aw_lload {i : Nat} {x : Int64} (hd : decode cc pc = .ok (.lload i, 2)) (hi : ls[i]? = some (vl x)) (kk : AW C cc mt q res (pc + 2) ls (vl x :: st) P) : AW C cc mt q res pc ls st P :=
  aw_of (fun _ _ _ _ _ la G hl k => lv_lload G.1 G.2.1 hd (hl.at hi rfl) (k la hl)) kk
theorem aw_aload_n {k : Fin 4} {x : Option Nat} (hd : decode cc pc = .ok (.aload_n k, 1)) (hi : ls[(k : Nat)]? = some (vr x)) (kk : AW C cc mt q res (pc + 1) ls (vr x :: st) P) : AW C cc mt q res pc ls st P :=
  aw_of (fun _ _ _ _ _ la G hl k => by
    cases x with
    | none => exact lv_aload_nN G.1 G.2.1 hd rfl (hl.at hi rfl) (k la hl)
    | some a => exact lv_aload_n G.1 G.2.1 hd rfl (hl.at hi rfl) (k la hl)) kk
theorem aw_aload {i : Nat} {x : Option Nat} (hd : decode cc pc = .ok (.aload i, 2)) (hi : ls[i]? = some (vr x)) (kk : AW C cc mt q res (pc + 2) ls (vr x :: st) P) : AW C cc mt q res pc ls st P :=
  aw_of (fun _ _ _ _ _ la G hl k => by
    cases x with
    | none => exact lv_aloadN G.1 G.2.1 hd (hl.at hi rfl) (k la hl)
    | some a => exact lv_aload G.1 G.2.1 hd (hl.at hi rfl) (k la hl)) kk
theorem aw_istore_n {k : Fin 4} {x : Int32} (hd : decode cc pc = .ok (.istore_n k, 1)) (hn : (k : Nat) < mt.2.1) (kk : AW C cc mt q res (pc + 1) (set1 ls k (vi x)) st P) : AW C cc mt q res pc ls (vi x :: st) P :=
  aw_of (fun _ _ _ _ _ la G hl k => lv_istore_n G.1 G.2.1 hd rfl hl hn rfl (fun la' h => k la' (LV.of1 (v := vi x) h))) kk
theorem aw_istore {i : Nat} {x : Int32} (hd : decode cc pc = .ok (.istore i, 2)) (hn : i < mt.2.1) (kk : AW C cc mt q res (pc + 2) (set1 ls i (vi x)) st P) : AW C cc mt q res pc ls (vi x :: st) P :=
  aw_of (fun _ _ _ _ _ la G hl k => lv_istore G.1 G.2.1 hd hl hn rfl (fun la' h => k la' (LV.of1 (v := vi x) h))) kk
theorem aw_lstore_n {k : Fin 4} {x : Int64} (hd : decode cc pc = .ok (.lstore_n k, 1)) (hn : (k : Nat) + 1 < mt.2.1) (kk : AW C cc mt q res (pc + 1) (set2 ls k (vl x)) st P) : AW C cc mt q res pc ls (vl x :: st) P :=
  aw_of (fun _ _ _ _ _ la G hl k => lv_lstore_n G.1 G.2.1 hd rfl hl hn rfl (fun la' h => k la' (LV.of2 (v := vl x) h))) kk
theorem aw_lstore {i : Nat} {x : Int64} (hd : decode cc pc = .ok (.lstore i, 2)) (hn : i + 1 < mt.2.1) (kk : AW C cc mt q res (pc + 2) (set2 ls i (vl x)) st P) : AW C cc mt q res pc ls (vl x :: st) P :=
  aw_of (fun _ _ _ _ _ la G hl k => lv_lstore G.1 G.2.1 hd hl hn rfl (fun la' h => k la' (LV.of2 (v := vl x) h))) kk
theorem aw_astore_n {k : Fin 4} {x : Option Nat} (hd : decode cc pc = .ok (.astore_n k, 1)) (hn : (k : Nat) < mt.2.1) (kk : AW C cc mt q res (pc + 1) (set1 ls k (vr x)) st P) : AW C cc mt q res pc ls (vr x :: st) P :=
  aw_of (fun _ _ _ _ _ la G hl k => by
    cases x with
    | none => exact lv_astore_nN G.1 G.2.1 hd rfl hl hn rfl (fun la' h => k la' (LV.of1 (v := vr none) h))
    | some a => exact lv_astore_n G.1 G.2.1 hd rfl hl hn rfl (fun la' h => k la' (LV.of1 (v := vr (some a)) h))) kk
theorem aw_astore {i : Nat} {x : Option Nat} (hd : decode cc pc = .ok (.astore i, 2)) (hn : i < mt.2.1) (kk : AW C cc mt q res (pc + 2) (set1 ls i (vr x)) st P) : AW C cc mt q res pc ls (vr x :: st) P :=
  aw_of (fun _ _ _ _ _ la G hl k => by
    cases x with
    | none => exact lv_astoreN G.1 G.2.1 hd hl hn rfl (fun la' h => k la' (LV.of1 (v := vr none) h))
    | some a => exact lv_astore G.1 G.2.1 hd hl hn rfl (fun la' h => k la' (LV.of1 (v := vr (some a)) h))) kk
theorem aw_iinc {i : Nat} {n : Int} {x : Int32} (v : Int32) (hd : decode cc pc = .ok (.iinc i n, 3)) (hi : ls[i]? = some (vi x)) (hv : x + Int32.ofInt n = v) (hn : i < mt.2.1) (kk : AW C cc mt q res (pc + 3) (set1 ls i (vi v)) st P) : AW C cc mt q res pc ls st P :=
  aw_of (fun _ _ _ _ _ la G hl k => by
    obtain ⟨j, hj⟩ := List.getElem?_of_mem (asc_in ls 0 i (vi x) hi rfl)
    rw [Nat.zero_add] at hj
    exact lv_iinc G.1 G.2.1 hd hl hj hv hn rfl (fun la' h => k la' (LV.of1 (v := vi v) h))) kk
theorem aw_iadd {x y : Int32} (hd : decode cc pc = .ok (.iadd, 1)) (kk : AW C cc mt q res (pc + 1) ls (vi (x + y) :: st) P) : AW C cc mt q res pc ls (vi y :: vi x :: st) P := aw_of (fun _ _ _ _ _ la G hl k => lv_iadd G.1 G.2.1 hd (k la hl)) kk
theorem aw_isub {x y : Int32} (hd : decode cc pc = .ok (.isub, 1)) (kk : AW C cc mt q res (pc + 1) ls (vi (x - y) :: st) P) : AW C cc mt q res pc ls (vi y :: vi x :: st) P := aw_of (fun _ _ _ _ _ la G hl k => lv_isub G.1 G.2.1 hd (k la hl)) kk
theorem aw_imul {x y : Int32} (hd : decode cc pc = .ok (.imul, 1)) (kk : AW C cc mt q res (pc + 1) ls (vi (x * y) :: st) P) : AW C cc mt q res pc ls (vi y :: vi x :: st) P := aw_of (fun _ _ _ _ _ la G hl k => lv_imul G.1 G.2.1 hd (k la hl)) kk
theorem aw_iand {x y : Int32} (hd : decode cc pc = .ok (.iand, 1)) (kk : AW C cc mt q res (pc + 1) ls (vi (x &&& y) :: st) P) : AW C cc mt q res pc ls (vi y :: vi x :: st) P := aw_of (fun _ _ _ _ _ la G hl k => lv_iand G.1 G.2.1 hd (k la hl)) kk
theorem aw_ladd {x y : Int64} (hd : decode cc pc = .ok (.ladd, 1)) (kk : AW C cc mt q res (pc + 1) ls (vl (x + y) :: st) P) : AW C cc mt q res pc ls (vl y :: vl x :: st) P := aw_of (fun _ _ _ _ _ la G hl k => lv_ladd G.1 G.2.1 hd (k la hl)) kk
theorem aw_lsub {x y : Int64} (hd : decode cc pc = .ok (.lsub, 1)) (kk : AW C cc mt q res (pc + 1) ls (vl (x - y) :: st) P) : AW C cc mt q res pc ls (vl y :: vl x :: st) P := aw_of (fun _ _ _ _ _ la G hl k => lv_lsub G.1 G.2.1 hd (k la hl)) kk
theorem aw_lmul {x y : Int64} (hd : decode cc pc = .ok (.lmul, 1)) (kk : AW C cc mt q res (pc + 1) ls (vl (x * y) :: st) P) : AW C cc mt q res pc ls (vl y :: vl x :: st) P := aw_of (fun _ _ _ _ _ la G hl k => lv_lmul G.1 G.2.1 hd (k la hl)) kk
theorem aw_land {x y : Int64} (hd : decode cc pc = .ok (.land, 1)) (kk : AW C cc mt q res (pc + 1) ls (vl (x &&& y) :: st) P) : AW C cc mt q res pc ls (vl y :: vl x :: st) P := aw_of (fun _ _ _ _ _ la G hl k => lv_land G.1 G.2.1 hd (k la hl)) kk
theorem aw_lor {x y : Int64} (hd : decode cc pc = .ok (.lor, 1)) (kk : AW C cc mt q res (pc + 1) ls (vl (x ||| y) :: st) P) : AW C cc mt q res pc ls (vl y :: vl x :: st) P := aw_of (fun _ _ _ _ _ la G hl k => lv_lor G.1 G.2.1 hd (k la hl)) kk
theorem aw_lxor {x y : Int64} (hd : decode cc pc = .ok (.lxor, 1)) (kk : AW C cc mt q res (pc + 1) ls (vl (x ^^^ y) :: st) P) : AW C cc mt q res pc ls (vl y :: vl x :: st) P := aw_of (fun _ _ _ _ _ la G hl k => lv_lxor G.1 G.2.1 hd (k la hl)) kk
theorem aw_lneg {x : Int64} (hd : decode cc pc = .ok (.lneg, 1)) (kk : AW C cc mt q res (pc + 1) ls (vl (-x) :: st) P) : AW C cc mt q res pc ls (vl x :: st) P := aw_of (fun _ _ _ _ _ la G hl k => lv_lneg G.1 G.2.1 hd (k la hl)) kk
theorem aw_i2l {x : Int32} (hd : decode cc pc = .ok (.i2l, 1)) (kk : AW C cc mt q res (pc + 1) ls (vl x.toInt64 :: st) P) : AW C cc mt q res pc ls (vi x :: st) P := aw_of (fun _ _ _ _ _ la G hl k => lv_i2l G.1 G.2.1 hd rfl (k la hl)) kk
theorem aw_l2i {x : Int64} (hd : decode cc pc = .ok (.l2i, 1)) (kk : AW C cc mt q res (pc + 1) ls (vi x.toInt32 :: st) P) : AW C cc mt q res pc ls (vl x :: st) P := aw_of (fun _ _ _ _ _ la G hl k => lv_l2i G.1 G.2.1 hd rfl (k la hl)) kk
/-- x >>> k, x << k, x >> k of longs -/
def usr (x : Int64) (y : Int32) : Int64 := (x.toUInt64 >>> (y.toInt64.toUInt64 &&& Int64.toUInt64 63)).toInt64
def slL (x : Int64) (y : Int32) : Int64 := x <<< (y.toInt64 &&& 63)
def srL (x : Int64) (y : Int32) : Int64 := x >>> (y.toInt64 &&& 63)
theorem aw_lushr {x : Int64} {y : Int32} (hd : decode cc pc = .ok (.lushr, 1)) (kk : AW C cc mt q res (pc + 1) ls (vl (usr x y) :: st) P) : AW C cc mt q res pc ls (vi y :: vl x :: st) P := aw_of (fun _ _ _ _ _ la G hl k => lv_lushr G.1 G.2.1 hd rfl (k la hl)) kk
theorem aw_lshl {x : Int64} {y : Int32} (hd : decode cc pc = .ok (.lshl, 1)) (kk : AW C cc mt q res (pc + 1) ls (vl (slL x y) :: st) P) : AW C cc mt q res pc ls (vi y :: vl x :: st) P := aw_of (fun _ _ _ _ _ la G hl k => lv_lshl G.1 G.2.1 hd rfl (k la hl)) kk
theorem aw_lshr {x : Int64} {y : Int32} (hd : decode cc pc = .ok (.lshr, 1)) (kk : AW C cc mt q res (pc + 1) ls (vl (srL x y) :: st) P) : AW C cc mt q res pc ls (vi y :: vl x :: st) P := aw_of (fun _ _ _ _ _ la G hl k => lv_lshr G.1 G.2.1 hd rfl (k la hl)) kk
theorem aw_dup {v : TV} (hd : decode cc pc = .ok (.dup, 1)) (hc : catT v = 1) (kk : AW C cc mt q res (pc + 1) ls (v :: v :: st) P) : AW C cc mt q res pc ls (v :: st) P := aw_of (fun _ _ _ _ _ la G hl k => lv_dup G.1 G.2.1 hd ((cat_toV v).trans hc) (k la hl)) kk
theorem aw_pop {v : TV} (hd : decode cc pc = .ok (.pop, 1)) (hc : catT v = 1) (kk : AW C cc mt q res (pc + 1) ls st P) : AW C cc mt q res pc ls (v :: st) P := aw_of (fun _ _ _ _ _ la G hl k => lv_pop G.1 G.2.1 hd ((cat_toV v).trans hc) (k la hl)) kk
theorem aw_dup2 {v w : TV} (hd : decode cc pc = .ok (.dup2, 1)) (hc : catT v = 1) (hc2 : catT w = 1) (kk : AW C cc mt q res (pc + 1) ls (v :: w :: v :: w :: st) P) : AW C cc mt q res pc ls (v :: w :: st) P := aw_of (fun _ _ _ _ _ la G hl k => lv_dup2_11 G.1 G.2.1 hd ((cat_toV v).trans hc) ((cat_toV w).trans hc2) (k la hl)) kk
theorem aw_goto {off : Int} (tgt : Nat) (hd : decode cc pc = .ok (.goto off, 3)) (ht : (pc : Int) + off = (tgt : Int)) (kk : AW C cc mt q res tgt ls st P) : AW C cc mt q res pc ls st P := aw_of (fun _ _ _ _ _ la G hl k => lv_goto G.1 G.2.1 hd ht (k la hl)) kk
end AWr
end
section
/-! Branches; reads and writes of the heap; new cells; returns. -/
theorem cls_in : ∀ (ci : Nat) (r : vw_C), vwCl[ci]? = some r → ∀ w ∈ u_ws r.1 r.2.1 r.2.2, w ∈ TBg
  | 0, r, h => by cases h; decide +kernel
  | 1, r, h => by cases h; decide +kernel
  | 2, r, h => by cases h; decide +kernel
  | 3, r, h => by cases h; decide +kernel
  | 4, r, h => by cases h; decide +kernel
  | 5, r, h => by cases h; decide +kernel
  | 6, r, h => by cases h; decide +kernel
  | 7, r, h => by cases h; decide +kernel
  | 8, r, h => by cases h; decide +kernel
  | 9, r, h => by cases h; decide +kernel
  | 10, r, h => by cases h; decide +kernel
  | 11, r, h => by cases h; decide +kernel
  | k + 12, r, h => by simp [vwCl] at h
theorem cls_ty : ∀ (ci : Nat) (r : vw_C), vwCl[ci]? = some r → ∃ ty : Nat → FieldType, (∀ k, k < r.2.2 → parseFieldDescriptor (r.2.1 k).2.2.1 = some (ty k)) ∧ (∀ a, a < r.2.2 → ∀ b, b < r.2.2 → a ≠ b → (r.2.1 a).2.1 ≠ (r.2.1 b).2.1)
  | 0, r, h => by cases h; exact ⟨_, tyX0_ok, nmX0⟩
  | 1, r, h => by cases h; exact ⟨_, tyX1_ok, nmX1⟩
  | 2, r, h => by cases h; exact ⟨_, tyX2_ok, nmX2⟩
  | 3, r, h => by cases h; exact ⟨_, tyX3_ok, nmX3⟩
  | 4, r, h => by cases h; exact ⟨_, tyX4_ok, nmX4⟩
  | 5, r, h => by cases h; exact ⟨_, tyX5_ok, nmX5⟩
  | 6, r, h => by cases h; exact ⟨_, tyX6_ok, nmX6⟩
  | 7, r, h => by cases h; exact ⟨_, tyX7_ok, nmX7⟩
  | 8, r, h => by cases h; exact ⟨_, tyX8_ok, nmX8⟩
  | 9, r, h => by cases h; exact ⟨_, tyX9_ok, nmX9⟩
  | 10, r, h => by cases h; exact ⟨_, tyX10_ok, nmX10⟩
  | 11, r, h => by cases h; exact ⟨_, tyX11_ok, nmX11⟩
  | k + 12, r, h => by simp [vwCl] at h
theorem cls_new : ∀ (ci : Nat) (r : vw_C), vwCl[ci]? = some r → Cond.instantiable r.1 r.2.2 ∈ TBg ∧ Cond.initialized r.1 ∈ TBg
  | 0, r, h => by cases h; exact ⟨by decide +kernel, by decide +kernel⟩
  | 1, r, h => by cases h; exact ⟨by decide +kernel, by decide +kernel⟩
  | 2, r, h => by cases h; exact ⟨by decide +kernel, by decide +kernel⟩
  | 3, r, h => by cases h; exact ⟨by decide +kernel, by decide +kernel⟩
  | 4, r, h => by cases h; exact ⟨by decide +kernel, by decide +kernel⟩
  | 5, r, h => by cases h; exact ⟨by decide +kernel, by decide +kernel⟩
  | 6, r, h => by cases h; exact ⟨by decide +kernel, by decide +kernel⟩
  | 7, r, h => by cases h; exact ⟨by decide +kernel, by decide +kernel⟩
  | 8, r, h => by cases h; exact ⟨by decide +kernel, by decide +kernel⟩
  | 9, r, h => by cases h; exact ⟨by decide +kernel, by decide +kernel⟩
  | 10, r, h => by cases h; exact ⟨by decide +kernel, by decide +kernel⟩
  | 11, r, h => by cases h; exact ⟨by decide +kernel, by decide +kernel⟩
  | k + 12, r, h => by simp [vwCl] at h
/-- own's link idx is field k of class ci -/
def FL (own : String) (idx : Nat) (c n d : String) : Prop := Cond.fieldLink own idx c n d ∈ TBg ∨ ∃ host, Cond.fieldLinkNest own idx c n d host ∈ TBn
def FLk (own : String) (idx ci k : Nat) : Prop := ∃ r : vw_C, vwCl[ci]? = some r ∧ k < r.2.2 ∧ (r.2.1 k).1 = r.1 ∧ FL own idx r.1 (r.2.1 k).2.1 (r.2.1 k).2.2.1
def PLk (own : String) (idx ci k : Nat) (ty : FieldType) (ini : Bool) : Prop := ∃ r : vw_C, vwCl[ci]? = some r ∧ k < r.2.2 ∧ (r.2.1 k).1 = r.1 ∧ parseFieldDescriptor (r.2.1 k).2.2.1 = some ty ∧
  (((r.2.1 k).2.2.2 = false ∧ FL own idx r.1 (r.2.1 k).2.1 (r.2.1 k).2.2.1) ∨ ((r.2.1 k).2.2.2 = true ∧ ini = true ∧ r.1 = own ∧ Cond.fieldLink own idx r.1 (r.2.1 k).2.1 (r.2.1 k).2.2.1 ∈ TBg))
theorem Gd.mono {C : Cx} {cc : ByteArray} {mt : Mt} {h1 h2 : Hp} (G : Gd C cc mt h2) (hm : Mn h1 h2) : Gd C cc mt h1 := by
  obtain ⟨a1, a2, a3, a4, a5, a6, a7, a8, a9, a10, a11, a12, a13, a14⟩ := G
  exact ⟨a1, a2, a3, a4, a5, a6, a7, a8, a9, a10, a11, a12, by have := hm.1; omega, by have := hm.2; omega⟩
section AWb
variable {C : Cx} {cc : ByteArray} {mt : Mt} {R : Type} {q : R → Option Value} {res : R × Hp} {pc pc' tgt : Nat} {ls ls' st st' : List TV} {P P1 P2 : Mo R}
theorem aw_br {c : Prop} [Decidable c] (hW : ∀ (H : Heap) (locs : List Loc) (cells slots : Nat) (Q : State → Prop) (la : Array Slot), Gd C cc mt res.2 → LV la mt.2.1 ls → (c → WC C H locs cells slots Q (F0 C.m tgt la (st'.map toV))) → (¬ c → WC C H locs cells slots Q (F0 C.m pc' la (st'.map toV))) → WC C H locs cells slots Q (F0 C.m pc la (st.map toV)))
    (kt : AW C cc mt q res tgt ls st' P1) (kf : AW C cc mt q res pc' ls st' P2) : AW C cc mt q res pc ls st (if c then P1 else P2) := by
  intro h hP
  by_cases hc : c
  · rw [if_pos hc] at hP
    obtain ⟨k1, k2⟩ := kt h hP
    exact ⟨k1, fun H locs la G hR hu hS hl => hW H locs _ _ _ la G hl (fun _ => k2 H locs la G hR hu hS hl) (fun hn => absurd hc hn)⟩
  · rw [if_neg hc] at hP
    obtain ⟨k1, k2⟩ := kf h hP
    exact ⟨k1, fun H locs la G hR hu hS hl => hW H locs _ _ _ la G hl (fun hn => absurd hn hc) (fun _ => k2 H locs la G hR hu hS hl)⟩
theorem aw_if_eq {x : Int32} {off : Int} (tgt : Nat) (hd : decode cc pc = .ok (.ifCond .eq off, 3)) (ht : (pc : Int) + off = (tgt : Int)) (kt : AW C cc mt q res tgt ls st P1) (kf : AW C cc mt q res (pc + 3) ls st P2) : AW C cc mt q res pc ls (vi x :: st) (if x = 0 then P1 else P2) := aw_br (fun _ _ _ _ _ la G hl k1 k2 => lv_if_eq G.1 G.2.1 hd ht k1 k2) kt kf
theorem aw_if_ne {x : Int32} {off : Int} (tgt : Nat) (hd : decode cc pc = .ok (.ifCond .ne off, 3)) (ht : (pc : Int) + off = (tgt : Int)) (kt : AW C cc mt q res tgt ls st P1) (kf : AW C cc mt q res (pc + 3) ls st P2) : AW C cc mt q res pc ls (vi x :: st) (if x = 0 then P2 else P1) := aw_br (fun _ _ _ _ _ la G hl k1 k2 => lv_if_ne G.1 G.2.1 hd ht k2 k1) kf kt
theorem aw_if_lt {x : Int32} {off : Int} (tgt : Nat) (hd : decode cc pc = .ok (.ifCond .lt off, 3)) (ht : (pc : Int) + off = (tgt : Int)) (kt : AW C cc mt q res tgt ls st P1) (kf : AW C cc mt q res (pc + 3) ls st P2) : AW C cc mt q res pc ls (vi x :: st) (if x < 0 then P1 else P2) := aw_br (fun _ _ _ _ _ la G hl k1 k2 => lv_if_lt G.1 G.2.1 hd ht k1 k2) kt kf
theorem aw_if_ge {x : Int32} {off : Int} (tgt : Nat) (hd : decode cc pc = .ok (.ifCond .ge off, 3)) (ht : (pc : Int) + off = (tgt : Int)) (kt : AW C cc mt q res tgt ls st P1) (kf : AW C cc mt q res (pc + 3) ls st P2) : AW C cc mt q res pc ls (vi x :: st) (if 0 ≤ x then P1 else P2) := aw_br (fun _ _ _ _ _ la G hl k1 k2 => lv_if_ge G.1 G.2.1 hd ht k1 k2) kt kf
theorem aw_if_gt {x : Int32} {off : Int} (tgt : Nat) (hd : decode cc pc = .ok (.ifCond .gt off, 3)) (ht : (pc : Int) + off = (tgt : Int)) (kt : AW C cc mt q res tgt ls st P1) (kf : AW C cc mt q res (pc + 3) ls st P2) : AW C cc mt q res pc ls (vi x :: st) (if 0 < x then P1 else P2) := aw_br (fun _ _ _ _ _ la G hl k1 k2 => lv_if_gt G.1 G.2.1 hd ht k1 k2) kt kf
theorem aw_if_le {x : Int32} {off : Int} (tgt : Nat) (hd : decode cc pc = .ok (.ifCond .le off, 3)) (ht : (pc : Int) + off = (tgt : Int)) (kt : AW C cc mt q res tgt ls st P1) (kf : AW C cc mt q res (pc + 3) ls st P2) : AW C cc mt q res pc ls (vi x :: st) (if x ≤ 0 then P1 else P2) := aw_br (fun _ _ _ _ _ la G hl k1 k2 => lv_if_le G.1 G.2.1 hd ht k1 k2) kt kf
theorem aw_icmp_eq {x y : Int32} {off : Int} (tgt : Nat) (hd : decode cc pc = .ok (.if_icmp .eq off, 3)) (ht : (pc : Int) + off = (tgt : Int)) (kt : AW C cc mt q res tgt ls st P1) (kf : AW C cc mt q res (pc + 3) ls st P2) : AW C cc mt q res pc ls (vi y :: vi x :: st) (if x = y then P1 else P2) := aw_br (fun _ _ _ _ _ la G hl k1 k2 => lv_icmp_eq G.1 G.2.1 hd ht k1 k2) kt kf
theorem aw_icmp_ne {x y : Int32} {off : Int} (tgt : Nat) (hd : decode cc pc = .ok (.if_icmp .ne off, 3)) (ht : (pc : Int) + off = (tgt : Int)) (kt : AW C cc mt q res tgt ls st P1) (kf : AW C cc mt q res (pc + 3) ls st P2) : AW C cc mt q res pc ls (vi y :: vi x :: st) (if x = y then P2 else P1) := aw_br (fun _ _ _ _ _ la G hl k1 k2 => lv_icmp_ne G.1 G.2.1 hd ht k2 k1) kf kt
theorem aw_icmp_lt {x y : Int32} {off : Int} (tgt : Nat) (hd : decode cc pc = .ok (.if_icmp .lt off, 3)) (ht : (pc : Int) + off = (tgt : Int)) (kt : AW C cc mt q res tgt ls st P1) (kf : AW C cc mt q res (pc + 3) ls st P2) : AW C cc mt q res pc ls (vi y :: vi x :: st) (if x < y then P1 else P2) := aw_br (fun _ _ _ _ _ la G hl k1 k2 => lv_icmp_lt G.1 G.2.1 hd ht k1 k2) kt kf
theorem aw_icmp_ge {x y : Int32} {off : Int} (tgt : Nat) (hd : decode cc pc = .ok (.if_icmp .ge off, 3)) (ht : (pc : Int) + off = (tgt : Int)) (kt : AW C cc mt q res tgt ls st P1) (kf : AW C cc mt q res (pc + 3) ls st P2) : AW C cc mt q res pc ls (vi y :: vi x :: st) (if y ≤ x then P1 else P2) := aw_br (fun _ _ _ _ _ la G hl k1 k2 => lv_icmp_ge G.1 G.2.1 hd ht k1 k2) kt kf
theorem aw_icmp_gt {x y : Int32} {off : Int} (tgt : Nat) (hd : decode cc pc = .ok (.if_icmp .gt off, 3)) (ht : (pc : Int) + off = (tgt : Int)) (kt : AW C cc mt q res tgt ls st P1) (kf : AW C cc mt q res (pc + 3) ls st P2) : AW C cc mt q res pc ls (vi y :: vi x :: st) (if y < x then P1 else P2) := aw_br (fun _ _ _ _ _ la G hl k1 k2 => lv_icmp_gt G.1 G.2.1 hd ht k1 k2) kt kf
theorem aw_icmp_le {x y : Int32} {off : Int} (tgt : Nat) (hd : decode cc pc = .ok (.if_icmp .le off, 3)) (ht : (pc : Int) + off = (tgt : Int)) (kt : AW C cc mt q res tgt ls st P1) (kf : AW C cc mt q res (pc + 3) ls st P2) : AW C cc mt q res pc ls (vi y :: vi x :: st) (if x ≤ y then P1 else P2) := aw_br (fun _ _ _ _ _ la G hl k1 k2 => lv_icmp_le G.1 G.2.1 hd ht k1 k2) kt kf
theorem aw_lge {x y : Int64} {off : Int} (tgt : Nat) (h0 : decode cc pc = .ok (.lcmp, 1)) (hd : decode cc (pc + 1) = .ok (.ifCond .ge off, 3)) (ht : ((pc + 1 : Nat) : Int) + off = (tgt : Int)) (kt : AW C cc mt q res tgt ls st P1) (kf : AW C cc mt q res (pc + 4) ls st P2) : AW C cc mt q res pc ls (vl y :: vl x :: st) (if y ≤ x then P1 else P2) :=
  aw_br (fun _ _ _ _ _ la G hl k1 k2 => W.lcmp G.1 G.2.1 h0 (lv_if_ge G.1 G.2.1 hd ht (fun h => k1 ((lg_cmp_ge x y).mp h)) (fun h => k2 (fun h9 => h ((lg_cmp_ge x y).mpr h9))))) kt kf
theorem aw_llt {x y : Int64} {off : Int} (tgt : Nat) (h0 : decode cc pc = .ok (.lcmp, 1)) (hd : decode cc (pc + 1) = .ok (.ifCond .lt off, 3)) (ht : ((pc + 1 : Nat) : Int) + off = (tgt : Int)) (kt : AW C cc mt q res tgt ls st P1) (kf : AW C cc mt q res (pc + 4) ls st P2) : AW C cc mt q res pc ls (vl y :: vl x :: st) (if x < y then P1 else P2) :=
  aw_br (fun _ _ _ _ _ la G hl k1 k2 => W.lcmp G.1 G.2.1 h0 (lv_if_lt G.1 G.2.1 hd ht (fun h => k1 ((lg_cmp_lt x y).mp h)) (fun h => k2 (fun h9 => h ((lg_cmp_lt x y).mpr h9))))) kt kf
theorem aw_lgt {x y : Int64} {off : Int} (tgt : Nat) (h0 : decode cc pc = .ok (.lcmp, 1)) (hd : decode cc (pc + 1) = .ok (.ifCond .gt off, 3)) (ht : ((pc + 1 : Nat) : Int) + off = (tgt : Int)) (kt : AW C cc mt q res tgt ls st P1) (kf : AW C cc mt q res (pc + 4) ls st P2) : AW C cc mt q res pc ls (vl y :: vl x :: st) (if y < x then P1 else P2) :=
  aw_br (fun _ _ _ _ _ la G hl k1 k2 => W.lcmp G.1 G.2.1 h0 (lv_if_gt G.1 G.2.1 hd ht (fun h => k1 ((lg_cmp_gt x y).mp h)) (fun h => k2 (fun h9 => h ((lg_cmp_gt x y).mpr h9))))) kt kf
theorem aw_lle {x y : Int64} {off : Int} (tgt : Nat) (h0 : decode cc pc = .ok (.lcmp, 1)) (hd : decode cc (pc + 1) = .ok (.ifCond .le off, 3)) (ht : ((pc + 1 : Nat) : Int) + off = (tgt : Int)) (kt : AW C cc mt q res tgt ls st P1) (kf : AW C cc mt q res (pc + 4) ls st P2) : AW C cc mt q res pc ls (vl y :: vl x :: st) (if x ≤ y then P1 else P2) :=
  aw_br (fun _ _ _ _ _ la G hl k1 k2 => W.lcmp G.1 G.2.1 h0 (lv_if_le G.1 G.2.1 hd ht (fun h => k1 ((lg_cmp_le x y).mp h)) (fun h => k2 (fun h9 => h ((lg_cmp_le x y).mpr h9))))) kt kf
theorem aw_leq {x y : Int64} {off : Int} (tgt : Nat) (h0 : decode cc pc = .ok (.lcmp, 1)) (hd : decode cc (pc + 1) = .ok (.ifCond .eq off, 3)) (ht : ((pc + 1 : Nat) : Int) + off = (tgt : Int)) (kt : AW C cc mt q res tgt ls st P1) (kf : AW C cc mt q res (pc + 4) ls st P2) : AW C cc mt q res pc ls (vl y :: vl x :: st) (if x = y then P1 else P2) :=
  aw_br (fun _ _ _ _ _ la G hl k1 k2 => W.lcmp G.1 G.2.1 h0 (lv_if_eq G.1 G.2.1 hd ht (fun h => k1 ((lg_cmp_eq x y).mp h)) (fun h => k2 (fun h9 => h ((lg_cmp_eq x y).mpr h9))))) kt kf
theorem aw_lne {x y : Int64} {off : Int} (tgt : Nat) (h0 : decode cc pc = .ok (.lcmp, 1)) (hd : decode cc (pc + 1) = .ok (.ifCond .ne off, 3)) (ht : ((pc + 1 : Nat) : Int) + off = (tgt : Int)) (kt : AW C cc mt q res tgt ls st P1) (kf : AW C cc mt q res (pc + 4) ls st P2) : AW C cc mt q res pc ls (vl y :: vl x :: st) (if x = y then P2 else P1) :=
  aw_br (fun _ _ _ _ _ la G hl k1 k2 => W.lcmp G.1 G.2.1 h0 (lv_if_ne G.1 G.2.1 hd ht (fun h => k2 (fun h9 => h ((lg_cmp_eq x y).mpr h9))) (fun h => k1 ((lg_cmp_eq x y).mp h)))) kf kt
theorem aw_ifnull {r : Option Nat} {off : Int} (tgt : Nat) (hd : decode cc pc = .ok (.ifnull off, 3)) (ht : (pc : Int) + off = (tgt : Int)) (kt : AW C cc mt q res tgt ls st P1) (kf : AW C cc mt q res (pc + 3) ls st P2) : AW C cc mt q res pc ls (vr r :: st) (if r = none then P1 else P2) := by
  cases r with
  | none => exact aw_br (fun _ _ _ _ _ la G hl k1 k2 => lv_ifnullN G.1 G.2.1 hd ht (k1 rfl)) kt kf
  | some a => exact aw_br (fun _ _ _ _ _ la G hl k1 k2 => lv_ifnull G.1 G.2.1 hd (k2 (fun h => by cases h))) kt kf
theorem aw_ifnonnull {r : Option Nat} {off : Int} (tgt : Nat) (hd : decode cc pc = .ok (.ifnonnull off, 3)) (ht : (pc : Int) + off = (tgt : Int)) (kt : AW C cc mt q res tgt ls st P1) (kf : AW C cc mt q res (pc + 3) ls st P2) : AW C cc mt q res pc ls (vr r :: st) (if r = none then P2 else P1) := by
  cases r with
  | none => exact aw_br (fun _ _ _ _ _ la G hl k1 k2 => lv_ifnonnullN G.1 G.2.1 hd (k1 rfl)) kf kt
  | some a => exact aw_br (fun _ _ _ _ _ la G hl k1 k2 => lv_ifnonnull G.1 G.2.1 hd ht (k2 (fun h => by cases h))) kf kt
/-- switch x: the programs of the cases 0 .., and what else -/
def swt {R : Type} (x : Int32) (ps : List (Mo R)) (d : Mo R) : Mo R := if x < 0 ∨ ps.length ≤ x.toNatClampNeg then d else ps.getD x.toNatClampNeg d
theorem aw_swt {x : Int32} {dflt hi : Int} {offs : Array Int} {len : Nat} {ps : List (Mo R)} {d : Mo R} (td : Nat) (ts : List Nat) (hd : decode cc pc = .ok (.tableswitch dflt 0 hi offs, len)) (hhi : hi = (ps.length : Int) - 1) (hl : ps.length < 2 ^ 31) (htd : (pc : Int) + dflt = (td : Int)) (hts : offs.toList.map (fun o => (pc : Int) + o) = ts.map (fun (t : Nat) => (t : Int))) (hlen : ts.length = ps.length)
    (kd : AW C cc mt q res td ls st d) (kt : ∀ (i : Nat) (t : Nat) (p : Mo R), ts[i]? = some t → ps[i]? = some p → AW C cc mt q res t ls st p) : AW C cc mt q res pc ls (vi x :: st) (swt x ps d) := by
  intro h hP
  by_cases hc : x < 0 ∨ ps.length ≤ x.toNatClampNeg
  · rw [swt, if_pos hc] at hP
    obtain ⟨k1, k2⟩ := kd h hP
    refine ⟨k1, fun H locs la G hR hu hS hl2 => lv_tableOut G.1 G.2.1 hd ?_ htd (k2 H locs la G hR hu hS hl2)⟩
    rcases hc with hc | hc
    · exact Or.inl (by simpa using Int32.lt_iff_toInt_lt.mp hc)
    · rw [hhi]
      have : x.toNatClampNeg = x.toInt.toNat := rfl
      omega
  · rw [swt, if_neg hc] at hP
    have h0 : ¬ x < 0 := fun h => hc (Or.inl h)
    have h1 : x.toNatClampNeg < ps.length := by omega
    have e0 : ¬ x.toInt < 0 := fun h => h0 (Int32.lt_iff_toInt_lt.mpr (by simpa using h))
    have e1 : x.toNatClampNeg = x.toInt.toNat := rfl
    obtain ⟨p, hp⟩ : ∃ p, ps[x.toNatClampNeg]? = some p := ⟨_, List.getElem?_eq_getElem h1⟩
    obtain ⟨t, ht⟩ : ∃ t, ts[x.toNatClampNeg]? = some t := ⟨_, List.getElem?_eq_getElem (by omega)⟩
    have hoff : ∃ o, offs[x.toNatClampNeg]? = some o ∧ (pc : Int) + o = (t : Int) := by
      have h9 := congrArg (fun l => l[x.toNatClampNeg]?) hts
      simp only [List.getElem?_map, ht, Option.map_some, Array.getElem?_toList] at h9
      cases ho : offs[x.toNatClampNeg]? with
      | none => rw [ho] at h9; cases h9
      | some o => rw [ho] at h9; exact ⟨o, rfl, by simpa using h9⟩
    obtain ⟨o, ho, ho2⟩ := hoff
    have hg : ps.getD x.toNatClampNeg d = p := by simp [List.getD, hp]
    rw [hg] at hP
    obtain ⟨k1, k2⟩ := kt _ t p ht hp h hP
    refine ⟨k1, fun H locs la G hR hu hS hl2 => lv_tableIn G.1 G.2.1 hd e0 (by rw [hhi]; omega) (off := o) (tgt := t) ?_ ho2 (k2 H locs la G hR hu hS hl2)⟩
    rw [Int.sub_zero, ← e1]
    exact ho
/-- an operation on the heap, and what comes behind it -/
theorem aw_op {B : Type} {op : Mo B} {k : B → Mo R} {st' : B → List TV}
    (hop : ∀ (h : Hp) (b : B) (h' : Hp), op h = some (b, h') → Mn h h' ∧ ∀ (H : Heap) (locs : List Loc) (la : Array Slot) (Q : State → Prop), Gd C cc mt h' → Rep C.D C.K C.A h H → C.u ≤ h.2.2 → va_S C.A C.s.heap H locs → LV la mt.2.1 ls →
      (∀ (H' : Heap) (locs' : List Loc), Rep C.D C.K C.A h' H' → va_S C.A C.s.heap H' locs' → WC C H' locs' (h'.2.1 - C.s.heap.size) (h'.2.2 - C.u) Q (F0 C.m pc' la ((st' b).map toV))) → WC C H locs (h.2.1 - C.s.heap.size) (h.2.2 - C.u) Q (F0 C.m pc la (st.map toV)))
    (kk : ∀ b, AW C cc mt q res pc' ls (st' b) (k b)) : AW C cc mt q res pc ls st (bd op k) := by
  intro h hP
  unfold bd at hP
  cases ho : op h with
  | none => rw [ho] at hP; cases hP
  | some w =>
    obtain ⟨b, h'⟩ := w
    rw [ho] at hP
    obtain ⟨m1, m2⟩ := hop h b h' ho
    obtain ⟨k1, k2⟩ := kk b h' hP
    exact ⟨m1.tr k1, fun H locs la G hR hu hS hl => m2 H locs la _ (G.mono k1) hR hu hS hl (fun H' locs' hR' hS' => k2 H' locs' la G hR' (Nat.le_trans hu m1.2) hS' hl)⟩
/-- an operation that only reads -/
theorem aw_rd {B : Type} {op : Mo B} {k : B → Mo R} {st' : B → List TV}
    (hop : ∀ (h : Hp) (b : B) (h' : Hp), op h = some (b, h') → h' = h ∧ ∀ (H : Heap) (locs : List Loc) (cells slots : Nat) (la : Array Slot) (Q : State → Prop), Gd C cc mt h → Rep C.D C.K C.A h H → va_S C.A C.s.heap H locs → LV la mt.2.1 ls →
      WC C H locs cells slots Q (F0 C.m pc' la ((st' b).map toV)) → WC C H locs cells slots Q (F0 C.m pc la (st.map toV)))
    (kk : ∀ b, AW C cc mt q res pc' ls (st' b) (k b)) : AW C cc mt q res pc ls st (bd op k) :=
  aw_op (fun h b h' ho => by
    obtain ⟨rfl, h2⟩ := hop h b h' ho
    exact ⟨Mn.rf _, fun H locs la Q G hR hu hS hl kk2 => h2 H locs _ _ la Q G hR hS hl (kk2 H locs hR hS)⟩) kk
theorem obOf_some {h : Hp} {r : Option Nat} {ci a : Nat} {fs : List TV} (e : obOf h r ci = some (a, fs)) : r = some a ∧ h.1 a = some (ob ci fs) := by
  unfold obOf at e
  split at e
  · cases e
  · split at e
    · rename_i h2
      split at e
      · rename_i h3
        subst h3
        cases e
        exact ⟨rfl, h2⟩
      · cases e
    · cases e
theorem iaOf_some {h : Hp} {r : Option Nat} {t a : Nat} {xs : List Int32} (e : iaOf h r t = some (a, xs)) : r = some a ∧ h.1 a = some (ai t xs) := by
  unfold iaOf at e
  split at e
  · cases e
  · split at e
    · rename_i h2
      split at e
      · rename_i h3
        subst h3
        cases e
        exact ⟨rfl, h2⟩
      · cases e
    · cases e
theorem laOf_some {h : Hp} {r : Option Nat} {a : Nat} {xs : List Int64} (e : laOf h r = some (a, xs)) : r = some a ∧ h.1 a = some (al xs) := by
  unfold laOf at e
  split at e
  · cases e
  · split at e
    · rename_i h2
      cases e
      exact ⟨rfl, h2⟩
    · cases e
theorem qaOf_some {h : Hp} {r : Option Nat} {t a : Nat} {xs : List (Option Nat)} (e : qaOf h r t = some (a, xs)) : r = some a ∧ h.1 a = some (aq t xs) := by
  unfold qaOf at e
  split at e
  · cases e
  · split at e
    · rename_i h2
      split at e
      · rename_i h3
        subst h3
        cases e
        exact ⟨rfl, h2⟩
      · cases e
    · cases e
theorem w_get {h : Hp} {H : Heap} {locs : List Loc} {cells slots : Nat} {la : Array Slot} {Q : State → Prop} {h' : Hp} (G : Gd C cc mt h') {idx ci k a : Nat} {fs : List TV} {t : TV} {rest : List Value} (hw : FLk mt.1 idx ci k) (hR : Rep C.D C.K C.A h H) (ha : h.1 a = some (ob ci fs)) (hv : fs[k]? = some t) (hd : decode cc pc = .ok (.getfield idx, 3))
    (kk : WC C H locs cells slots Q (F0 C.m (pc + 3) la (toV t :: rest))) : WC C H locs cells slots Q (F0 C.m pc la (.ref a :: rest)) := by
  obtain ⟨r, hr, hk, hsm, hl⟩ := hw
  obtain ⟨⟨r', hr', hlen, cell, q1, q2, q3, q4⟩, -⟩ := hR.2 a _ ha
  cases hr.symm.trans hr'
  obtain ⟨hS, hfc, kC, hkC, hkind⟩ := G.2.2.2.2.2.2.2.2.1.1.1 ci _ hr
  obtain ⟨cf, kf, fi, f, hi, hsl⟩ := hS k hk
  have hslot : cell.slots[f.slot]? = some (toV t) := by
    rw [hsl, q4 k hk]
    simp [List.getD, hv]
  have hst := (u_facts hfc hkC (u_lays G.2.2.2.2.1 (cls_in ci _ hr) hk) hi).1
  rcases hl with hl | ⟨host, hl⟩
  · exact W.getf G.1 G.2.1 G.2.2.2.1 (G.2.2.2.2.1 _ hl) (by rw [← hsm]; exact hi) hst q1 (by rw [q3]; exact fun h => by cases h) hslot rfl rfl hd kk
  · exact va_Wgetf G.1 G.2.1 G.2.2.2.1 (va_Nw.use rfl (G.2.2.2.2.2.2.2.2.1.2.1 _ hl)) (by rw [← hsm]; exact hi) hst q1 (by rw [q3]; exact fun h => by cases h) hslot rfl rfl hd kk
theorem aw_gI {r : Option Nat} {idx ci k : Nat} {kk : Int32 → Mo R} (hd : decode cc pc = .ok (.getfield idx, 3)) (hw : FLk mt.1 idx ci k) (kn : ∀ x, AW C cc mt q res (pc + 3) ls (vi x :: st) (kk x)) : AW C cc mt q res pc ls (vr r :: st) (bd (gI r ci k) kk) :=
  aw_rd (fun h b h' ho => by
    unfold gI at ho
    split at ho
    · rename_i a fs e
      obtain ⟨rfl, h1⟩ := obOf_some e
      split at ho
      · rename_i x hx
        cases ho
        exact ⟨rfl, fun H locs cells slots la Q G hR hS hl k2 => w_get G hw hR h1 hx hd k2⟩
      · cases ho
    · cases ho) kn
theorem aw_gL {r : Option Nat} {idx ci k : Nat} {kk : Int64 → Mo R} (hd : decode cc pc = .ok (.getfield idx, 3)) (hw : FLk mt.1 idx ci k) (kn : ∀ x, AW C cc mt q res (pc + 3) ls (vl x :: st) (kk x)) : AW C cc mt q res pc ls (vr r :: st) (bd (gL r ci k) kk) :=
  aw_rd (fun h b h' ho => by
    unfold gL at ho
    split at ho
    · rename_i a fs e
      obtain ⟨rfl, h1⟩ := obOf_some e
      split at ho
      · rename_i x hx
        cases ho
        exact ⟨rfl, fun H locs cells slots la Q G hR hS hl k2 => w_get G hw hR h1 hx hd k2⟩
      · cases ho
    · cases ho) kn
theorem aw_gA {r : Option Nat} {idx ci k : Nat} {kk : Option Nat → Mo R} (hd : decode cc pc = .ok (.getfield idx, 3)) (hw : FLk mt.1 idx ci k) (kn : ∀ x, AW C cc mt q res (pc + 3) ls (vr x :: st) (kk x)) : AW C cc mt q res pc ls (vr r :: st) (bd (gA r ci k) kk) :=
  aw_rd (fun h b h' ho => by
    unfold gA at ho
    split at ho
    · rename_i a fs e
      obtain ⟨rfl, h1⟩ := obOf_some e
      split at ho
      · rename_i x hx
        cases ho
        exact ⟨rfl, fun H locs cells slots la Q G hR hS hl k2 => w_get G hw hR h1 hx hd k2⟩
      · cases ho
    · cases ho) kn
end AWb
end
section
/-! Writes; arrays; new cells; returns. -/
theorem arr_of {s : State} {cA : ClassId} {ty : FieldType} (h : ArrOfT s cA ty) (l : List Value) : s.isArrayOf (arC cA l) ty := h 0 (fun _ => .null)
theorem arC_size (cA : ClassId) (l : List Value) : (arC cA l).slots.size = l.length := by simp [arC]
theorem arC_get (cA : ClassId) (l : List Value) (i : Nat) : (arC cA l).slots[i]? = l[i]? := by simp [arC]
theorem arC_set (cA : ClassId) (l : List Value) (i : Nat) (v : Value) : (arC cA l).setSlot i v = arC cA (l.set i v) := by simp [arC, Cell.setSlot]
theorem arC_rep (cA : ClassId) (n : Nat) (v : Value) : ({ cls := cA, slots := Array.replicate n v, vm := .none } : Cell) = arC cA (List.replicate n v) := by simp [arC]
theorem asg_self (vm : Vm) (c : ClassId) : vm.assignable c c = true := by
  show Vm.assignableAux vm (255 + 1) c c = true
  rw [Vm.assignableAux]
  simp
section AWc
variable {C : Cx} {cc : ByteArray} {mt : Mt} {R : Type} {q : R → Option Value} {res : R × Hp} {pc pc' tgt : Nat} {ls ls' st st' : List TV} {P P1 P2 : Mo R}
theorem w_put {h : Hp} {H : Heap} {locs : List Loc} {cells slots : Nat} {la : Array Slot} {Q : State → Prop} {h' : Hp} (G : Gd C cc mt h') {idx ci k a : Nat} {fs : List TV} {t : TV} {ty : FieldType} {rest : List Value} (hw : PLk mt.1 idx ci k ty mt.2.2.2.2.2) (hR : Rep C.D C.K C.A h H) (hS0 : va_S C.A C.s.heap H locs) (ha : h.1 a = some (ob ci fs)) (hkl : k < fs.length) (hn : narrow ty (toV t) = toV t) (hf : fits ty (toV t) = true) (hd : decode cc pc = .ok (.putfield idx, 3))
    (kk : ∀ (H' : Heap) (locs' : List Loc), Rep C.D C.K C.A (up h a (ob ci (fs.set k t))) H' → va_S C.A C.s.heap H' locs' → WC C H' locs' cells slots Q (F0 C.m (pc + 3) la rest)) : WC C H locs cells slots Q (F0 C.m pc la (toV t :: .ref a :: rest)) := by
  obtain ⟨r, hr, hk, hsm, hty, hl⟩ := hw
  obtain ⟨⟨r', hr', hlen, cell, q1, q2, q3, q4⟩, hAa⟩ := hR.2 a _ ha
  cases hr.symm.trans hr'
  have hK := G.2.2.2.2.2.2.2.2.1.1
  obtain ⟨ty0, hty0, hnm⟩ := cls_ty ci _ hr
  have hap := va_apart (own := mt.1) G.2.2.2.2.1 (cls_in ci _ hr) ty0 hty0 hnm hK hr
  obtain ⟨hS, hfc, kC, hkC, hkind⟩ := hK.1 ci _ hr
  obtain ⟨cf, kf, fi, f, hi, hsl⟩ := hS k hk
  have hst := (u_facts hfc hkC (u_lays G.2.2.2.2.1 (cls_in ci _ hr) hk) hi).1
  have hlay := G.2.2.2.2.1 _ (cls_in ci _ hr _ (u_in_lay hk))
  have key : ∀ H' : Heap, H'[a]? = some (cell.setSlot f.slot (toV t)) → H'.size = H.size → (∀ q : Nat, q ≠ a → H'[q]? = H[q]?) → WC C H' (locs ++ [⟨a, f.slot⟩]) cells slots Q (F0 C.m (pc + 3) la rest) := by
    intro H' e1 e2 e3
    rw [hsl] at e1 ⊢
    refine kk H' _ (hR.up hAa e2 ⟨r, hr, by simpa using hlen, _, e1, q2, q3, fun j hj => ?_⟩ e3) (hS0.put e2 e3 hAa)
    rw [t_set q4 hap hk (toV t) j hj]
    congr 1
    by_cases hjk : j = k
    · subst hjk
      simp [updV, List.getD, hkl]
    · simp [updV, List.getD, hjk, List.getElem?_set_ne (Ne.symm hjk)]
  rcases hl with ⟨hfin, hl⟩ | ⟨hfin, hini, hown, hl⟩
  · unfold u_lay at hlay
    rw [if_neg (by rw [hfin]; decide)] at hlay
    have h6 := u_store hfc hkC hkind hlay hi hty hn hf
    have hslot : f.slot < cell.slots.size := by rw [hsl]; exact k2_hasslot (q4 k hk)
    rcases hl with hl | ⟨host, hl⟩
    · exact W.putK G.1 G.2.1 (f := f) ⟨G.2.2.2.1, G.2.2.2.2.1 _ hl, ⟨_, _, _, by rw [← hsm]; exact hi⟩, hst⟩ (by rw [q2]; exact h6) q1 q3 hslot rfl rfl hd key
    · exact va_WputK G.1 G.2.1 (f := f) G.2.2.2.1 (va_Nw.use rfl (G.2.2.2.2.2.2.2.2.1.2.1 _ hl)) (by rw [← hsm]; exact hi) hst (by rw [q2]; exact h6) q1 q3 hslot rfl rfl hd key
  · unfold u_lay at hlay
    rw [if_pos hfin] at hlay
    have hcf : C.m.cls = cf := by
      obtain ⟨_, _, c', _, _, _, -, -, hf', -, -, -, hown2, -⟩ := Cond.laysFinal_spec hlay
      have e1 : c' = cf := by have := hi.symm.trans hf'; simp at this; exact this.1.symm
      rw [hsm, hown] at hown2
      rw [← e1]; exact Option.some.inj (G.2.2.2.1.symm.trans hown2)
    have h6 := u_fits hfc hkC hkind (Or.inr hlay) hi hty hn hf
    exact W.putFinK G.1 G.2.1 G.2.2.2.1 (G.2.2.2.2.1 _ hl) (by rw [← hsm]; exact hi) hst hcf (G.2.2.2.2.2.2.2.1 hini) (by rw [q2]; exact h6) q1 q3 (by rw [hsl]; exact k2_hasslot (q4 k hk)) rfl rfl hd key
theorem aw_pF {r : Option Nat} {idx ci k : Nat} {t : TV} {ty : FieldType} {kk : Unit → Mo R} (hd : decode cc pc = .ok (.putfield idx, 3)) (hw : PLk mt.1 idx ci k ty mt.2.2.2.2.2) (hn : narrow ty (toV t) = toV t) (hf : fits ty (toV t) = true) (kn : ∀ u, AW C cc mt q res (pc + 3) ls st (kk u)) : AW C cc mt q res pc ls (t :: vr r :: st) (bd (pF r ci k t) kk) :=
  aw_op (st' := fun _ => st) (fun h b h' ho => by
    unfold pF at ho
    split at ho
    · rename_i a fs e
      obtain ⟨rfl, h1⟩ := obOf_some e
      split at ho
      · rename_i hk
        cases ho
        exact ⟨Mn.rf _, fun H locs la Q G hR hu hS hl k2 => w_put G hw hR hS h1 hk hn hf hd k2⟩
      · cases ho
    · cases ho) kn
theorem fit_i (x : Int32) : narrow .int (toV (vi x)) = toV (vi x) ∧ fits .int (toV (vi x)) = true := ⟨rfl, rfl⟩
theorem fit_l (x : Int64) : narrow .long (toV (vl x)) = toV (vl x) ∧ fits .long (toV (vl x)) = true := ⟨rfl, rfl⟩
theorem fit_o (c : String) (r : Option Nat) : narrow (.object c) (toV (vr r)) = toV (vr r) ∧ fits (.object c) (toV (vr r)) = true := by cases r <;> exact ⟨rfl, rfl⟩
theorem fit_a (t : FieldType) (r : Option Nat) : narrow (.array t) (toV (vr r)) = toV (vr r) ∧ fits (.array t) (toV (vr r)) = true := by cases r <;> exact ⟨rfl, rfl⟩
theorem aw_pI {r : Option Nat} {idx ci k : Nat} {x : Int32} {kk : Unit → Mo R} (hd : decode cc pc = .ok (.putfield idx, 3)) (hw : PLk mt.1 idx ci k .int mt.2.2.2.2.2) (kn : ∀ u, AW C cc mt q res (pc + 3) ls st (kk u)) : AW C cc mt q res pc ls (vi x :: vr r :: st) (bd (pF r ci k (vi x)) kk) := aw_pF hd hw (fit_i x).1 (fit_i x).2 kn
theorem aw_pL {r : Option Nat} {idx ci k : Nat} {x : Int64} {kk : Unit → Mo R} (hd : decode cc pc = .ok (.putfield idx, 3)) (hw : PLk mt.1 idx ci k .long mt.2.2.2.2.2) (kn : ∀ u, AW C cc mt q res (pc + 3) ls st (kk u)) : AW C cc mt q res pc ls (vl x :: vr r :: st) (bd (pF r ci k (vl x)) kk) := aw_pF hd hw (fit_l x).1 (fit_l x).2 kn
theorem aw_pO {r x : Option Nat} {idx ci k : Nat} {c : String} {kk : Unit → Mo R} (hd : decode cc pc = .ok (.putfield idx, 3)) (hw : PLk mt.1 idx ci k (.object c) mt.2.2.2.2.2) (kn : ∀ u, AW C cc mt q res (pc + 3) ls st (kk u)) : AW C cc mt q res pc ls (vr x :: vr r :: st) (bd (pF r ci k (vr x)) kk) := aw_pF hd hw (fit_o c x).1 (fit_o c x).2 kn
theorem aw_pA {r x : Option Nat} {idx ci k : Nat} {t : FieldType} {kk : Unit → Mo R} (hd : decode cc pc = .ok (.putfield idx, 3)) (hw : PLk mt.1 idx ci k (.array t) mt.2.2.2.2.2) (kn : ∀ u, AW C cc mt q res (pc + 3) ls st (kk u)) : AW C cc mt q res pc ls (vr x :: vr r :: st) (bd (pF r ci k (vr x)) kk) := aw_pF hd hw (fit_a t x).1 (fit_a t x).2 kn
theorem K_of {h' : Hp} (G : Gd C cc mt h') {t : Nat} {ty : FieldType} (ht : (tyl C.K)[t]? = some (C.K t, ty)) : ArrOfT C.s (C.K t) ty ∧ va_RA C.s (C.K t) ty := G.2.2.2.2.2.2.2.2.1.1.2 t _ ht
theorem in_of {i : Int32} {n : Nat} (h : ¬ (i < 0 ∨ n ≤ i.toNatClampNeg)) : ¬ i < 0 ∧ i.toNatClampNeg < n := ⟨fun q => h (Or.inl q), Nat.not_le.mp fun q => h (Or.inr q)⟩
theorem aw_iald {r : Option Nat} {i : Int32} {kk : Int32 → Mo R} (hd : decode cc pc = .ok (.iaload, 1)) (kn : ∀ x, AW C cc mt q res (pc + 1) ls (vi x :: st) (kk x)) : AW C cc mt q res pc ls (vi i :: vr r :: st) (bd (ldI 0 r i) kk) :=
  aw_rd (fun h b h' ho => by
    unfold ldI at ho
    split at ho
    · rename_i a xs e
      obtain ⟨rfl, h1⟩ := iaOf_some e
      split at ho
      · cases ho
      · rename_i hin
        cases ho
        refine ⟨rfl, fun H locs cells slots la Q G hR hS hl k2 => ?_⟩
        exact W.iald (v := .int (xs.getD i.toNatClampNeg 0)) G.1 G.2.1 (hR.2 a _ h1).1 (arr_of (K_of G (t := 0) rfl).1 _) (fun q => by cases q) (by rw [arC_size]; simpa using hin) (by rw [arC_get]; simp [List.getD, (in_of hin).2]) rfl rfl hd k2
    · cases ho) kn
theorem aw_zald {r : Option Nat} {i : Int32} {kk : Int32 → Mo R} (hd : decode cc pc = .ok (.baload, 1)) (kn : ∀ x, AW C cc mt q res (pc + 1) ls (vi x :: st) (kk x)) : AW C cc mt q res pc ls (vi i :: vr r :: st) (bd (ldI 2 r i) kk) :=
  aw_rd (fun h b h' ho => by
    unfold ldI at ho
    split at ho
    · rename_i a xs e
      obtain ⟨rfl, h1⟩ := iaOf_some e
      split at ho
      · cases ho
      · rename_i hin
        cases ho
        refine ⟨rfl, fun H locs cells slots la Q G hR hS hl k2 => ?_⟩
        exact W.zald (v := .int (xs.getD i.toNatClampNeg 0)) G.1 G.2.1 (hR.2 a _ h1).1 (arr_of (K_of G (t := 2) rfl).1 _) (fun q => by cases q) (by rw [arC_size]; simpa using hin) (by rw [arC_get]; simp [List.getD, (in_of hin).2]) rfl rfl hd k2
    · cases ho) kn
theorem aw_lald {r : Option Nat} {i : Int32} {kk : Int64 → Mo R} (hd : decode cc pc = .ok (.laload, 1)) (kn : ∀ x, AW C cc mt q res (pc + 1) ls (vl x :: st) (kk x)) : AW C cc mt q res pc ls (vi i :: vr r :: st) (bd (ldL r i) kk) :=
  aw_rd (fun h b h' ho => by
    unfold ldL at ho
    split at ho
    · rename_i a xs e
      obtain ⟨rfl, h1⟩ := laOf_some e
      split at ho
      · cases ho
      · rename_i hin
        cases ho
        refine ⟨rfl, fun H locs cells slots la Q G hR hS hl k2 => ?_⟩
        exact W.lald (v := .long (xs.getD i.toNatClampNeg 0)) G.1 G.2.1 (hR.2 a _ h1).1 (arr_of (K_of G (t := 1) rfl).1 _) (fun q => by cases q) (by rw [arC_size]; simpa using hin) (by rw [arC_get]; simp [List.getD, (in_of hin).2]) rfl rfl hd k2
    · cases ho) kn
theorem aw_aald (t : Nat) {ty : FieldType} (ht : ∀ K : Nat → ClassId, (tyl K)[t]? = some (K t, ty)) (hty : ty.isReference = true) {r : Option Nat} {i : Int32} {kk : Option Nat → Mo R} (hd : decode cc pc = .ok (.aaload, 1)) (kn : ∀ x, AW C cc mt q res (pc + 1) ls (vr x :: st) (kk x)) : AW C cc mt q res pc ls (vi i :: vr r :: st) (bd (ldQ t r i) kk) :=
  aw_rd (fun h b h' ho => by
    unfold ldQ at ho
    split at ho
    · rename_i a xs e
      obtain ⟨rfl, h1⟩ := qaOf_some e
      split at ho
      · cases ho
      · rename_i hin
        cases ho
        refine ⟨rfl, fun H locs cells slots la Q G hR hS hl k2 => ?_⟩
        exact W.aald (v := va_rf (xs.getD i.toNatClampNeg none)) G.1 G.2.1 (hR.2 a _ h1).1 (arr_of (K_of G (ht C.K)).1 _) hty (fun q => by cases q) (by rw [arC_size]; simpa using hin) (by rw [arC_get]; simp [List.getD, (in_of hin).2]) rfl rfl hd k2
    · cases ho) kn
theorem aw_iast {r : Option Nat} {i x : Int32} {kk : Unit → Mo R} (hd : decode cc pc = .ok (.iastore, 1)) (kn : ∀ u, AW C cc mt q res (pc + 1) ls st (kk u)) : AW C cc mt q res pc ls (vi x :: vi i :: vr r :: st) (bd (stI r i x) kk) :=
  aw_op (st' := fun _ => st) (fun h b h' ho => by
    unfold stI at ho
    split at ho
    · rename_i a xs e
      obtain ⟨rfl, h1⟩ := iaOf_some e
      split at ho
      · cases ho
      · rename_i hin
        cases ho
        refine ⟨Mn.rf _, fun H locs la Q G hR hu hS hl k2 => ?_⟩
        obtain ⟨g1, g2⟩ := hR.2 a _ h1
        refine W.iast G.1 G.2.1 g1 (arr_of (K_of G (t := 0) rfl).1 _) (fun q => by cases q) (by rw [arC_size]; simpa using hin) rfl rfl hd fun H1 e z oq => ?_
        exact k2 H1 _ (hR.up g2 z (by show H1[a]? = _; rw [e, arC_set, List.map_set]) oq) (hS.put z oq g2)
    · cases ho) kn
theorem aw_zast {r : Option Nat} {i x : Int32} {kk : Unit → Mo R} (hd : decode cc pc = .ok (.bastore, 1)) (kn : ∀ u, AW C cc mt q res (pc + 1) ls st (kk u)) : AW C cc mt q res pc ls (vi x :: vi i :: vr r :: st) (bd (stZ r i x) kk) :=
  aw_op (st' := fun _ => st) (fun h b h' ho => by
    unfold stZ at ho
    split at ho
    · rename_i a xs e
      obtain ⟨rfl, h1⟩ := iaOf_some e
      split at ho
      · cases ho
      · rename_i hin0
        have hin : ¬ (i < 0 ∨ xs.length ≤ i.toNatClampNeg) := fun q => hin0 (Or.inl q)
        have hx : x = 0 ∨ x = 1 := Decidable.byContradiction fun q => hin0 (Or.inr q)
        cases ho
        refine ⟨Mn.rf _, fun H locs la Q G hR hu hS hl k2 => ?_⟩
        obtain ⟨g1, g2⟩ := hR.2 a _ h1
        refine W.zast G.1 G.2.1 g1 (arr_of (K_of G (t := 2) rfl).1 _) (fun q => by cases q) (by rw [arC_size]; simpa using hin) rfl rfl hd fun H1 e z oq => ?_
        have hnr : narrow .boolean (.int x) = .int x := by rcases hx with rfl | rfl <;> rfl
        exact k2 H1 _ (hR.up g2 z (by show H1[a]? = _; rw [e, hnr, arC_set, List.map_set]) oq) (hS.put z oq g2)
    · cases ho) kn
theorem aw_last {r : Option Nat} {i : Int32} {x : Int64} {kk : Unit → Mo R} (hd : decode cc pc = .ok (.lastore, 1)) (kn : ∀ u, AW C cc mt q res (pc + 1) ls st (kk u)) : AW C cc mt q res pc ls (vl x :: vi i :: vr r :: st) (bd (stL r i x) kk) :=
  aw_op (st' := fun _ => st) (fun h b h' ho => by
    unfold stL at ho
    split at ho
    · rename_i a xs e
      obtain ⟨rfl, h1⟩ := laOf_some e
      split at ho
      · cases ho
      · rename_i hin
        cases ho
        refine ⟨Mn.rf _, fun H locs la Q G hR hu hS hl k2 => ?_⟩
        obtain ⟨g1, g2⟩ := hR.2 a _ h1
        refine W.last G.1 G.2.1 g1 (arr_of (K_of G (t := 1) rfl).1 _) (fun q => by cases q) (by rw [arC_size]; simpa using hin) rfl rfl hd fun H1 e z oq => ?_
        exact k2 H1 _ (hR.up g2 z (by show H1[a]? = _; rw [e, arC_set, List.map_set]) oq) (hS.put z oq g2)
    · cases ho) kn
theorem aw_aast (t ci : Nat) {r0 : vw_C} (ht : ∀ K : Nat → ClassId, (tyl K)[t]? = some (K t, .object r0.1)) (hc : vwCl[ci]? = some r0) {r v : Option Nat} {i : Int32} {kk : Unit → Mo R} (hd : decode cc pc = .ok (.aastore, 1)) (kn : ∀ u, AW C cc mt q res (pc + 1) ls st (kk u)) : AW C cc mt q res pc ls (vr v :: vi i :: vr r :: st) (bd (stQ t ci r i v) kk) :=
  aw_op (st' := fun _ => st) (fun h b h' ho => by
    unfold stQ at ho
    split at ho
    · rename_i a xs b9 fs e e2
      obtain ⟨rfl, h1⟩ := qaOf_some e
      obtain ⟨rfl, h2⟩ := obOf_some e2
      split at ho
      · cases ho
      · rename_i hin
        cases ho
        refine ⟨Mn.rf _, fun H locs la Q G hR hu hS hl k2 => ?_⟩
        obtain ⟨g1, g2⟩ := hR.2 a _ h1
        obtain ⟨⟨r', hr', -, cellV, c1, c2, c3, -⟩, -⟩ := hR.2 b9 _ h2
        cases hc.symm.trans hr'
        obtain ⟨-, hcls⟩ := G.2.2.2.2.2.2.2.2.1.1.1 ci _ hc
        obtain ⟨hA1, kA, comp, k1, kd, k3, -⟩ := K_of G (ht C.K)
        have hcomp : comp = C.D.1 ci := Option.some.inj (k3.symm.trans hcls.1)
        subst hcomp
        obtain ⟨kC, hkC, -⟩ := hcls.2
        refine W.aast G.1 G.2.1 g1 (fun q h => by cases h) (fun h => by cases h) k1 kd rfl hkC ⟨(in_of hin).1, by rw [arC_size]; simpa using (in_of hin).2⟩ c1 (fun q h => by rw [c3] at h; cases h) (by rw [c2]; exact hkC) (by rw [c2]; exact asg_self _ _) rfl rfl hd fun H1 e z oq => ?_
        exact k2 H1 _ (hR.up g2 z (by show H1[a]? = _; rw [e, arC_set, List.map_set]; rfl) oq) (hS.put z oq g2)
    · cases ho) kn
theorem aw_rast {r v : Option Nat} {i : Int32} {kk : Unit → Mo R} (hd : decode cc pc = .ok (.aastore, 1)) (kn : ∀ u, AW C cc mt q res (pc + 1) ls st (kk u)) : AW C cc mt q res pc ls (vr v :: vi i :: vr r :: st) (bd (stR r i v) kk) :=
  aw_op (st' := fun _ => st) (fun h b h' ho => by
    unfold stR at ho
    split at ho
    · rename_i a xs b9 ys e e2
      obtain ⟨rfl, h1⟩ := qaOf_some e
      obtain ⟨rfl, h2⟩ := laOf_some e2
      split at ho
      · cases ho
      · rename_i hin
        cases ho
        refine ⟨Mn.rf _, fun H locs la Q G hR hu hS hl k2 => ?_⟩
        obtain ⟨g1, g2⟩ := hR.2 a _ h1
        have c1 := (hR.2 b9 _ h2).1
        obtain ⟨comp, c6, k6, o1, -, o3, o4, o5⟩ := arrayOverA_spec (G.2.2.2.2.2.2.2.2.1.2.2.2.2.2.1)
        have e6 : c6 = C.K 6 := Option.some.inj (o5.symm.trans (K_of G (t := 6) rfl).2)
        have e1 : comp = C.K 1 := Option.some.inj (o1.symm.trans (K_of G (t := 1) rfl).2)
        subst e6 e1
        obtain ⟨-, kL, hkL, -⟩ := arr_of (K_of G (t := 1) rfl).1 []
        refine W.aast G.1 G.2.1 g1 (fun q h => by cases h) (fun h => by cases h) o3 o4 rfl hkL ⟨(in_of hin).1, by rw [arC_size]; simpa using (in_of hin).2⟩ c1 (fun q h => by cases h) hkL (asg_self _ _) rfl rfl hd fun H1 e z oq => ?_
        exact k2 H1 _ (hR.up g2 z (by show H1[a]? = _; rw [e, arC_set, List.map_set]; rfl) oq) (hS.put z oq g2)
    · cases ho) kn
theorem aw_aln {r : Option Nat} {kk : Int32 → Mo R} (hd : decode cc pc = .ok (.arraylength, 1)) (kn : ∀ x, AW C cc mt q res (pc + 1) ls (vi x :: st) (kk x)) : AW C cc mt q res pc ls (vr r :: st) (bd (aln r) kk) :=
  aw_rd (fun h b h' ho => by
    unfold aln at ho
    split at ho
    · cases ho
    · rename_i a
      split at ho
      · rename_i t' xs e
        split at ho
        · rename_i ht
          subst ht
          cases ho
          exact ⟨rfl, fun H locs cells slots la Q G hR hS hl k2 => W.alen G.1 G.2.1 (hR.2 a _ e).1 (arr_of (K_of G (t := 0) rfl).1 _) (by rw [arC_size, List.length_map]) rfl rfl hd k2⟩
        · cases ho
      · rename_i xs e
        cases ho
        exact ⟨rfl, fun H locs cells slots la Q G hR hS hl k2 => W.alen G.1 G.2.1 (hR.2 a _ e).1 (arr_of (K_of G (t := 1) rfl).1 _) (by rw [arC_size, List.length_map]) rfl rfl hd k2⟩
      · cases ho) kn
/-! divisions -/
theorem aw_idiv {x y : Int32} {kk : Int32 → Mo R} (hd : decode cc pc = .ok (.idiv, 1)) (kn : ∀ z, AW C cc mt q res (pc + 1) ls (vi z :: st) (kk z)) : AW C cc mt q res pc ls (vi y :: vi x :: st) (bd (dvI x y) kk) :=
  aw_rd (fun h b h' ho => by
    unfold dvI at ho
    split at ho
    · cases ho
    · rename_i hy
      cases ho
      exact ⟨rfl, fun H locs cells slots la Q G hR hS hl k2 => lv_idiv G.1 G.2.1 hd hy k2⟩) kn
theorem aw_ldiv {x y : Int64} {kk : Int64 → Mo R} (hd : decode cc pc = .ok (.ldiv, 1)) (kn : ∀ z, AW C cc mt q res (pc + 1) ls (vl z :: st) (kk z)) : AW C cc mt q res pc ls (vl y :: vl x :: st) (bd (dvL x y) kk) :=
  aw_rd (fun h b h' ho => by
    unfold dvL at ho
    split at ho
    · cases ho
    · rename_i hy
      cases ho
      exact ⟨rfl, fun H locs cells slots la Q G hR hS hl k2 => lv_ldiv G.1 G.2.1 hd hy k2⟩) kn
theorem aw_lrem {x y : Int64} {kk : Int64 → Mo R} (hd : decode cc pc = .ok (.lrem, 1)) (kn : ∀ z, AW C cc mt q res (pc + 1) ls (vl z :: st) (kk z)) : AW C cc mt q res pc ls (vl y :: vl x :: st) (bd (rmL x y) kk) :=
  aw_rd (fun h b h' ho => by
    unfold rmL at ho
    split at ho
    · cases ho
    · rename_i hy
      cases ho
      exact ⟨rfl, fun H locs cells slots la Q G hR hS hl k2 => lv_lrem G.1 G.2.1 hd hy k2⟩) kn
/-! new cells -/
theorem sz_of {h : Hp} {H : Heap} {locs : List Loc} (hR : Rep C.D C.K C.A h H) (hS : va_S C.A C.s.heap H locs) : C.s.heap.size ≤ h.2.1 := by rw [← hR.1]; exact hS.1
theorem S_grow {H H1 : Heap} {locs : List Loc} (hS : va_S C.A C.s.heap H locs) (z : H.size ≤ H1.size) (oq : ∀ q : Nat, q < H.size → H1[q]? = H[q]?) : va_S C.A C.s.heap H1 locs :=
  ⟨Nat.le_trans hS.1 z, fun x h1 h2 => (oq x (Nat.lt_of_lt_of_le h1 hS.1)).trans (hS.2.1 x h1 h2), hS.2.2⟩
/-- the fields of a new object -/
def dfl : FieldType → TV
  | .long => vl 0
  | .object _ => vr none
  | .array _ => vr none
  | _ => vi 0
theorem aw_new {idx ci : Nat} {r0 : vw_C} {fs : List TV} {kk : Option Nat → Mo R} (hd : decode cc pc = .ok (.new idx, 3)) (hc : vwCl[ci]? = some r0) (hl : fs.length = r0.2.2) (hw : Cond.classLink mt.1 idx r0.1 ∈ TBg) (hfs : ∀ k, k < r0.2.2 → (parseFieldDescriptor (r0.2.1 k).2.2.1).map defaultValue = some (toV (fs.getD k vu))) (kn : ∀ a, AW C cc mt q res (pc + 3) ls (vr a :: st) (kk a)) : AW C cc mt q res pc ls st (bd (nwO ci fs) kk) :=
  aw_op (fun h b h' ho => by
    unfold nwO at ho
    cases ho
    refine ⟨⟨Nat.le_succ _, Nat.le_add_right _ _⟩, fun H locs la Q G hR hu hS hl2 k2 => ?_⟩
    have hsz := sz_of hR hS
    obtain ⟨w1, w2⟩ := cls_new ci _ hc
    have hKn := G.2.2.2.2.2.2.2.2.1.1.1 ci _ hc
    obtain ⟨ty0, hty0, -⟩ := cls_ty ci _ hc
    have hrc : (h.2.1 + 1) - C.s.heap.size ≤ C.R.cells := G.2.2.2.2.2.2.2.2.2.2.2.2.1
    have hrs : (h.2.2 + fs.length) - C.u ≤ C.R.slots := G.2.2.2.2.2.2.2.2.2.2.2.2.2
    refine W.newcK (n := r0.2.2) G.1 G.2.1 G.2.2.2.1 (G.2.2.2.2.1 _ hw) (G.2.2.2.2.1 _ w1) (G.2.2.2.2.1 _ w2) rfl hd (by omega) (by omega) hKn.2.1 rfl fun H1 kC hkC e1 z1 o1 => ?_
    have hb := u_born ty0 G.2.2.2.2.1 (cls_in ci _ hc) hKn hkC e1 hty0
    have k3 := k2 H1 locs (hR.mk (G.2.2.2.2.2.2.2.2.1.2.2.2.2.2.2 _ hS.1) z1 ⟨r0, hc, hl, hb.to (fun k hk => by
      have h9 := hfs k hk
      rw [hty0 k hk] at h9
      exact Option.some.inj h9)⟩ o1) (S_grow hS (by omega) o1)
    rw [hR.1]
    have e2 : (mk h (ob ci fs) fs.length).2.1 - C.s.heap.size = h.2.1 - C.s.heap.size + 1 := by show h.2.1 + 1 - C.s.heap.size = _; omega
    have e3 : (mk h (ob ci fs) fs.length).2.2 - C.u = h.2.2 - C.u + r0.2.2 := by show h.2.2 + fs.length - C.u = _; omega
    rw [e2, e3] at k3
    exact k3) kn
theorem w_newa {h : Hp} {H : Heap} {locs : List Loc} {la : Array Slot} {Q : State → Prop} {h' : Hp} (G : Gd C cc mt h') {atype : ArrayType} {t : Nat} {ty : FieldType} {n : Int32} {c : AC} {v : Value} {rest : List Value} (hd : decode cc pc = .ok (.newarray atype, 2)) (hty : newarray.typeOf atype = ty) (ht : (tyl C.K)[t]? = some (C.K t, ty)) (hRA : va_RA C.s (C.K t) ty → C.s.vm.findClass ("[" ++ ty.toString) = some (C.K t)) (hw : Cond.arrayClass ty ∈ TBg) (hv : defaultValue ty = v) (hn : ¬ n < 0) (hby : n.toNatClampNeg * componentBytes ty ≤ 536870912)
    (hR : Rep C.D C.K C.A h H) (hS : va_S C.A C.s.heap H locs) (hu : C.u ≤ h.2.2) (hh : h' = mk h c n.toNatClampNeg) (hat : ∀ H1 : Heap, H1[H.size]? = some (arC (C.K t) (List.replicate n.toNatClampNeg v)) → AT C.D C.K H.size H1 c)
    (k2 : ∀ (H1 : Heap) (locs' : List Loc), Rep C.D C.K C.A h' H1 → va_S C.A C.s.heap H1 locs' → WC C H1 locs' (h'.2.1 - C.s.heap.size) (h'.2.2 - C.u) Q (F0 C.m (pc + 2) la (.ref h.2.1 :: rest))) : WC C H locs (h.2.1 - C.s.heap.size) (h.2.2 - C.u) Q (F0 C.m pc la (.int n :: rest)) := by
  have hsz := sz_of hR hS
  subst hty hv
  have hrc : h'.2.1 - C.s.heap.size ≤ C.R.cells := G.2.2.2.2.2.2.2.2.2.2.2.2.1
  have hrs : h'.2.2 - C.u ≤ C.R.slots := G.2.2.2.2.2.2.2.2.2.2.2.2.2
  have e2 : h'.2.1 - C.s.heap.size = h.2.1 - C.s.heap.size + 1 := by rw [hh]; show h.2.1 + 1 - C.s.heap.size = _; omega
  have e3 : h'.2.2 - C.u = h.2.2 - C.u + n.toNatClampNeg := by rw [hh]; show h.2.2 + n.toNatClampNeg - C.u = _; omega
  rw [e2] at hrc k2
  rw [e3] at hrs k2
  refine W.newa G.1 G.2.1 (G.2.2.2.2.1 _ hw) rfl hd rfl hn hby hrc hrs fun cA kA comp h1 h2 h3 => ?_
  have ec : cA = C.K t := Option.some.inj (h1.symm.trans (hRA (K_of G ht).2))
  subst ec
  rw [arC_rep]
  have o1 : ∀ q : Nat, q < H.size → (H.push (arC (C.K t) (List.replicate n.toNatClampNeg (defaultValue (newarray.typeOf atype)))))[q]? = H[q]? := fun q hq => by rw [Array.getElem?_push, if_neg (Nat.ne_of_lt hq)]
  have k3 := k2 (H.push (arC (C.K t) (List.replicate n.toNatClampNeg (defaultValue (newarray.typeOf atype))))) locs (by rw [hh]; exact hR.mk (G.2.2.2.2.2.2.2.2.1.2.2.2.2.2.2 _ hS.1) (by simp) (hat _ (by simp)) o1) (S_grow hS (by simp) o1)
  rw [hR.1]
  exact k3
theorem aw_newi {n : Int32} {kk : Option Nat → Mo R} (hd : decode cc pc = .ok (.newarray .int, 2)) (kn : ∀ a, AW C cc mt q res (pc + 2) ls (vr a :: st) (kk a)) : AW C cc mt q res pc ls (vi n :: st) (bd (nwI 0 n) kk) :=
  aw_op (fun h b h' ho => by
    unfold nwI at ho
    split at ho
    · cases ho
    · rename_i hn
      cases ho
      refine ⟨⟨Nat.le_succ _, Nat.le_add_right _ _⟩, fun H locs la Q G hR hu hS hl2 k2 => w_newa (t := 0) (ty := .int) (v := .int 0) (c := ai 0 (List.replicate n.toNatClampNeg 0)) G hd rfl rfl (fun h => h) (by decide +kernel) rfl (fun q => hn (Or.inl q)) (by show _ * 4 ≤ _; omega) hR hS hu rfl (fun H1 e => ?_) k2⟩
      show H1[H.size]? = _
      rw [e, List.map_replicate]) kn
theorem aw_newz {n : Int32} {kk : Option Nat → Mo R} (hd : decode cc pc = .ok (.newarray .boolean, 2)) (kn : ∀ a, AW C cc mt q res (pc + 2) ls (vr a :: st) (kk a)) : AW C cc mt q res pc ls (vi n :: st) (bd (nwI 2 n) kk) :=
  aw_op (fun h b h' ho => by
    unfold nwI at ho
    split at ho
    · cases ho
    · rename_i hn
      cases ho
      refine ⟨⟨Nat.le_succ _, Nat.le_add_right _ _⟩, fun H locs la Q G hR hu hS hl2 k2 => w_newa (t := 2) (ty := .boolean) (v := .int 0) (c := ai 2 (List.replicate n.toNatClampNeg 0)) G hd rfl rfl (fun h => h) (by decide +kernel) rfl (fun q => hn (Or.inl q)) (by show _ * 1 ≤ _; omega) hR hS hu rfl (fun H1 e => ?_) k2⟩
      show H1[H.size]? = _
      rw [e, List.map_replicate]) kn
theorem aw_newl {n : Int32} {kk : Option Nat → Mo R} (hd : decode cc pc = .ok (.newarray .long, 2)) (kn : ∀ a, AW C cc mt q res (pc + 2) ls (vr a :: st) (kk a)) : AW C cc mt q res pc ls (vi n :: st) (bd (nwL n) kk) :=
  aw_op (fun h b h' ho => by
    unfold nwL at ho
    split at ho
    · cases ho
    · rename_i hn
      cases ho
      refine ⟨⟨Nat.le_succ _, Nat.le_add_right _ _⟩, fun H locs la Q G hR hu hS hl2 k2 => w_newa (t := 1) (ty := .long) (v := .long 0) (c := al (List.replicate n.toNatClampNeg 0)) G hd rfl rfl (fun h => h) (by decide +kernel) rfl (fun q => hn (Or.inl q)) (by show _ * 8 ≤ _; omega) hR hS hu rfl (fun H1 e => ?_) k2⟩
      show H1[H.size]? = _
      rw [e, List.map_replicate]) kn
theorem aw_newq {n : Int32} {idx t : Nat} {c : String} (ht : ∀ K : Nat → ClassId, (tyl K)[t]? = some (K t, .object c)) (hov : ∀ (D : va_G) (K : Nat → ClassId) (A : Nat → Prop) (U : State), Knw D K A U → va_AO c U) (hw : Cond.classLink mt.1 idx c ∈ TBg) {kk : Option Nat → Mo R} (hd : decode cc pc = .ok (.anewarray idx, 3)) (kn : ∀ a, AW C cc mt q res (pc + 3) ls (vr a :: st) (kk a)) : AW C cc mt q res pc ls (vi n :: st) (bd (nwQ t n) kk) :=
  aw_op (fun h b h' ho => by
    unfold nwQ at ho
    split at ho
    · cases ho
    · rename_i hn
      cases ho
      refine ⟨⟨Nat.le_succ _, Nat.le_add_right _ _⟩, fun H locs la Q G hR hu hS hl2 k2 => ?_⟩
      have hsz := sz_of hR hS
      have hrc : (h.2.1 + 1) - C.s.heap.size ≤ C.R.cells := G.2.2.2.2.2.2.2.2.2.2.2.2.1
      have hrs : (h.2.2 + n.toNatClampNeg) - C.u ≤ C.R.slots := G.2.2.2.2.2.2.2.2.2.2.2.2.2
      refine W.anew G.1 G.2.1 G.2.2.2.1 (G.2.2.2.2.1 _ hw) (va_AO.use (hov _ _ _ _ G.2.2.2.2.2.2.2.2.1)) rfl hd rfl (fun q => hn (Or.inl q)) (by omega) (by omega) (by omega) fun cA kA comp f1 f2 f3 f4 => ?_
      obtain ⟨-, -, -, -, -, -, g4⟩ := K_of G (ht C.K)
      have ec : cA = C.K t := Option.some.inj (f1.symm.trans g4)
      subst ec
      rw [arC_rep]
      have o1 : ∀ q : Nat, q < H.size → (H.push (arC (C.K t) (List.replicate n.toNatClampNeg .null)))[q]? = H[q]? := fun q hq => by rw [Array.getElem?_push, if_neg (Nat.ne_of_lt hq)]
      have k3 := k2 (H.push (arC (C.K t) (List.replicate n.toNatClampNeg .null))) locs (hR.mk (G.2.2.2.2.2.2.2.2.1.2.2.2.2.2.2 _ hS.1) (by simp) (by show _ = some (arC (C.K t) (List.map va_rf (List.replicate n.toNatClampNeg none))); rw [List.map_replicate]; simp [va_rf]) o1) (S_grow hS (by simp) o1)
      rw [hR.1]
      have e2 : h.2.1 - C.s.heap.size + 1 = h.2.1 + 1 - C.s.heap.size := by omega
      have e3 : h.2.2 - C.u + n.toNatClampNeg = h.2.2 + n.toNatClampNeg - C.u := by omega
      rw [e2, e3]
      exact k3) kn
/-! returns -/
theorem aw_iret {x : Int32} {res : Int32 × Hp} (hd : decode cc pc = .ok (.ireturn, 1)) (hr : mt.2.2.1 = some .int) : AW C cc mt (fun r => some (.int r)) res pc ls [vi x] (rn x) := by
  intro h hP
  cases hP
  exact ⟨Mn.rf _, fun H locs la G hR hu hS hl => W.iret (v := x) G.1 G.2.1 (G.2.2.2.2.2.1.trans hr) (fun t ht hW => ⟨rfl, by rw [ht]; exact hR, hS.F ht⟩) hS.2.2 hd G.2.2.2.2.2.2.1⟩
theorem aw_zret {x : Int32} {res : Int32 × Hp} (hd : decode cc pc = .ok (.ireturn, 1)) (hr : mt.2.2.1 = some .boolean) : AW C cc mt (fun r => some (.int r)) res pc ls [vi x] (rnZ x) := by
  intro h hP
  unfold rnZ at hP
  split at hP
  · rename_i hx
    cases hP
    exact ⟨Mn.rf _, fun H locs la G hR hu hS hl => W.zret (v := x) G.1 G.2.1 (G.2.2.2.2.2.1.trans hr) (by rcases hx with rfl | rfl <;> rfl) (fun t ht hW => ⟨rfl, by rw [ht]; exact hR, hS.F ht⟩) hS.2.2 hd G.2.2.2.2.2.2.1⟩
  · cases hP
theorem aw_lret {x : Int64} {res : Int64 × Hp} (hd : decode cc pc = .ok (.lreturn, 1)) (hr : mt.2.2.1 = some .long) : AW C cc mt (fun r => some (.long r)) res pc ls [vl x] (rn x) := by
  intro h hP
  cases hP
  exact ⟨Mn.rf _, fun H locs la G hR hu hS hl => W.lret (v := x) G.1 G.2.1 (G.2.2.2.2.2.1.trans hr) (fun t ht hW => ⟨rfl, by rw [ht]; exact hR, hS.F ht⟩) hS.2.2 hd G.2.2.2.2.2.2.1⟩
theorem aw_aret {x : Option Nat} {res : Option Nat × Hp} {rt : FieldType} (hd : decode cc pc = .ok (.areturn, 1)) (hr : mt.2.2.1 = some rt) (hrt : (∃ n, rt = .object n) ∨ ∃ t, rt = .array t) : AW C cc mt (fun r => some (va_rf r)) res pc ls [vr x] (rn x) := by
  intro h hP
  cases hP
  exact ⟨Mn.rf _, fun H locs la G hR hu hS hl => W.aret (v := va_rf x) G.1 G.2.1 (G.2.2.2.2.2.1.trans hr) hrt (by cases x <;> simp [va_rf]) (fun t ht hW => ⟨rfl, by rw [ht]; exact hR, hS.F ht⟩) hS.2.2 hd G.2.2.2.2.2.2.1⟩
theorem aw_vret {res : Unit × Hp} (hd : decode cc pc = .ok (.return_, 1)) (hr : mt.2.2.1 = none) : AW C cc mt (fun _ => none) res pc ls [] (rn ()) := by
  intro h hP
  cases hP
  exact ⟨Mn.rf _, fun H locs la G hR hu hS hl => W.vret G.1 G.2.1 (G.2.2.2.2.2.1.trans hr) (fun t ht hW => ⟨rfl, by rw [ht]; exact hR, hS.F ht⟩) hS.2.2 hd G.2.2.2.2.2.2.1⟩
end AWc
end
section
/-! new long[n][k]; static tables; Object's constructor; contracts of methods, and calls. -/
theorem out_eq (c : ClassId) (N h0 : Nat) : Jvm.Free.Multi.outerC c N h0 N = arC c ((List.range N).map (fun j => Value.ref (h0 + 1 + j))) := by
  obtain ⟨f1, f2, f3⟩ := Jvm.Free.Multi.outerC_facts c N h0 N
  have f4 := Jvm.Free.Multi.outerC_slot c N h0 N
  generalize hX : Jvm.Free.Multi.outerC c N h0 N = X at f1 f2 f3 f4
  have hp := Jvm.Free.Multi.outerC_plain c N h0 N
  rw [hX] at hp
  obtain ⟨g1, g2⟩ := hp
  have es : X.slots = ((List.range N).map (fun j => Value.ref (h0 + 1 + j))).toArray := by
    apply Array.ext_getElem?
    intro i
    by_cases hi : i < N
    · rw [f4 i hi]
      simp [hi]
    · rw [Array.getElem?_eq_none (by omega)]
      symm
      simp
      omega
  cases X
  simp only at f1 f2 es g1 g2
  subst f1 f2 es g1 g2
  rfl
theorem inn_eq (c : ClassId) (M : Nat) : Jvm.Free.Multi.innerC c M (.long 0) = arC c ((List.replicate M (0 : Int64)).map Value.long) := by
  rw [List.map_replicate, ← arC_rep]
  rfl
section AWd
variable {C : Cx} {cc : ByteArray} {mt : Mt} {R : Type} {q : R → Option Value} {res : R × Hp} {pc pc' tgt : Nat} {ls ls' st st' : List TV} {P P1 P2 : Mo R}
theorem aw_newm {n k : Int32} {idx : Nat} (hw : Cond.classLink mt.1 idx "[[J" ∈ TBg) {kk : Option Nat → Mo R} (hd : decode cc pc = .ok (.multianewarray idx 2, 4)) (kn : ∀ a, AW C cc mt q res (pc + 4) ls (vr a :: st) (kk a)) : AW C cc mt q res pc ls (vi k :: vi n :: st) (bd (nwM n k) kk) :=
  aw_op (fun h b h' ho => by
    unfold nwM at ho
    split at ho
    · cases ho
    · rename_i hn
      cases ho
      generalize hN : n.toNatClampNeg = N at *
      generalize hM : k.toNatClampNeg = M at *
      refine ⟨⟨by show h.2.1 ≤ h.2.1 + 1 + N; omega, by show h.2.2 ≤ h.2.2 + N + N * M; omega⟩, fun H locs la Q G hR hu hS hl2 k2 => ?_⟩
      have hsz := sz_of hR hS
      have hrc : (h.2.1 + 1 + N) - C.s.heap.size ≤ C.R.cells := G.2.2.2.2.2.2.2.2.2.2.2.2.1
      have hrs : (h.2.2 + N + N * M) - C.u ≤ C.R.slots := G.2.2.2.2.2.2.2.2.2.2.2.2.2
      intro T hT Xs
      have hb1 : n.toNatClampNeg * 4 ≤ 536870912 := by rw [hN]; omega
      have hb2 : k.toNatClampNeg * componentBytes .long ≤ 536870912 := by rw [hM]; show M * 8 ≤ _; omega
      have hn1 : ¬ n < 0 := fun q => hn (Or.inl q)
      have hn2 : ¬ k < 0 := fun q => hn (Or.inr (Or.inl q))
      obtain ⟨vm₁, cA, comp, -, fA, fC, -, -, X', step⟩ := Xs.multianewarray2F (ty := .long) G.1 G.2.2.2.1 (G.2.2.2.2.1 _ hw) (G.2.2.2.2.2.2.2.2.1.2.2.2.2.2.1) (G.2.2.2.2.1 _ (by decide +kernel)) (g := F0 C.m pc la (.int k :: .int n :: st.map toV)) rfl (by rw [G.2.1]; exact hd) rfl hn1 hn2 hb1 hb2 (by omega) rfl rfl (by omega) (by rw [hN, hM]; omega)
      have eA : cA = C.K 6 := Option.some.inj (fA.symm.trans (K_of G (t := 6) rfl).2)
      have eC : comp = C.K 1 := Option.some.inj (fC.symm.trans (K_of G (t := 1) rfl).2)
      subst eA eC
      rw [hN, hM] at X' step
      generalize hF : Jvm.Free.Multi.fill (T.setVm vm₁) (C.K 6) (C.K 1) N M (defaultValue .long) N = F at X' step
      have hTh : (T.setVm vm₁).heap = H := hT
      obtain ⟨f1, f2, -, -⟩ := Jvm.Free.Multi.fill_facts (T.setVm vm₁) (C.K 6) (C.K 1) N M (defaultValue .long) N
      rw [hF, hTh] at f1 f2
      rw [out_eq] at f2
      have hold : ∀ x : Nat, x < H.size → F.heap[x]? = H[x]? := fun x hx => by
        have := Jvm.Free.Multi.fill_old (T.setVm vm₁) (C.K 6) (C.K 1) N M (defaultValue .long) (a := x) (by rw [hTh]; exact hx) N
        rw [hF, hTh] at this
        exact this
      have hrow : ∀ j : Nat, j < N → F.heap[H.size + 1 + j]? = some (arC (C.K 1) ((List.replicate M (0 : Int64)).map Value.long)) := fun j hj => by
        have := Jvm.Free.Multi.fill_inner (T.setVm vm₁) (C.K 6) (C.K 1) N M (defaultValue .long) N j hj
        rw [hF, hTh] at this
        rw [← inn_eq]
        exact this
      have hA := G.2.2.2.2.2.2.2.2.1.2.2.2.2.2.2
      have hsH : C.s.heap.size ≤ H.size := hS.1
      have hRn : Rep C.D C.K C.A (fun b => if b = h.2.1 then some (aq 6 ((List.range N).map (fun j => some (h.2.1 + 1 + j)))) else if h.2.1 < b ∧ b < h.2.1 + 1 + N then some (al (List.replicate M 0)) else h.1 b, h.2.1 + 1 + N, h.2.2 + N + N * M) F.heap := by
        refine ⟨by rw [f1, hR.1], fun a c hc => ?_⟩
        simp only at hc
        split at hc
        · rename_i e
          cases hc
          subst e
          rw [← hR.1]
          refine ⟨?_, hA _ hsH⟩
          show F.heap[H.size]? = _
          rw [f2]
          simp [List.map_map, va_rf, Function.comp_def]
        · split at hc
          · rename_i e
            cases hc
            rw [← hR.1] at e
            obtain ⟨j, rfl⟩ : ∃ j, a = H.size + 1 + j := ⟨a - (H.size + 1), by omega⟩
            exact ⟨hrow j (by omega), hA _ (by omega)⟩
          · obtain ⟨g1, g2⟩ := hR.2 a c hc
            exact ⟨g1.kept (hold a g1.lt), g2⟩
      obtain ⟨t, a1, b1⟩ := k2 F.heap locs hRn (S_grow hS (by omega) hold) F rfl (by
        have e2 : h.2.1 + 1 + N - C.s.heap.size = h.2.1 - C.s.heap.size + 1 + N := by omega
        have e3 : h.2.2 + N + N * M - C.u = h.2.2 - C.u + N + N * M := by omega
        show Stand _ _ _ _ _ _ _ _ _ _ _ _ (h.2.1 + 1 + N - C.s.heap.size) (h.2.2 + N + N * M - C.u)
        rw [e2, e3]
        exact X')
      refine ⟨t, step t ?_, b1⟩
      have e : T.heap.size = h.2.1 := by rw [hT, hR.1]
      rw [e]
      exact a1) kn
/-- getstatic of a table of three, its place on the stack, iaload -/
theorem aw_tab {x : Int32} {idx k : Nat} {nm : String} {xs : List Int32} {ld : Fin 4} (hx : ls[(ld : Nat)]? = some (vi x)) (hst : ∀ (A : Nat → Prop) (U : State), Stt A U → Sta nm xs A U U.heap) (hw : Cond.fieldLink mt.1 idx RX10 nm "[I" ∈ TBg) {kk : Int32 → Mo R} (h0 : decode cc pc = .ok (.getstatic idx, 3)) (h1 : decode cc (pc + 3) = .ok (.iload_n ld, 1)) (h2 : decode cc (pc + 4) = .ok (.iaload, 1)) (kn : ∀ z, AW C cc mt q res (pc + 5) ls (vi z :: st) (kk z)) : AW C cc mt q res pc ls st (bd (tb xs x) kk) :=
  aw_rd (fun h b h' ho => by
    unfold tb at ho
    split at ho
    · cases ho
    · rename_i hin
      cases ho
      refine ⟨rfl, fun H locs cells slots la Q G hR hS hl k2 => ?_⟩
      obtain ⟨t, hZ, hT⟩ := hst _ _ G.2.2.2.2.2.2.2.2.2.1
      refine va_gets G.1 G.2.1 hZ hS G.2.2.2.1 (G.2.2.2.2.1 _ hw) (fun _ h9 => h9) h0 ?_
      refine lv_iload_n G.1 G.2.1 h1 rfl (hl.at hx rfl) ?_
      exact va_ti G.1 G.2.1 hT hS hin rfl h2 k2) kn
/-- Object's constructor -/
theorem aw_obj {r : Option Nat} {idx : Nat} (hd : decode cc pc = .ok (.invokespecial idx, 3)) (hw : Cond.methodLink mt.1 idx objectInit ∈ TBg) (hfr : 1 ≤ mt.2.2.2.1) (hlo : 20 ≤ mt.2.2.2.2.1) (hc : (st.map catT).sum ≤ 8) {kk : Unit → Mo R} (kn : ∀ u, AW C cc mt q res (pc + 3) ls st (kk u)) : AW C cc mt q res pc ls (vr r :: st) (bd (vn r (fun _ => rn ())) kk) :=
  aw_op (st' := fun _ => st) (fun h b h' ho => by
    cases r with
    | none => cases ho
    | some a =>
      cases ho
      refine ⟨Mn.rf _, fun H locs la Q G hR hu hS hl k2 => ?_⟩
      have e : ((st.map toV).map fun v => v.category).sum ≤ 8 := by
        rw [List.map_map]
        rw [show ((fun v : Value => v.category) ∘ toV) = catT from funext cat_toV]
        exact hc
      have h1 : mt.2.2.2.1 ≤ C.R.frames := G.2.2.2.2.2.2.2.2.2.2.1
      have h2 : mt.2.2.2.2.1 ≤ C.R.locals := G.2.2.2.2.2.2.2.2.2.2.2.1
      have h3 := lv_room (m := C.m) (pc := pc) (ls := la) (rest := st.map toV) e
      refine W.objInit G.1 G.2.1 G.2.2.2.1 (G.2.2.2.2.1 _ hw) (G.2.2.2.2.1 _ (by decide +kernel)) (G.2.2.2.2.1 _ (by decide +kernel)) rfl (by rw [G.2.2.1]; exact hl.1) rfl hd (by omega) ?_ (k2 H locs hR hS)
      have h4 : 2 * (F0 C.m pc la (toV (vr (some a)) :: st.map toV)).monitorRoom = 2 * (F0 C.m pc la (st.map toV)).monitorRoom := rfl
      have h5 : 2 * (F0 C.m pc la (st.map toV)).monitorRoom + ((st.map toV).map fun v => v.category).sum ≤ 8 := h3
      show 2 * (F0 C.m pc la (toV (vr (some a)) :: st.map toV)).monitorRoom + ((st.map toV).map fun v => v.category).sum + 12 ≤ C.R.locals
      omega) kn
end AWd
/-! contracts -/
theorem Sta.moved {nm : String} {xs : List Int32} {A : Nat → Prop} {u U : State} (hvm : u.vm.Alike U.vm) (hk : ∀ a : Nat, a < u.heap.size → ¬ A a → U.heap[a]? = u.heap[a]?) (h : Sta nm xs A u u.heap) : Sta nm xs A U U.heap := by
  obtain ⟨t, h1, h2⟩ := h
  exact ⟨t, (h1.kept hk).moved hvm, (h2.kept hk).moved hvm⟩
theorem Stt.moved {A : Nat → Prop} {u U : State} (hvm : u.vm.Alike U.vm) (hk : ∀ a : Nat, a < u.heap.size → ¬ A a → U.heap[a]? = u.heap[a]?) (h : Stt A u) : Stt A U := ⟨h.1.moved hvm hk, h.2.moved hvm hk⟩
theorem nw_warm {s U : State} (hW : s.WarmedH U.vm) (h : ∀ w ∈ TBn, va_Nw w s) : ∀ w ∈ TBn, va_Nw w U := by
  intro w hw
  have h1 := h w hw
  have h2 : isNest w = true := (List.mem_filter.mp hw).2
  cases w <;> first | exact va_Nw.warmF hW h1 | exact va_Nw.warmM hW h1 | cases h2
theorem nw_same {s U : State} (he : s.vm = U.vm) (h : ∀ w ∈ TBn, va_Nw w s) : ∀ w ∈ TBn, va_Nw w U := by
  intro w hw
  have h1 := h w hw
  have h2 : isNest w = true := (List.mem_filter.mp hw).2
  cases w <;> first | exact va_Nw.same rfl he h1 | cases h2
theorem Knw.warm {D : va_G} {K : Nat → ClassId} {A : Nat → Prop} {s U : State} (hW : s.WarmedH U.vm) (hs : s.heap.size ≤ U.heap.size) (h : Knw D K A s) : Knw D K A U := by
  obtain ⟨h1, h2, h3, h4, h5, h6, h7⟩ := h
  exact ⟨h1.moved hW.alike, nw_warm hW h2, h3.moved hW.alike, h4.moved hW.alike, h5.moved hW.alike, over_moved hW.alike h6, fun q hq => h7 q (Nat.le_trans hs hq)⟩
theorem Knw.same {D : va_G} {K : Nat → ClassId} {A : Nat → Prop} {s U : State} (he : s.vm = U.vm) (hs : s.heap = U.heap) (h : Knw D K A s) : Knw D K A U := by
  obtain ⟨h1, h2, h3, h4, h5, h6, h7⟩ := h
  have ha : s.vm.Alike U.vm := by rw [he]; exact Vm.Alike.refl _
  exact ⟨h1.moved ha, nw_same he h2, h3.moved ha, h4.moved ha, h5.moved ha, over_moved ha h6, fun q hq => h7 q (by rw [hs]; exact hq)⟩
/-- the entry's locals -/
def entL : List TV → List TV
  | [] => []
  | v :: vs => match isW v with
    | true => v :: vu :: entL vs
    | false => v :: entL vs
theorem ent_mem : ∀ (av : List TV) (k m : Nat) (w : Nat × Value), w ∈ asc k (entL av ++ List.replicate m vu) → w ∈ lv_args k (av.map toV)
  | [], k, m, w, h => by
    obtain ⟨j, t, h1, h2, h3, h4⟩ := asc_mem _ _ _ h
    simp only [entL, List.nil_append] at h2
    rw [List.getElem?_replicate] at h2
    split at h2
    · cases h2; simp [isU] at h3
    · cases h2
  | v :: vs, k, m, w, h => by
    have e : (toV v).category = catT v := cat_toV v
    rcases v with x | x | x | x
    · simp only [entL, isW, List.cons_append, asc, isU, List.mem_cons] at h
      simp only [List.map_cons, lv_args, e, catT]
      rcases h with h | h
      · exact List.mem_cons.mpr (Or.inl h)
      · exact List.mem_cons_of_mem _ (ent_mem vs _ m w h)
    · simp only [entL, isW, List.cons_append, asc, isU, List.mem_cons] at h
      simp only [List.map_cons, lv_args, e, catT]
      rcases h with h | h
      · exact List.mem_cons.mpr (Or.inl h)
      · exact List.mem_cons_of_mem _ (ent_mem vs _ m w h)
    · simp only [entL, isW, List.cons_append, asc, isU, List.mem_cons] at h
      simp only [List.map_cons, lv_args, e, catT]
      rcases h with h | h
      · exact List.mem_cons.mpr (Or.inl h)
      · exact List.mem_cons_of_mem _ (ent_mem vs _ m w h)
    · simp only [entL, isW, List.cons_append, asc, isU] at h
      simp only [List.map_cons, lv_args, e, catT]
      exact List.mem_cons_of_mem _ (ent_mem vs _ m w h)
def rmOf (mt : Mt) (h h' : Hp) : Room := { frames := mt.2.2.2.1, cells := h'.2.1 - h.2.1, slots := h'.2.2 - h.2.2, locals := mt.2.2.2.2.1 }
end
section
/-! Contracts of methods, and calls. -/
/-- the method y, called with av, does as P says -/
def Ct (y : MethodName) (cc : ByteArray) (mt : Mt) {R : Type} (q : R → Option Value) (av : List TV) (P : Mo R) : Prop :=
  (∀ (_ : Cx) (h : Hp) (res : R × Hp), P h = some res → Mn h res.2) ∧
  ∀ (l : Launch) (D : va_G) (K : Nat → ClassId) (A : Nat → Prop) (h : Hp) (res : R × Hp), P h = some res → Met l y (Cond.code y cc mt.2.1 mt.2.2.1 :: TBg) (rmOf mt h res.2) (va_Pc (av.map toV) (fun U => Rep D K A h U.heap ∧ Knw D K A U ∧ Stt A U)) (Qe D K A (q res.1) res.2) (res.2.2.1 - h.2.1) (res.2.2.2 - h.2.2) A
theorem ct_of {y : MethodName} {cc : ByteArray} {mt : Mt} {R : Type} {q : R → Option Value} {av : List TV} {P : Mo R} (hy : plainName y.cls = true) (ho : mt.1 = y.cls) (hin : mt.2.2.2.2.2 = true → y.name = "<init>") (hl : (lg_sl (av.map toV)).length ≤ mt.2.1)
    (kk : ∀ (C : Cx) (res : R × Hp), AW C cc mt q res 0 (entL av ++ List.replicate (mt.2.1 - (entL av).length) vu) [] P) : Ct y cc mt q av P := by
  refine ⟨fun C h res hP => (kk C res h hP).1, fun l D K A h res hP => ?_⟩
  refine Met.ofW (cc := cc) (maxL := mt.2.1) (ret := mt.2.2.1) hy rfl ?_
  intro p e s m args below meth c s₁ B hml hv
  obtain ⟨rfl, hR, hKn, hSt⟩ := hv
  have hts := atoms_spec (ws := Cond.code y cc mt.2.1 mt.2.2.1 :: TBg) B.pre
  have hown : s.vm.findClass y.cls = some m.cls := findClass_of_methodNamed B.named
  have hsz : s.heap.size = h.2.1 := hR.1
  have hle := lv_entry (av.map toV) (n := mt.2.1) hl
  have hLV : LV ((lg_sl (av.map toV) ++ List.replicate (mt.2.1 - (lg_sl (av.map toV)).length) Slot.unset).toArray) mt.2.1 (entL av ++ List.replicate (mt.2.1 - (entL av).length) vu) := ⟨hle.1, hle.2.1, fun w hw => hle.2.2 w (ent_mem av 0 _ w hw)⟩
  have G : Gd (p, l, e, rmOf mt h res.2, s, m, (av.map toV).toArray, below, meth, c, D, K, A, h.2.2) cc mt res.2 := ⟨B.exec, B.bytes, hml, by rw [ho]; exact hown, fun w hw => hts w (List.mem_cons_of_mem _ hw), B.returns, B.notSynchronized, fun hi => (name_of_methodNamed B.named B.method).1.trans (hin hi), hKn, hSt, Nat.le_refl _, Nat.le_refl _, by show res.2.2.1 - s.heap.size ≤ res.2.2.1 - h.2.1; rw [hsz]; exact Nat.le_refl _, Nat.le_refl _⟩
  have k := (kk (p, l, e, rmOf mt h res.2, s, m, (av.map toV).toArray, below, meth, c, D, K, A, h.2.2) res h hP).2 s.heap [] _ G hR (Nat.le_refl _) va_S.rf hLV
  rw [lg_entry_eq]
  have e1 : h.2.1 - s.heap.size = 0 := by omega
  have e2 : h.2.2 - h.2.2 = 0 := by omega
  have k' : W p l e (rmOf mt h res.2) s m (av.map toV).toArray below meth c s.heap [] (h.2.1 - s.heap.size) (h.2.2 - h.2.2) (MQ below (Qe D K A (q res.1) res.2) (av.map toV).toArray s (res.2.2.1 - s.heap.size) (res.2.2.2 - h.2.2) A) (F0 m 0 ((lg_sl (av.map toV) ++ List.replicate (mt.2.1 - (lg_sl (av.map toV)).length) Slot.unset).toArray) []) := k
  rw [e1, e2, hsz] at k'
  exact k'
/-- what the tables say of a method that is called -/
def MC (y : MethodName) (cc : ByteArray) (mt : Mt) (n : Nat) : Prop := Cond.code y cc mt.2.1 mt.2.2.1 ∈ TBg ∧ Cond.initialized y.cls ∈ TBg ∧ y.cls ≠ "java/lang/invoke/MethodHandle" ∧ y.cls ≠ "java/lang/invoke/VarHandle" ∧ (parseMethodDescriptor y.desc).map (fun d => d.parameters.length) = some n
def ML (own : String) (idx : Nat) (y : MethodName) : Prop := Cond.methodLink own idx y ∈ TBg ∨ ∃ host, Cond.methodLinkNest own idx y host ∈ TBn
theorem good_tb {y : MethodName} {cc : ByteArray} {mt : Mt} {n : Nat} (h : MC y cc mt n) : GoodIn TBg (Cond.code y cc mt.2.1 mt.2.2.1 :: TBg) := by
  intro w hw
  have h1 : w ∈ TBg := by
    rcases List.mem_cons.mp hw with rfl | h2
    · exact h.1
    · exact h2
  exact ⟨h1, good_of_word (List.mem_filter.mp h1).2⟩
section AWe
variable {C : Cx} {cc cc' : ByteArray} {mt mt' : Mt} {R R' : Type} {q : R → Option Value} {q' : R' → Option Value} {res : R × Hp} {pc pc' tgt : Nat} {ls ls' st st' : List TV} {y : MethodName} {n idx : Nat}
theorem w_ran {h' : Hp} {H : Heap} {locs : List Loc} {cells slots mc ms : Nat} {la : Array Slot} {Q : State → Prop} {st0 rest : List Value} {v : Option Value} {a : Array Value} (hr : va_Run C.p C.l C.e C.R C.s C.m C.args C.below C.meth C.c H locs cells slots mc ms (F0 C.m pc la st0) rest (Qe C.D C.K C.A v h' a) C.A) (hS : va_S C.A C.s.heap H locs)
    (kk : ∀ (H1 : Heap) (locs1 : List Loc), Rep C.D C.K C.A h' H1 → va_S C.A C.s.heap H1 locs1 → WC C H1 locs1 (cells + mc) (slots + ms) Q (F0 C.m (pc + 3) la (v.toList ++ rest))) : WC C H locs cells slots Q (F0 C.m pc la st0) := by
  intro T hT X
  obtain ⟨v', st₀, t, T', L, h0, X', hL, e1, e2, ⟨hv, hR, hz, hk⟩, st⟩ := hr T hT X
  cases hv
  rw [h0] at hz hk
  obtain ⟨t2, a1, b1⟩ := kk T'.heap (locs ++ L) (by rw [e1]; exact hR) ⟨Nat.le_trans hS.1 (by rw [e1]; exact hz), fun x h1 h2 => by rw [e1, hk x (Nat.lt_of_lt_of_le h1 hS.1) h2]; exact hS.2.1 x h1 h2, fun x hx => by
      rcases List.mem_append.mp hx with h | h
      · exact hS.2.2 x h
      · exact hL x h⟩ T' rfl X'
  exact ⟨t2, st t2 a1, b1⟩
theorem cat_sum (st : List TV) (h : (st.map catT).sum ≤ 8) : ((st.map toV).map fun v => v.category).sum ≤ 8 := by
  rw [List.map_map]
  rw [show ((fun v : Value => v.category) ∘ toV) = catT from funext cat_toV]
  exact h
theorem pc_blind (av : List Value) {D : va_G} {K : Nat → ClassId} {A : Nat → Prop} {h : Hp} : FrameBlind (va_Pc av (fun U => Rep D K A h U.heap ∧ Knw D K A U ∧ Stt A U)) :=
  fun _ U _ _ hq => ⟨hq.1, hq.2.1, hq.2.2.1.same (s := U) rfl rfl, hq.2.2.2.moved (u := U) (Vm.Alike.refl U.vm) (fun _ _ _ => rfl)⟩
theorem pc_at {av : List Value} {h h' : Hp} {H : Heap} {locs : List Loc} (G : Gd C cc mt h') (hR : Rep C.D C.K C.A h H) (hS : va_S C.A C.s.heap H locs) (U : State) (hU : U.heap = H) (hW : C.s.WarmedH U.vm) : va_Pc av (fun U => Rep C.D C.K C.A h U.heap ∧ Knw C.D C.K C.A U ∧ Stt C.A U) av.toArray U :=
  ⟨rfl, by rw [hU]; exact hR, G.2.2.2.2.2.2.2.2.1.warm hW (by rw [hU]; exact hS.1), G.2.2.2.2.2.2.2.2.2.1.moved hW.alike (by rw [hU]; exact hS.2.1)⟩
theorem aw_cS {av : List TV} {F : Mo R'} {kk : R' → Mo R} (pu : R' → List TV) (hq : ∀ r, (q' r).toList = (pu r).map toV) (hd : decode cc pc = .ok (.invokestatic idx, 3)) (hCt : Ct y cc' mt' q' av F) (hM : MC y cc' mt' n) (hL : ML mt.1 idx y) (hst : Cond.static y ∈ TBg) (hav : av.length = n) (hrm : mt'.2.2.2.1 + 1 ≤ mt.2.2.2.1 ∧ 8 + (mt'.2.1 + 11) + mt'.2.2.2.2.1 ≤ mt.2.2.2.2.1) (hc : (st.map catT).sum ≤ 8)
    (kn : ∀ r, AW C cc mt q res (pc + 3) ls (pu r ++ st) (kk r)) : AW C cc mt q res pc ls (av.reverse ++ st) (bd F kk) :=
  aw_op (fun h b h' ho => by
    have m1 := hCt.1 C h (b, h') ho
    refine ⟨m1, fun H locs la Q G hR hu hS hl k2 => ?_⟩
    have hMet := hCt.2 C.l C.D C.K C.A h (b, h') ho
    have hsz := sz_of hR hS
    have r1 : mt.2.2.2.1 ≤ C.R.frames := G.2.2.2.2.2.2.2.2.2.2.1
    have r2 : mt.2.2.2.2.1 ≤ C.R.locals := G.2.2.2.2.2.2.2.2.2.2.2.1
    have r3 : h'.2.1 - C.s.heap.size ≤ C.R.cells := G.2.2.2.2.2.2.2.2.2.2.2.2.1
    have r4 : h'.2.2 - C.u ≤ C.R.slots := G.2.2.2.2.2.2.2.2.2.2.2.2.2
    have m2 := m1.1
    have m3 := m1.2
    have e1 : h'.2.1 - C.s.heap.size = h.2.1 - C.s.heap.size + (h'.2.1 - h.2.1) := by simp only at m2 m3; omega
    have e2 : h'.2.2 - C.u = h.2.2 - C.u + (h'.2.2 - h.2.2) := by simp only at m2 m3; omega
    rw [e1] at r3
    rw [e2] at r4
    have S : CallFix C.p C.m C.c cc mt.2.1 C.s C.args TBg mt.1 := ⟨G.1, G.2.1, G.2.2.1, G.2.2.2.1, G.2.2.2.2.1⟩
    have hstk : (av.reverse ++ st).map toV = (av.map toV).reverse ++ st.map toV := by simp
    have hrm2 : (rmOf mt' h h').frames + 1 ≤ C.R.frames ∧ 8 + (mt'.2.1 + 11) + (rmOf mt' h h').locals ≤ C.R.locals := ⟨Nat.le_trans hrm.1 r1, Nat.le_trans hrm.2 r2⟩
    have fin : va_Run C.p C.l C.e C.R C.s C.m C.args C.below C.meth C.c H locs (h.2.1 - C.s.heap.size) (h.2.2 - C.u) (h'.2.1 - h.2.1) (h'.2.2 - h.2.2) (F0 C.m pc la ((av.reverse ++ st).map toV)) (st.map toV) (Qe C.D C.K C.A (q' b) h' (av.map toV).toArray) C.A := by
      rcases hL with hL | ⟨host, hL⟩
      · exact va_runS (As := av.map toV) S hMet ⟨callB_of n G.2.2.2.2.1 (good_tb hM) rfl rfl rfl (G.2.2.2.2.1 _ hM.2.1) (G.2.2.2.2.1 _ hL) hM.2.2 hrm2, G.2.2.2.2.1 _ hst⟩ ⟨pc_blind _, pc_at G hR hS⟩ rfl (by simpa using hav) hl.1 hstk (lv_room (cat_sum st hc)) hd ⟨r3, r4⟩
      · exact va_runSN (As := av.map toV) S hMet ⟨va_cnB n G.2.2.2.2.1 (good_tb hM) rfl rfl rfl (G.2.2.2.2.2.2.2.2.1.2.1 _ hL) (G.2.2.2.2.1 _ hM.2.1) hM.2.2 hrm2, G.2.2.2.2.1 _ hst, trivial⟩ ⟨pc_blind _, pc_at G hR hS⟩ rfl (by simpa using hav) hl.1 hstk (lv_room (cat_sum st hc)) hd ⟨r3, r4⟩
    refine w_ran fin hS fun H1 locs1 hR1 hS1 => ?_
    have k3 := k2 H1 locs1 hR1 hS1
    rw [e1, e2] at k3
    rw [hq, ← List.map_append]
    exact k3) kn
theorem aw_cI {as : List TV} {r : Option Nat} {F : Nat → Mo Unit} {kk : Unit → Mo R} (hd : decode cc pc = .ok (.invokespecial idx, 3)) (hCt : ∀ a, Ct y cc' mt' (fun _ => none) (vr (some a) :: as) (F a)) (hM : MC y cc' mt' n) (hL : ML mt.1 idx y) (hrt : mt'.2.2.1 = none) (hin : y.name = "<init>") (hst : Cond.instanceMethod y ∈ TBg) (hav : as.length = n) (hrm : mt'.2.2.2.1 + 1 ≤ mt.2.2.2.1 ∧ 8 + (mt'.2.1 + 11) + mt'.2.2.2.2.1 ≤ mt.2.2.2.2.1) (hc : (st.map catT).sum ≤ 8)
    (kn : ∀ u, AW C cc mt q res (pc + 3) ls st (kk u)) : AW C cc mt q res pc ls (as.reverse ++ vr r :: st) (bd (vn r F) kk) :=
  aw_op (st' := fun _ => st) (fun h b h' ho => by
    cases r with
    | none => cases ho
    | some a =>
    have m1 := (hCt a).1 C h (b, h') ho
    refine ⟨m1, fun H locs la Q G hR hu hS hl k2 => ?_⟩
    have hMet := (hCt a).2 C.l C.D C.K C.A h (b, h') ho
    have hsz := sz_of hR hS
    have r1 : mt.2.2.2.1 ≤ C.R.frames := G.2.2.2.2.2.2.2.2.2.2.1
    have r2 : mt.2.2.2.2.1 ≤ C.R.locals := G.2.2.2.2.2.2.2.2.2.2.2.1
    have r3 : h'.2.1 - C.s.heap.size ≤ C.R.cells := G.2.2.2.2.2.2.2.2.2.2.2.2.1
    have r4 : h'.2.2 - C.u ≤ C.R.slots := G.2.2.2.2.2.2.2.2.2.2.2.2.2
    have m2 := m1.1
    have m3 := m1.2
    have e1 : h'.2.1 - C.s.heap.size = h.2.1 - C.s.heap.size + (h'.2.1 - h.2.1) := by simp only at m2 m3; omega
    have e2 : h'.2.2 - C.u = h.2.2 - C.u + (h'.2.2 - h.2.2) := by simp only at m2 m3; omega
    rw [e1] at r3
    rw [e2] at r4
    have S : CallFix C.p C.m C.c cc mt.2.1 C.s C.args TBg mt.1 := ⟨G.1, G.2.1, G.2.2.1, G.2.2.2.1, G.2.2.2.2.1⟩
    have hstk : (as.reverse ++ vr (some a) :: st).map toV = (as.map toV).reverse ++ .ref a :: st.map toV := by simp [toV, va_rf]
    have hrm2 : (rmOf mt' h h').frames + 1 ≤ C.R.frames ∧ 8 + (mt'.2.1 + 11) + (rmOf mt' h h').locals ≤ C.R.locals := ⟨Nat.le_trans hrm.1 r1, Nat.le_trans hrm.2 r2⟩
    have hG := good_tb hM
    have hM1 := hM.1
    rw [hrt] at hMet hG hM1
    have fin : va_Run C.p C.l C.e C.R C.s C.m C.args C.below C.meth C.c H locs (h.2.1 - C.s.heap.size) (h.2.2 - C.u) (h'.2.1 - h.2.1) (h'.2.2 - h.2.2) (F0 C.m pc la ((as.reverse ++ vr (some a) :: st).map toV)) (st.map toV) (Qe C.D C.K C.A none h' (Value.ref a :: as.map toV).toArray) C.A := by
      rcases hL with hL | ⟨host, hL⟩
      · exact va_runI (As := as.map toV) S hMet ⟨callB_of n G.2.2.2.2.1 hG rfl rfl rfl (G.2.2.2.2.1 _ hM.2.1) (G.2.2.2.2.1 _ hL) hM.2.2 hrm2, hin, G.2.2.2.2.1 _ hst⟩ ⟨pc_blind _, pc_at G hR hS⟩ rfl (by simpa using hav) hl.1 hstk (lv_room (cat_sum st hc)) hd ⟨r3, r4⟩
      · exact va_runIN (As := as.map toV) S hMet ⟨va_cnB n G.2.2.2.2.1 hG rfl rfl rfl (G.2.2.2.2.2.2.2.2.1.2.1 _ hL) (G.2.2.2.2.1 _ hM.2.1) hM.2.2 hrm2, hin, G.2.2.2.2.1 _ hst⟩ ⟨pc_blind _, pc_at G hR hS⟩ rfl (by simpa using hav) hl.1 hstk (lv_room (cat_sum st hc)) hd ⟨r3, r4⟩
    refine w_ran fin hS fun H1 locs1 hR1 hS1 => ?_
    have k3 := k2 H1 locs1 hR1 hS1
    rw [e1, e2] at k3
    exact k3) kn
theorem aw_cV {as : List TV} {r : Option Nat} {ci : Nat} {r0 : vw_C} {F : Nat → Mo R'} {kk : R' → Mo R} (pu : R' → List TV) (hq : ∀ r, (q' r).toList = (pu r).map toV) (hd : decode cc pc = .ok (.invokevirtual idx, 3)) (hCt : ∀ a, Ct y cc' mt' q' (vr (some a) :: as) (F a)) (hM : MC y cc' mt' n) (hL : ML mt.1 idx y) (hc0 : vwCl[ci]? = some r0) (hcl : y.cls = r0.1) (hst : Cond.instanceMethod y ∈ TBg ∧ Cond.selects y.cls y y ∈ TBg) (hav : as.length = n) (hrm : mt'.2.2.2.1 + 1 ≤ mt.2.2.2.1 ∧ 8 + (mt'.2.1 + 11) + mt'.2.2.2.2.1 ≤ mt.2.2.2.2.1) (hc : (st.map catT).sum ≤ 8)
    (kn : ∀ r, AW C cc mt q res (pc + 3) ls (pu r ++ st) (kk r)) : AW C cc mt q res pc ls (as.reverse ++ vr r :: st) (bd (vc ci r F) kk) :=
  aw_op (fun h b h' ho => by
    unfold vc at ho
    split at ho
    case h_2 => cases ho
    case h_1 a fs e =>
    obtain ⟨rfl, ha⟩ := obOf_some e
    have m1 := (hCt a).1 C h (b, h') ho
    refine ⟨m1, fun H locs la Q G hR hu hS hl k2 => ?_⟩
    have hMet := (hCt a).2 C.l C.D C.K C.A h (b, h') ho
    have hsz := sz_of hR hS
    have r1 : mt.2.2.2.1 ≤ C.R.frames := G.2.2.2.2.2.2.2.2.2.2.1
    have r2 : mt.2.2.2.2.1 ≤ C.R.locals := G.2.2.2.2.2.2.2.2.2.2.2.1
    have r3 : h'.2.1 - C.s.heap.size ≤ C.R.cells := G.2.2.2.2.2.2.2.2.2.2.2.2.1
    have r4 : h'.2.2 - C.u ≤ C.R.slots := G.2.2.2.2.2.2.2.2.2.2.2.2.2
    have m2 := m1.1
    have m3 := m1.2
    have e1 : h'.2.1 - C.s.heap.size = h.2.1 - C.s.heap.size + (h'.2.1 - h.2.1) := by simp only at m2 m3; omega
    have e2 : h'.2.2 - C.u = h.2.2 - C.u + (h'.2.2 - h.2.2) := by simp only at m2 m3; omega
    rw [e1] at r3
    rw [e2] at r4
    have S : CallFix C.p C.m C.c cc mt.2.1 C.s C.args TBg mt.1 := ⟨G.1, G.2.1, G.2.2.1, G.2.2.2.1, G.2.2.2.2.1⟩
    have hstk : (as.reverse ++ vr (some a) :: st).map toV = (as.map toV).reverse ++ .ref a :: st.map toV := by simp [toV, va_rf]
    have hrm2 : (rmOf mt' h h').frames + 1 ≤ C.R.frames ∧ 8 + (mt'.2.1 + 11) + (rmOf mt' h h').locals ≤ C.R.locals := ⟨Nat.le_trans hrm.1 r1, Nat.le_trans hrm.2 r2⟩
    have hrecv : ∃ cellB : Cell, H[a]? = some cellB ∧ cellB.vm.isStatics = false ∧ C.s.vm.findClass y.cls = some cellB.cls := by
      obtain ⟨⟨r', hr', -, cell, c1, c2, c3, -⟩, -⟩ := hR.2 a _ ha
      cases hc0.symm.trans hr'
      exact ⟨cell, c1, by rw [c3]; rfl, by rw [hcl, c2]; exact (G.2.2.2.2.2.2.2.2.1.1.1 ci _ hc0).2.1⟩
    have fin : va_Run C.p C.l C.e C.R C.s C.m C.args C.below C.meth C.c H locs (h.2.1 - C.s.heap.size) (h.2.2 - C.u) (h'.2.1 - h.2.1) (h'.2.2 - h.2.2) (F0 C.m pc la ((as.reverse ++ vr (some a) :: st).map toV)) (st.map toV) (Qe C.D C.K C.A (q' b) h' (Value.ref a :: as.map toV).toArray) C.A := by
      rcases hL with hL | ⟨host, hL⟩
      · exact va_runV (As := as.map toV) S hMet ⟨callB_of n G.2.2.2.2.1 (good_tb hM) rfl rfl rfl (G.2.2.2.2.1 _ hM.2.1) (G.2.2.2.2.1 _ hL) hM.2.2 hrm2, G.2.2.2.2.1 _ hst.1, G.2.2.2.2.1 _ hst.2⟩ ⟨pc_blind _, hrecv, pc_at G hR hS⟩ rfl (by simpa using hav) hl.1 hstk (lv_room (cat_sum st hc)) hd ⟨r3, r4⟩
      · exact va_runVN (As := as.map toV) S hMet ⟨va_cnB n G.2.2.2.2.1 (good_tb hM) rfl rfl rfl (G.2.2.2.2.2.2.2.2.1.2.1 _ hL) (G.2.2.2.2.1 _ hM.2.1) hM.2.2 hrm2, G.2.2.2.2.1 _ hst.1, G.2.2.2.2.1 _ hst.2⟩ ⟨pc_blind _, hrecv, pc_at G hR hS⟩ rfl (by simpa using hav) hl.1 hstk (lv_room (cat_sum st hc)) hd ⟨r3, r4⟩
    refine w_ran fin hS fun H1 locs1 hR1 hS1 => ?_
    have k3 := k2 H1 locs1 hR1 hS1
    rw [e1, e2] at k3
    rw [hq, ← List.map_append]
    exact k3) kn
end AWe
end
